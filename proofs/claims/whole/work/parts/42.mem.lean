/-! THE MEMORY: bits as naturals, then both codes over all words -/
theorem tn_nat {a : Nat} (h : a < 2147483648) : (Int32.ofInt (a : Int)).toBitVec.toNat = a := by
  have := tn_o (a : Int)
  omega
theorem i32_of_tn {x : Int32} {a : Nat} (h : a < 2147483648) (e : x.toBitVec.toNat = a) : x.toInt = (a : Int) := by
  have : x = nI a := by
    apply Int32.toBitVec_inj.mp
    apply BitVec.eq_of_toNat_eq
    rw [e, pk_tn (by omega)]
  rw [this, nI_Int h]
theorem lt31 {a : Nat} : a < 2147483648 ↔ a < 2 ^ 31 := Iff.rfl
theorem band_nat {a b : Nat} (ha : a < 2147483648) (hb : b < 2147483648) : band (a : Int) (b : Int) = ((a &&& b : Nat) : Int) := by
  unfold band
  refine i32_of_tn (Nat.lt_of_le_of_lt Nat.and_le_left ha) ?_
  rw [Int32.toBitVec_and, BitVec.toNat_and, tn_nat ha, tn_nat hb]
theorem bor_nat {a b : Nat} (ha : a < 2147483648) (hb : b < 2147483648) : bor (a : Int) (b : Int) = ((a ||| b : Nat) : Int) := by
  unfold bor
  refine i32_of_tn (Nat.or_lt_two_pow (n := 31) ha hb) ?_
  rw [Int32.toBitVec_or, BitVec.toNat_or, tn_nat ha, tn_nat hb]
theorem bxor_nat {a b : Nat} (ha : a < 2147483648) (hb : b < 2147483648) : bxor (a : Int) (b : Int) = ((a ^^^ b : Nat) : Int) := by
  unfold bxor
  refine i32_of_tn (Nat.xor_lt_two_pow (n := 31) ha hb) ?_
  rw [Int32.toBitVec_xor, BitVec.toNat_xor, tn_nat ha, tn_nat hb]
theorem bit_nat {w k : Nat} (hw : w < 2147483648) (hk : k < 32) : band (bshr (w : Int) (k : Int)) 1 = ((w / 2 ^ k % 2 : Nat) : Int) := by
  rw [bshr_n k hk (by unfold i32; omega), band_1x]
  rw [← Int.natCast_ediv, show (2 : Int) = ((2 : Nat) : Int) from rfl, ← Int.natCast_emod]
theorem shl_nat {x k : Nat} (hk : k < 32) (h : x * 2 ^ k < 2147483648) : bshl (x : Int) (k : Int) = ((x * 2 ^ k : Nat) : Int) := by
  rw [bshl_n k hk, ← Int.natCast_mul, w32_of (by omega) (by omega)]
def cS (w : Nat) : Nat → Nat × Nat
  | 0 => (0, 0)
  | n + 1 => if w / 2 ^ n % 2 = 1 then ((cS w n).1 ^^^ n, (cS w n).2 ^^^ 1) else cS w n
theorem cS_lt (w : Nat) : ∀ n, n ≤ 16 → (cS w n).1 < 16 ∧ (cS w n).2 < 2
  | 0, _ => by simp [cS]
  | n + 1, h => by
    have ih := cS_lt w n (by omega)
    unfold cS
    split
    · exact ⟨Nat.xor_lt_two_pow (n := 4) ih.1 (by omega), Nat.xor_lt_two_pow (n := 1) ih.2 (by omega)⟩
    · exact ih
def corrN (w : Nat) : Int := if (cS w 13).2 ≠ 0 then (if 13 ≤ (cS w 13).1 then -3 else ((w ^^^ 2 ^ (cS w 13).1 : Nat) : Int)) else if (cS w 13).1 ≠ 0 then -3 else (w : Int)
theorem sp_corrected {G : GG} {h : Hp} {Φ : Int → Hp → Prop} {w : Nat} (hw : w < 8192) (k : Φ (corrN w) h) : Call G m_X5_corrected [iv (w : Int)] h Φ := by
  refine Call.of rfl (Nat.le_of_ble_eq_true rfl) rfl (U_X5_corrected_0 ?_)
  have go : ∀ d n : Nat, n + d = 13 → AT G m_X5_corrected 6 [(0, iv (w : Int)), (1, iv ((cS w n).1 : Int)), (2, iv ((cS w n).2 : Int)), (3, iv (n : Int))] [] h Φ := by
    intro d
    induction d with
    | zero =>
      intro n hn
      have e : n = 13 := by omega
      subst e
      have b := cS_lt w 13 (by omega)
      refine U_X5_corrected_6 ⟨fun _ => ?_, fun z => absurd z (by omega)⟩
      unfold corrN at k
      refine ⟨fun c1 => ?_, fun c1 => ?_⟩
      · rw [if_pos (by omega)] at k
        refine ⟨fun c2 => ?_, fun c2 => ?_⟩
        · rw [if_pos (by omega)] at k; exact k
        · rw [if_neg (by omega)] at k
          have hp : 2 ^ (cS w 13).1 ≤ 2 ^ 12 := Nat.pow_le_pow_right (by omega) (by omega)
          have := shl_nat (x := 1) (k := (cS w 13).1) (by omega) (by omega)
          rw [Nat.one_mul] at this
          rw [show (1 : Int) = ((1 : Nat) : Int) from rfl, this, bxor_nat (by omega) (by omega)]
          exact k
      · rw [if_neg (by omega)] at k
        refine ⟨fun c2 => ?_, fun c2 => ?_⟩
        · rw [if_pos (by omega)] at k; exact k
        · rw [if_neg (by omega)] at k; exact k
    | succ d ih =>
      intro n hn
      have b := cS_lt w n (by omega)
      have t := ih (n + 1) (by omega)
      refine U_X5_corrected_6 ⟨fun z => absurd z (by omega), fun _ => ?_⟩
      rw [bit_nat (by omega) (by omega), w32_of (by omega) (by omega)]
      rw [cS] at t
      refine ⟨fun c1 => ?_, fun c1 => ?_⟩
      · rw [if_neg (by omega)] at t
        exact t
      · rw [if_pos (by omega)] at t
        rw [bxor_nat (by omega) (by omega), show (1 : Int) = ((1 : Nat) : Int) from rfl, bxor_nat (by omega) (by omega)]
        exact t
  exact go 13 0 (by omega)
def xcN (n : Nat) : Nat := [3, 5, 6, 7, 9, 10, 11, 12].getD n 0
theorem xcN_eq : ∀ n : Nat, n < 8 → xc 902 (n : Int) = (xcN n : Int) := by decide
theorem xcN_lt : ∀ n, n < 8 → 3 ≤ xcN n ∧ xcN n < 13 := by decide
def dD (w : Nat) : Nat → Nat
  | 0 => 0
  | n + 1 => dD w n ||| (w / 2 ^ xcN n % 2 * 2 ^ n)
theorem dD_lt (w : Nat) : ∀ n, n ≤ 8 → dD w n < 256
  | 0, _ => by simp [dD]
  | n + 1, h => by
    have ih := dD_lt w n (by omega)
    unfold dD
    have hp : 2 ^ n ≤ 2 ^ 7 := Nat.pow_le_pow_right (by omega) (by omega)
    have h2 : w / 2 ^ xcN n % 2 < 2 := Nat.mod_lt _ (by omega)
    refine Nat.or_lt_two_pow (n := 8) ih ?_
    generalize w / 2 ^ xcN n % 2 = q at h2
    have : q = 0 ∨ q = 1 := by omega
    rcases this with rfl | rfl <;> omega
theorem sp_decoded {G : GG} {h : Hp} {Φ : Int → Hp → Prop} {w : Nat} (hw : w < 8192) (k : Φ (dD w 8 : Int) h) : Call G m_X5_decoded [iv (w : Int)] h Φ := by
  refine Call.of rfl (Nat.le_of_ble_eq_true rfl) rfl (U_X5_decoded_0 ?_)
  have go : ∀ d n : Nat, n + d = 8 → AT G m_X5_decoded 4 [(0, iv (w : Int)), (1, iv (dD w n : Int)), (2, iv (n : Int))] [] h Φ := by
    intro d
    induction d with
    | zero =>
      intro n hn
      have e : n = 8 := by omega
      subst e
      exact U_X5_decoded_4 ⟨fun _ => k, fun z => absurd z (by omega)⟩
    | succ d ih =>
      intro n hn
      have b := dD_lt w n (by omega)
      have t := ih (n + 1) (by omega)
      have x := xcN_lt n (by omega)
      refine U_X5_decoded_4 ⟨fun z => absurd z (by omega), fun _ => ⟨by omega, ?_⟩⟩
      have hp : 2 ^ n ≤ 2 ^ 7 := Nat.pow_le_pow_right (by omega) (by omega)
      have h2 : w / 2 ^ xcN n % 2 < 2 := Nat.mod_lt _ (by omega)
      have h3 : w / 2 ^ xcN n % 2 * 2 ^ n < 256 := by
        generalize w / 2 ^ xcN n % 2 = q at h2
        have : q = 0 ∨ q = 1 := by omega
        rcases this with rfl | rfl <;> omega
      rw [xcN_eq n (by omega), bit_nat (by omega) (by omega), shl_nat (by omega) (by omega), bor_nat (by omega) (by omega), w32_of (by omega) (by omega)]
      exact t
  exact go 8 0 (by omega)
/-- class: encoded -/
def eC (v : Nat) : Nat → Nat × Nat × Nat
  | 0 => (0, 0, 0)
  | n + 1 => if v / 2 ^ n % 2 = 1 then ((eC v n).1 ||| 2 ^ xcN n, (eC v n).2.1 ^^^ xcN n, (eC v n).2.2 ^^^ 1) else eC v n
theorem eC_lt (v : Nat) : ∀ n, n ≤ 8 → (eC v n).1 < 8192 ∧ (eC v n).2.1 < 16 ∧ (eC v n).2.2 < 2
  | 0, _ => by simp [eC]
  | n + 1, h => by
    have ih := eC_lt v n (by omega)
    have x := xcN_lt n (by omega)
    have hp : 2 ^ xcN n ≤ 2 ^ 12 := Nat.pow_le_pow_right (by omega) (by omega)
    unfold eC
    split
    · exact ⟨Nat.or_lt_two_pow (n := 13) ih.1 (by omega), Nat.xor_lt_two_pow (n := 4) ih.2.1 (by omega), Nat.xor_lt_two_pow (n := 1) ih.2.2 (by omega)⟩
    · exact ih
def eK (q : Nat × Nat × Nat) (k : Nat) : Nat × Nat × Nat := if q.2.1 &&& k = 0 then q else (q.1 ||| 2 ^ k, q.2.1, q.2.2 ^^^ 1)
theorem eK_lt {q : Nat × Nat × Nat} {k : Nat} (hk : k ≤ 12) (h : q.1 < 8192 ∧ q.2.1 < 16 ∧ q.2.2 < 2) : (eK q k).1 < 8192 ∧ (eK q k).2.1 < 16 ∧ (eK q k).2.2 < 2 := by
  have hp : 2 ^ k ≤ 2 ^ 12 := Nat.pow_le_pow_right (by omega) (by omega)
  unfold eK
  split
  · exact h
  · exact ⟨Nat.or_lt_two_pow (n := 13) h.1 (by omega), h.2.1, Nat.xor_lt_two_pow (n := 1) h.2.2 (by omega)⟩
def encC (v : Nat) : Nat := (eK (eK (eK (eK (eC v 8) 1) 2) 4) 8).1 ||| (eK (eK (eK (eK (eC v 8) 1) 2) 4) 8).2.2
theorem sp_encodedC {G : GG} {h : Hp} {Φ : Int → Hp → Prop} {v : Nat} (hv : v < 256) (k : Φ (encC v : Int) h) : Call G m_X5_encoded [iv (v : Int)] h Φ := by
  refine Call.of rfl (Nat.le_of_ble_eq_true rfl) rfl (U_X5_encoded_0 ?_)
  have st : ∀ (q : Nat × Nat × Nat) (k : Nat), k ≤ 8 → (q.1 < 8192 ∧ q.2.1 < 16 ∧ q.2.2 < 2) → AT G m_X5_encoded 61 [(1, iv ((eK q k).1 : Int)), (2, iv ((eK q k).2.1 : Int)), (3, iv ((eK q k).2.2 : Int)), (4, iv ((k * 2 : Nat) : Int))] [] h Φ → AT G m_X5_encoded 61 [(1, iv (q.1 : Int)), (2, iv (q.2.1 : Int)), (3, iv (q.2.2 : Int)), (4, iv (k : Int))] [] h Φ := by
    intro q k hk hq t
    have hp : 2 ^ k ≤ 2 ^ 8 := Nat.pow_le_pow_right (by omega) (by omega)
    refine U_X5_encoded_61 ⟨fun z => absurd z (by omega), fun _ => ?_⟩
    rw [band_nat (by omega) (by omega), w32_of (by omega) (by omega)]
    unfold eK at t
    refine ⟨fun c => ?_, fun c => ?_⟩
    · rw [if_pos (by omega)] at t
      exact t
    · rw [if_neg (by omega)] at t
      have := shl_nat (x := 1) (k := k) (by omega) (by omega)
      rw [Nat.one_mul] at this
      rw [show (1 : Int) = ((1 : Nat) : Int) from rfl, this, bor_nat (by omega) (by omega), bxor_nat (by omega) (by omega)]
      exact t
  have l0 := eC_lt v 8 (by omega)
  have l1 := eK_lt (k := 1) (by omega) l0
  have l2 := eK_lt (k := 2) (by omega) l1
  have l3 := eK_lt (k := 4) (by omega) l2
  have l4 := eK_lt (k := 8) (by omega) l3
  have go : ∀ d n : Nat, n + d = 8 → AT G m_X5_encoded 9 [(0, iv (v : Int)), (1, iv ((eC v n).1 : Int)), (2, iv ((eC v n).2.1 : Int)), (3, iv ((eC v n).2.2 : Int)), (4, iv (n : Int))] [] h Φ := by
    intro d
    induction d with
    | zero =>
      intro n hn
      have e : n = 8 := by omega
      subst e
      refine U_X5_encoded_9 ⟨fun _ => ?_, fun z => absurd z (by omega)⟩
      refine st _ 1 (by omega) l0 (st _ 2 (by omega) l1 (st _ 4 (by omega) l2 (st _ 8 (by omega) l3 ?_)))
      refine U_X5_encoded_61 ⟨fun _ => ?_, fun z => absurd z (by omega)⟩
      rw [bor_nat (by omega) (by omega)]
      exact k
    | succ d ih =>
      intro n hn
      have b := eC_lt v n (by omega)
      have t := ih (n + 1) (by omega)
      have x := xcN_lt n (by omega)
      have hp : 2 ^ xcN n ≤ 2 ^ 12 := Nat.pow_le_pow_right (by omega) (by omega)
      refine U_X5_encoded_9 ⟨fun z => absurd z (by omega), fun _ => ?_⟩
      rw [bit_nat (by omega) (by omega), w32_of (by omega) (by omega), xcN_eq n (by omega)]
      rw [eC] at t
      refine ⟨fun c1 => ?_, fun c1 => ⟨by omega, by omega, ?_⟩⟩
      · rw [if_neg (by omega)] at t
        exact t
      · rw [if_pos (by omega)] at t
        have := shl_nat (x := 1) (k := xcN n) (by omega) (by omega)
        rw [Nat.one_mul] at this
        rw [show (1 : Int) = ((1 : Nat) : Int) from rfl, this, bxor_nat (by omega) (by omega), bxor_nat (by omega) (by omega), bor_nat (by omega) (by omega)]
        exact t
  exact go 8 0 (by omega)
/-- model: places, odd, plain, encoded -/
def pM (w : Nat) : Nat → Nat
  | 0 => 0
  | n + 1 => if w / 2 ^ (n + 1) % 2 = 1 then pM w n ^^^ (n + 1) else pM w n
theorem pM_lt (w : Nat) : ∀ n, n ≤ 12 → pM w n < 16
  | 0, _ => by simp [pM]
  | n + 1, h => by
    have ih := pM_lt w n (by omega)
    unfold pM
    split
    · exact Nat.xor_lt_two_pow (n := 4) ih (by omega)
    · exact ih
theorem sp_places {G : GG} {h : Hp} {Φ : Int → Hp → Prop} {w : Nat} (hw : w < 8192) (k : Φ (pM w 12 : Int) h) : Call G m_X12_places [iv (w : Int)] h Φ := by
  refine Call.of rfl (Nat.le_of_ble_eq_true rfl) rfl (U_X12_places_0 ?_)
  have go : ∀ d n : Nat, n + d = 12 → AT G m_X12_places 4 [(0, iv (w : Int)), (1, iv (pM w n : Int)), (2, iv ((n + 1 : Nat) : Int))] [] h Φ := by
    intro d
    induction d with
    | zero =>
      intro n hn
      have e : n = 12 := by omega
      subst e
      exact U_X12_places_4 ⟨fun _ => k, fun z => absurd z (by omega)⟩
    | succ d ih =>
      intro n hn
      have b := pM_lt w n (by omega)
      have t := ih (n + 1) (by omega)
      refine U_X12_places_4 ⟨fun z => absurd z (by omega), fun _ => ?_⟩
      rw [bit_nat (by omega) (by omega), w32_of (by omega) (by omega), show (0 : Int) = ((0 : Nat) : Int) from rfl, bxor_nat (by omega) (by omega), bxor_nat (by omega) (by omega), Nat.xor_zero]
      rw [pM] at t
      refine ⟨fun c1 => ?_, fun c1 => ?_⟩
      · rw [if_neg (by omega)] at t
        exact t
      · rw [if_pos (by omega)] at t
        exact t
  exact go 12 0 (by omega)
def oM (w : Nat) : Nat → Nat
  | 0 => 0
  | n + 1 => oM w n ^^^ (w / 2 ^ n % 2)
theorem oM_lt (w : Nat) : ∀ n, oM w n < 2
  | 0 => by simp [oM]
  | n + 1 => Nat.xor_lt_two_pow (n := 1) (oM_lt w n) (Nat.mod_lt _ (by omega))
theorem sp_odd {G : GG} {h : Hp} {Φ : Int → Hp → Prop} {w : Nat} (hw : w < 8192) (k : Φ (oM w 13 : Int) h) : Call G m_X12_odd [iv (w : Int)] h Φ := by
  refine Call.of rfl (Nat.le_of_ble_eq_true rfl) rfl (U_X12_odd_0 ?_)
  have go : ∀ d n : Nat, n + d = 13 → AT G m_X12_odd 4 [(0, iv (w : Int)), (1, iv (oM w n : Int)), (2, iv (n : Int))] [] h Φ := by
    intro d
    induction d with
    | zero =>
      intro n hn
      have e : n = 13 := by omega
      subst e
      exact U_X12_odd_4 ⟨fun _ => k, fun z => absurd z (by omega)⟩
    | succ d ih =>
      intro n hn
      have b := oM_lt w n
      have t := ih (n + 1) (by omega)
      refine U_X12_odd_4 ⟨fun z => absurd z (by omega), fun _ => ?_⟩
      rw [bit_nat (by omega) (by omega), w32_of (by omega) (by omega), bxor_nat (by omega) (by omega)]
      exact t
  exact go 13 0 (by omega)
/-- k runs from 3; the pair is (bits so far, next data bit) -/
def plM (w : Nat) : Nat → Nat × Nat
  | 0 => (0, 0)
  | n + 1 => if n + 3 = 4 ∨ n + 3 = 8 then plM w n else ((plM w n).1 ||| (w / 2 ^ (n + 3) % 2 * 2 ^ (plM w n).2), (plM w n).2 + 1)
def emM (v : Nat) : Nat → Nat × Nat
  | 0 => (0, 0)
  | n + 1 => if n + 3 = 4 ∨ n + 3 = 8 then emM v n else ((emM v n).1 ||| (v / 2 ^ (emM v n).2 % 2 * 2 ^ (n + 3)), (emM v n).2 + 1)
theorem mul_bit {q p : Nat} (h : q < 2) : q * p ≤ p := by
  have : q = 0 ∨ q = 1 := by omega
  rcases this with rfl | rfl <;> omega
theorem plM_b (w : Nat) : ∀ n, n ≤ 10 → (plM w n).2 = n - (if 1 < n then 1 else 0) - (if 5 < n then 1 else 0) ∧ (plM w n).1 < 2 ^ (plM w n).2
  | 0, _ => by simp [plM]
  | n + 1, h => by
    have ih := plM_b w n (by omega)
    unfold plM
    split
    · refine ⟨?_, ih.2⟩
      rw [ih.1]; split <;> split <;> (try split) <;> (try split) <;> omega
    · refine ⟨?_, ?_⟩
      · show (plM w n).2 + 1 = _
        rw [ih.1]; split <;> split <;> (try split) <;> (try split) <;> omega
      · show _ ||| _ < 2 ^ ((plM w n).2 + 1)
        have h2 : w / 2 ^ (n + 3) % 2 < 2 := Nat.mod_lt _ (by omega)
        have h3 := mul_bit (p := 2 ^ (plM w n).2) h2
        have e : 2 ^ ((plM w n).2 + 1) = 2 ^ (plM w n).2 * 2 := Nat.pow_succ ..
        exact Nat.or_lt_two_pow (n := (plM w n).2 + 1) (by omega) (by omega)
theorem emM_b (v : Nat) : ∀ n, n ≤ 10 → (emM v n).2 ≤ n ∧ (emM v n).1 < 2 ^ (n + 3)
  | 0, _ => by simp [emM]
  | n + 1, h => by
    have ih := emM_b v n (by omega)
    unfold emM
    have e : 2 ^ (n + 1 + 3) = 2 ^ (n + 3) * 2 := by rw [← Nat.pow_succ]
    split
    · exact ⟨by omega, by omega⟩
    · refine ⟨by show (emM v n).2 + 1 ≤ _; omega, ?_⟩
      show _ ||| _ < _
      have h2 : v / 2 ^ (emM v n).2 % 2 < 2 := Nat.mod_lt _ (by omega)
      have h3 := mul_bit (p := 2 ^ (n + 3)) h2
      exact Nat.or_lt_two_pow (n := n + 1 + 3) (by omega) (by omega)

theorem sp_plain {G : GG} {h : Hp} {Φ : Int → Hp → Prop} {w : Nat} (hw : w < 8192) (k : Φ ((plM w 10).1 : Int) h) : Call G m_X12_plain [iv (w : Int)] h Φ := by
  refine Call.of rfl (Nat.le_of_ble_eq_true rfl) rfl (U_X12_plain_0 ?_)
  have go : ∀ d n : Nat, n + d = 10 → AT G m_X12_plain 6 [(0, iv (w : Int)), (1, iv ((plM w n).1 : Int)), (2, iv ((plM w n).2 : Int)), (3, iv ((n + 3 : Nat) : Int))] [] h Φ := by
    intro d
    induction d with
    | zero =>
      intro n hn
      have e : n = 10 := by omega
      subst e
      exact U_X12_plain_6 ⟨fun _ => k, fun z => absurd z (by omega)⟩
    | succ d ih =>
      intro n hn
      have b := plM_b w n (by omega)
      have b2 : (plM w n).2 ≤ 10 := by rw [b.1]; omega
      have t := ih (n + 1) (by omega)
      have hp : 2 ^ (plM w n).2 ≤ 2 ^ 10 := Nat.pow_le_pow_right (by omega) (by omega)
      have h2 : w / 2 ^ (n + 3) % 2 < 2 := Nat.mod_lt _ (by omega)
      have h3 := mul_bit (p := 2 ^ (plM w n).2) h2
      refine U_X12_plain_6 ⟨fun z => absurd z (by omega), fun _ => ?_⟩
      rw [bit_nat (by omega) (by omega), w32_of (by omega) (by omega), w32_of (by omega) (by omega), shl_nat (by omega) (by omega), bor_nat (by omega) (by omega)]
      rw [plM] at t
      refine ⟨fun c1 => ?_, fun c1 => ⟨fun c2 => ?_, fun c2 => ?_⟩⟩
      · rw [if_pos (by omega)] at t
        exact t
      · rw [if_neg (by omega)] at t
        exact t
      · rw [if_pos (by omega)] at t
        exact t
  exact go 10 0 (by omega)
def eL (w s k : Nat) : Nat := if s &&& k = 0 then w else w ||| 2 ^ k
theorem eL_lt {w s k : Nat} (hk : k ≤ 12) (h : w < 8192) : eL w s k < 8192 := by
  have hp : 2 ^ k ≤ 2 ^ 12 := Nat.pow_le_pow_right (by omega) (by omega)
  unfold eL
  split
  · exact h
  · exact Nat.or_lt_two_pow (n := 13) h (by omega)
def encW (w s : Nat) : Nat := eL (eL (eL (eL w s 1) s 2) s 4) s 8
def encM (v : Nat) : Nat := encW (emM v 10).1 (pM (emM v 10).1 12) ||| oM (encW (emM v 10).1 (pM (emM v 10).1 12)) 13
theorem sp_encodedM {G : GG} {h : Hp} {Φ : Int → Hp → Prop} {v : Nat} (hv : v < 256) (k : Φ (encM v : Int) h) : Call G m_X12_encoded [iv (v : Int)] h Φ := by
  refine Call.of rfl (Nat.le_of_ble_eq_true rfl) rfl (U_X12_encoded_0 ?_)
  have st : ∀ (w s k : Nat), k ≤ 8 → w < 8192 → s < 16 → AT G m_X12_encoded 53 [(1, iv (eL w s k : Int)), (3, iv (s : Int)), (4, iv ((k * 2 : Nat) : Int))] [] h Φ → AT G m_X12_encoded 53 [(1, iv (w : Int)), (3, iv (s : Int)), (4, iv (k : Int))] [] h Φ := by
    intro w s k hk hw hs t
    have hp : 2 ^ k ≤ 2 ^ 8 := Nat.pow_le_pow_right (by omega) (by omega)
    have := shl_nat (x := 1) (k := k) (by omega) (by omega)
    rw [Nat.one_mul] at this
    refine U_X12_encoded_53 ⟨fun z => absurd z (by omega), fun _ => ?_⟩
    rw [band_nat (by omega) (by omega), w32_of (by omega) (by omega), show (0 : Int) = ((0 : Nat) : Int) from rfl, show (1 : Int) = ((1 : Nat) : Int) from rfl, this, bor_nat (by omega) (by omega), bor_nat (by omega) (by omega), Nat.or_zero]
    unfold eL at t
    refine ⟨fun c => ?_, fun c => ?_⟩
    · rw [if_pos (by omega)] at t
      exact t
    · rw [if_neg (by omega)] at t
      exact t
  have go : ∀ d n : Nat, n + d = 10 → AT G m_X12_encoded 6 [(0, iv (v : Int)), (1, iv ((emM v n).1 : Int)), (2, iv ((emM v n).2 : Int)), (3, iv ((n + 3 : Nat) : Int))] [] h Φ := by
    intro d
    induction d with
    | zero =>
      intro n hn
      have e : n = 10 := by omega
      subst e
      have b := emM_b v 10 (by omega)
      have b1 : (emM v 10).1 < 8192 := b.2
      have p := pM_lt (emM v 10).1 12 (by omega)
      refine U_X12_encoded_6 ⟨fun _ => sp_places b1 ?_, fun z => absurd z (by omega)⟩
      have l1 := eL_lt (s := pM (emM v 10).1 12) (k := 1) (by omega) b1
      have l2 := eL_lt (s := pM (emM v 10).1 12) (k := 2) (by omega) l1
      have l3 := eL_lt (s := pM (emM v 10).1 12) (k := 4) (by omega) l2
      have l4 := eL_lt (s := pM (emM v 10).1 12) (k := 8) (by omega) l3
      refine st _ _ 1 (by omega) b1 p (st _ _ 2 (by omega) l1 p (st _ _ 4 (by omega) l2 p (st _ _ 8 (by omega) l3 p ?_)))
      refine U_X12_encoded_53 ⟨fun _ => sp_odd l4 ?_, fun z => absurd z (by omega)⟩
      have := oM_lt (eL (eL (eL (eL (emM v 10).1 (pM (emM v 10).1 12) 1) (pM (emM v 10).1 12) 2) (pM (emM v 10).1 12) 4) (pM (emM v 10).1 12) 8) 13
      rw [bor_nat (by omega) (by omega)]
      exact k
    | succ d ih =>
      intro n hn
      have b := emM_b v n (by omega)
      have t := ih (n + 1) (by omega)
      have hp : 2 ^ (n + 3) ≤ 2 ^ 12 := Nat.pow_le_pow_right (by omega) (by omega)
      have h2 : v / 2 ^ (emM v n).2 % 2 < 2 := Nat.mod_lt _ (by omega)
      have h3 := mul_bit (p := 2 ^ (n + 3)) h2
      refine U_X12_encoded_6 ⟨fun z => absurd z (by omega), fun _ => ?_⟩
      rw [bit_nat (by omega) (by omega), w32_of (by omega) (by omega), w32_of (by omega) (by omega), shl_nat (by omega) (by omega), bor_nat (by omega) (by omega)]
      rw [emM] at t
      refine ⟨fun c1 => ?_, fun c1 => ⟨fun c2 => ?_, fun c2 => ?_⟩⟩
      · rw [if_pos (by omega)] at t
        exact t
      · rw [if_neg (by omega)] at t
        exact t
      · rw [if_pos (by omega)] at t
        exact t
  exact go 10 0 (by omega)
