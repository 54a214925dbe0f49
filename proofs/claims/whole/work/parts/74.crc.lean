/-! THE CHECK of a frame -/
def cst (c : Nat) : Nat := if c ≤ 32767 then 2 * c else (2 * c) ^^^ 69665
theorem cst_all : ∀ a, a < 128 → ∀ b, b < 256 → ((2 * (32768 + 256 * a + b)) ^^^ 4129) &&& 65535 = (2 * (32768 + 256 * a + b)) ^^^ 69665 ∧ (2 * (32768 + 256 * a + b)) ^^^ 69665 < 65536 := by decide +kernel
theorem cst_hi {c : Nat} (h1 : 32767 < c) (h2 : c < 65536) : ((2 * c) ^^^ 4129) &&& 65535 = (2 * c) ^^^ 69665 ∧ (2 * c) ^^^ 69665 < 65536 := by
  have := cst_all ((c - 32768) / 256) (by omega) ((c - 32768) % 256) (by omega)
  have e : 32768 + 256 * ((c - 32768) / 256) + (c - 32768) % 256 = c := by omega
  rw [e] at this; exact this
theorem cst_lt {c : Nat} (h : c < 65536) : cst c < 65536 := by
  unfold cst; split
  · omega
  · exact (cst_hi (by omega) h).2
def st8 (c : Nat) : Nat → Nat
  | 0 => c
  | n + 1 => cst (st8 c n)
theorem st8_lt {c : Nat} (h : c < 65536) : ∀ n, st8 c n < 65536
  | 0 => h
  | n + 1 => cst_lt (st8_lt h n)
def crcN (f : Int → Int) : Nat → Nat
  | 0 => 65535
  | n + 1 => st8 (crcN f n ^^^ ((f n).toNat * 256)) 8
theorem xor_lt {a b : Nat} (ha : a < 65536) (hb : b < 65536) : a ^^^ b < 65536 := Nat.xor_lt_two_pow (n := 16) ha hb
theorem crc_lt {f : Int → Int} : ∀ n : Nat, (∀ i : Int, 0 ≤ i → i < n → 0 ≤ f i ∧ f i ≤ 255) → crcN f n < 65536
  | 0, _ => by show 65535 < 65536; omega
  | n + 1, h => by
    have := h n (by omega) (by omega)
    exact st8_lt (xor_lt (crc_lt n (fun i a b => h i a (by omega))) (by omega)) 8
theorem crc_cg {f g : Int → Int} : ∀ n : Nat, (∀ i : Int, 0 ≤ i → i < n → f i = g i) → crcN f n = crcN g n
  | 0, _ => rfl
  | n + 1, h => by
    unfold crcN
    rw [crc_cg n (fun i a b => h i a (by omega)), h n (by omega) (by omega)]
theorem sp_checkOf {G : GG} {h : Hp} {Φ : Int → Hp → Prop} {x : Int} (hx : 0 ≤ x ∧ x ≤ 720) (hb : ∀ i, 0 ≤ i → i < 22 → 0 ≤ h 33 (x + i) ∧ h 33 (x + i) ≤ 255) (k : Φ (crcN (fun i => h 33 (x + i)) 22 : Int) h) : Call G m_X4_checkOf [rv 33, iv x] h Φ := by
  refine Call.of rfl (Nat.le_of_ble_eq_true rfl) rfl (U_X4_checkOf_33_0 ?_)
  have inner : ∀ (d n c m : Nat), n + d = 8 → c < 65536 → m < 22 → (∀ c', c' = st8 c d → AT G m_X4_checkOf 5 [(0, rv 33), (1, iv x), (2, iv (c' : Int)), (3, iv ((m : Int) + 1))] [] h Φ) → AT G m_X4_checkOf 25 [(0, rv 33), (1, iv x), (2, iv (c : Int)), (3, iv (m : Int)), (4, iv (n : Int))] [] h Φ := by
    intro d
    induction d with
    | zero =>
      intro n c m hn hc hm K
      refine U_X4_checkOf_33_25 ⟨fun _ => ?_, fun z => absurd z (by omega)⟩
      rw [w32_of (z := (m : Int) + 1) (by omega) (by omega)]; exact K c rfl
    | succ d ih =>
      intro n c m hn hc hm K
      have sh : ∀ c d, st8 (cst c) d = st8 c (d + 1) := fun c d => by
        induction d with
        | zero => rfl
        | succ d ih2 => unfold st8; rw [ih2]
      have nx := ih (n + 1) (cst c) m (by omega) (cst_lt hc) hm (fun c' e => K c' (by rw [e, sh]))
      have e1 : bshl (c : Int) 1 = ((2 * c : Nat) : Int) := by
        have := shl_nat (x := c) (k := 1) (by omega) (by omega)
        rw [Nat.mul_comm]; exact this
      rw [Int.natCast_add] at nx
      refine U_X4_checkOf_33_25 ⟨fun z => absurd z (by omega), fun _ => ⟨fun z => ?_, fun z => ?_⟩⟩
      · rw [w32_of (z := (n : Int) + 1) (by omega) (by omega), e1]
        have e2 : bxor ((2 * c : Nat) : Int) 0 = (cst c : Int) := by
          have := bxor_nat (a := 2 * c) (b := 0) (by omega) (by omega)
          rw [show ((0 : Nat) : Int) = 0 from rfl] at this
          rw [this, Nat.xor_zero]; unfold cst; rw [if_pos (by omega)]
        rw [e2]; exact nx
      · rw [w32_of (z := (n : Int) + 1) (by omega) (by omega), e1]
        have e2 : bxor ((2 * c : Nat) : Int) 69665 = (cst c : Int) := by
          have := bxor_nat (a := 2 * c) (b := 69665) (by omega) (by omega)
          rw [show ((69665 : Nat) : Int) = 69665 from rfl] at this
          rw [this]; unfold cst; rw [if_neg (by omega)]
        rw [e2]; exact nx
  have outer : ∀ (d m : Nat), m + d = 22 → AT G m_X4_checkOf 5 [(0, rv 33), (1, iv x), (2, iv (crcN (fun i => h 33 (x + i)) m : Int)), (3, iv (m : Int))] [] h Φ := by
    intro d
    induction d with
    | zero =>
      intro m hm
      have e : m = 22 := by omega
      subst e
      exact U_X4_checkOf_33_5 ⟨fun _ => k, fun z => absurd z (by omega)⟩
    | succ d ih =>
      intro m hm
      have bm := hb m (by omega) (by omega)
      have cl := crc_lt (f := fun i => h 33 (x + i)) m (fun i a b => hb i a (by omega))
      refine U_X4_checkOf_33_5 ⟨fun z => absurd z (by omega), fun _ => ?_⟩
      rw [w32_of (z := x + (m : Int)) (by omega) (by omega)]
      refine ⟨by omega, ?_⟩
      have e1 : bshl (h 33 (x + m)) 8 = (((h 33 (x + m)).toNat * 256 : Nat) : Int) := by
        have := shl_nat (x := (h 33 (x + m)).toNat) (k := 8) (by omega) (by omega)
        rw [Int.toNat_of_nonneg bm.1] at this; exact this
      have e2 : bxor (crcN (fun i => h 33 (x + i)) m : Int) (((h 33 (x + m)).toNat * 256 : Nat) : Int) = ((crcN (fun i => h 33 (x + i)) m ^^^ ((h 33 (x + m)).toNat * 256) : Nat) : Int) := bxor_nat (by omega) (by omega)
      rw [e1, e2]
      refine inner 8 0 _ m (by omega) (xor_lt cl (by omega)) (by omega) (fun c' e => ?_)
      have t := ih (m + 1) (by omega)
      rw [Int.natCast_add] at t
      rw [e]; exact t
  exact outer 22 0 (by omega)
theorem sp_check {G : GG} {h : Hp} {Φ : Int → Hp → Prop} (hb : ∀ i, 0 ≤ i → i < 22 → 0 ≤ h 139 i ∧ h 139 i ≤ 255) (k : Φ (crcN (h 139) 22 : Int) h) : Call G m_X12_check [rv 139, iv 0] h Φ := by
  refine Call.of rfl (Nat.le_of_ble_eq_true rfl) rfl (U_X12_check_139_0 ?_)
  have inner : ∀ (d n c m : Nat), n + d = 8 → c < 65536 → m < 22 → (∀ c', c' = st8 c d → AT G m_X12_check 6 [(0, rv 139), (1, iv 0), (2, iv (c' : Int)), (3, iv ((m : Int) + 1))] [] h Φ) → AT G m_X12_check 26 [(0, rv 139), (1, iv 0), (2, iv (c : Int)), (3, iv (m : Int)), (4, iv (n : Int))] [] h Φ := by
    intro d
    induction d with
    | zero =>
      intro n c m hn hc hm K
      refine U_X12_check_139_26 ⟨fun _ => ?_, fun z => absurd z (by omega)⟩
      rw [w32_of (z := (m : Int) + 1) (by omega) (by omega)]; exact K c rfl
    | succ d ih =>
      intro n c m hn hc hm K
      have sh : ∀ c d, st8 (cst c) d = st8 c (d + 1) := fun c d => by
        induction d with
        | zero => rfl
        | succ d ih2 => unfold st8; rw [ih2]
      have nx := ih (n + 1) (cst c) m (by omega) (cst_lt hc) hm (fun c' e => K c' (by rw [e, sh]))
      have e1 : bshl (c : Int) 1 = ((2 * c : Nat) : Int) := by
        have := shl_nat (x := c) (k := 1) (by omega) (by omega)
        rw [Nat.mul_comm]; exact this
      rw [Int.natCast_add] at nx
      refine U_X12_check_139_26 ⟨fun z => absurd z (by omega), fun _ => ⟨fun z => ?_, fun z => ?_⟩⟩
      · rw [w32_of (z := (n : Int) + 1) (by omega) (by omega), e1]
        have e2 : bxor ((2 * c : Nat) : Int) 0 = ((2 * c : Nat) : Int) := by
          have := bxor_nat (a := 2 * c) (b := 0) (by omega) (by omega)
          rw [show ((0 : Nat) : Int) = 0 from rfl] at this
          rw [this, Nat.xor_zero]
        have e3 : band ((2 * c : Nat) : Int) 65535 = (cst c : Int) := by
          rw [band_mask (x := ((2 * c : Nat) : Int)) (m := 65535) 16 (by omega) (by decide)]
          unfold cst; rw [if_pos (by omega)]
          have : ((2 ^ 16 : Nat) : Int) = 65536 := by decide
          rw [this]; omega
        rw [e2, e3]; exact nx
      · rw [w32_of (z := (n : Int) + 1) (by omega) (by omega), e1]
        have e2 : band (bxor ((2 * c : Nat) : Int) 4129) 65535 = (cst c : Int) := by
          have h1 := bxor_nat (a := 2 * c) (b := 4129) (by omega) (by omega)
          rw [show ((4129 : Nat) : Int) = 4129 from rfl] at h1
          have lt : (2 * c) ^^^ 4129 < 131072 := Nat.xor_lt_two_pow (n := 17) (by omega) (by omega)
          have h2 := band_nat (a := (2 * c) ^^^ 4129) (b := 65535) (by omega) (by omega)
          rw [show ((65535 : Nat) : Int) = 65535 from rfl] at h2
          rw [h1, h2, (cst_hi (c := c) (by omega) hc).1]; unfold cst; rw [if_neg (by omega)]
        rw [e2]; exact nx
  have outer : ∀ (d m : Nat), m + d = 22 → AT G m_X12_check 6 [(0, rv 139), (1, iv 0), (2, iv (crcN (h 139) m : Int)), (3, iv (m : Int))] [] h Φ := by
    intro d
    induction d with
    | zero =>
      intro m hm
      have e : m = 22 := by omega
      subst e
      exact U_X12_check_139_6 ⟨fun _ => k, fun z => absurd z (by omega)⟩
    | succ d ih =>
      intro m hm
      have bm := hb m (by omega) (by omega)
      have cl := crc_lt (f := h 139) m (fun i a b => hb i a (by omega))
      refine U_X12_check_139_6 ⟨fun z => absurd z (by omega), fun _ => ?_⟩
      have e0 : (0 : Int) + m = m := by omega
      rw [w32_of (z := (0 : Int) + (m : Int)) (by omega) (by omega), e0]
      refine ⟨by omega, ?_⟩
      have e1 : bshl (h 139 m) 8 = (((h 139 m).toNat * 256 : Nat) : Int) := by
        have := shl_nat (x := (h 139 m).toNat) (k := 8) (by omega) (by omega)
        rw [Int.toNat_of_nonneg bm.1] at this; exact this
      have e2 : bxor (crcN (h 139) m : Int) (((h 139 m).toNat * 256 : Nat) : Int) = ((crcN (h 139) m ^^^ ((h 139 m).toNat * 256) : Nat) : Int) := bxor_nat (by omega) (by omega)
      rw [e1, e2]
      refine inner 8 0 _ m (by omega) (xor_lt cl (by omega)) (by omega) (fun c' e => ?_)
      have t := ih (m + 1) (by omega)
      rw [Int.natCast_add] at t
      rw [e]; exact t
  exact outer 22 0 (by omega)
