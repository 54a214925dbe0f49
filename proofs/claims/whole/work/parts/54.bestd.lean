/-- model: bits from the left -/
def rb (n v : Nat) (i : Nat) : Bool := v.testBit (n - 1 - i)
theorem rb_lex {n a v : Nat} (h : a < v) (hv : v < 2 ^ n) : lex n (rb n v) (rb n a) := by
  obtain ⟨p, p1, p2, p3, p4⟩ := nat_lex n a v h hv
  refine ⟨n - 1 - p, by omega, ?_, ?_, fun j hj => ?_⟩
  · unfold rb; rw [show n - 1 - (n - 1 - p) = p by omega]; exact p2
  · unfold rb; rw [show n - 1 - (n - 1 - p) = p by omega]; exact p3
  · unfold rb; exact p4 _ (by omega)
theorem rb_all (n : Nat) (c : Nat → Bool) : ∃ v, v < 2 ^ n ∧ same n (rb n v) c := by
  refine ⟨nat (fun p => c (n - 1 - p)) n, nat_lt _ _, fun i hi => ?_⟩
  unfold rb
  rw [nat_tb n _ _ (by omega), show n - 1 - (n - 1 - i) = i by omega]
def keyS (h : Hp) (n : Nat) (b : Nat → Bool) : Int := 100 * Wt h b n - Ct b n
/-- the model's search, from v on -/
theorem sp_search {G : GG} {h : Hp} {Φ : Int → Hp → Prop} {n : Nat} {a : Int} (hI : IPa h) (hn : h 75 5 = n)
    (k : ∀ v : Nat, v < 2 ^ n → isBest h n (rb n v) → AT G m_X12_best 213 [(0, rv 85), (1, iv a), (2, iv (v : Int)), (4, iv 0), (5, iv 0), (6, iv 0)] [] h Φ) : AT G m_X12_best 45 [(0, rv 85), (1, iv a), (2, iv 0), (3, iv (-1)), (4, iv 0)] [] h Φ := by
  have n12 : n ≤ 12 := by have := hI.1; omega
  have p12 := pow_le12 n12
  have m102 : h 85 102 = n := by have := hI.1; omega
  have s1 := shl_nat (x := 1) (k := n) (by omega) (by omega)
  rw [Nat.one_mul] at s1
  have wb := fun (b : Nat → Bool) m (hm : m ≤ n) => Wt_b (h := h) b m (fun i a c => by have := (hI.2.2 i a (by omega)).2.2.2; omega)
  -- one set
  have bitv : ∀ v i : Nat, v < 2 ^ n → i < n → band (bshr (v : Int) (w32 (w32 ((n : Int) - 1) - i))) 1 = if rb n v i then 1 else 0 := by
    intro v i hv hi
    rw [w32_of (z := (n : Int) - 1) (by omega) (by omega), w32_of (by omega) (by omega), show (n : Int) - 1 - i = ((n - 1 - i : Nat) : Int) by omega, bit_nat (by omega) (by omega), tb_eq]
    unfold rb
    split <;> rfl
  have pairs : ∀ (v : Nat) (x2 x3 S : Int) (i : Nat), v < 2 ^ n → i < n → rb n v i = true → (AT G m_X12_best 65 [(0, rv 85), (1, iv a), (2, iv x2), (3, iv x3), (4, iv (v : Int)), (5, iv S), (6, iv 0), (7, iv ((i : Int) + 1))] [] h Φ ∨ ∀ j : Nat, j < i → rb n v j = true → apt h i j) → ((∀ j : Nat, j < i → rb n v j = true → apt h i j) → AT G m_X12_best 65 [(0, rv 85), (1, iv a), (2, iv x2), (3, iv x3), (4, iv (v : Int)), (5, iv S), (6, iv 1), (7, iv ((i : Int) + 1))] [] h Φ) → ∀ (e j : Nat), j + e = i → (∀ c : Nat, c < j → rb n v c = true → apt h i c) → AT G m_X12_best 119 [(0, rv 85), (1, iv a), (2, iv x2), (3, iv x3), (4, iv (v : Int)), (5, iv S), (6, iv 1), (7, iv (i : Int)), (8, iv (j : Int))] [] h Φ := by
    intro v x2 x3 S i hv hi hbi k0 k1 e
    induction e with
    | zero =>
      intro j hj hg
      refine U_X12_best_85_119 ⟨fun _ => ?_, fun z => absurd z (by omega)⟩
      rw [w32_of (z := (i : Int) + 1) (by omega) (by omega)]
      exact k1 (fun c hc => hg c (by omega))
    | succ e ih =>
      intro j hj hg
      refine U_X12_best_85_119 ⟨fun z => absurd z (by omega), fun _ => ⟨fun z => absurd z (by omega), fun _ => ?_⟩⟩
      rw [m102, bitv v j hv (by omega), w32_of (z := (j : Int) + 1) (by omega) (by omega)]
      have st : (rb n v j = true → apt h i j) → AT G m_X12_best 119 [(0, rv 85), (1, iv a), (2, iv x2), (3, iv x3), (4, iv (v : Int)), (5, iv S), (6, iv 1), (7, iv (i : Int)), (8, iv ((j : Int) + 1))] [] h Φ := fun hh => by
        have t := ih (j + 1) (by omega) (fun c hc hcb => by
          by_cases q : c = j
          · subst q; exact hh hcb
          · exact hg c (by omega) hcb)
        rw [Int.natCast_add] at t
        exact t
      cases hb : rb n v j
      · exact ⟨fun _ => st (fun z => by rw [hb] at z; cases z), fun z => absurd rfl z⟩
      · refine ⟨fun z => absurd z (by decide), fun _ => sp_areApart (n := n) hI hn (by omega) (by omega) ?_⟩
        by_cases q : apt h i j
        · rw [if_pos q]
          exact ⟨fun z => absurd z (by omega), fun _ => st (fun _ => q)⟩
        · rw [if_neg q]
          refine ⟨fun _ => ?_, fun z => absurd rfl z⟩
          rcases k0 with k0 | k0
          · refine U_X12_best_85_119 ⟨fun _ => ?_, fun _ => ⟨fun _ => ?_, fun z => absurd rfl z⟩⟩
            all_goals rw [w32_of (z := (i : Int) + 1) (by omega) (by omega)]
            all_goals exact k0
          · exact absurd (k0 j (by omega) hb) q
  have one : ∀ (v : Nat) (x2 x3 : Int), v < 2 ^ n → (¬ goodS h n (rb n v) → AT G m_X12_best 45 [(0, rv 85), (1, iv a), (2, iv x2), (3, iv x3), (4, iv ((v : Int) + 1))] [] h Φ) → (goodS h n (rb n v) → x3 ≤ keyS h n (rb n v) → AT G m_X12_best 45 [(0, rv 85), (1, iv a), (2, iv (v : Int)), (3, iv (keyS h n (rb n v))), (4, iv ((v : Int) + 1))] [] h Φ) → (goodS h n (rb n v) → keyS h n (rb n v) < x3 → AT G m_X12_best 45 [(0, rv 85), (1, iv a), (2, iv x2), (3, iv x3), (4, iv ((v : Int) + 1))] [] h Φ) → AT G m_X12_best 65 [(0, rv 85), (1, iv a), (2, iv x2), (3, iv x3), (4, iv (v : Int)), (5, iv 0), (6, iv 1), (7, iv 0)] [] h Φ := by
    intro v x2 x3 hv kb kg kl
    have w45 : w32 ((v : Int) + 1) = (v : Int) + 1 := w32_of (by omega) (by omega)
    have bad : ∀ (i : Nat) (S : Int), ¬ goodS h n (rb n v) → AT G m_X12_best 65 [(0, rv 85), (1, iv a), (2, iv x2), (3, iv x3), (4, iv (v : Int)), (5, iv S), (6, iv 0), (7, iv (i : Int))] [] h Φ := by
      intro i S hb
      refine U_X12_best_85_65 ?_
      rw [w45]
      exact ⟨fun _ => ⟨fun _ => kb hb, fun z => absurd rfl z⟩, fun _ => ⟨fun _ => ⟨fun _ => kb hb, fun z => absurd rfl z⟩, fun z => absurd rfl z⟩⟩
    have go : ∀ (e i : Nat), i + e = n → (∀ x y : Nat, x < i → y < x → rb n v x = true → rb n v y = true → apt h x y) → AT G m_X12_best 65 [(0, rv 85), (1, iv a), (2, iv x2), (3, iv x3), (4, iv (v : Int)), (5, iv (keyS h i (rb n v))), (6, iv 1), (7, iv (i : Int))] [] h Φ := by
      intro e
      induction e with
      | zero =>
        intro i hi hg
        have e : i = n := by omega
        subst e
        have gg : goodS h i (rb i v) := fun x y a1 a2 a3 a4 a5 => by
          rcases Nat.lt_or_ge y x with q | q
          · exact hg x y a1 q a4 a5
          · exact apt_sym (hg y x a2 (by omega) a5 a4)
        refine U_X12_best_85_65 ?_
        rw [w45]
        exact ⟨fun _ => ⟨fun z => absurd z (by omega), fun _ => ⟨fun c => kg gg c, fun c => kl gg c⟩⟩, fun z => absurd z (by omega)⟩
      | succ e ih =>
        intro i hi hg
        have w0 := wb (rb n v) i (by omega)
        have c0 := Ct_b (rb n v) i
        have wi := (hI.2.2 i (by omega) (by omega)).2.2.2
        refine U_X12_best_85_65 ⟨fun z => absurd z (by omega), fun _ => ⟨fun z => absurd z (by omega), fun _ => ?_⟩⟩
        rw [m102, bitv v i hv (by omega), w32_of (z := (i : Int) + 1) (by omega) (by omega)]
        have t := ih (i + 1) (by omega)
        rw [Int.natCast_add] at t
        unfold keyS at t
        unfold Wt Ct at t
        cases hb : rb n v i
        · refine ⟨fun z => absurd rfl z, fun _ => ?_⟩
          rw [hb] at t
          simp only [Bool.false_eq_true, if_false, Int.add_zero] at t
          refine t (fun x y a1 a2 a3 a4 => ?_)
          by_cases q : x = i
          · subst q; rw [hb] at a3; cases a3
          · exact hg x y (by omega) a2 a3 a4
        · refine ⟨fun _ => ⟨by omega, ?_⟩, fun z => absurd z (by decide)⟩
          rw [hb] at t
          simp only [if_true] at t
          rw [wi.2.2, w32_of (z := 100 * h 79 i) (by omega) (by omega), w32_of (z := 100 * h 79 i - 1) (by omega) (by omega)]
          unfold keyS
          rw [w32_of (by omega) (by omega), show 100 * Wt h (rb n v) i - Ct (rb n v) i + (100 * h 79 i - 1) = 100 * (Wt h (rb n v) i + h 79 i) - (Ct (rb n v) i + 1) by omega]
          refine pairs v x2 x3 _ i hv (by omega) hb ?_ (fun hh => t (fun x y a1 a2 a3 a4 => ?_)) i 0 (by omega) (fun c hc => by omega)
          · by_cases q : ∀ j : Nat, j < i → rb n v j = true → apt h i j
            · exact Or.inr q
            · refine Or.inl ?_
              have := bad (i + 1) (100 * (Wt h (rb n v) i + h 79 i) - (Ct (rb n v) i + 1)) (fun z => q (fun j hj hjb => z i j (by omega) (by omega) (by omega) hb hjb))
              rw [Int.natCast_add] at this
              exact this
          · by_cases q : x = i
            · subst q; exact hh y a2 a4
            · exact hg x y (by omega) a2 a3 a4
    have t := go n 0 (by omega) (fun x y a1 => by omega)
    simpa [keyS, Wt, Ct] using t
  have loop : ∀ (e v : Nat) (B : Nat), v + e = 2 ^ n → B < v → goodS h n (rb n B) → (∀ u, u < v → goodS h n (rb n u) → better h n (rb n B) (rb n u) ∨ same n (rb n B) (rb n u)) → AT G m_X12_best 45 [(0, rv 85), (1, iv a), (2, iv (B : Int)), (3, iv (keyS h n (rb n B))), (4, iv (v : Int))] [] h Φ := by
    intro e
    induction e with
    | zero =>
      intro v B hv b1 b2 b3
      refine U_X12_best_85_45 ?_
      rw [m102, show (1 : Int) = ((1 : Nat) : Int) from rfl, s1]
      refine ⟨fun _ => k B (by omega) ⟨b2, fun c hc => ?_⟩, fun z => absurd z (by omega)⟩
      obtain ⟨u, u1, u2⟩ := rb_all n c
      rcases b3 u (by omega) (fun i j a1 a2 a3 a4 a5 => hc i j a1 a2 a3 (by rw [← u2 i a1]; exact a4) (by rw [← u2 j a2]; exact a5)) with z | z
      · exact Or.inl (better_cg u2 z)
      · exact Or.inr (fun i hi => by rw [z i hi]; exact u2 i hi)
    | succ e ih =>
      intro v B hv b1 b2 b3
      refine U_X12_best_85_45 ?_
      rw [m102, show (1 : Int) = ((1 : Nat) : Int) from rfl, s1]
      refine ⟨fun z => absurd z (by omega), fun _ => ?_⟩
      have w1 := wb (rb n v) n (by omega)
      have c1 := Ct_b (rb n v) n
      have w2 := wb (rb n B) n (by omega)
      have c2 := Ct_b (rb n B) n
      refine one v _ _ (by omega) (fun hg => ?_) (fun hg c => ?_) (fun hg c => ?_)
      · have t := ih (v + 1) B (by omega) (by omega) b2 (fun u hu hgu => by
          by_cases q : u = v
          · subst q; exact absurd hgu hg
          · exact b3 u (by omega) hgu)
        rw [Int.natCast_add] at t
        exact t
      · have bt : better h n (rb n v) (rb n B) := by
          unfold keyS at c
          unfold better
          have lx := rb_lex (n := n) b1 (by omega)
          by_cases q : Wt h (rb n B) n < Wt h (rb n v) n
          · exact Or.inl q
          · by_cases q2 : Ct (rb n v) n < Ct (rb n B) n
            · exact Or.inr ⟨by omega, Or.inl q2⟩
            · exact Or.inr ⟨by omega, Or.inr ⟨by omega, lx⟩⟩
        have t := ih (v + 1) v (by omega) (by omega) hg (fun u hu hgu => by
          by_cases q : u = v
          · subst q; exact Or.inr (fun _ _ => rfl)
          · rcases b3 u (by omega) hgu with z | z
            · exact Or.inl (better_trans bt z)
            · exact Or.inl (better_cg z bt))
        rw [Int.natCast_add] at t
        exact t
      · have bt : better h n (rb n B) (rb n v) := by
          unfold keyS at c
          unfold better
          by_cases q : Wt h (rb n v) n < Wt h (rb n B) n
          · exact Or.inl q
          · exact Or.inr ⟨by omega, Or.inl (by omega)⟩
        have t := ih (v + 1) B (by omega) (by omega) b2 (fun u hu hgu => by
          by_cases q : u = v
          · subst q; exact Or.inl bt
          · exact b3 u (by omega) hgu)
        rw [Int.natCast_add] at t
        exact t
  have g0 : goodS h n (rb n 0) := fun i j _ _ _ a => by unfold rb at a; simp at a
  have k0 : 0 ≤ keyS h n (rb n 0) := by
    have : ∀ m, Wt h (rb n 0) m = 0 ∧ Ct (rb n 0) m = 0 := by
      intro m
      induction m with
      | zero => exact ⟨rfl, rfl⟩
      | succ m ih => unfold Wt Ct; rw [ih.1, ih.2]; simp [rb]
    unfold keyS; rw [(this n).1, (this n).2]; omega
  refine U_X12_best_85_45 ?_
  rw [m102, show (1 : Int) = ((1 : Nat) : Int) from rfl, s1]
  have := Nat.two_pow_pos n
  refine ⟨fun z => absurd z (by omega), fun _ => one 0 _ _ (by omega) (fun z => absurd g0 z) (fun _ _ => ?_) (fun _ z => absurd z (by omega))⟩
  exact loop (2 ^ n - 1) 1 0 (by omega) (by omega) g0 (fun u hu _ => by
    have : u = 0 := by omega
    subst this
    exact Or.inr (fun _ _ => rfl))
def PBe (k : Nat) (i : Int) : Prop := PQ k i
theorem op_best {G : GG} {h : Hp} {a : Int} (hI : IPa h) (hc : IPc h) : BOTH G m_X11_best m_X12_best [iv a] h (fun h' => (IPa h' ∧ IPc h') ∧ FR PQ h h') := by
  obtain ⟨n, hn⟩ : ∃ n : Nat, h 75 5 = (n : Int) := ⟨(h 75 5).toNat, by have := hI.1; omega⟩
  have n12 : n ≤ 12 := by have := hI.1; omega
  have p12 := pow_le12 n12
  unfold BOTH
  refine Call.of rfl (Nat.le_of_ble_eq_true rfl) rfl (U_X11_best_1_0 ?_)
  refine sp_choose hI hc hn (fun g B fg b1 b2 b3 b4 => ?_)
  have gI := IPa_cg fg hI
  have e5 : g 75 5 = n := by rw [fg 75 5 (by simp [PQ])]; exact hn
  have m102 : g 85 102 = n := by have := gI.1; omega
  have gc : IPc g := Or.inr ⟨n, B, e5, b1, b2, b3, b4⟩
  have hN : (IPa g ∧ IPc g) ∧ FR PQ h g := ⟨⟨gI, gc⟩, fg⟩
  rw [e5, w32_of (z := (n : Int) - 1) (by omega) (by omega)]
  have none : (a < 0 ∨ (n : Int) ≤ a) → a ≠ 100 → a ≠ 101 → Call G m_X12_best [rv 85, iv a] g (fun r2 h2 => -1 = r2 ∧ (IPa h2 ∧ IPc h2) ∧ FR PQ h h2) := by
    intro c1 c2 c3
    refine Call.of rfl (Nat.le_of_ble_eq_true rfl) rfl (U_X12_best_85_0 ?_)
    rw [m102]
    refine ⟨fun _ => ⟨fun z => absurd z c2, fun _ => ⟨fun _ => ⟨rfl, hN⟩, fun z => absurd z c3⟩⟩, fun _ => ⟨fun _ => ⟨fun z => absurd z c2, fun _ => ⟨fun _ => ⟨rfl, hN⟩, fun z => absurd z c3⟩⟩, fun _ => ⟨fun z => absurd z (by omega), fun _ => ⟨fun z => absurd z (by omega), fun _ => ⟨rfl, hN⟩⟩⟩⟩⟩
  have enter : (a = 100 ∨ a = 101 ∨ (0 ≤ a ∧ a < n)) → ∀ Ψ : Int → Hp → Prop, AT G m_X12_best 45 [(0, rv 85), (1, iv a), (2, iv 0), (3, iv (-1)), (4, iv 0)] [] g Ψ → Call G m_X12_best [rv 85, iv a] g Ψ := by
    intro c Ψ t
    refine Call.of rfl (Nat.le_of_ble_eq_true rfl) rfl (U_X12_best_85_0 ?_)
    rw [m102]
    repeat' (first | with_reducible apply And.intro | with_reducible intro _)
    all_goals first | exact t | (exfalso; omega)
  have fin : ∀ (r : Int) (Ψ : Int → Hp → Prop), (∀ v : Nat, v < 2 ^ n → same n (rb n v) B.testBit → (a = 100 → Ψ (Wt g B.testBit n) g) ∧ (a = 101 → Ψ (Ct B.testBit n) g) ∧ (a ≠ 100 → a ≠ 101 → Ψ (band (bshr (v : Int) (w32 (w32 ((n : Int) - 1) - a))) 1) g)) → AT G m_X12_best 45 [(0, rv 85), (1, iv a), (2, iv 0), (3, iv (-1)), (4, iv 0)] [] g Ψ := by
    intro r Ψ kk
    refine sp_search gI e5 (fun v hv hb => ?_)
    have sm := best_uniq hb b4
    obtain ⟨k1, k2, k3⟩ := kk v hv sm
    have bitv : ∀ i : Nat, i < n → band (bshr (v : Int) (w32 (w32 ((n : Int) - 1) - i))) 1 = if rb n v i then 1 else 0 := by
      intro i hi
      rw [w32_of (z := (n : Int) - 1) (by omega) (by omega), w32_of (by omega) (by omega), show (n : Int) - 1 - i = ((n - 1 - i : Nat) : Int) by omega, bit_nat (by omega) (by omega), tb_eq]
      unfold rb
      split <;> rfl
    have go : ∀ (e i : Nat), i + e = n → AT G m_X12_best 213 [(0, rv 85), (1, iv a), (2, iv (v : Int)), (4, iv (Wt g B.testBit i)), (5, iv (Ct B.testBit i)), (6, iv (i : Int))] [] g Ψ := by
      intro e
      induction e with
      | zero =>
        intro i hi
        have e : i = n := by omega
        subst e
        refine U_X12_best_85_213 ?_
        rw [m102]
        exact ⟨fun _ => ⟨fun c1 => ⟨fun c2 => k3 c1 c2, fun c2 => k2 c2⟩, fun c1 => k1 c1⟩, fun z => absurd z (by omega)⟩
      | succ e ih =>
        intro i hi
        have t := ih (i + 1) (by omega)
        have w0 := Wt_b (h := g) B.testBit i (fun i a c => by have := (gI.2.2 i a (by omega)).2.2.2; omega)
        have c0 := Ct_b B.testBit i
        have wi := (gI.2.2 i (by omega) (by omega)).2.2.2
        refine U_X12_best_85_213 ?_
        rw [m102]
        refine ⟨fun z => absurd z (by omega), fun _ => ⟨by omega, ?_⟩⟩
        rw [bitv i (by omega), sm i (by omega), wi.2.2, w32_of (z := (i : Int) + 1) (by omega) (by omega)]
        unfold Wt Ct at t
        rw [Int.natCast_add] at t
        cases hb : B.testBit i
        · rw [hb] at t
          simp only [Bool.false_eq_true, if_false, Int.add_zero, Int.zero_mul] at t ⊢
          rw [w32_of (z := (0 : Int)) (by omega) (by omega), Int.add_zero, w32_of (z := Wt g B.testBit i) (by omega) (by omega), w32_of (z := Ct B.testBit i) (by omega) (by omega)]
          exact t
        · rw [hb] at t
          simp only [if_true, Int.one_mul] at t ⊢
          rw [w32_of (z := g 79 i) (by omega) (by omega), w32_of (z := Wt g B.testBit i + g 79 i) (by omega) (by omega), w32_of (z := Ct B.testBit i + 1) (by omega) (by omega)]
          exact t
    have t := go n 0 (by omega)
    exact t
  refine ⟨fun c1 => ⟨fun c2 => ⟨fun c3 => none (by omega) c1 c2, fun c3 => ⟨fun c4 => none (by omega) c1 c2, fun c4 => ?_⟩⟩, fun c2 => ?_⟩, fun c1 => ?_⟩
  · refine enter (by omega) _ (fin 0 _ (fun v hv sm => ⟨fun z => absurd z c1, fun z => absurd z c2, fun _ _ => ⟨?_, hN⟩⟩))
    obtain ⟨i, rfl⟩ : ∃ i : Nat, a = (i : Int) := ⟨a.toNat, by omega⟩
    have e1 := sm i (by omega)
    unfold rb at e1
    rw [b2, bit_nat (by omega) (by omega), w32_of (z := (n : Int) - 1) (by omega) (by omega), w32_of (by omega) (by omega), show (n : Int) - 1 - i = ((n - 1 - i : Nat) : Int) by omega, bit_nat (by omega) (by omega), tb_eq, tb_eq, e1]
  · rw [b2]
    refine sp_bitCount (by omega) ?_
    rw [pcb_12 n12 b1]
    exact enter (by omega) _ (fin 0 _ (fun v hv sm => ⟨fun z => absurd z c1, fun _ => ⟨rfl, hN⟩, fun _ z => absurd c2 z⟩))
  · rw [b3]
    exact enter (by omega) _ (fin 0 _ (fun v hv sm => ⟨fun _ => ⟨rfl, hN⟩, fun z => absurd z (by omega), fun z _ => absurd c1 z⟩))
