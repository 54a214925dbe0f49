theorem sp_goTogether {G : GG} {h : Hp} {Φ : Int → Hp → Prop} {n : Int} {i j : Int} (hI : IPa h) (hn : h 75 5 = n) (hi : 0 ≤ i ∧ i < n) (hj : 0 ≤ j ∧ j < n) (k : Φ (if apt h i j then 1 else 0) h) : Call G m_X7_goTogether [rv 75, iv i, iv j] h Φ := by
  obtain ⟨j0, j1, j4⟩ := id hI
  have a := j4 i hi.1 (by omega)
  have b := j4 j hj.1 (by omega)
  refine Call.of rfl (Nat.le_of_ble_eq_true rfl) rfl (U_X7_goTogether_75_0 ⟨by omega, by omega, fun c => ⟨by omega, by omega, ?_⟩, fun c => ⟨by omega, by omega, ?_⟩⟩)
  · rw [w32_of (z := h 78 i + h 75 6) (by omega) (by omega), w32_of (z := h 78 j + h 75 6) (by omega) (by omega)]
    refine ⟨fun c1 => ?_, fun c1 => ⟨by omega, by omega, fun c2 => ?_, fun c2 => ?_⟩⟩
    · rw [if_pos (show apt h i j by unfold apt; rw [if_neg c]; exact Or.inl c1)] at k; exact k
    · rw [if_neg (show ¬ apt h i j by unfold apt; rw [if_neg c]; omega)] at k; exact k
    · rw [if_pos (show apt h i j by unfold apt; rw [if_neg c]; exact Or.inr c2)] at k; exact k
  · rw [w32_of (z := h 78 i + 0) (by omega) (by omega), w32_of (z := h 78 j + 0) (by omega) (by omega)]
    refine ⟨fun c1 => ?_, fun c1 => ⟨by omega, by omega, fun c2 => ?_, fun c2 => ?_⟩⟩
    · rw [if_pos (show apt h i j by unfold apt; rw [if_pos c]; exact Or.inl c1)] at k; exact k
    · rw [if_neg (show ¬ apt h i j by unfold apt; rw [if_pos c]; omega)] at k; exact k
    · rw [if_pos (show apt h i j by unfold apt; rw [if_pos c]; exact Or.inr c2)] at k; exact k
theorem sp_areApart {G : GG} {h : Hp} {Φ : Int → Hp → Prop} {n : Int} {i j : Int} (hI : IPa h) (hn : h 75 5 = n) (hi : 0 ≤ i ∧ i < n) (hj : 0 ≤ j ∧ j < n) (k : Φ (if apt h i j then 1 else 0) h) : Call G m_X12_areApart [rv 85, iv i, iv j] h Φ := by
  obtain ⟨j0, j1, j4⟩ := id hI
  have a := j4 i hi.1 (by omega)
  have b := j4 j hj.1 (by omega)
  refine Call.of rfl (Nat.le_of_ble_eq_true rfl) rfl (U_X12_areApart_85_0 ?_)
  rw [a.1.2.2, b.1.2.2, a.2.1.2.2, b.2.1.2.2, a.2.2.1.2.2, b.2.2.1.2.2, j1.2.2]
  refine ⟨by omega, by omega, fun c => ⟨by omega, by omega, ?_⟩, fun c => ⟨by omega, by omega, ?_⟩⟩
  · rw [w32_of (z := h 78 i + h 75 6) (by omega) (by omega), w32_of (z := h 78 j + h 75 6) (by omega) (by omega)]
    refine ⟨fun c1 => ?_, fun c1 => ⟨by omega, by omega, fun c2 => ?_, fun c2 => ?_⟩⟩
    · rw [if_pos (show apt h i j by unfold apt; rw [if_neg c]; exact Or.inl c1)] at k; exact k
    · rw [if_neg (show ¬ apt h i j by unfold apt; rw [if_neg c]; omega)] at k; exact k
    · rw [if_pos (show apt h i j by unfold apt; rw [if_neg c]; exact Or.inr c2)] at k; exact k
  · rw [w32_of (z := h 78 i + 0) (by omega) (by omega), w32_of (z := h 78 j + 0) (by omega) (by omega)]
    refine ⟨fun c1 => ?_, fun c1 => ⟨by omega, by omega, fun c2 => ?_, fun c2 => ?_⟩⟩
    · rw [if_pos (show apt h i j by unfold apt; rw [if_pos c]; exact Or.inl c1)] at k; exact k
    · rw [if_neg (show ¬ apt h i j by unfold apt; rw [if_pos c]; omega)] at k; exact k
    · rw [if_pos (show apt h i j by unfold apt; rw [if_pos c]; exact Or.inr c2)] at k; exact k
/-- what the passes' rows say stays where only other cells change -/
def PQ (k : Nat) (i : Int) : Prop := k = 75 ∧ (i = 7 ∨ i = 8 ∨ i = 9) ∨ k = 80
theorem IPa_cg {h g : Hp} (f : FR PQ h g) (hI : IPa h) : IPa g := by
  obtain ⟨j0, j1, j4⟩ := id hI
  have e5 : g 75 5 = h 75 5 := f 75 5 (by simp [PQ])
  refine ⟨?_, ?_, fun i q0 q1 => ?_⟩
  · rw [e5, f 85 102 (by simp [PQ])]; exact j0
  · rw [f 75 6 (by simp [PQ]), f 85 103 (by simp [PQ])]; exact j1
  · rw [e5] at q1
    rw [f 76 i (by simp [PQ]), f 77 i (by simp [PQ]), f 78 i (by simp [PQ]), f 79 i (by simp [PQ]), f 147 i (by simp [PQ]), f 148 i (by simp [PQ]), f 149 i (by simp [PQ]), f 150 i (by simp [PQ])]
    exact j4 i q0 q1
theorem apt_cg {h g : Hp} (f : FR PQ h g) {i j : Int} : apt g i j ↔ apt h i j := by
  unfold apt
  rw [f 76 i (by simp [PQ]), f 76 j (by simp [PQ]), f 77 i (by simp [PQ]), f 77 j (by simp [PQ]), f 78 i (by simp [PQ]), f 78 j (by simp [PQ]), f 75 6 (by simp [PQ])]
theorem WtH_cg {h g : Hp} (f : FR PQ h g) (b : Nat → Bool) : ∀ n, Wt g b n = Wt h b n
  | 0 => rfl
  | n + 1 => by unfold Wt; rw [WtH_cg f b n, f 79 n (by simp [PQ])]
theorem goodS_cg {h g : Hp} (f : FR PQ h g) {n : Nat} {b : Nat → Bool} : goodS g n b ↔ goodS h n b :=
  ⟨fun k i j a1 a2 a3 a4 a5 => (apt_cg f).mp (k i j a1 a2 a3 a4 a5), fun k i j a1 a2 a3 a4 a5 => (apt_cg f).mpr (k i j a1 a2 a3 a4 a5)⟩
theorem better_hcg {h g : Hp} (f : FR PQ h g) {n : Nat} {b c : Nat → Bool} : better g n b c ↔ better h n b c := by
  unfold better; rw [WtH_cg f, WtH_cg f]
theorem isBest_cg {h g : Hp} (f : FR PQ h g) {n : Nat} {b : Nat → Bool} (k : isBest h n b) : isBest g n b :=
  ⟨(goodS_cg f).mpr k.1, fun c hc => (k.2 c ((goodS_cg f).mp hc)).imp (better_hcg f).mpr id⟩
theorem FR.trans {P : Nat → Int → Prop} {h g i : Hp} (a : FR P h g) (b : FR P g i) : FR P h i := fun k j q => by rw [b k j q, a k j q]
theorem FR.row {P : Nat → Int → Prop} {h g : Hp} {k : Nat} {f : Int → Int} (a : FR P h g) (p : ∀ i, P k i) : FR P h (row g k f) := fun k' i q => by
  have : k' ≠ k := fun z => q (by rw [z]; exact p i)
  rw [row_ne this]
  exact a k' i q
/-- clashes: bit j of row i where they don't go together -/
def isCl (h : Hp) (n : Nat) (f : Int → Int) (i : Nat) : Prop := ∃ K : Nat, K < 2 ^ n ∧ f i = (K : Int) ∧ ∀ j, j < n → (K.testBit j = true ↔ (i ≠ j ∧ ¬ apt h i j))
theorem sp_findClashes {G : GG} {h : Hp} {Φ : Int → Hp → Prop} {n : Nat} (hI : IPa h) (hn : h 75 5 = n) (k : ∀ f, (∀ i, i < n → isCl h n f i) → Φ 0 (row h 80 f)) : Call G m_X7_findClashes [rv 75] h Φ := by
  have n12 : n ≤ 12 := by have := hI.1; omega
  refine Call.of rfl (Nat.le_of_ble_eq_true rfl) rfl (U_X7_findClashes_75_0 ?_)
  have fr : ∀ f, FR PQ h (row h 80 f) := fun f => FR.row FR.rf (fun i => Or.inr rfl)
  have e5 : ∀ f, row h 80 f 75 5 = n := fun f => by rw [row_ne (by decide)]; exact hn
  have hin : ∀ (e j : Nat) (i : Nat) (f : Int → Int) (K : Nat), j + e = n → i < n → (∀ a, a < i → isCl h n f a) → f i = (K : Int) → K < 2 ^ j → (∀ a, a < j → (K.testBit a = true ↔ (i ≠ a ∧ ¬ apt h i a))) → (∀ f2 : Int → Int, (∀ a, a < i + 1 → isCl h n f2 a) → AT G m_X7_findClashes 2 [(0, rv 75), (1, iv ((i : Int) + 1))] [] (row h 80 f2) Φ) → AT G m_X7_findClashes 19 [(0, rv 75), (1, iv (i : Int)), (2, iv (j : Int))] [] (row h 80 f) Φ := by
    intro e
    induction e with
    | zero =>
      intro j i f K hj hi hf hK K1 K2 kk
      have e : j = n := by omega
      subst e
      refine U_X7_findClashes_75_19 ⟨fun _ => ?_, fun z => absurd z (by rw [e5]; omega)⟩
      rw [w32_of (z := (i : Int) + 1) (by omega) (by omega)]
      refine kk f (fun a ha => ?_)
      by_cases q : a = i
      · subst q; exact ⟨K, K1, hK, K2⟩
      · exact hf a (by omega)
    | succ e ih =>
      intro j i f K hj hi hf hK K1 K2 kk
      have p2 : 2 ^ (j + 1) = 2 ^ j * 2 := Nat.pow_succ ..
      have pj : 2 ^ (j + 1) ≤ 2 ^ 12 := Nat.pow_le_pow_right (by omega) (by omega)
      have tj : K.testBit j = false := Nat.testBit_lt_two_pow K1
      refine U_X7_findClashes_75_19 ⟨fun z => absurd z (by rw [e5]; omega), fun _ => ?_⟩
      rw [w32_of (z := (j : Int) + 1) (by omega) (by omega)]
      have keep : ¬ (i ≠ j ∧ ¬ apt h i j) → AT G m_X7_findClashes 19 [(0, rv 75), (1, iv (i : Int)), (2, iv ((j : Int) + 1))] [] (row h 80 f) Φ := fun no => by
        have t := ih (j + 1) i f K (by omega) hi hf hK (by omega) (fun a ha => by
          by_cases q : a = j
          · subst q; rw [tj]; simp only [Bool.false_eq_true, false_iff]; exact no
          · exact K2 a (by omega)) kk
        rw [Int.natCast_add] at t
        exact t
      refine ⟨fun c => keep (by omega), fun c => ?_⟩
      refine sp_goTogether (n := n) (IPa_cg (fr f) hI) (e5 f) (by omega) (by omega) ?_
      by_cases q : apt h i j
      · rw [if_pos ((apt_cg (fr f)).mpr q)]
        exact ⟨fun _ => keep (fun z => z.2 q), fun z => absurd z (by omega)⟩
      · rw [if_neg (fun z => q ((apt_cg (fr f)).mp z))]
        refine ⟨fun z => absurd rfl z, fun _ => ⟨by omega, by omega, ?_⟩⟩
        have s1 := shl_nat (x := 1) (k := j) (by omega) (by omega)
        rw [Nat.one_mul] at s1
        rw [show row h 80 f 80 i = f i by rw [row_eq], hK, show (1 : Int) = ((1 : Nat) : Int) from rfl, s1, bor_nat (by omega) (by omega), up_row]
        have t := ih (j + 1) i (put f i ((K ||| 2 ^ j : Nat) : Int)) (K ||| 2 ^ j) (by omega) hi (fun a ha => by
          obtain ⟨K', a1, a2, a3⟩ := hf a ha
          refine ⟨K', a1, ?_, a3⟩
          unfold put
          rw [if_neg (by omega)]; exact a2) (by unfold put; rw [if_pos rfl]) (Nat.or_lt_two_pow (by omega) (by omega)) (fun a ha => by
          rw [Nat.testBit_or, Nat.testBit_two_pow]
          by_cases z : a = j
          · subst z; simp; refine ⟨by omega, ?_⟩; have q' := q; simp at q'; exact q'
          · have : ¬ j = a := fun y => z y.symm
            simp [this]
            have := K2 a (by omega)
            simpa using this) kk
        rw [Int.natCast_add] at t
        exact t
  have hout : ∀ (e i : Nat) (f : Int → Int), i + e = n → (∀ a, a < i → isCl h n f a) → AT G m_X7_findClashes 2 [(0, rv 75), (1, iv (i : Int))] [] (row h 80 f) Φ := by
    intro e
    induction e with
    | zero =>
      intro i f hi hf
      refine U_X7_findClashes_75_2 ⟨fun _ => k f (fun a ha => hf a (by omega)), fun z => absurd z (by rw [e5]; omega)⟩
    | succ e ih =>
      intro i f hi hf
      refine U_X7_findClashes_75_2 ⟨fun z => absurd z (by rw [e5]; omega), fun _ => ⟨by omega, ?_⟩⟩
      rw [up_row]
      refine hin n 0 i _ 0 (by omega) (by omega) (fun a ha => ?_) (by unfold put; rw [if_pos rfl]; rfl) (by omega) (fun a ha => by omega) (fun f2 h2 => ?_)
      · obtain ⟨K', a1, a2, a3⟩ := hf a ha
        refine ⟨K', a1, ?_, a3⟩
        unfold put
        rw [if_neg (by omega)]; exact a2
      · have t := ih (i + 1) f2 (by omega) h2
        rw [Int.natCast_add] at t
        exact t
  have := hout n 0 (h 80) (by omega) (fun a ha => by omega)
  rw [row_id] at this
  exact this
theorem and_ne {K S n : Nat} (hS : S < 2 ^ n) : (K &&& S ≠ 0) ↔ ∃ j, j < n ∧ K.testBit j = true ∧ S.testBit j = true := by
  constructor
  · intro hz
    apply Decidable.byContradiction
    intro no
    apply hz
    refine Nat.eq_of_testBit_eq fun i => ?_
    rw [Nat.testBit_and, Nat.zero_testBit]
    rcases Nat.lt_or_ge i n with q | q
    · cases hk : K.testBit i
      · rfl
      · cases hs : S.testBit i
        · rfl
        · exact absurd ⟨i, q, hk, hs⟩ no
    · rw [Nat.testBit_lt_two_pow (Nat.lt_of_lt_of_le hS (Nat.pow_le_pow_right (by omega) q)), Bool.and_false]
  · intro ⟨j, j1, j2, j3⟩ z
    have e := congrArg (fun q => Nat.testBit q j) z
    simp [j2, j3] at e
theorem sp_worthOf {G : GG} {h : Hp} {Φ : Int → Hp → Prop} {n S : Nat} (hI : IPa h) (hn : h 75 5 = n) (hc : ∀ i, i < n → isCl h n (h 80) i) (hS : S < 2 ^ n) (k1 : goodS h n S.testBit → Φ (Wt h S.testBit n) h) (k2 : ¬ goodS h n S.testBit → Φ (-1) h) : Call G m_X7_worthOf [rv 75, iv (S : Int)] h Φ := by
  have n12 : n ≤ 12 := by have := hI.1; omega
  have p12 := pow_le12 n12
  have wb := fun m (hm : m ≤ n) => Wt_b (h := h) S.testBit m (fun i a c => by have := (hI.2.2 i a (by omega)).2.2.2; omega)
  refine Call.of rfl (Nat.le_of_ble_eq_true rfl) rfl (U_X7_worthOf_75_0 ?_)
  have go : ∀ (e i : Nat), i + e = n → (∀ a b, a < i → b < n → a ≠ b → S.testBit a = true → S.testBit b = true → apt h a b) → AT G m_X7_worthOf 4 [(0, rv 75), (1, iv (S : Int)), (2, iv (Wt h S.testBit i)), (3, iv (i : Int))] [] h Φ := by
    intro e
    induction e with
    | zero =>
      intro i hi hg
      have e : i = n := by omega
      subst e
      exact U_X7_worthOf_75_4 ⟨fun _ => k1 (fun a b a1 a2 a3 a4 a5 => hg a b a1 a2 a3 a4 a5), fun z => absurd z (by omega)⟩
    | succ e ih =>
      intro i hi hg
      have t := ih (i + 1) (by omega)
      obtain ⟨K, K1, K2, K3⟩ := hc i (by omega)
      have w0 := wb i (by omega)
      have c0 := Ct_b S.testBit i
      have wi := (hI.2.2 i (by omega) (by omega)).2.2.2
      refine U_X7_worthOf_75_4 ⟨fun z => absurd z (by omega), fun _ => ?_⟩
      rw [bit_nat (by omega) (by omega), w32_of (z := (i : Int) + 1) (by omega) (by omega), K2, band_nat (by omega) (by omega)]
      unfold Wt at t
      rw [Int.natCast_add] at t
      refine ⟨fun c => ?_, fun c => ⟨by omega, fun c2 => ⟨by omega, ?_⟩, fun c2 => ?_⟩⟩
      · have hb : S.testBit i = false := by
          cases z : S.testBit i
          · rfl
          · exact absurd (by rw [tb_pos z]; rfl) c
        rw [hb] at t
        simp only [Bool.false_eq_true, if_false, Int.add_zero] at t
        refine t (fun a b a1 a2 a3 a4 a5 => ?_)
        by_cases q : a = i
        · subst q; rw [hb] at a4; cases a4
        · exact hg a b (by omega) a2 a3 a4 a5
      · have hb : S.testBit i = true := by
          cases z : S.testBit i
          · rw [tb_neg z] at c; omega
          · rfl
        rw [hb] at t
        simp only [if_true] at t
        rw [w32_of (by omega) (by omega)]
        refine t (fun a b a1 a2 a3 a4 a5 => ?_)
        by_cases q : a = i
        · subst q
          apply Decidable.byContradiction
          intro no
          have := (and_ne (K := K) hS).mpr ⟨b, a2, (K3 b a2).mpr ⟨a3, no⟩, a5⟩
          omega
        · exact hg a b (by omega) a2 a3 a4 a5
      · have hb : S.testBit i = true := by
          cases z : S.testBit i
          · rw [tb_neg z] at c; omega
          · rfl
        obtain ⟨j, j1, j2, j3⟩ := (and_ne (K := K) hS).mp (by omega)
        obtain ⟨j4, j5⟩ := (K3 j j1).mp j2
        exact k2 (fun z => j5 (z i j (by omega) j1 j4 hb j3))
  exact go n 0 (by omega) (fun a b a1 => by omega)
theorem sp_isAhead {G : GG} {h : Hp} {Φ : Int → Hp → Prop} {n S B : Nat} (n12 : n ≤ 12) (hS : S < 2 ^ n) (hB : B < 2 ^ n) (ne : S ≠ B) (hb : h 75 8 = B) (k1 : (Ct S.testBit n < Ct B.testBit n ∨ (Ct S.testBit n = Ct B.testBit n ∧ lex n S.testBit B.testBit)) → Φ 1 h) (k0 : (Ct B.testBit n < Ct S.testBit n ∨ (Ct B.testBit n = Ct S.testBit n ∧ lex n B.testBit S.testBit)) → Φ 0 h) : Call G m_X7_isAhead [rv 75, iv (S : Int)] h Φ := by
  have p12 := pow_le12 n12
  refine Call.of rfl (Nat.le_of_ble_eq_true rfl) rfl (U_X7_isAhead_75_0 ?_)
  rw [hb]
  refine sp_bitCount (by omega) (sp_bitCount (by omega) ?_)
  rw [pcb_12 n12 hS, pcb_12 n12 hB]
  have s0 := Ct_b S.testBit n
  have b0 := Ct_b B.testBit n
  rw [w32_of (z := Ct B.testBit n - Ct S.testBit n) (by omega) (by omega)]
  refine ⟨fun c => k1 (Or.inl (by omega)), fun c => ⟨fun c2 => k0 (Or.inl (by omega)), fun c2 => ?_⟩⟩
  rw [hb]
  rcases ahead_bit n12 hS hB ne with ⟨a1, a2⟩ | ⟨a1, a2⟩
  · exact ⟨fun z => absurd z a1, fun _ => k1 (Or.inr ⟨by omega, a2⟩)⟩
  · exact ⟨fun _ => k0 (Or.inr ⟨by omega, a2⟩), fun z => absurd a1 z⟩
/-- the choice is kept where it is chosen -/
def IPc (h : Hp) : Prop := h 75 7 = 0 ∨ ∃ n B : Nat, h 75 5 = n ∧ B < 2 ^ n ∧ h 75 8 = B ∧ h 75 9 = Wt h B.testBit n ∧ isBest h n B.testBit
theorem sp_choose {G : GG} {h : Hp} {Φ : Int → Hp → Prop} {n : Nat} (hI : IPa h) (hc : IPc h) (hn : h 75 5 = n) (k : ∀ (g : Hp) (B : Nat), FR PQ h g → B < 2 ^ n → g 75 8 = B → g 75 9 = Wt g B.testBit n → isBest g n B.testBit → Φ 0 g) : Call G m_X7_choose [rv 75] h Φ := by
  have n12 : n ≤ 12 := by have := hI.1; omega
  have p12 := pow_le12 n12
  refine Call.of rfl (Nat.le_of_ble_eq_true rfl) rfl (U_X7_choose_75_0 ⟨fun c0 => ?_, fun c0 => ?_⟩)
  · refine sp_findClashes (n := n) hI hn (fun f hf => ?_)
    have fr0 : FR PQ h (row h 80 f) := FR.row FR.rf (fun i => Or.inr rfl)
    have go : ∀ (e x : Nat) (g : Hp) (B : Nat), x + e = 2 ^ n → FR PQ h g → (∀ i, i < n → isCl g n (g 80) i) → B < x → g 75 8 = B → g 75 9 = Wt g B.testBit n → goodS g n B.testBit → (∀ S, S < x → goodS g n S.testBit → better g n B.testBit S.testBit ∨ same n B.testBit S.testBit) → AT G m_X7_choose 24 [(0, rv 75), (1, iv (x : Int))] [] g Φ := by
      intro e
      induction e with
      | zero =>
        intro x g B hx fg gc b1 b2 b3 b4 b5
        have e5 : g 75 5 = n := by rw [fg 75 5 (by simp [PQ])]; exact hn
        have s1 := shl_nat (x := 1) (k := n) (by omega) (by omega)
        rw [Nat.one_mul] at s1
        refine U_X7_choose_75_24 ?_
        rw [e5, show (1 : Int) = ((1 : Nat) : Int) from rfl, s1]
        refine ⟨fun _ => ?_, fun z => absurd z (by omega)⟩
        have f1 : FR PQ g (up g 75 7 ((1 : Nat) : Int)) := FR.up FR.rf (by simp [PQ])
        refine k _ B (FR.trans fg f1) (by omega) (by simp [up]; exact b2) ?_ ?_
        · rw [WtH_cg f1]; simp [up]; exact b3
        · refine isBest_cg f1 ⟨b4, fun c hc => ?_⟩
          have hs : same n (nat c n).testBit c := fun i hi => nat_tb n c i hi
          have hg : goodS g n (nat c n).testBit := fun i j a1 a2 a3 a4 a5 => hc i j a1 a2 a3 (by rw [← hs i a1]; exact a4) (by rw [← hs j a2]; exact a5)
          rcases b5 (nat c n) (by have := nat_lt n c; omega) hg with z | z
          · exact Or.inl (better_cg hs z)
          · exact Or.inr (fun i hi => by rw [z i hi]; exact hs i hi)
      | succ e ih =>
        intro x g B hx fg gc b1 b2 b3 b4 b5
        have e5 : g 75 5 = n := by rw [fg 75 5 (by simp [PQ])]; exact hn
        have s1 := shl_nat (x := 1) (k := n) (by omega) (by omega)
        rw [Nat.one_mul] at s1
        have gI := IPa_cg fg hI
        refine U_X7_choose_75_24 ?_
        rw [e5, show (1 : Int) = ((1 : Nat) : Int) from rfl, s1, show (x : Int) + ((1 : Nat) : Int) = ((x + 1 : Nat) : Int) by omega, w32_of (z := ((x + 1 : Nat) : Int)) (by omega) (by omega)]
        refine ⟨fun z => absurd z (by omega), fun _ => ?_⟩
        -- x is better than what was best
        have new : ∀ r, r = Wt g x.testBit n → goodS g n x.testBit → better g n x.testBit B.testBit → AT G m_X7_choose 24 [(0, rv 75), (1, iv ((x + 1 : Nat) : Int))] [] (up (up g 75 8 x) 75 9 r) Φ := by
          intro r hr hg hb
          have f1 : FR PQ g (up (up g 75 8 x) 75 9 r) := FR.up (FR.up FR.rf (by simp [PQ])) (by simp [PQ])
          refine ih (x + 1) _ x (by omega) (FR.trans fg f1) ?_ (by omega) (by simp [up]) (by rw [WtH_cg f1]; simp [up]; exact hr) ((goodS_cg f1).mpr hg) ?_
          · intro i hi
            obtain ⟨K, K1, K2, K3⟩ := gc i hi
            exact ⟨K, K1, by simp [up]; exact K2, fun j hj => by rw [K3 j hj, apt_cg f1]⟩
          · intro S hS hgS
            by_cases q : S = x
            · subst q; exact Or.inr (fun _ _ => rfl)
            · rw [better_hcg f1]
              rcases b5 S (by omega) ((goodS_cg f1).mp hgS) with z | z
              · exact Or.inl (better_trans hb z)
              · exact Or.inl (better_cg z hb)
        have old : (goodS g n x.testBit → better g n B.testBit x.testBit) → AT G m_X7_choose 24 [(0, rv 75), (1, iv ((x + 1 : Nat) : Int))] [] g Φ := by
          intro hb
          refine ih (x + 1) g B (by omega) fg gc (by omega) b2 b3 b4 (fun S hS hgS => ?_)
          by_cases q : S = x
          · subst q; exact Or.inl (hb hgS)
          · exact b5 S (by omega) hgS
        have w0 := Wt_b (h := g) B.testBit n (fun i a c => by have := (gI.2.2 i a (by omega)).2.2.2; omega)
        have c0 := Ct_b B.testBit n
        refine sp_worthOf gI e5 gc (by omega) (fun hg => ?_) (fun hg => ?_)
        · refine ⟨fun c => new _ rfl hg (Or.inl (by omega)), fun c => ⟨fun c2 => old (fun _ => Or.inl (by omega)), fun c2 => ?_⟩⟩
          refine sp_isAhead n12 (S := x) (B := B) (by omega) (by omega) (by omega) b2 (fun z => ⟨fun y => absurd y (by omega), fun _ => new _ rfl hg (Or.inr ⟨by omega, z⟩)⟩) (fun z => ⟨fun _ => old (fun _ => Or.inr ⟨by omega, z⟩), fun y => absurd rfl y⟩)
        · refine ⟨fun c => absurd c (by omega), fun c => ⟨fun c2 => old (fun z => absurd z hg), fun c2 => absurd c2 (by omega)⟩⟩
    have f1 : FR PQ h (up (up (row h 80 f) 75 8 0) 75 9 0) := FR.up (FR.up fr0 (by simp [PQ])) (by simp [PQ])
    have z0 : ∀ m, Wt (up (up (row h 80 f) 75 8 0) 75 9 0) (Nat.testBit 0) m = 0 := by
      intro m
      induction m with
      | zero => rfl
      | succ m ih => unfold Wt; rw [ih]; simp
    refine go (2 ^ n - 1) 1 _ 0 (by have := Nat.two_pow_pos n; omega) f1 ?_ (by omega) (by simp [up]) (by rw [z0]; simp [up]) (fun i j _ _ _ a => by simp at a) (fun S hS _ => ?_)
    · intro i hi
      obtain ⟨K, K1, K2, K3⟩ := hf i hi
      exact ⟨K, K1, by simp [up, row]; exact K2, fun j hj => by rw [K3 j hj, apt_cg f1]⟩
    · have : S = 0 := by omega
      subst this
      exact Or.inr (fun _ _ => rfl)
  · rcases hc with z | ⟨m, B, a1, a2, a3, a4, a5⟩
    · exact absurd z c0
    · have : m = n := by omega
      subst this
      exact k h B FR.rf a2 a3 a4 a5
