theorem tb_eq (S i : Nat) : S / 2 ^ i % 2 = if S.testBit i then 1 else 0 := by
  rw [Nat.testBit_eq_decide_div_mod_eq]
  by_cases q : S / 2 ^ i % 2 = 1
  · simp [q]
  · have : S / 2 ^ i % 2 = 0 := by omega
    simp [this]
theorem tb_pos {S i : Nat} (h : S.testBit i = true) : S / 2 ^ i % 2 = 1 := by rw [tb_eq, h]; rfl
theorem tb_neg {S i : Nat} (h : S.testBit i = false) : S / 2 ^ i % 2 = 0 := by rw [tb_eq, h]; rfl
abbrev apt (h : Hp) (i j : Int) : Prop := h 78 i + (if h 76 i = h 76 j then 0 else h 75 6) ≤ h 77 j ∨ h 78 j + (if h 76 i = h 76 j then 0 else h 75 6) ≤ h 77 i
theorem apt_sym {h : Hp} {i j : Int} (a : apt h i j) : apt h j i := by
  unfold apt at *
  by_cases q : h 76 i = h 76 j
  · rw [if_pos q] at a; rw [if_pos q.symm]; exact a.symm
  · rw [if_neg q] at a; rw [if_neg (fun z => q z.symm)]; exact a.symm
def goodS (h : Hp) (n : Nat) (b : Nat → Bool) : Prop := ∀ i j : Nat, i < n → j < n → i ≠ j → b i = true → b j = true → apt h i j
def Wt (h : Hp) (b : Nat → Bool) : Nat → Int
  | 0 => 0
  | n + 1 => Wt h b n + (if b n then h 79 n else 0)
def Ct (b : Nat → Bool) : Nat → Int
  | 0 => 0
  | n + 1 => Ct b n + (if b n then 1 else 0)
def lex (n : Nat) (b c : Nat → Bool) : Prop := ∃ i, i < n ∧ b i = true ∧ c i = false ∧ ∀ j, j < i → b j = c j
theorem lex_trans {n : Nat} {b c d : Nat → Bool} (h1 : lex n b c) (h2 : lex n c d) : lex n b d := by
  obtain ⟨i, a1, a2, a3, a4⟩ := h1
  obtain ⟨k, b1, b2, b3, b4⟩ := h2
  rcases Nat.lt_trichotomy i k with q | q | q
  · exact ⟨i, a1, a2, by rw [← b4 i q]; exact a3, fun j z => by rw [a4 j z]; exact b4 j (by omega)⟩
  · subst q; rw [a3] at b2; cases b2
  · exact ⟨k, b1, by rw [a4 k q]; exact b2, b3, fun j z => by rw [a4 j (by omega)]; exact b4 j z⟩
theorem lex_asym {n : Nat} {b c : Nat → Bool} (h1 : lex n b c) (h2 : lex n c b) : False := by
  obtain ⟨i, a1, a2, a3, a4⟩ := lex_trans h1 h2
  rw [a2] at a3; cases a3
def better (h : Hp) (n : Nat) (b c : Nat → Bool) : Prop := Wt h c n < Wt h b n ∨ (Wt h c n = Wt h b n ∧ (Ct b n < Ct c n ∨ (Ct b n = Ct c n ∧ lex n b c)))
theorem better_trans {h : Hp} {n : Nat} {b c d : Nat → Bool} (h1 : better h n b c) (h2 : better h n c d) : better h n b d := by
  unfold better at *
  rcases h1 with a | ⟨a, a2 | ⟨a2, a3⟩⟩ <;> rcases h2 with e | ⟨e, e2 | ⟨e2, e3⟩⟩
  all_goals first | (exact Or.inl (by omega)) | (exact Or.inr ⟨by omega, Or.inl (by omega)⟩) | (exact Or.inr ⟨by omega, Or.inr ⟨by omega, lex_trans a3 e3⟩⟩)
theorem Wt_cg {h : Hp} {b c : Nat → Bool} : ∀ n, (∀ i, i < n → b i = c i) → Wt h b n = Wt h c n
  | 0, _ => rfl
  | n + 1, e => by unfold Wt; rw [Wt_cg n (fun i a => e i (by omega)), e n (by omega)]
theorem Ct_cg {b c : Nat → Bool} : ∀ n, (∀ i, i < n → b i = c i) → Ct b n = Ct c n
  | 0, _ => rfl
  | n + 1, e => by unfold Ct; rw [Ct_cg n (fun i a => e i (by omega)), e n (by omega)]
def same (n : Nat) (b c : Nat → Bool) : Prop := ∀ i, i < n → b i = c i
def isBest (h : Hp) (n : Nat) (b : Nat → Bool) : Prop := goodS h n b ∧ ∀ c, goodS h n c → better h n b c ∨ same n b c
theorem better_asym {h : Hp} {n : Nat} {b c : Nat → Bool} (h1 : better h n b c) (h2 : better h n c b) : False := by
  unfold better at *
  rcases h1 with a | ⟨a, a2 | ⟨a2, a3⟩⟩ <;> rcases h2 with e | ⟨e, e2 | ⟨e2, e3⟩⟩
  all_goals first | omega | exact lex_asym a3 e3
theorem best_uniq {h : Hp} {n : Nat} {b c : Nat → Bool} (h1 : isBest h n b) (h2 : isBest h n c) : same n b c := by
  rcases h1.2 c h2.1 with a | a
  · rcases h2.2 b h1.1 with e | e
    · exact (better_asym a e).elim
    · exact fun i hi => (e i hi).symm
  · exact a
theorem better_cg {h : Hp} {n : Nat} {b c d : Nat → Bool} (e : same n c d) (a : better h n b c) : better h n b d := by
  unfold better at *
  rw [Wt_cg n e, Ct_cg n e] at a
  rcases a with a | ⟨a, a2 | ⟨a2, i, a3, a4, a5, a6⟩⟩
  · exact Or.inl a
  · exact Or.inr ⟨a, Or.inl a2⟩
  · exact Or.inr ⟨a, Or.inr ⟨a2, i, a3, a4, by rw [← e i a3]; exact a5, fun j z => by rw [a6 j z]; exact e j (by omega)⟩⟩
/-- every set has a number -/
def nat (b : Nat → Bool) : Nat → Nat
  | 0 => 0
  | n + 1 => (if b 0 then 1 else 0) + 2 * nat (fun i => b (i + 1)) n
theorem nat_lt : ∀ (n : Nat) (b : Nat → Bool), nat b n < 2 ^ n
  | 0, _ => by simp [nat]
  | n + 1, b => by
    have := nat_lt n (fun i => b (i + 1))
    unfold nat
    rw [Nat.pow_succ]
    split <;> omega
theorem nat_tb : ∀ (n : Nat) (b : Nat → Bool) (i : Nat), i < n → (nat b n).testBit i = b i
  | 0, _, i, h => by omega
  | n + 1, b, 0, h => by
    unfold nat
    rw [Nat.testBit_zero]
    cases b 0 <;> simp <;> omega
  | n + 1, b, i + 1, h => by
    unfold nat
    rw [Nat.testBit_succ]
    have : ((if b 0 = true then 1 else 0) + 2 * nat (fun i => b (i + 1)) n) / 2 = nat (fun i => b (i + 1)) n := by split <;> omega
    rw [this, nat_tb n _ i (by omega)]
theorem nat_lex : ∀ (n a v : Nat), a < v → v < 2 ^ n → ∃ p, p < n ∧ v.testBit p = true ∧ a.testBit p = false ∧ ∀ q, p < q → v.testBit q = a.testBit q
  | 0, a, v, h, k => by omega
  | n + 1, a, v, h, k => by
    rw [Nat.pow_succ] at k
    by_cases q : a / 2 < v / 2
    · obtain ⟨p, p1, p2, p3, p4⟩ := nat_lex n (a / 2) (v / 2) q (by omega)
      refine ⟨p + 1, by omega, by rw [Nat.testBit_succ]; exact p2, by rw [Nat.testBit_succ]; exact p3, fun r hr => ?_⟩
      obtain ⟨s, rfl⟩ : ∃ s, r = s + 1 := ⟨r - 1, by omega⟩
      rw [Nat.testBit_succ, Nat.testBit_succ]
      exact p4 s (by omega)
    · have e : a / 2 = v / 2 := by omega
      refine ⟨0, by omega, ?_, ?_, fun r hr => ?_⟩
      · rw [Nat.testBit_zero]; simp; omega
      · rw [Nat.testBit_zero]; simp; omega
      · obtain ⟨s, rfl⟩ : ∃ s, r = s + 1 := ⟨r - 1, by omega⟩
        rw [Nat.testBit_succ, Nat.testBit_succ, e]
theorem pow_le12 {n : Nat} (h : n ≤ 12) : 2 ^ n ≤ 4096 := (Nat.pow_le_pow_right (by omega) h : 2 ^ n ≤ 2 ^ 12)
theorem pcb_eq (S : Nat) : ∀ n, (pcb S n : Int) = Ct S.testBit n
  | 0 => rfl
  | n + 1 => by
    unfold pcb Ct
    rw [Int.natCast_add, pcb_eq S n, tb_eq]
    split <;> rfl
theorem pcb_top {S n : Nat} (h : S < 2 ^ n) : ∀ d, pcb S (n + d) = pcb S n
  | 0 => rfl
  | d + 1 => by
    show pcb S (n + d) + S / 2 ^ (n + d) % 2 = pcb S n
    rw [pcb_top h d]
    have : S < 2 ^ (n + d) := Nat.lt_of_lt_of_le h (Nat.pow_le_pow_right (by omega) (by omega))
    rw [Nat.div_eq_of_lt this]; rfl
theorem pcb_12 {S n : Nat} (hn : n ≤ 12) (h : S < 2 ^ n) : (pcb S 12 : Int) = Ct S.testBit n := by
  rw [← pcb_eq, ← pcb_top h (12 - n), show n + (12 - n) = 12 by omega]
theorem Ct_b (b : Nat → Bool) : ∀ n, 0 ≤ Ct b n ∧ Ct b n ≤ n
  | 0 => by simp [Ct]
  | n + 1 => by
    have := Ct_b b n
    unfold Ct; split <;> omega
theorem Wt_b {h : Hp} (b : Nat → Bool) : ∀ n : Nat, (∀ i : Int, 0 ≤ i → i < n → 1 ≤ h 79 i ∧ h 79 i ≤ 99) → Ct b n ≤ Wt h b n ∧ Wt h b n ≤ 99 * n
  | 0, _ => by simp [Wt, Ct]
  | n + 1, k => by
    have := Wt_b b n (fun i a c => k i a (by omega))
    have := k n (by omega) (by omega)
    unfold Wt Ct; split <;> omega
/-- of two sets of the same count: ahead where the first that only one has is the set's -/
theorem ahead_bit {S B n : Nat} (hn : n ≤ 12) (hS : S < 2 ^ n) (hB : B < 2 ^ n) (ne : S ≠ B) : (band (band (S : Int) (bxor S B)) (w32 (-(bxor S B))) ≠ 0 ∧ lex n S.testBit B.testBit) ∨ (band (band (S : Int) (bxor S B)) (w32 (-(bxor S B))) = 0 ∧ lex n B.testBit S.testBit) := by
  have p12 := pow_le12 hn
  rw [bxor_nat (by omega) (by omega)]
  have hD : S ^^^ B < 4096 := Nat.xor_lt_two_pow (n := 12) (by omega) (by omega)
  have hDn : S ^^^ B < 2 ^ n := Nat.xor_lt_two_pow hS hB
  have h0 : 0 < S ^^^ B := by
    rcases Nat.eq_zero_or_pos (S ^^^ B) with z | z
    · exact absurd (Nat.eq_of_testBit_eq fun i => by
        have e := congrArg (fun q => Nat.testBit q i) z
        simpa using e) ne
    · exact z
  obtain ⟨p, p1, p2, p3, p4⟩ := low h0 hD
  have hp : 2 ^ p ≤ 2 ^ 11 := Nat.pow_le_pow_right (by omega) (by omega)
  rw [band_assoc, p2, band_nat (by omega) (by omega)]
  have tp : (S ^^^ B).testBit p = true := by rw [Nat.testBit_eq_decide_div_mod_eq]; simp [p4]
  have pn : p < n := by
    rcases Nat.lt_or_ge p n with z | z
    · exact z
    · have : S ^^^ B < 2 ^ p := Nat.lt_of_lt_of_le hDn (Nat.pow_le_pow_right (by omega) z)
      rw [Nat.testBit_lt_two_pow this] at tp; cases tp
  have lo : ∀ j, j < p → S.testBit j = B.testBit j := fun j hj => by
    have : (S ^^^ B).testBit j = false := by
      have e := Nat.testBit_mod_two_pow (S ^^^ B) p j
      rw [p3, Nat.zero_testBit] at e
      simpa [hj] using e.symm
    rw [Nat.testBit_xor] at this
    simpa using this
  rw [Nat.testBit_xor] at tp
  cases hs : S.testBit p
  · rw [hs] at tp
    have hb : B.testBit p = true := by simpa using tp
    refine Or.inr ⟨?_, p, pn, hb, hs, fun j hj => (lo j hj).symm⟩
    have : S &&& 2 ^ p = 0 := Nat.eq_of_testBit_eq fun i => by
      rw [Nat.testBit_and, Nat.testBit_two_pow, Nat.zero_testBit]
      by_cases q : p = i
      · subst q; simp [hs]
      · simp [q]
    rw [this]; rfl
  · rw [hs] at tp
    have hb : B.testBit p = false := by simpa using tp
    refine Or.inl ⟨?_, p, pn, hs, hb, lo⟩
    intro z
    have z2 : S &&& 2 ^ p = 0 := by omega
    have e := congrArg (fun q => Nat.testBit q p) z2
    simp [hs] at e
