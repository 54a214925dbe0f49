/-! what each part of the invariant looks at -/
def DB (k : Nat) (i : Int) : Prop := PB k i
def DP (k : Nat) (i : Int) : Prop := k = 18 ∧ (i = 0 ∨ i = 1 ∨ i = 2 ∨ i = 4) ∨ k = 19 ∨ k = 20 ∨ k = 21 ∨ k = 22 ∨ k = 85 ∧ (i = 18 ∨ i = 19 ∨ i = 20 ∨ i = 21) ∨ k = 93 ∨ k = 94 ∨ k = 95 ∨ k = 96
def DOr (k : Nat) (_ : Int) : Prop := k = 20 ∨ k = 23
def DW (k : Nat) (i : Int) : Prop := k = 24 ∧ (i = 1 ∨ i = 2) ∨ k = 25 ∨ k = 97 ∨ k = 85 ∧ (i = 29 ∨ i = 30)
def DMo (k : Nat) (i : Int) : Prop := k = 34 ∧ i = 6 ∨ k = 35 ∨ k = 85 ∧ i = 23 ∨ k = 124 ∨ k = 125
def DD (k : Nat) (i : Int) : Prop := k = 34 ∧ i = 14 ∨ k = 52 ∨ k = 53 ∨ k = 85 ∧ i = 62 ∨ k = 126 ∨ k = 127
def DRu (k : Nat) (_ : Int) : Prop := k = 50 ∨ k = 51 ∨ k = 116 ∨ k = 117
def DRe (k : Nat) (i : Int) : Prop := k = 26 ∧ i = 3 ∨ k = 27 ∨ k = 28 ∨ k = 29 ∨ k = 85 ∧ i = 72 ∨ k = 133 ∨ k = 134
def DKi (k : Nat) (_ : Int) : Prop := k = 30 ∨ k = 135
def DCl (k : Nat) (i : Int) : Prop := k = 34 ∧ i = 4 ∨ k = 24 ∧ i = 1 ∨ k = 85 ∧ i = 10
def DEv (k : Nat) (i : Int) : Prop := k = 34 ∧ i = 5 ∨ k = 85 ∧ i = 22
def DSk (k : Nat) (i : Int) : Prop := k = 14 ∧ (i = 0 ∨ i = 1 ∨ i = 2 ∨ i = 3 ∨ i = 5) ∨ k = 15 ∨ k = 16 ∨ k = 17 ∨ k = 18 ∧ (i = 2 ∨ i = 3 ∨ i = 4) ∨ k = 34 ∧ i = 4
theorem dj {P D : Nat → Int → Prop} {h h' : Hp} (f : FR P h h') (d : ∀ k i, D k i → ¬ P k i) : ∀ k i, D k i → h' k i = h k i := fun k i q => f k i (d k i q)
section
variable {h h' : Hp}
theorem IB_cg (e : ∀ k i, DB k i → h' k i = h k i) (I : IB h) : IB h' := by
  obtain ⟨a, b, c, d, f⟩ := I
  refine ⟨?_, ?_, ?_, ?_, fun i i0 i1 => ?_⟩
  · rw [e 14 0 (by unfold DB PB; omega), e 85 11 (by unfold DB PB; omega)]; exact a
  · rw [e 14 1 (by unfold DB PB; omega), e 85 12 (by unfold DB PB; omega)]; exact b
  · rw [e 14 2 (by unfold DB PB; omega), e 85 13 (by unfold DB PB; omega)]; exact c
  · rw [e 14 3 (by unfold DB PB; omega), e 85 14 (by unfold DB PB; omega)]; exact d
  · rw [e 15 i (by unfold DB PB; omega), e 16 i (by unfold DB PB; omega), e 17 i (by unfold DB PB; omega), e 90 i (by unfold DB PB; omega), e 91 i (by unfold DB PB; omega), e 92 i (by unfold DB PB; omega)]; exact f i i0 i1
theorem IP_cg (e : ∀ k i, DP k i → h' k i = h k i) (I : IP h) : IP h' := by
  obtain ⟨a, b, c, d, f⟩ := I
  refine ⟨?_, ?_, ?_, ?_, fun i i0 i1 => ?_⟩
  · rw [e 18 0 (by unfold DP; omega), e 85 18 (by unfold DP; omega)]; exact a
  · rw [e 18 1 (by unfold DP; omega), e 85 19 (by unfold DP; omega)]; exact b
  · rw [e 18 2 (by unfold DP; omega), e 85 20 (by unfold DP; omega)]; exact c
  · rw [e 18 4 (by unfold DP; omega), e 85 21 (by unfold DP; omega)]; exact d
  · rw [e 19 i (by unfold DP; omega), e 20 i (by unfold DP; omega), e 21 i (by unfold DP; omega), e 22 i (by unfold DP; omega), e 93 i (by unfold DP; omega), e 94 i (by unfold DP; omega), e 95 i (by unfold DP; omega), e 96 i (by unfold DP; omega)]; exact f i i0 i1
theorem IOr_cg (e : ∀ k i, DOr k i → h' k i = h k i) (I : IOr h) : IOr h' := by
  have e1 : h' 20 = h 20 := by funext i; exact e 20 i (by unfold DOr; omega)
  have e2 : h' 23 = h 23 := by funext i; exact e 23 i (by unfold DOr; omega)
  unfold IOr; rw [e1, e2]; exact I
theorem IW_cg (e : ∀ k i, DW k i → h' k i = h k i) (I : IW h) : IW h' := by
  obtain ⟨⟨a, b⟩, c⟩ := I
  refine ⟨⟨?_, ?_⟩, fun i i0 i1 => ?_⟩
  · rw [e 85 29 (by unfold DW; omega), e 24 1 (by unfold DW; omega)]; exact a
  · rw [e 85 30 (by unfold DW; omega), e 24 2 (by unfold DW; omega)]; exact b
  · rw [e 25 i (by unfold DW; omega), e 97 i (by unfold DW; omega)]; exact c i i0 i1
theorem IMo_cg (e : ∀ k i, DMo k i → h' k i = h k i) (I : IMo h) : IMo h' := by
  obtain ⟨a, b⟩ := I
  refine ⟨?_, fun i i0 i1 => ?_⟩
  · rw [e 34 6 (by unfold DMo; omega), e 85 23 (by unfold DMo; omega)]; exact a
  · rw [e 35 i (by unfold DMo; omega), e 35 (4 + i) (by unfold DMo; omega), e 124 i (by unfold DMo; omega), e 125 i (by unfold DMo; omega)]; exact b i i0 i1
theorem ID_cg (e : ∀ k i, DD k i → h' k i = h k i) (I : ID h) : ID h' := by
  obtain ⟨a, b⟩ := I
  refine ⟨?_, fun i i0 i1 => ?_⟩
  · rw [e 34 14 (by unfold DD; omega), e 85 62 (by unfold DD; omega)]; exact a
  · rw [e 34 14 (by unfold DD; omega)] at i1
    rw [e 52 i (by unfold DD; omega), e 53 i (by unfold DD; omega), e 126 i (by unfold DD; omega), e 127 i (by unfold DD; omega)]; exact b i i0 i1
theorem IRu_cg (e : ∀ k i, DRu k i → h' k i = h k i) (I : IRu h) : IRu h' := fun k a b => by
  unfold RUk
  rw [e 50 k (by unfold DRu; omega), e 51 k (by unfold DRu; omega), e 116 k (by unfold DRu; omega), e 117 k (by unfold DRu; omega)]; exact I k a b
theorem IRe_cg (e : ∀ k i, DRe k i → h' k i = h k i) (I : IRe h) : IRe h' := by
  obtain ⟨l, R⟩ := I
  exact ⟨l, RC_cg (fun k i q => e k i q) R⟩
theorem IKi_cg (e : ∀ k i, DKi k i → h' k i = h k i) (I : IKi h) : IKi h' := fun k a b => by
  rw [e 30 k (by unfold DKi; omega), e 135 k (by unfold DKi; omega)]; exact I k a b
theorem ICl_cg (e : ∀ k i, DCl k i → h' k i = h k i) (I : ICl h) : ICl h' := by
  unfold ICl
  rw [e 34 4 (by unfold DCl; omega), e 24 1 (by unfold DCl; omega), e 85 10 (by unfold DCl; omega)]; exact I
theorem IEv_cg (e : ∀ k i, DEv k i → h' k i = h k i) (I : IEv h) : IEv h' := by
  unfold IEv
  rw [e 34 5 (by unfold DEv; omega), e 85 22 (by unfold DEv; omega)]; exact I
theorem ISk_cg (e : ∀ k i, DSk k i → h' k i = h k i) (I : ISk h) : ISk h' := by
  have s : ∀ s t, sgt h' s t ↔ sgt h s t := fun s t => by
    unfold sgt
    rw [e 14 0 (by unfold DSk; omega), e 14 1 (by unfold DSk; omega), e 15 s (by unfold DSk; omega), e 17 s (by unfold DSk; omega), e 16 s (by unfold DSk; omega)]
  have w : ∀ t, shdI h' t ↔ shdI h t := fun t => by
    unfold shdI
    rw [e 14 0 (by unfold DSk; omega), e 14 1 (by unfold DSk; omega), e 14 2 (by unfold DSk; omega), e 14 3 (by unfold DSk; omega)]
  have v : ∀ t, seenI h' t ↔ seenI h t := fun t => by unfold seenI; rw [s, s, s, s]
  obtain ⟨a, b, c⟩ := I
  refine ⟨?_, ?_, ?_⟩
  · rw [e 18 3 (by unfold DSk; omega), e 34 4 (by unfold DSk; omega), e 18 2 (by unfold DSk; omega), a]
    by_cases q : shdI h (h 34 4)
    · rw [if_pos q, if_pos ((w _).mpr q)]
    · rw [if_neg q, if_neg (fun z => q ((w _).mp z))]
  · rw [e 14 5 (by unfold DSk; omega), e 34 4 (by unfold DSk; omega), b]
    by_cases q : seenI h (h 34 4)
    · rw [if_pos q, if_pos ((v _).mpr q)]
    · rw [if_neg q, if_neg (fun z => q ((v _).mp z))]
  · rw [e 18 4 (by unfold DSk; omega)]; exact c
end
