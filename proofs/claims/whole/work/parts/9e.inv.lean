/-! THE INVARIANT of all cells, and what each operation makes of it -/
def DTp (k : Nat) (i : Int) : Prop := k = 2 ∧ i = 1 ∨ k = 3 ∨ k = 85 ∧ i = 3 ∨ k = 86
def DOu (k : Nat) (i : Int) : Prop := k = 1 ∧ i = 3 ∨ k = 11 ∨ k = 85 ∧ i = 7 ∨ k = 88
def DCa (k : Nat) (i : Int) : Prop := k = 12 ∧ i = 1 ∨ k = 13 ∨ k = 85 ∧ i = 9 ∨ k = 89
def DSb (k : Nat) (_ : Int) : Prop := k = 82 ∨ k = 151
def DPa (k : Nat) (i : Int) : Prop := k = 75 ∧ (i = 5 ∨ i = 6) ∨ k = 76 ∨ k = 77 ∨ k = 78 ∨ k = 79 ∨ k = 85 ∧ (i = 102 ∨ i = 103) ∨ k = 147 ∨ k = 148 ∨ k = 149 ∨ k = 150
def DPc (k : Nat) (_ : Int) : Prop := 75 ≤ k ∧ k ≤ 79
def D4 (k : Nat) (i : Int) : Prop := k = 4 ∧ i = 0
def I4 (h : Hp) : Prop := h 4 0 = 30
section
variable {h h' : Hp}
theorem IT_cg (e : ∀ k i, DTp k i → h' k i = h k i) (I : IT h) : IT h' := by
  obtain ⟨a, b, c, d⟩ := I
  have e1 := e 2 1 (by simp [DTp])
  have e2 := e 85 3 (by simp [DTp])
  refine ⟨by omega, by omega, by omega, fun i i0 i1 => ?_⟩
  rw [e 86 i (by simp [DTp]), e 3 i (by simp [DTp])]
  exact d i i0 (by omega)
theorem IO_cg2 (e : ∀ k i, DOu k i → h' k i = h k i) (I : IO h) : IO h' := by
  obtain ⟨a, b, c, d⟩ := I
  have e1 := e 1 3 (by simp [DOu])
  have e2 := e 85 7 (by simp [DOu])
  refine ⟨by omega, by omega, by omega, fun i i0 i1 => ?_⟩
  rw [e 88 i (by simp [DOu]), e 11 i (by simp [DOu])]
  exact d i i0 (by omega)
theorem IC_cg (e : ∀ k i, DCa k i → h' k i = h k i) (I : IC h) : IC h' := by
  obtain ⟨⟨a, b, c⟩, d, f⟩ := I
  have e1 := e 12 1 (by simp [DCa])
  have e2 := e 85 9 (by simp [DCa])
  refine ⟨⟨by omega, by omega, by omega⟩, fun i i0 i1 => ?_, fun i j i0 i1 i2 => ?_⟩
  · rw [e 89 i (by simp [DCa]), e 13 i (by simp [DCa])]
    exact d i i0 (by omega)
  · rw [e 13 i (by simp [DCa]), e 13 j (by simp [DCa])]
    exact f i j i0 i1 (by omega)
theorem ISb_cg (e : ∀ k i, DSb k i → h' k i = h k i) (I : ISb h) : ISb h' := fun i i0 i1 => by
  rw [e 82 i (by simp [DSb]), e 151 i (by simp [DSb])]
  exact I i i0 i1
theorem IPa_cg2 (e : ∀ k i, DPa k i → h' k i = h k i) (I : IPa h) : IPa h' := by
  obtain ⟨a, b, c⟩ := I
  have e1 := e 75 5 (by simp [DPa])
  have e2 := e 75 6 (by simp [DPa])
  have e3 := e 85 102 (by simp [DPa])
  have e4 := e 85 103 (by simp [DPa])
  refine ⟨by omega, by omega, fun i i0 i1 => ?_⟩
  rw [e 76 i (by simp [DPa]), e 77 i (by simp [DPa]), e 78 i (by simp [DPa]), e 79 i (by simp [DPa]), e 147 i (by simp [DPa]), e 148 i (by simp [DPa]), e 149 i (by simp [DPa]), e 150 i (by simp [DPa])]
  exact c i i0 (by omega)
theorem IPc_cg (e : ∀ k i, DPc k i → h' k i = h k i) (I : IPc h) : IPc h' := by
  have q : ∀ (k : Nat) (i : Int), 75 ≤ k → k ≤ 79 → h' k i = h k i := fun k i a b => e k i ⟨a, b⟩
  have ea : ∀ i j : Int, apt h' i j ↔ apt h i j := fun i j => by
    unfold apt
    rw [q 78 i (by omega) (by omega), q 78 j (by omega) (by omega), q 76 i (by omega) (by omega), q 76 j (by omega) (by omega), q 75 6 (by omega) (by omega), q 77 i (by omega) (by omega), q 77 j (by omega) (by omega)]
  have eg : ∀ (n : Nat) (b : Nat → Bool), goodS h' n b ↔ goodS h n b := fun n b => ⟨fun z i j a c d f g => (ea i j).mp (z i j a c d f g), fun z i j a c d f g => (ea i j).mpr (z i j a c d f g)⟩
  have ew : ∀ (b : Nat → Bool) (n : Nat), Wt h' b n = Wt h b n := fun b n => by
    induction n with
    | zero => rfl
    | succ n ih => unfold Wt; rw [ih, q 79 n (by omega) (by omega)]
  rcases I with I | ⟨n, B, i1, i2, i3, i4, i5, i6⟩
  · exact Or.inl (by rw [q 75 7 (by omega) (by omega)]; exact I)
  · refine Or.inr ⟨n, B, by rw [q 75 5 (by omega) (by omega)]; exact i1, i2, by rw [q 75 8 (by omega) (by omega)]; exact i3, by rw [q 75 9 (by omega) (by omega), ew]; exact i4, (eg _ _).mpr i5, fun c z => ?_⟩
    rcases i6 c ((eg _ _).mp z) with r | r
    · left
      unfold better at r ⊢
      rw [ew, ew]; exact r
    · exact Or.inr r
theorem I4_cg (e : ∀ k i, D4 k i → h' k i = h k i) (I : I4 h) : I4 h' := by
  unfold I4
  rw [e 4 0 ⟨rfl, rfl⟩]; exact I
end
def Bnd (n : Nat) (h : Hp) : Prop := h 34 4 ≤ 500 * (n : Int) ∧ h 34 5 ≤ 150003 * (n : Int)
def INV (n : Nat) (h : Hp) : Prop := IT h ∧ IO h ∧ IC h ∧ ISb h ∧ IPa h ∧ IPc h ∧ IP h ∧ IW h ∧ IMo h ∧ IRu h ∧ IRe h ∧ IKi h ∧ ICl h ∧ IEv h ∧ ILn h ∧ IB h ∧ IMn h ∧ IOr h ∧ ID h ∧ IUw h ∧ IFr h ∧ ILk h ∧ IDr h ∧ IKp h ∧ IPi h ∧ ICt h ∧ I4 h ∧ Bnd n h
theorem INV_next {n : Nat} {h : Hp} (I : INV n h) : INV (n + 1) h := by
  obtain ⟨a0, a1, a2, a3, a4, a5, a6, a7, a8, a9, a10, a11, a12, a13, a14, a15, a16, a17, a18, a19, a20, a21, a22, a23, a24, a25, a26, b⟩ := I
  exact ⟨a0, a1, a2, a3, a4, a5, a6, a7, a8, a9, a10, a11, a12, a13, a14, a15, a16, a17, a18, a19, a20, a21, a22, a23, a24, a25, a26, by unfold Bnd at *; omega⟩
theorem INV_mk {n : Nat} {h h' : Hp} {P : Nat → Int → Prop} (f : FR P h h') (I : INV n h) (c0 : (∀ k i, DTp k i → ¬ P k i) ∨ IT h') (c1 : (∀ k i, DOu k i → ¬ P k i) ∨ IO h') (c2 : (∀ k i, DCa k i → ¬ P k i) ∨ IC h') (c3 : (∀ k i, DSb k i → ¬ P k i) ∨ ISb h') (c4 : (∀ k i, DPa k i → ¬ P k i) ∨ IPa h') (c5 : (∀ k i, DPc k i → ¬ P k i) ∨ IPc h') (c6 : (∀ k i, DP k i → ¬ P k i) ∨ IP h') (c7 : (∀ k i, DW k i → ¬ P k i) ∨ IW h') (c8 : (∀ k i, DMo k i → ¬ P k i) ∨ IMo h') (c9 : (∀ k i, DRu k i → ¬ P k i) ∨ IRu h') (c10 : (∀ k i, DRe k i → ¬ P k i) ∨ IRe h') (c11 : (∀ k i, DKi k i → ¬ P k i) ∨ IKi h') (c12 : (∀ k i, DCl k i → ¬ P k i) ∨ ICl h') (c13 : (∀ k i, DEv k i → ¬ P k i) ∨ IEv h') (c14 : (∀ k i, DLn k i → ¬ P k i) ∨ ILn h') (c15 : (∀ k i, DB k i → ¬ P k i) ∨ IB h') (c16 : (∀ k i, DMn k i → ¬ P k i) ∨ IMn h') (c17 : (∀ k i, DOr k i → ¬ P k i) ∨ IOr h') (c18 : (∀ k i, DD k i → ¬ P k i) ∨ ID h') (c19 : (∀ k i, DUw k i → ¬ P k i) ∨ IUw h') (c20 : (∀ k i, DFr k i → ¬ P k i) ∨ IFr h') (c21 : (∀ k i, DLk k i → ¬ P k i) ∨ ILk h') (c22 : (∀ k i, DDr k i → ¬ P k i) ∨ IDr h') (c23 : (∀ k i, DKp k i → ¬ P k i) ∨ IKp h') (c24 : (∀ k i, DPi k i → ¬ P k i) ∨ IPi h') (c25 : (∀ k i, DCt k i → ¬ P k i) ∨ ICt h') (c26 : (∀ k i, D4 k i → ¬ P k i) ∨ I4 h') (cb : (¬ P 34 4 ∧ ¬ P 34 5) ∨ Bnd (n + 1) h') : INV (n + 1) h' := by
  obtain ⟨a0, a1, a2, a3, a4, a5, a6, a7, a8, a9, a10, a11, a12, a13, a14, a15, a16, a17, a18, a19, a20, a21, a22, a23, a24, a25, a26, b⟩ := I
  refine ⟨?_, ?_, ?_, ?_, ?_, ?_, ?_, ?_, ?_, ?_, ?_, ?_, ?_, ?_, ?_, ?_, ?_, ?_, ?_, ?_, ?_, ?_, ?_, ?_, ?_, ?_, ?_, ?_⟩
  · exact c0.elim (fun z => IT_cg (dj f z) a0) id
  · exact c1.elim (fun z => IO_cg2 (dj f z) a1) id
  · exact c2.elim (fun z => IC_cg (dj f z) a2) id
  · exact c3.elim (fun z => ISb_cg (dj f z) a3) id
  · exact c4.elim (fun z => IPa_cg2 (dj f z) a4) id
  · exact c5.elim (fun z => IPc_cg (dj f z) a5) id
  · exact c6.elim (fun z => IP_cg (dj f z) a6) id
  · exact c7.elim (fun z => IW_cg (dj f z) a7) id
  · exact c8.elim (fun z => IMo_cg (dj f z) a8) id
  · exact c9.elim (fun z => IRu_cg (dj f z) a9) id
  · exact c10.elim (fun z => IRe_cg (dj f z) a10) id
  · exact c11.elim (fun z => IKi_cg (dj f z) a11) id
  · exact c12.elim (fun z => ICl_cg (dj f z) a12) id
  · exact c13.elim (fun z => IEv_cg (dj f z) a13) id
  · exact c14.elim (fun z => ILn_cg (dj f z) a14) id
  · exact c15.elim (fun z => IB_cg (dj f z) a15) id
  · exact c16.elim (fun z => IMn_cg (dj f z) a16) id
  · exact c17.elim (fun z => IOr_cg (dj f z) a17) id
  · exact c18.elim (fun z => ID_cg (dj f z) a18) id
  · exact c19.elim (fun z => IUw_cg' (dj f z) a19) id
  · exact c20.elim (fun z => IFr_cg (dj f z) a20) id
  · exact c21.elim (fun z => ILk_cg (dj f z) a21) id
  · exact c22.elim (fun z => IDr_cg (dj f z) a22) id
  · exact c23.elim (fun z => IKp_cg (dj f z) a23) id
  · exact c24.elim (fun z => IPi_cg (dj f z) a24) id
  · exact c25.elim (fun z => ICt_cg (dj f z) a25) id
  · exact c26.elim (fun z => I4_cg (dj f z) a26) id
  · refine cb.elim (fun z => ?_) id
    unfold Bnd at *
    rw [f 34 4 z.1, f 34 5 z.2]
    omega
theorem BOTH_mono {G : GG} {M1 M2 : MD} {as : List AV} {h : Hp} {Ψ Ψ' : Hp → Prop} (a : BOTH G M1 M2 as h Ψ) (i : ∀ h', Ψ h' → Ψ' h') : BOTH G M1 M2 as h Ψ' := Call.mono a (fun _ _ k => Call.mono k (fun _ h2 q => ⟨q.1, i h2 q.2⟩))
def PFl (k : Nat) (_ : Int) : Prop := k = 25 ∨ k = 97
theorem op_flip2 {G : GG} {h : Hp} {a b : Int} (hI : IW h) : BOTH G m_X11_flip m_X12_flip [iv a, iv b] h (fun h' => IW h' ∧ FR PFl h h') := by
  have hN : IW h ∧ FR PFl h h := ⟨hI, FR.rf⟩
  obtain ⟨j0, j1⟩ := id hI
  unfold BOTH
  refine Call.of rfl (Nat.le_of_ble_eq_true rfl) rfl (U_X11_flip_1_0 ?_)
  refine ⟨fun c1 => ?_, fun c1 => ⟨fun c2 => ?_, fun c2 => ⟨fun c3 => ?_, fun c3 => ⟨fun c4 => ?_, fun c4 => ⟨by omega, by omega, by omega, ?_⟩⟩⟩⟩⟩
  any_goals (refine Call.of rfl (Nat.le_of_ble_eq_true rfl) rfl (U_X12_flip_85_0 ?_); (repeat' (first | with_reducible apply And.intro | with_reducible intro _)); all_goals first | rfl | (exfalso; omega) | exact hN.1 | exact hN.2; done)
  obtain ⟨j2, j3⟩ := j1 a (by omega) (by omega)
  have hw : isW (bxor (h 25 a) (bshl 1 b)) := by
    unfold isW at *
    obtain ⟨w, e⟩ : ∃ w : Nat, h 25 a = (w : Int) := ⟨(h 25 a).toNat, (toN j2.1).symm⟩
    obtain ⟨v, rfl⟩ : ∃ v : Nat, b = (v : Int) := ⟨b.toNat, (toN c3).symm⟩
    rw [e] at j2 ⊢
    have hq : 2 ^ v ≤ 2 ^ 12 := Nat.pow_le_pow_right (by omega) (by omega)
    have := shl_nat (x := 1) (k := v) (by omega) (by omega)
    rw [Nat.one_mul] at this
    rw [show (1 : Int) = ((1 : Nat) : Int) from rfl, this, bxor_nat (by omega) (by omega)]
    have := Nat.xor_lt_two_pow (n := 13) (x := w) (y := 2 ^ v) (by omega) (by omega)
    omega
  generalize hz : bxor (h 25 a) (bshl 1 b) = z at *
  refine Call.of rfl (Nat.le_of_ble_eq_true rfl) rfl (U_X12_flip_85_0 ?_)
  refine ⟨fun z => absurd z (by omega), fun _ => ⟨fun z => absurd z (by omega), fun _ => ⟨fun z => absurd z (by omega), fun _ => ⟨fun z => absurd z (by omega), fun _ => ⟨by omega, by omega, by omega, ?_⟩⟩⟩⟩⟩
  have e : up h 25 a z 97 a = h 25 a := by simp [up]; exact j3
  rw [e, hz]
  refine ⟨rfl, ⟨?_, fun i q0 q1 => ?_⟩, FR.up (FR.up FR.rf (by simp [PFl])) (by simp [PFl])⟩
  · simp [up]; exact j0
  · simp only [up]
    by_cases q : i = a
    · subst q; simp; exact hw
    · simp [q]; exact j1 i q0 q1
