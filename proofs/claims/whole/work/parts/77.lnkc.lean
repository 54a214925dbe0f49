/-! a frame goes down, both ways -/
theorem bshr8 {c : Nat} (h : c < 65536) : bshr (c : Int) 8 = ((c / 256 : Nat) : Int) := by
  have := bshr_n (x := (c : Int)) 8 (by omega) ⟨by omega, by omega⟩
  rw [show ((8 : Nat) : Int) = 8 from rfl] at this
  rw [this]
  have e : ((2 ^ 8 : Nat) : Int) = 256 := by decide
  rw [e]; omega
theorem sim_frame {G : GG} {h : Hp} (hR : IRe h) (hU : IUw h) (hF : IFr h) (hL : ILk h) :
    ∃ h', CE G m_X4_sendFrame [rv 26] h 0 h' ∧ MZ G m_X12_link 23 [(0, rv 85), (1, iv 255), (2, iv 0)] h 0 h' ∧ IRe h' ∧ IUw h' ∧ IFr h' ∧ ILk h' ∧ FR PSf h h' := by
  obtain ⟨f1, f2, f3⟩ := id hF
  obtain ⟨l1, l2, l3, l4⟩ := id hL
  obtain ⟨A, hA⟩ : ∃ A, A = if h 26 11 < 30 then (h 26 10 + h 26 11) % 30 * 24 else 720 := ⟨_, rfl⟩
  have Ab : 0 ≤ A ∧ A ≤ 720 := by rw [hA]; split <;> omega
  obtain ⟨h1, eh1⟩ : ∃ h1, h1 = up (up (up h 33 A (h 26 12)) 33 (A + 1) (h 26 13)) 33 (A + 2) (h 26 14) := ⟨_, rfl⟩
  have fr1 : ∀ k i, ¬ (k = 33 ∧ A ≤ i ∧ i < A + 24) → h1 k i = h k i := fun k i z => by
    rw [eh1]; unfold up
    rw [if_neg (by omega), if_neg (by omega), if_neg (by omega)]
  have R1 : IRe h1 := by
    obtain ⟨l, R⟩ := hR
    exact ⟨l, RC_cg (fun k i z => fr1 k i (by omega)) R⟩
  have U1 : IUw h1 := IUw_cg (fun k i z => fr1 k i (by omega)) hU
  obtain ⟨h2, x, cz, mr, R2, U2, b2, fr2, xb⟩ := sim_fill (G := G) (F := A + 4) (by omega) 18 0 (by omega) h1 255 R1 U1 (fun b a c => by omega) (Or.inl rfl)
  have q2 : ∀ k i, ¬ (PLk (A + 4) k i ∨ k = 33 ∧ A ≤ i ∧ i < A + 24) → h2 k i = h k i := fun k i z => by
    rw [fr2 k i (fun w => z (Or.inl w)), fr1 k i (fun w => z (Or.inr w))]
  have w10 : h2 26 10 = h 26 10 := q2 26 10 (by simp [PLk])
  have w11 : h2 26 11 = h 26 11 := q2 26 11 (by simp [PLk])
  have w12 : h2 26 12 = h 26 12 := q2 26 12 (by simp [PLk])
  have w13 : h2 26 13 = h 26 13 := q2 26 13 (by simp [PLk])
  have w14 : h2 26 14 = h 26 14 := q2 26 14 (by simp [PLk])
  have w78 : h2 85 78 = h 26 11 := (q2 85 78 (by simp [PLk])).trans f1.1
  have w79 : h2 85 79 = h 26 12 := (q2 85 79 (by simp [PLk])).trans l1.1
  have w80 : h2 85 80 = h 26 14 := (q2 85 80 (by simp [PLk])).trans l3
  have w81 : h2 85 81 = h 26 13 := (q2 85 81 (by simp [PLk])).trans l2.1
  obtain ⟨cn, hcn⟩ : ∃ cn, cn = (h 26 12 + 1) % 256 := ⟨_, rfl⟩
  have cnb : 0 ≤ cn ∧ cn ≤ 255 := by omega
  -- the frame's head
  have a0 : h2 33 A = h 26 12 := by
    rw [fr2 33 A (by simp [PLk]; omega), eh1, up_ni (by omega), up_ni (by omega), up_at]
  have a1 : h2 33 (A + 1) = h 26 13 := by
    rw [fr2 33 _ (by simp only [PLk]; omega), eh1, up_ni (by omega), up_at]
  have a2 : h2 33 (A + 2) = h 26 14 := by
    rw [fr2 33 _ (by simp only [PLk]; omega), eh1, up_at]
  -- both with their heads
  obtain ⟨h3, eh3⟩ : ∃ h3, h3 = up (up (up (up (up (up (up h2 33 (A + 3) x) 26 12 cn) 139 0 (h 26 12)) 139 1 (h 26 13)) 139 2 (h 26 14)) 139 3 x) 85 79 cn := ⟨_, rfl⟩
  have p33 : ∀ i, h3 33 i = if i = A + 3 then x else h2 33 i := fun i => by rw [eh3]; simp [up_ap]
  have p139 : ∀ i, h3 139 i = if i = 0 then h 26 12 else if i = 1 then h 26 13 else if i = 2 then h 26 14 else if i = 3 then x else h2 139 i := fun i => by
    rw [eh3]; simp only [up_ap, Nat.reduceEqDiff, false_and, if_false, true_and]
    by_cases z3 : i = 3
    · subst z3; rfl
    by_cases z2 : i = 2
    · subst z2; rfl
    by_cases z1 : i = 1
    · subst z1; rfl
    by_cases z0 : i = 0
    · subst z0; rfl
    simp only [z0, z1, z2, z3, if_false]
  have same : ∀ i, 0 ≤ i → i < 22 → h3 33 (A + i) = h3 139 i ∧ 0 ≤ h3 139 i ∧ h3 139 i ≤ 255 := fun i i0 i1 => by
    rw [p33, p139]
    by_cases z0 : i = 0
    · subst z0; rw [if_neg (by omega), if_pos rfl, Int.add_zero, a0]; omega
    by_cases z1 : i = 1
    · subst z1; rw [if_neg (by omega), if_neg (by omega), if_pos rfl, a1]; omega
    by_cases z2 : i = 2
    · subst z2; rw [if_neg (by omega), if_neg (by omega), if_neg (by omega), if_pos rfl, a2]; omega
    by_cases z3 : i = 3
    · subst z3; rw [if_pos rfl, if_neg (by omega), if_neg (by omega), if_neg (by omega), if_pos rfl]; omega
    rw [if_neg (by omega), if_neg z0, if_neg z1, if_neg z2, if_neg z3]
    have := b2 (i - 4) (by omega) (by omega)
    have e1 : A + 4 + (i - 4) = A + i := by omega
    have e2 : 4 + (i - 4) = i := by omega
    rw [e1, e2] at this; exact this
  obtain ⟨c, hc⟩ : ∃ c, c = crcN (h3 139) 22 := ⟨_, rfl⟩
  have cl : c < 65536 := by rw [hc]; exact crc_lt 22 (fun i a b => (same i a b).2)
  have cc : crcN (fun i => h3 33 (A + i)) 22 = c := by rw [hc]; exact crc_cg 22 (fun i a b => (same i a b).1)
  have b255 : band (c : Int) 255 = ((c % 256 : Nat) : Int) := by rw [band_255x]; omega
  have cn' : band (h 26 12 + 1) 255 = cn := by rw [band_255x, hcn]
  obtain ⟨h4, eh4⟩ : ∃ h4, h4 = up (up h3 139 22 ((c / 256 : Nat) : Int)) 139 23 ((c % 256 : Nat) : Int) := ⟨_, rfl⟩
  -- the model up to its check
  have mA : ∀ (g : Hp) (Φ : Int → Hp → Prop), ((h 26 11 ≠ 30 → AT G m_X12_link 305 [(0, rv 85), (4, iv 0)] [] (cb g h4) Φ) ∧ (h 26 11 = 30 → Φ 0 (cb g h4))) → AT G m_X12_link 23 [(0, rv 85), (1, iv 255), (2, iv 0)] [] (cb g h) Φ := fun g Φ Q => by
    have e0 : cb g h = cb g h1 := by rw [eh1, cb_um' (by omega), cb_um' (by omega), cb_um' (by omega)]
    rw [e0]
    refine mr g Φ (U_X12_link_85_23 ⟨fun _ => ?_, fun z => absurd z (by omega)⟩)
    have r79 : cb g h2 85 79 = h 26 12 := w79
    have r80 : cb g h2 85 80 = h 26 14 := w80
    have r81 : cb g h2 85 81 = h 26 13 := w81
    rw [r79, r80, r81]
    have e3 : up (up (up (up (up (cb g h2) 139 0 (h 26 12)) 139 1 (h 26 13)) 139 2 (h 26 14)) 139 3 x) 85 79 cn = cb g h3 := by
      rw [eh3, cb_um (by omega), cb_um (by omega), cb_um (by omega), cb_um (by omega), cb_um (by omega), cb_um' (by omega), cb_um' (by omega)]
    have e139 : (up (up (up (up (cb g h2) 139 0 (h 26 12)) 139 1 (h 26 13)) 139 2 (h 26 14)) 139 3 x) 139 = h3 139 := by
      have : (cb g h3) 139 = h3 139 := rfl
      rw [← this, ← e3]; rfl
    refine sp_check (by rw [e139]; exact fun i a b => (same i a b).2) ?_
    rw [e139, ← hc]
    have s78 : up (up (up (up (cb g h2) 139 0 (h 26 12)) 139 1 (h 26 13)) 139 2 (h 26 14)) 139 3 x 85 78 = h 26 11 := w78
    have s79 : up (up (up (up (cb g h2) 139 0 (h 26 12)) 139 1 (h 26 13)) 139 2 (h 26 14)) 139 3 x 85 79 = h 26 12 := w79
    rw [s78, s79, bshr8 cl, b255, w32_of (z := h 26 12 + 1) (by omega) (by omega), cn']
    have e4 : up (up (up (up (up (up (up (cb g h2) 139 0 (h 26 12)) 139 1 (h 26 13)) 139 2 (h 26 14)) 139 3 x) 139 22 ((c / 256 : Nat) : Int)) 139 23 ((c % 256 : Nat) : Int)) 85 79 cn = cb g h4 := by
      rw [eh4, cb_um (by omega), cb_um (by omega), ← e3, up_comm (k := 139) (k' := 85) (by omega), up_comm (k := 139) (k' := 85) (by omega)]
    rw [e4]; exact Q
  have q4 : ∀ k i, ¬ (PLk (A + 4) k i ∨ k = 33 ∧ A ≤ i ∧ i < A + 24 ∨ k = 26 ∧ i = 12 ∨ k = 139 ∨ k = 85 ∧ i = 79) → h4 k i = h k i := fun k i z => by
    rw [eh4, eh3]
    rw [up_ap, if_neg (by omega), up_ap, if_neg (by omega), up_ap, if_neg (by omega), up_ap, if_neg (by omega), up_ap, if_neg (by omega), up_ap, if_neg (by omega), up_ap, if_neg (by omega), up_ap, if_neg (by omega), up_ap, if_neg (by omega)]
    exact q2 k i (fun w => z (by rcases w with w | w; exact Or.inl w; exact Or.inr (Or.inl w)))
  have R4 : IRe h4 := by
    obtain ⟨l, R⟩ := R2
    refine ⟨l, RC_cg (fun k i z => ?_) R⟩
    rw [eh4, eh3]
    rw [up_ap, if_neg (by omega), up_ap, if_neg (by omega), up_ap, if_neg (by omega), up_ap, if_neg (by omega), up_ap, if_neg (by omega), up_ap, if_neg (by omega), up_ap, if_neg (by omega), up_ap, if_neg (by omega), up_ap, if_neg (by omega)]
  have U4 : IUw h4 := by
    refine IUw_cg (fun k i z => ?_) U2
    rw [eh4, eh3]
    rw [up_ap, if_neg (by omega), up_ap, if_neg (by omega), up_ap, if_neg (by omega), up_ap, if_neg (by omega), up_ap, if_neg (by omega), up_ap, if_neg (by omega), up_ap, if_neg (by omega), up_ap, if_neg (by omega), up_ap, if_neg (by omega)]
  have v12 : h4 26 12 = cn := by rw [eh4, eh3]; rfl
  have v79 : h4 85 79 = cn := by rw [eh4, eh3]; rfl
  have v10 : h4 26 10 = h 26 10 := by rw [eh4, eh3]; exact w10
  have v11 : h4 26 11 = h 26 11 := by rw [eh4, eh3]; exact w11
  have v13 : h4 26 13 = h 26 13 := by rw [eh4, eh3]; exact w13
  have v14 : h4 26 14 = h 26 14 := by rw [eh4, eh3]; exact w14
  have v78 : h4 85 78 = h 26 11 := by rw [eh4, eh3]; exact w78
  have v80 : h4 85 80 = h 26 14 := by rw [eh4, eh3]; exact w80
  have v81 : h4 85 81 = h 26 13 := by rw [eh4, eh3]; exact w81
  have p33' : ∀ i, h4 33 i = if i = A + 3 then x else h2 33 i := fun i => by rw [eh4]; exact p33 i
  have c4 : ∀ g, cb h4 g = up (up (cb h2 g) 33 (A + 3) x) 26 12 cn := fun g => by
    rw [eh4, cb_uc' (by omega), cb_uc' (by omega), eh3, cb_uc' (by omega), cb_uc' (by omega), cb_uc' (by omega), cb_uc' (by omega), cb_uc' (by omega), cb_uc (by omega), cb_uc (by omega)]
  have c1 : ∀ g, cb h1 g = up (up (up (cb h g) 33 A (h 26 12)) 33 (A + 1) (h 26 13)) 33 (A + 2) (h 26 14) := fun g => by
    rw [eh1, cb_uc (by omega), cb_uc (by omega), cb_uc (by omega)]
  have r10 : ∀ g, cb h g 26 10 = h 26 10 := fun g => rfl
  have r11 : ∀ g, cb h g 26 11 = h 26 11 := fun g => rfl
  have r12 : ∀ g, cb h g 26 12 = h 26 12 := fun g => rfl
  have r13 : ∀ g, cb h g 26 13 = h 26 13 := fun g => rfl
  have r14 : ∀ g, cb h g 26 14 = h 26 14 := fun g => rfl
  have fil : ∀ (g : Hp) (Φ : Int → Hp → Prop), Φ x (cb h2 g) → Call G m_X4_fillData [rv 26, iv (A + 4)] (up (up (up (cb h g) 33 A (h 26 12)) 33 (A + 1) (h 26 13)) 33 (A + 2) (h 26 14)) Φ := fun g Φ K => by
    rw [← c1]
    exact Call.of rfl (Nat.le_of_ble_eq_true rfl) rfl (U_X4_fillData_26_0 (cz g Φ K))
  by_cases cw : h 26 11 < 30
  · rw [if_pos cw] at hA
    obtain ⟨f, vf1, vf2, mz⟩ := mz_keep (G := G) (h := h4) (w := h 26 11) v78 (by omega)
    obtain ⟨h5, eh5⟩ : ∃ h5, h5 = cb (up (up (up h4 33 (A + 22) ((c / 256 : Nat) : Int)) 33 (A + 23) ((c % 256 : Nat) : Int)) 26 11 (h 26 11 + 1)) (up (row h4 138 f) 85 78 (h 26 11 + 1)) := ⟨_, rfl⟩
    have g33 : ∀ i, h5 33 i = if i = A + 23 then ((c % 256 : Nat) : Int) else if i = A + 22 then ((c / 256 : Nat) : Int) else if i = A + 3 then x else h2 33 i := fun i => by
      rw [eh5, cb_c (by omega), up_nk (by omega), up_same, up_same, p33']
    have g138 : ∀ i, h5 138 i = f i := fun i => by rw [eh5, cb_m (by omega), up_nk (by omega), row_eq]
    have q5 : ∀ k i, ¬ (k = 33 ∨ k = 138 ∨ k = 26 ∧ i = 11 ∨ k = 85 ∧ i = 78) → h5 k i = h4 k i := fun k i z => by
      rw [eh5]; unfold cb
      split
      · rw [up_ap, if_neg (by omega), up_ap, if_neg (by omega), up_ap, if_neg (by omega)]
      · rw [up_ap, if_neg (by omega)]; unfold row; rw [if_neg (by omega)]
    have h139 : ∀ j, 0 ≤ j → j < 24 → h4 139 j = h5 33 (A + j) ∧ 0 ≤ h4 139 j ∧ h4 139 j ≤ 255 := fun j j0 j1 => by
      rw [g33, eh4]
      by_cases z23 : j = 23
      · subst z23; rw [up_at, if_pos rfl]; omega
      by_cases z22 : j = 22
      · subst z22; rw [up_ni (by omega), up_at, if_neg (by omega), if_pos rfl]; omega
      rw [up_ni z23, up_ni z22, if_neg (by omega), if_neg (by omega), ← p33]
      have := same j j0 (by omega)
      exact ⟨this.1.symm, this.2⟩
    refine ⟨h5, fun g Φ K => ?_, fun g Φ K => mA g Φ ⟨fun _ => mz g Φ ?_, fun z => absurd z (by omega)⟩, ?_, ?_, ⟨⟨?_, ?_⟩, ?_, fun j j0 j1 b b0 b1 => ?_⟩, ?_, fun k i z => ?_⟩
    · rw [eh5, cb_l, cb_uc (by omega), cb_uc (by omega), cb_uc (by omega), c4] at K
      refine Call.of rfl (Nat.le_of_ble_eq_true rfl) rfl (U_X4_sendFrame_26_0 ?_)
      rw [r10, r11, r12, r13, r14, w32_of (z := h 26 10 + h 26 11) (by omega) (by omega), Int.tmod_eq_emod_of_nonneg (by omega), w32_of (z := (h 26 10 + h 26 11) % 30 * 24) (by omega) (by omega), ← hA]
      have eA1 : A + 24 - 2 = A + 22 := by omega
      have eA2 : A + 24 - 1 = A + 23 := by omega
      rw [w32_of (z := A + 1) (by omega) (by omega), w32_of (z := A + 2) (by omega) (by omega), w32_of (z := A + 3) (by omega) (by omega), w32_of (z := A + 4) (by omega) (by omega), w32_of (z := A + 24) (by omega) (by omega), w32_of (z := A + 24 - 2) (by omega) (by omega), w32_of (z := A + 24 - 1) (by omega) (by omega), eA1, eA2]
      refine ⟨fun z => absurd z (by omega), fun _ => ⟨by omega, by omega, by omega, fil g _ ⟨by omega, ?_⟩⟩⟩
      have s12 : cb h2 g 26 12 = h 26 12 := w12
      rw [s12, w32_of (z := h 26 12 + 1) (by omega) (by omega), cn', ← c4]
      have s33 : (cb h4 g) 33 = h4 33 := rfl
      refine sp_checkOf (by omega) (fun i a b => ?_) ?_
      · rw [s33, p33', ← p33]; rw [(same i a b).1]; exact (same i a b).2
      · rw [s33]
        have e : (fun i => h4 33 (A + i)) = (fun i => h3 33 (A + i)) := by funext i; rw [p33', p33]
        rw [e, cc, bshr8 cl, b255]
        have s11 : cb h4 g 26 11 = h 26 11 := v11
        rw [s11, w32_of (z := h 26 11 + 1) (by omega) (by omega)]
        rw [← c4] at K
        exact ⟨by omega, by omega, K⟩
    · rw [eh5, cb_r] at K; exact K
    · exact IRe_cg (fun k i z => q5 k i (by unfold DRe at z; omega)) R4
    · exact IUw_cg (fun k i z => q5 k i (by omega)) U4
    · rw [eh5]; rfl
    · have : h5 26 11 = h 26 11 + 1 := by rw [eh5]; rfl
      rw [this]; omega
    · rw [q5 26 10 (by omega), v10]; exact f2
    · have e11 : h5 26 11 = h 26 11 + 1 := by rw [eh5]; rfl
      rw [e11] at j1
      rw [g138, q5 26 10 (by omega), v10]
      by_cases zj : j = h 26 11
      · subst zj
        rw [vf1 b b0 b1]
        have eA : 24 * ((h 26 10 + h 26 11) % 30) + b = A + b := by omega
        rw [eA]
        exact h139 b b0 b1
      · rw [vf2 _ (by omega)]
        have old := f3 j j0 (by omega) b b0 b1
        have e138 : h4 138 (24 * j + b) = h 138 (24 * j + b) := q4 138 _ (by simp [PLk])
        have ne : ¬ (A ≤ 24 * ((h 26 10 + j) % 30) + b ∧ 24 * ((h 26 10 + j) % 30) + b < A + 24) := by omega
        rw [e138, g33, if_neg (by omega), if_neg (by omega), if_neg (by omega), q2 33 _ (by simp [PLk]; omega)]
        exact old
    · refine ⟨⟨?_, ?_⟩, ⟨?_, ?_⟩, ?_, ?_⟩
      · rw [q5 85 79 (by omega), q5 26 12 (by omega), v79, v12]
      · rw [q5 26 12 (by omega), v12]; exact cnb
      · rw [q5 85 81 (by omega), q5 26 13 (by omega), v81, v13]
      · rw [q5 26 13 (by omega), v13]; exact l2.2
      · rw [q5 85 80 (by omega), q5 26 14 (by omega), v80, v14]
      · rw [q5 26 14 (by omega), v14]; exact l4
    · unfold PSf at z
      rw [q5 k i (by omega)]
      exact q4 k i (by unfold PLk; omega)
  · rw [if_neg cw] at hA
    have e30 : h 26 11 = 30 := by omega
    refine ⟨h4, fun g Φ K => ?_, fun g Φ K => mA g Φ ⟨fun z => absurd e30 z, fun _ => K⟩, R4, U4, ⟨⟨?_, ?_⟩, ?_, fun j j0 j1 b b0 b1 => ?_⟩, ?_, fun k i z => ?_⟩
    · rw [c4] at K
      refine Call.of rfl (Nat.le_of_ble_eq_true rfl) rfl (U_X4_sendFrame_26_0 ?_)
      have e720 : (30 * 24 : Int) = A := by omega
      rw [r11, r12, r13, r14, w32_of (z := 30 * 24) (by omega) (by omega), e720]
      refine ⟨fun _ => ?_, fun z => absurd z cw⟩
      rw [w32_of (z := A + 1) (by omega) (by omega), w32_of (z := A + 2) (by omega) (by omega), w32_of (z := A + 3) (by omega) (by omega), w32_of (z := A + 4) (by omega) (by omega)]
      refine ⟨by omega, by omega, by omega, fil g _ ⟨by omega, ?_⟩⟩
      have s12 : cb h2 g 26 12 = h 26 12 := w12
      rw [s12, w32_of (z := h 26 12 + 1) (by omega) (by omega), cn']; exact K
    · rw [v78, v11]
    · rw [v11]; omega
    · rw [v10]; exact f2
    · rw [v11] at j1
      rw [v10]
      have old := f3 j j0 (by omega) b b0 b1
      have e138 : h4 138 (24 * j + b) = h 138 (24 * j + b) := q4 138 _ (by simp [PLk])
      rw [e138, p33', if_neg (by omega), q2 33 _ (by simp [PLk]; omega)]
      exact old
    · refine ⟨⟨by rw [v79, v12], by rw [v12]; exact cnb⟩, ⟨by rw [v81, v13], by rw [v13]; exact l2.2⟩, by rw [v80, v14], by rw [v14]; exact l4⟩
    · unfold PSf at z
      exact q4 k i (by unfold PLk; omega)
