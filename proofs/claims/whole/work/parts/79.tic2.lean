def P1 (k : Nat) (i : Int) : Prop := k = 14 ∧ (i = 4 ∨ i = 5) ∨ k = 18 ∧ (i = 1 ∨ i = 3 ∨ i = 4) ∨ k = 21 ∨ k = 22 ∨ k = 24 ∧ (i = 1 ∨ i = 2) ∨ k = 25 ∨ k = 34 ∧ (i = 4 ∨ i = 5) ∨ k = 85 ∧ (i = 10 ∨ i = 19 ∨ i = 21 ∨ i = 22 ∨ i = 29 ∨ i = 30) ∨ k = 95 ∨ k = 96 ∨ k = 97
theorem p1_v {k : Nat} {i : Int} (z : PSv k i) : P1 k i := by
  unfold PSv at z; unfold P1
  rcases z with ⟨rfl, rfl | rfl | rfl⟩ | rfl | rfl | ⟨rfl, rfl | rfl | rfl⟩ | rfl | rfl <;> simp
theorem p1_m {k : Nat} {i : Int} (z : PMe k i) : P1 k i := by
  unfold PMe at z; unfold P1
  rcases z with ⟨rfl, rfl | rfl⟩ | rfl | rfl | ⟨rfl, rfl | rfl | rfl⟩ <;> simp
theorem p1_k {k : Nat} {i : Int} (z : P1 k i) : PTk k i := by
  unfold P1 at z; unfold PTk
  rcases z with ⟨rfl, rfl | rfl⟩ | ⟨rfl, rfl | rfl | rfl⟩ | rfl | rfl | ⟨rfl, rfl | rfl⟩ | rfl | ⟨rfl, rfl | rfl⟩ | ⟨rfl, rfl | rfl | rfl | rfl | rfl | rfl⟩ | rfl | rfl | rfl <;> simp
theorem p1_e {k : Nat} {i : Int} (z : k = 34 ∧ i = 5) : P1 k i := by unfold P1; rcases z with ⟨rfl, rfl⟩; simp
theorem p1_s {k : Nat} {i : Int} (z : k = 34 ∧ i = 4 ∨ k = 85 ∧ i = 10 ∨ k = 14 ∧ (i = 4 ∨ i = 5)) : P1 k i := by unfold P1; rcases z with ⟨rfl, rfl⟩ | ⟨rfl, rfl⟩ | ⟨rfl, rfl | rfl⟩ <;> simp
theorem dj_n1 {k : Nat} {i : Int} (d : DMn k i) (n : ¬ (k = 34 ∧ i = 4)) : ¬ P1 k i := by
  intro b; unfold P1 at b; unfold DMn at d
  rcases d with d | rfl | rfl | rfl | rfl | rfl | rfl | rfl | ⟨rfl | rfl | rfl, _⟩ | rfl | rfl | rfl | rfl | rfl
  · exact n d
  all_goals simp at b
set_option maxHeartbeats 8000000 in
theorem sim_second {G : GG} {h : Hp} {x1 x2 : Int} (hx : x2 < x1) (hxb : 0 ≤ x2 ∧ x1 ≤ 500) (T : TS h) (hc : h 34 4 ≤ 999999) (he : h 34 5 ≤ 900000000) :
    ∃ h', CE G m_X0_doSecond [rv 34] h 0 h' ∧ MR G m_X12_tick 15 [(0, rv 85), (1, iv x1), (2, iv x2)] h 15 [(0, rv 85), (1, iv x1), (2, iv (x2 + 1))] h' ∧ TS h' ∧ FR PTk h h' ∧ h' 34 4 = h 34 4 + 1 ∧ (h 34 5 ≤ h' 34 5 ∧ h' 34 5 ≤ h 34 5 + 300) := by
  obtain ⟨M, hE, hL, hB, hMn, hRE⟩ := id T
  obtain ⟨hP, hW, hMo, hR, hRe, hKi, hCl⟩ := id M
  obtain ⟨hOr, hD, hU, hF, hLk⟩ := id hRE
  obtain ⟨e1, e2⟩ := id hE
  obtain ⟨k1, k2, k3⟩ := id hCl
  have nb4 : -2147483648 ≤ h 34 4 + 1 ∧ h 34 4 + 1 ≤ 2147483647 := by omega
  have nt4 : 0 ≤ h 34 4 + 1 ∧ h 34 4 + 1 ≤ 1000000 := by omega
  have nbx : -2147483648 ≤ x2 + 1 ∧ x2 + 1 ≤ 2147483647 := by omega
  -- the sky
  obtain ⟨h1, eh1⟩ : ∃ h1, h1 = up (up (up (up h 34 4 (h 34 4 + 1)) 85 10 (h 34 4 + 1)) 14 4 (if shdI h (h 34 4 + 1) then 1 else 0)) 14 5 (if seenI h (h 34 4 + 1) then 1 else 0) := ⟨_, rfl⟩
  have f1 : FR (fun k i => k = 34 ∧ i = 4 ∨ k = 85 ∧ i = 10 ∨ k = 14 ∧ (i = 4 ∨ i = 5)) h h1 := by
    rw [eh1]; exact (((FR.rf.up (by omega)).up (by omega)).up (by omega)).up (by omega)
  have c1 : ∀ g, cb h1 g = up (up (up (cb h g) 34 4 (h 34 4 + 1)) 14 4 (if shdI h (h 34 4 + 1) then 1 else 0)) 14 5 (if seenI h (h 34 4 + 1) then 1 else 0) := fun g => by
    rw [eh1, cb_uc (by decide), cb_uc (by decide), cb_uc' (by decide), cb_uc (by decide)]
  have m1 : ∀ g, cb g h1 = up (cb g h) 85 10 (h 34 4 + 1) := fun g => by
    rw [eh1, cb_um' (by decide), cb_um' (by decide), cb_um (by decide), cb_um' (by decide)]
  have v4 : h1 34 4 = h 34 4 + 1 := by rw [eh1]; rfl
  have v10 : h1 85 10 = h 34 4 + 1 := by rw [eh1]; rfl
  have v22 : h1 85 22 = h 34 5 := (f1 85 22 (by omega)).trans e1
  have v5 : h1 34 5 = h 34 5 := f1 34 5 (by omega)
  have P_1 : IP h1 := IP_cg (dj f1 (by unfold DP; omega)) hP
  have O_1 : IOr h1 := IOr_cg (dj f1 (by unfold DOr; omega)) hOr
  have B_1 : IB h1 := IB_cg (dj f1 (by unfold DB PB; omega)) hB
  have z_1 : h1 14 4 = if shdI h1 (h1 34 4) then 1 else 0 := by rw [v4, eh1]; rfl
  have n_1 : h1 14 5 = if seenI h1 (h1 34 4) then 1 else 0 := by rw [v4, eh1]; rfl
  -- serving
  obtain ⟨h2, r, ce2, me2, P_2, f2, ev2, s2, u2⟩ := sim_serve (G := G) P_1 O_1 B_1 (by rw [v10, v4]) (by rw [v4]; omega) (by rw [v22]; omega) z_1
  rw [v22] at ev2
  have nbr : -2147483648 ≤ h 34 5 + r ∧ h 34 5 + r ≤ 2147483647 := by omega
  have nbr1 : -2147483648 ≤ h 34 5 + r + 1 ∧ h 34 5 + r + 1 ≤ 2147483647 := by omega
  have w4 : h2 34 4 = h 34 4 + 1 := by rw [f2 34 4 (by unfold PSv; omega), v4]
  have w10 : h2 85 10 = h 34 4 + 1 := by rw [f2 85 10 (by unfold PSv; omega), v10]
  have S_2 : ISk h2 := by
    have S0 : ISk (up (up h1 18 3 (h2 18 3)) 18 4 (h2 18 4)) := ⟨s2, n_1, u2⟩
    refine ISk_cg (fun k i d => ?_) S0
    unfold up
    by_cases z4 : k = 18 ∧ i = 4
    · rw [if_pos z4, z4.1, z4.2]
    · rw [if_neg z4]
      by_cases z3 : k = 18 ∧ i = 3
      · rw [if_pos z3, z3.1, z3.2]
      · rw [if_neg z3]; exact f2 k i (by clear s2 n_1 z_1; unfold DSk at d; unfold PSv; omega)
  clear s2 n_1 z_1
  -- its events
  obtain ⟨h3, eh3⟩ : ∃ h3, h3 = up h2 34 5 (h 34 5 + r) := ⟨_, rfl⟩
  have f3 : FR (fun k i => k = 34 ∧ i = 5) h2 h3 := by rw [eh3]; exact FR.rf.up (by omega)
  have F13 : FR P1 h h3 := fun k i z => by
    rw [f3 k i (fun w => z (p1_e w)), f2 k i (fun w => z (p1_v w)), f1 k i (fun w => z (p1_s w))]
  have W_3 : IW h3 := by
    refine IW_cg (fun k i d => ?_) hW
    rw [f3 k i (by unfold DW at d; omega), f2 k i (by unfold DW at d; unfold PSv; omega), f1 k i (by unfold DW at d; omega)]
  have x22 : h3 85 22 = h 34 5 + r := by rw [f3 85 22 (by omega), ev2.1]
  have x5 : h3 34 5 = h 34 5 + r := by rw [eh3, up_at]
  have x4 : h3 34 4 = h 34 4 + 1 := by rw [f3 34 4 (by omega), w4]
  have x10 : h3 85 10 = h 34 4 + 1 := by rw [f3 85 10 (by omega), w10]
  have x24 : h3 24 1 = h 24 1 := by rw [f3 24 1 (by omega), f2 24 1 (by unfold PSv; omega), f1 24 1 (by omega)]
  -- mending
  obtain ⟨h4, r2, ce4, me4, W_4, f4, rr, ev4, md⟩ := sim_mend (G := G) W_3 (by rw [x10, x4]) (by rw [x4]; omega) (by rw [x22]; omega)
  rw [x22] at ev4
  rw [x24] at md
  have y5 : h4 34 5 = h 34 5 + r := by rw [f4 34 5 (by unfold PMe; omega), x5]
  have y4 : h4 34 4 = h 34 4 + 1 := by rw [f4 34 4 (by unfold PMe; omega), x4]
  have y10 : h4 85 10 = h 34 4 + 1 := by rw [f4 85 10 (by unfold PMe; omega), x10]
  obtain ⟨h5, eh5⟩ : ∃ h5, h5 = up h4 34 5 (h 34 5 + r + r2) := ⟨_, rfl⟩
  have f5 : FR (fun k i => k = 34 ∧ i = 5) h4 h5 := by rw [eh5]; exact FR.rf.up (by omega)
  have F15 : FR P1 h h5 := fun k i z => by
    rw [f5 k i (fun w => z (p1_e w)), f4 k i (fun w => z (p1_m w))]; exact F13 k i z
  have z5 : h5 34 5 = h 34 5 + r + r2 := by rw [eh5, up_at]
  have z22 : h5 85 22 = h 34 5 + r + r2 := by rw [f5 85 22 (by omega), ev4]
  have z4 : h5 34 4 = h 34 4 + 1 := by rw [f5 34 4 (by omega), y4]
  have z10 : h5 85 10 = h 34 4 + 1 := by rw [f5 85 10 (by omega), y10]
  have z24 : 0 ≤ h5 24 1 ∧ h5 24 1 ≤ h 34 4 + 1 := by
    rw [f5 24 1 (by omega)]
    rcases md with md | md
    · rw [md]; omega
    · rw [md, w32_of (z := h 24 1 + 1) (by omega) (by omega)]; omega
  clear md
  have P_5 : IP h5 := by
    refine IP_cg (fun k i d => ?_) P_2
    rw [f5 k i (by unfold DP at d; omega), f4 k i (by unfold DP at d; unfold PMe; omega), f3 k i (by unfold DP at d; omega)]
  have S_5 : ISk h5 := by
    refine ISk_cg (fun k i d => ?_) S_2
    rw [f5 k i (by unfold DSk at d; omega), f4 k i (by unfold DSk at d; unfold PMe; omega), f3 k i (by unfold DSk at d; omega)]
  have W_5 : IW h5 := IW_cg (dj f5 (by unfold DW; omega)) W_4
  have Mo_5 : IMo h5 := IMo_cg (dj F15 (by unfold DMo P1; omega)) hMo
  have D_5 : ID h5 := ID_cg (dj F15 (by unfold DD P1; omega)) hD
  have Ru_5 : IRu h5 := IRu_cg (dj F15 (by unfold DRu P1; omega)) hR
  have Re_5 : IRe h5 := IRe_cg (dj F15 (by unfold DRe P1; omega)) hRe
  have Ki_5 : IKi h5 := IKi_cg (dj F15 (by unfold DKi P1; omega)) hKi
  have B_5 : IB h5 := IB_cg (dj F15 (by unfold DB PB P1; omega)) hB
  have Ln_5 : ILn h5 := ILn_cg (dj F15 (by unfold DLn P1; omega)) hL
  have Mn_5 : IMn h5 := IMn_ck (fun k i d n => F15 k i (dj_n1 d n)) (by rw [z4]; omega) hMn
  have Or_5 : IOr h5 := IOr_cg (dj F15 (by unfold DOr P1; omega)) hOr
  have Uw_5 : IUw h5 := IUw_cg' (dj F15 (by unfold DUw P1; omega)) hU
  have Fr_5 : IFr h5 := IFr_cg (dj F15 (by unfold DFr P1; omega)) hF
  have Lk_5 : ILk h5 := ILk_cg (dj F15 (by unfold DLk P1; omega)) hLk
  -- the due starts
  obtain ⟨h6, ce6, me6, D_6, Ru_6, f6⟩ := sim_starts (G := G) D_5 Ru_5 (by rw [z10, z4])
  have u4 : h6 34 4 = h 34 4 + 1 := by rw [f6 34 4 (by unfold PSt; omega), z4]
  have u5 : h6 34 5 = h 34 5 + r + r2 := by rw [f6 34 5 (by unfold PSt; omega), z5]
  have Cl_6 : ICl h6 := by
    refine ⟨?_, ?_, ?_⟩
    · rw [f6 85 10 (by unfold PSt; omega), z10, u4]
    · rw [u4]; omega
    · rw [f6 24 1 (by unfold PSt; omega), u4]; exact z24
  have Ev_6 : IEv h6 := ⟨by rw [f6 85 22 (by unfold PSt; omega), z22, u5], by rw [u5]; omega⟩
  have T_6 : TL h6 := ⟨⟨IP_cg (dj f6 (by unfold DP PSt; omega)) P_5, IW_cg (dj f6 (by unfold DW PSt; omega)) W_5, IMo_cg (dj f6 (by unfold DMo PSt; omega)) Mo_5, Ru_6, IRe_cg (dj f6 (by unfold DRe PSt; omega)) Re_5, IKi_cg (dj f6 (by unfold DKi PSt; omega)) Ki_5, Cl_6⟩, Ev_6, ILn_cg (dj f6 (by unfold DLn PSt; omega)) Ln_5, IB_cg (dj f6 (by unfold DB PB PSt; omega)) B_5, ISk_cg (dj f6 (by unfold DSk PSt; omega)) S_5⟩
  have Mn_6 : IMn h6 := IMn_cg (dj f6 (by unfold DMn PSt; omega)) Mn_5
  have RE_6 : RE h6 := ⟨IOr_cg (dj f6 (by unfold DOr PSt; omega)) Or_5, D_6, IUw_cg' (dj f6 (by unfold DUw PSt; omega)) Uw_5, IFr_cg (dj f6 (by unfold DFr PSt; omega)) Fr_5, ILk_cg (dj f6 (by unfold DLk PSt; omega)) Lk_5⟩
  -- programs, monitors
  obtain ⟨h7, cr7, mr7, T_7, Mn_7, f7, ev7⟩ := sim_goes8 (G := G) (x1 := x1) (x2 := x2) 8 0 (by omega) h6 T_6 Mn_6 (by rw [u5]; omega)
  obtain ⟨h8, cr8, mr8, T_8, Mn_8, f8, ev8⟩ := sim_watch8 (G := G) 8 0 (by omega) h7 T_7 Mn_7 (by omega)
  have f78 : FR PWa h6 h8 := (f7.mono (fun _ _ z => Or.inl z)).trans f8
  have RE_8 : RE h8 := RE_w f78 RE_6
  have F8 : FR PTk h h8 := fun k i z => by
    rw [f78 k i (fun w => z (ptk_w w)), f6 k i (fun w => z (ptk_s w))]; exact F15 k i (fun w => z (p1_k w))
  have t4 : h8 34 4 = h 34 4 + 1 := by rw [f78 34 4 (by simp [PWa, PPf]), u4]
  -- the class and the model up to the link
  have CC : ∀ (g : Hp) (Φ : Int → Hp → Prop), AT G m_X0_doSecond 96 [(0, rv 34), (1, iv 8)] [] (cb h8 g) Φ → Call G m_X0_doSecond [rv 34] (cb h g) Φ := fun g Φ K => by
    refine Call.of rfl (Nat.le_of_ble_eq_true rfl) rfl (U_X0_doSecond_34_0 ?_)
    have q4 : cb h g 34 4 = h 34 4 := rfl
    rw [q4, w32_of (z := h 34 4 + 1) nb4.1 nb4.2]
    have q1 := ce_look (G := G) (h := up h 34 4 (h 34 4 + 1)) (t := h 34 4 + 1) hB.c nt4 g
    rw [cb_uc (by decide), cb_uc (by decide), cb_uc (by decide)] at q1
    refine q1 _ ?_
    have q1' : up (up (up (cb h g) 34 4 (h 34 4 + 1)) 14 4 (if shdI (up h 34 4 (h 34 4 + 1)) (h 34 4 + 1) then 1 else 0)) 14 5 (if seenI (up h 34 4 (h 34 4 + 1)) (h 34 4 + 1) then 1 else 0) = cb h1 g := (c1 g).symm
    rw [q1']
    have q14 : cb h1 g 14 4 = h1 14 4 := rfl
    have q5 : cb h1 g 34 5 = h 34 5 := v5
    rw [q14, q5]
    refine ce2 g _ ?_
    have q24 : cb h2 g 34 4 = h3 34 4 := by rw [x4]; exact w4
    rw [q24, w32_of (z := h 34 5 + r) nbr.1 nbr.2, ← cb_uc (by decide), ← eh3]
    refine ce4 g _ ?_
    have q45 : cb h4 g 34 5 = h 34 5 + r := y5
    rw [q45]
    have fin : Call G m_X0_beginDue [rv 34] (cb h5 g) (fun _ h8 => AT G m_X0_doSecond 77 [(0, rv 34), (1, iv 0)] [] h8 Φ) := ce6 g _ (cr7 g Φ (U_X0_doSecond_34_77 ⟨fun _ => cr8 g Φ K, fun z => absurd z (by omega)⟩))
    rcases rr with rr | rr
    · rw [rr] at eh5
      have e : h5 = h4 := by rw [eh5, up_id]; omega
      rw [e] at fin
      exact ⟨fun _ => fin, fun z => absurd rr z⟩
    · refine ⟨fun z => absurd z (by omega), fun _ => ?_⟩
      rw [rr] at eh5
      rw [w32_of (z := h 34 5 + r + 1) nbr1.1 nbr1.2, ← cb_uc (by decide), ← eh5]
      exact fin
  have MM : ∀ (g : Hp) (Φ : Int → Hp → Prop), Call G m_X12_link [rv 85] (cb g h8) (fun _ h4 => AT G m_X12_tick 15 [(0, rv 85), (1, iv x1), (2, iv (x2 + 1))] [] h4 Φ) → AT G m_X12_tick 15 [(0, rv 85), (1, iv x1), (2, iv x2)] [] (cb g h) Φ := fun g Φ K => by
    refine U_X12_tick_85_15 ⟨fun z => absurd z (by omega), fun _ => ?_⟩
    have q10 : cb g h 85 10 = h 34 4 := k1
    rw [q10, w32_of (z := h 34 4 + 1) nb4.1 nb4.2, ← m1]
    refine me2 g _ ?_
    have q3 : cb g h2 = cb g h3 := by rw [eh3, cb_um' (by decide)]
    rw [q3]
    refine me4 g _ ?_
    have q5 : cb g h4 = cb g h5 := by rw [eh5, cb_um' (by decide)]
    rw [q5]
    refine me6 g _ (mr7 g Φ (U_X12_tick_85_44 ⟨fun _ => ?_, fun z => absurd z (by omega)⟩))
    refine Call.of rfl (Nat.le_of_ble_eq_true rfl) rfl (U_X12_watch_85_0 (mr8 g _ (U_X12_watch_85_2 ⟨fun _ => ?_, fun z => absurd z (by omega)⟩)))
    rw [w32_of (z := x2 + 1) nbx.1 nbx.2]
    exact K
  obtain ⟨M_8, Ev_8, Ln_8, B_8, S_8⟩ := id T_8
  have sv := M_8.1.2.2.2.2 0 (by omega) (by omega)
  have q22 : ∀ g, cb h8 g 22 0 = h8 22 0 := fun g => rfl
  have q96 : ∀ g, cb g h8 96 0 = h8 22 0 := fun g => sv.2.2.2.2
  have q145 : ∀ g, cb h8 g 14 5 = h8 14 5 := fun g => rfl
  have seenq : ∀ (g : Hp) (Φ : Int → Hp → Prop), Φ (h8 14 5) (cb g h8) → Call G m_X12_isSeen [rv 85] (cb g h8) Φ := fun g Φ K => by
    refine sp_isSeenM (h := cb g h8) (t := h8 34 4) (IBm_cb B_8.m) M_8.2.2.2.2.2.2.1 M_8.2.2.2.2.2.2.2.1 ?_
    have z : seenM (cb g h8) (h8 34 4) ↔ seenI h8 (h8 34 4) := seen_eq B_8
    have e : (if seenM (cb g h8) (h8 34 4) then (1 : Int) else 0) = h8 14 5 := by
      rw [S_8.2.1]
      by_cases q : seenI h8 (h8 34 4)
      · rw [if_pos (z.mpr q), if_pos q]
      · rw [if_neg (fun w => q (z.mp w)), if_neg q]
    rw [e]; exact K
  by_cases c22 : h8 22 0 = 0
  · refine ⟨h8, fun g Φ K => CC g Φ (U_X0_doSecond_34_96 ⟨fun _ => ⟨fun _ => K, fun z => absurd c22 z⟩, fun z => absurd z (by omega)⟩), fun g Φ K => MM g Φ ?_, ⟨M_8, Ev_8, Ln_8, B_8, Mn_8, RE_8⟩, F8, t4, by omega⟩
    refine Call.of rfl (Nat.le_of_ble_eq_true rfl) rfl (U_X12_link_85_0 ?_)
    rw [q96]
    exact ⟨fun _ => K, fun z => absurd c22 z⟩
  by_cases c145 : h8 14 5 = 0
  · refine ⟨h8, fun g Φ K => CC g Φ (U_X0_doSecond_34_96 ⟨fun _ => ⟨fun _ => K, fun _ => ⟨fun _ => K, fun z => absurd c145 z⟩⟩, fun z => absurd z (by omega)⟩), fun g Φ K => MM g Φ ?_, ⟨M_8, Ev_8, Ln_8, B_8, Mn_8, RE_8⟩, F8, t4, by omega⟩
    refine Call.of rfl (Nat.le_of_ble_eq_true rfl) rfl (U_X12_link_85_0 ?_)
    rw [q96]
    exact ⟨fun z => absurd z c22, fun _ => seenq g _ ⟨fun z => absurd c145 z, fun _ => K⟩⟩
  · obtain ⟨Or_8, D_8, Uw_8, Fr_8, Lk_8⟩ := id RE_8
    obtain ⟨h9, ce9, mz9, Re_9, Uw_9, Fr_9, Lk_9, f9⟩ := sim_frame (G := G) M_8.2.2.2.2.1 Uw_8 Fr_8 Lk_8
    refine ⟨h9, fun g Φ K => CC g Φ (U_X0_doSecond_34_96 ⟨fun _ => ⟨fun z => absurd z c22, fun _ => ⟨fun z => absurd z c145, fun _ => ce9 g _ K⟩⟩, fun z => absurd z (by omega)⟩), fun g Φ K => MM g Φ ?_, ⟨⟨IP_cg (dj f9 (by unfold DP PSf; omega)) M_8.1, IW_cg (dj f9 (by unfold DW PSf; omega)) M_8.2.1, IMo_cg (dj f9 (by unfold DMo PSf; omega)) M_8.2.2.1, IRu_cg (dj f9 (by unfold DRu PSf; omega)) M_8.2.2.2.1, Re_9, IKi_cg (dj f9 (by unfold DKi PSf; omega)) M_8.2.2.2.2.2.1, ICl_cg (dj f9 (by unfold DCl PSf; omega)) M_8.2.2.2.2.2.2⟩, IEv_cg (dj f9 (by unfold DEv PSf; omega)) Ev_8, ILn_cg (dj f9 (by unfold DLn PSf; omega)) Ln_8, IB_cg (dj f9 (by unfold DB PB PSf; omega)) B_8, IMn_cg (dj f9 (by unfold DMn PSf; omega)) Mn_8, IOr_cg (dj f9 (by unfold DOr PSf; omega)) Or_8, ID_cg (dj f9 (by unfold DD PSf; omega)) D_8, Uw_9, Fr_9, Lk_9⟩, fun k i z => ?_, ?_, ?_⟩
    · refine Call.of rfl (Nat.le_of_ble_eq_true rfl) rfl (U_X12_link_85_0 ?_)
      rw [q96]
      exact ⟨fun z => absurd z c22, fun _ => seenq g _ ⟨fun _ => mz9 g _ K, fun z => absurd z c145⟩⟩
    · rw [f9 k i (fun w => z (ptk_f w))]; exact F8 k i z
    · rw [f9 34 4 (by unfold PSf; omega), t4]
    · rw [f9 34 5 (by unfold PSf; omega)]; omega
