/-! TEXTS: conditions, lines -/
def LNT (G : GG) (r1 : Int) (h2 : Hp) (Φ : Int → Hp → Prop) : Prop := (((r1 = 0 ∨ r1 = 1) → Call G m_X12_behind [rv 85, iv 0, iv 7] (up h2 103 240 r1) (fun r3 h4 => Φ 0 (up h4 104 240 r3))) ∧ ((r1 = 2) → Call G m_X12_behind [rv 85, iv 1, iv 9999] (up h2 103 240 r1) (fun r5 h6 => Φ 0 (up h6 105 240 r5))) ∧ ((r1 = 3) → Call G m_X12_need [rv 85, iv 32] (up h2 103 240 r1) (fun _ h8 => Call G m_X12_condition [rv 85, iv 240] h8 (fun _ h10 => Φ 0 h10))) ∧ ((r1 = 4) → Call G m_X12_need [rv 85, iv 32] (up h2 103 240 r1) (fun _ h12 => Call G m_X12_condition [rv 85, iv 240] h12 (fun _ h14 => Call G m_X12_need [rv 85, iv 32] h14 (fun _ h16 => Call G m_X12_wordOf [rv 85, rv 102] h16 (fun r17 h18 => Call G m_X12_behind [rv 85, iv 0, iv 29] h18 (fun r19 h20 => Φ 0 (up h20 105 240 r19))))))) ∧ ((r1 = 5) → Call G m_X12_behind [rv 85, iv 0, iv 29] (up h2 103 240 r1) (fun r21 h22 => Φ 0 (up h22 105 240 r21))) ∧ ((r1 = 6 ∨ r1 = 7) → Call G m_X12_need [rv 85, iv 32] (up h2 103 240 r1) (fun _ h24 => Call G m_X12_wordOf [rv 85, rv 101] h24 (fun r25 h26 => Call G m_X12_behind [rv 85, iv 0, iv 255] (up h26 104 240 r25) (fun r27 h28 => Φ 0 (up h28 105 240 r27))))) ∧ ((r1 = 8) → Call G m_X12_behind [rv 85, iv 0, iv 15] (up h2 103 240 r1) (fun r29 h30 => Φ 0 (up h30 105 240 r29))) ∧ ((r1 = 9) → Call G m_X12_behind [rv 85, iv 0, iv 3] (up h2 103 240 r1) (fun r31 h32 => Φ 0 (up h32 105 240 r31))) ∧ ((r1 = 10 ∨ r1 = 11) → Call G m_X12_behind [rv 85, iv 0, iv 7] (up h2 103 240 r1) (fun r33 h34 => Φ 0 (up h34 104 240 r33))) ∧ (((r1 < 0 ∨ 11 < r1)) → Φ 0 (up h2 103 240 r1)))
def cs1 (b : Int → Int) (s : PS) : PS := skp b 32 (tol b 16 17 s).1
def cs3 (b : Int → Int) (s : PS) : PS := skp b 32 (cmp b (cs1 b s))
def cnI (b : Int → Int) (s : PS) : PS × Int := itg b (-99999) 99999 (cs3 b s)
def LRt (F : T5) (M : T6) : Prop := LR F.1 F.2.1 F.2.2.1 F.2.2.2.1 F.2.2.2.2 M.1 M.2.1 M.2.2.1 M.2.2.2.1 M.2.2.2.2.1 M.2.2.2.2.2
section
variable {G : GG} {b : Int → Int} {n x lo hi v : Int} {h : Hp} {s : PS} {Φ : Int → Hp → Prop} {F : T5} {M : T6}
theorem cs1_v (T : TX b n) (S : SV n s) : SV n (cs1 b s) := skp_v T (by decide) (tol_v T S)
theorem cs3_v (T : TX b n) (S : SV n s) : SV n (cs3 b s) := skp_v T (by decide) (cmp_v T (cs1_v T S))
theorem cnI_v (T : TX b n) (S : SV n s) : SV n (cnI b s).1 := itg_v T (cs3_v T S)
/-- the fields of a condition that was read -/
def fcC (b : Int → Int) (s : PS) (F : T5) : T5 := (F.1, (tol b 16 17 s).2, b (cs1 b s).1, cvl (-99999) (cnI b s), F.2.2.2.2)
def fcM (b : Int → Int) (s : PS) (M : T6) : T6 := (M.1, M.2.1, M.2.2.1, (mwo b 100 17 s).2, b (cs1 b s).1, (cnI b s).2)
theorem c_cond (T : TX b n) (C : TXc h b n) (S : SV n s) (hx : 0 ≤ x ∧ x < 30) (K : Φ 0 (sT (ln5 h x (fcC b s F)) (cnI b s).1)) : Call G m_X3_readCondition [rv 4, rv 2, iv x] (sT (ln5 h x F) s) Φ := by
  refine Call.of rfl (Nat.le_of_ble_eq_true rfl) rfl (U_X3_readCondition_4_2_0 (c_told (d := 17) T C.l S ⟨by omega, by omega⟩ (by omega) ⟨hx, ?_⟩))
  rw [sT_u (by decide), ln5_6]
  refine c_skip T C.l (tol_v T S) (c_compare T C.l (cs1_v T S) ⟨hx, ?_⟩)
  rw [sT_u (by decide), ln5_7]
  refine c_skip T C.l (cmp_v T (cs1_v T S)) (c_integer T C.l (cs3_v T S) ⟨hx, ?_⟩)
  rw [sT_u (by decide), ln5_8]
  exact K
theorem m_cond (T : TX b n) (C : TXm h b n) (S : SV n s) (K : Φ 0 (sM (ln6 h 240 (fcM b s M)) (cnI b s).1)) : Call G m_X12_condition [rv 85, iv 240] (sM (ln6 h 240 M) s) Φ := by
  have t1 := T.1
  have S1 := cs1_v T S
  obtain ⟨⟨p0, p1⟩, p2⟩ := id S1
  have hx : 0 ≤ (240 : Int) ∧ (240 : Int) < 260 := by omega
  have rw1 := (rel_w (b := b) wr_100 S).1
  refine Call.of rfl (Nat.le_of_ble_eq_true rfl) rfl (U_X12_condition_85_0 (m_wordOf100 T C.l S ⟨hx, ?_⟩))
  rw [sM_u (by decide), ln6_106, rw1]
  refine m_need T C.l (tol_v T S) (m_here T C.l p0 ⟨hx, ?_⟩)
  have fin : Call G m_X12_need [rv 85, iv 32] (sM (ln6 h 240 (M.1, M.2.1, M.2.2.1, (mwo b 100 17 s).2, b (cs1 b s).1, M.2.2.2.2.2)) (cmp b (cs1 b s))) (fun _ h8 => Call G m_X12_whole [rv 85, iv 1, iv (-99999), iv 99999] h8 (fun r9 h10 => (0 ≤ (240 : Int) ∧ (240 : Int) < 260) ∧ Φ 0 (up h10 108 240 r9))) := by
    refine m_need T C.l (cmp_v T S1) (m_whole1 T C.l (cs3_v T S) ⟨hx, ?_⟩)
    rw [sM_u (by decide), ln6_108]
    exact K
  have ec : skp b 32 (tol b 16 17 s).1 = cs1 b s := rfl
  simp only [ec, sM_w, sM_a]
  have e1 : ∀ H : Hp, ∀ w, up (up (sM H (cs1 b s)) 107 240 (b (cs1 b s).1)) 85 5 w = sM (up H 107 240 (b (cs1 b s).1)) (w, (cs1 b s).2) := fun H w => by rw [sM_u (by decide), sM_1]
  have e2 : ∀ H : Hp, ∀ w, up (up (up (sM H (cs1 b s)) 107 240 (b (cs1 b s).1)) 85 6 (cs1 b s).1) 85 5 w = sM (up H 107 240 (b (cs1 b s).1)) (w, (cs1 b s).1) := fun H w => by rw [sM_u (by decide), sM_2, sM_1]
  have yes : (cs1 b s).2 < 0 → (b (cs1 b s).1 = 61 ∨ b (cs1 b s).1 = 60 ∨ b (cs1 b s).1 = 62) → cmp b (cs1 b s) = (w32 ((cs1 b s).1 + 1), (cs1 b s).2) := fun z y => by
    have z : (cs1 b s).2 = -1 := by omega
    unfold cmp
    rw [if_pos z, if_pos y, w32_of (by omega) (by omega), z]
  have no : (cs1 b s).2 < 0 → ¬ (b (cs1 b s).1 = 61 ∨ b (cs1 b s).1 = 60 ∨ b (cs1 b s).1 = 62) → cmp b (cs1 b s) = (w32 ((cs1 b s).1 + 0), (cs1 b s).1) := fun z y => by
    have z : (cs1 b s).2 = -1 := by omega
    unfold cmp
    rw [if_pos z, if_neg y, w32_of (by omega) (by omega), Int.add_zero]
  have bad : 0 ≤ (cs1 b s).2 → cmp b (cs1 b s) = (w32 ((cs1 b s).1 + 0), (cs1 b s).2) := fun z => by
    rw [cmp_w (by omega), w32_of (by omega) (by omega), Int.add_zero]
  refine ⟨fun z => ⟨hx, fun y => ⟨fun _ => ?_, fun u => absurd u (by omega)⟩, fun y => ⟨hx, fun x => ⟨fun _ => ?_, fun u => absurd u (by omega)⟩, fun x => ⟨hx, fun t => ⟨fun _ => ?_, fun u => absurd u (by omega)⟩, fun t => ⟨fun u => absurd u (by omega), fun _ => ⟨fun u => absurd u (by omega), fun _ => ?_⟩⟩⟩⟩⟩, fun z => ⟨fun u => absurd u (by omega), fun _ => ?_⟩⟩
  · rw [yes z (Or.inl y)] at fin
    show Call G m_X12_need [rv 85, iv 32] (up (up (sM _ (cs1 b s)) 107 240 (b (cs1 b s).1)) 85 5 _) _
    rw [e1, ln6_107]; exact fin
  · rw [yes z (Or.inr (Or.inl x))] at fin
    show Call G m_X12_need [rv 85, iv 32] (up (up (sM _ (cs1 b s)) 107 240 (b (cs1 b s).1)) 85 5 _) _
    rw [e1, ln6_107]; exact fin
  · rw [yes z (Or.inr (Or.inr t))] at fin
    show Call G m_X12_need [rv 85, iv 32] (up (up (sM _ (cs1 b s)) 107 240 (b (cs1 b s).1)) 85 5 _) _
    rw [e1, ln6_107]; exact fin
  · rw [no z (fun o => by rcases o with o | o | o; exact y o; exact x o; exact t o)] at fin
    show Call G m_X12_need [rv 85, iv 32] (up (up (up (sM _ (cs1 b s)) 107 240 (b (cs1 b s).1)) 85 6 (cs1 b s).1) 85 5 _) _
    rw [e2, ln6_107]; exact fin
  · rw [bad z] at fin
    show Call G m_X12_need [rv 85, iv 32] (up (up (sM _ (cs1 b s)) 107 240 (b (cs1 b s).1)) 85 5 _) _
    rw [e1, ln6_107]; exact fin
/-- a right condition -/
theorem cnd_ok (T : TX b n) (S : SV n s) (z : (cnI b s).1.2 = -1) : CND (tol b 16 17 s).2 (b (cs1 b s).1) (cvl (-99999) (cnI b s)) (mwo b 100 17 s).2 (b (cs1 b s).1) (cnI b s).2 := by
  have z3 : (cs3 b s).2 = -1 := by
    false_or_by_contra
    rename_i y
    unfold cnI at z
    rw [itg_w y] at z
    exact y z
  have z2 : (cmp b (cs1 b s)).2 = -1 := by
    false_or_by_contra
    rename_i y
    unfold cs3 at z3
    rw [skp_w y] at z3
    exact y z3
  have z1 : (cs1 b s).2 = -1 := by
    false_or_by_contra
    rename_i y
    rw [cmp_w y] at z2
    exact y z2
  have z0 : (tol b 16 17 s).1.2 = -1 := by
    false_or_by_contra
    rename_i y
    unfold cs1 at z1
    rw [skp_w y] at z1
    exact y z1
  have r := (rel_w (b := b) wr_100 S).2.1 z0
  have sg : b (cs1 b s).1 = 61 ∨ b (cs1 b s).1 = 60 ∨ b (cs1 b s).1 = 62 := by
    false_or_by_contra
    rename_i y
    unfold cmp at z2
    rw [if_pos z1, if_neg y] at z2
    have z2 : (cs1 b s).1 = -1 := z2
    have := (cs1_v T S).1
    omega
  have r2 : (mwo b 100 17 s).2 = (tol b 16 17 s).2 - 16 := r.2
  refine ⟨by omega, by omega, rfl, by omega, ?_⟩
  rw [cvl_r z]
theorem cn_w (z : s.2 ≠ -1) : (cnI b s).1 = s := by
  unfold cnI cs3 cs1
  rw [tol_w z, skp_w z, cmp_w z, skp_w z, itg_w z]
/-- the class's rest of a line: a number -/
theorem c_restN (T : TX b n) (C : TXc h b n) (S : SV n s) (hx : 0 ≤ x ∧ x < 30) (hv : (v = 1 ∧ lo = 1 ∧ hi = 9999) ∨ ((v = 6 ∨ v = 7 ∨ v = 12 ∨ v = 13 ∨ v = 15) ∧ lo = 0 ∧ hi = 7) ∨ (v = 10 ∧ lo = 0 ∧ hi = 15) ∨ (v = 11 ∧ lo = 0 ∧ hi = 3)) (K : Φ 0 (sT (ln5 h x (v, F.2.1, F.2.2.1, cvl lo (num b lo hi (skp b 32 s)), F.2.2.2.2)) (num b lo hi (skp b 32 s)).1)) : Call G m_X3_readRest [rv 4, rv 2, iv x, iv v] (sT (ln5 h x F) s) Φ := by
  have S1 := skp_v (c := 32) T (by decide) S
  have fin : Call G m_X10_number [rv 2, iv lo, iv hi] (sT (ln5 h x (v, F.2.1, F.2.2.1, F.2.2.2.1, F.2.2.2.2)) (skp b 32 s)) (fun r h => (0 ≤ x ∧ x < 30) ∧ Φ 0 (up h 8 x r)) := by
    refine c_number T C.l S1 ⟨hx, ?_⟩
    rw [sT_u (by decide), ln5_8]
    exact K
  refine Call.of rfl (Nat.le_of_ble_eq_true rfl) rfl (U_X3_readRest_4_2_0 ⟨hx, fun z => ?_, fun z => absurd z (by omega)⟩)
  rw [sT_u (by decide), ln5_5]
  refine c_skip T C.l S ⟨fun y => absurd y (by omega), fun y => absurd y (by omega), fun y => absurd y (by omega), fun y => absurd y (by omega), fun _ => ⟨fun y => ?_, fun y => ?_⟩⟩
  · have e : lo = 0 := by omega
    rw [e] at fin
    refine Call.of rfl (Nat.le_of_ble_eq_true rfl) rfl (U_X3_greatest_0 ⟨fun t => absurd t y, fun t => ?_, fun t => ?_, fun t => ?_, fun t => ?_⟩)
    · have e : hi = 7 := by omega
      rw [e] at fin; exact fin
    · have e : hi = 15 := by omega
      rw [e] at fin; exact fin
    · have e : hi = 3 := by omega
      rw [e] at fin; exact fin
    · have e : hi = 7 := by omega
      rw [e] at fin; exact fin
  · have e : lo = 1 := by omega
    have e2 : hi = 9999 := by omega
    rw [e, e2] at fin
    refine Call.of rfl (Nat.le_of_ble_eq_true rfl) rfl (U_X3_greatest_0 ⟨fun _ => fin, fun t => absurd t (by omega), fun t => absurd t (by omega), fun t => absurd t (by omega), fun t => absurd t (by omega)⟩)
theorem c_restG (T : TX b n) (C : TXc h b n) (S : SV n s) (hx : 0 ≤ x ∧ x < 30) (K : Φ 0 (sT (ln5 h x (4, F.2.1, F.2.2.1, F.2.2.2.1, cvl 0 (num b 0 29 (skp b 32 s)))) (num b 0 29 (skp b 32 s)).1)) : Call G m_X3_readRest [rv 4, rv 2, iv x, iv 4] (sT (ln5 h x F) s) Φ := by
  have S1 := skp_v (c := 32) T (by decide) S
  refine Call.of rfl (Nat.le_of_ble_eq_true rfl) rfl (U_X3_readRest_4_2_0 ⟨hx, fun z => ?_, fun z => absurd z (by omega)⟩)
  rw [sT_u (by decide), ln5_5]
  refine c_skip T C.l S ⟨fun y => absurd y (by omega), fun y => absurd y (by omega), fun _ => c_number T C.l S1 ⟨hx, ?_⟩, fun y => absurd y (by omega), fun y => absurd y (by omega)⟩
  rw [sT_u (by decide), ln5_9]
  exact K
theorem c_restE (hx : 0 ≤ x ∧ x < 30) (K : Φ 0 (sT (ln5 h x (5, F.2.1, F.2.2.1, F.2.2.2.1, F.2.2.2.2)) s)) : Call G m_X3_readRest [rv 4, rv 2, iv x, iv 5] (sT (ln5 h x F) s) Φ := by
  refine Call.of rfl (Nat.le_of_ble_eq_true rfl) rfl (U_X3_readRest_4_2_0 ⟨hx, fun z => absurd rfl z, fun _ => ?_⟩)
  rw [sT_u (by decide), ln5_5]
  exact K
def stT (b : Int → Int) (s : PS) : PS × Int := tol b 25 8 (skp b 32 s)
def stN (b : Int → Int) (s : PS) : PS × Int := num b 0 255 (skp b 32 (stT b s).1)
theorem stT_v (T : TX b n) (S : SV n s) : SV n (stT b s).1 := tol_v T (skp_v T (by decide) S)
theorem stN_v (T : TX b n) (S : SV n s) : SV n (stN b s).1 := num_v T (skp_v T (by decide) (stT_v T S))
theorem c_restS (T : TX b n) (C : TXc h b n) (S : SV n s) (hx : 0 ≤ x ∧ x < 30) (hv : v = 8 ∨ v = 9) (K : Φ 0 (sT (ln5 h x (v, (stT b s).2, F.2.2.1, cvl 0 (stN b s), F.2.2.2.2)) (stN b s).1)) : Call G m_X3_readRest [rv 4, rv 2, iv x, iv v] (sT (ln5 h x F) s) Φ := by
  have S1 := skp_v (c := 32) T (by decide) S
  refine Call.of rfl (Nat.le_of_ble_eq_true rfl) rfl (U_X3_readRest_4_2_0 ⟨hx, fun z => ?_, fun z => absurd z (by omega)⟩)
  rw [sT_u (by decide), ln5_5]
  refine c_skip T C.l S ⟨fun y => absurd y (by omega), fun y => absurd y (by omega), fun y => absurd y (by omega), fun _ => c_told (d := 8) T C.l S1 ⟨by omega, by omega⟩ (by omega) ⟨hx, ?_⟩, fun y => absurd y (by omega)⟩
  rw [sT_u (by decide), ln5_6]
  refine c_skip T C.l (stT_v T S) (c_number T C.l (skp_v T (by decide) (stT_v T S)) ⟨hx, ?_⟩)
  rw [sT_u (by decide), ln5_8]
  exact K
theorem c_restU (T : TX b n) (C : TXc h b n) (S : SV n s) (hx : 0 ≤ x ∧ x < 30) (K : Φ 0 (sT (ln5 h x (fcC b (skp b 32 s) (2, F.2.1, F.2.2.1, F.2.2.2.1, F.2.2.2.2))) (cnI b (skp b 32 s)).1)) : Call G m_X3_readRest [rv 4, rv 2, iv x, iv 2] (sT (ln5 h x F) s) Φ := by
  have S1 := skp_v (c := 32) T (by decide) S
  refine Call.of rfl (Nat.le_of_ble_eq_true rfl) rfl (U_X3_readRest_4_2_0 ⟨hx, fun z => ?_, fun z => absurd z (by omega)⟩)
  rw [sT_u (by decide), ln5_5]
  exact c_skip T C.l S ⟨fun _ => c_cond T C S1 hx K, fun y => absurd y (by omega), fun y => absurd y (by omega), fun y => absurd y (by omega), fun y => absurd y (by omega)⟩
def ifG (b : Int → Int) (s : PS) : PS × Int := tol b 4 1 (skp b 32 (cnI b (skp b 32 s)).1)
def ifN (b : Int → Int) (s : PS) : PS × Int := num b 0 29 (skp b 32 (ifG b s).1)
theorem ifG_v (T : TX b n) (S : SV n s) : SV n (ifG b s).1 := tol_v T (skp_v T (by decide) (cnI_v T (skp_v T (by decide) S)))
theorem ifN_v (T : TX b n) (S : SV n s) : SV n (ifN b s).1 := num_v T (skp_v T (by decide) (ifG_v T S))
theorem c_restI (T : TX b n) (C : TXc h b n) (S : SV n s) (hx : 0 ≤ x ∧ x < 30) (K : Φ 0 (sT (ln5 h x (3, (tol b 16 17 (skp b 32 s)).2, b (cs1 b (skp b 32 s)).1, cvl (-99999) (cnI b (skp b 32 s)), cvl 0 (ifN b s))) (ifN b s).1)) : Call G m_X3_readRest [rv 4, rv 2, iv x, iv 3] (sT (ln5 h x F) s) Φ := by
  have S1 := skp_v (c := 32) T (by decide) S
  have S2 := cnI_v T S1
  have S3 := skp_v (c := 32) T (by decide) S2
  refine Call.of rfl (Nat.le_of_ble_eq_true rfl) rfl (U_X3_readRest_4_2_0 ⟨hx, fun z => ?_, fun z => absurd z (by omega)⟩)
  rw [sT_u (by decide), ln5_5]
  refine c_skip T C.l S ⟨fun y => absurd y (by omega), fun _ => c_cond T C S1 hx ?_, fun y => absurd y (by omega), fun y => absurd y (by omega), fun y => absurd y (by omega)⟩
  refine c_skip T C.l S2 (c_told (d := 1) T C.l S3 ⟨by omega, by omega⟩ (by omega) ?_)
  refine c_skip T C.l (ifG_v T S) (c_number T C.l (skp_v T (by decide) (ifG_v T S)) ⟨hx, ?_⟩)
  rw [sT_u (by decide), ln5_9]
  exact K
/-- class and model read the rest of a line behind its verb -/
def RSM (G : GG) (b : Int → Int) (n x : Int) (s s' : PS) (c m : Int) (fc : T5 → T5) (fm : T6 → T6) : Prop :=
  (∀ (h : Hp) (F : T5) (Φ : Int → Hp → Prop), TXc h b n → Φ 0 (sT (ln5 h x (fc F)) s') → Call G m_X3_readRest [rv 4, rv 2, iv x, iv c] (sT (ln5 h x F) s) Φ) ∧
  (∀ (h : Hp) (M : T6) (Φ : Int → Hp → Prop), TXm h b n → Φ 0 (sM (ln6 h 240 (fm M)) s') → LNT G m (sM (ln6 h 240 M) s) Φ)
theorem sr_1 (T : TX b n) (S : SV n s) (hx : 0 ≤ x ∧ x < 30) : ∃ (s' : PS) (fc : T5 → T5) (fm : T6 → T6), SV n s' ∧ (s'.2 = -1 → ∀ F M, LRt (fc F) (fm M)) ∧ (∀ F, (fc F).1 = 1) ∧ RSM G b n x s s' 1 2 fc fm := by
  refine ⟨(num b 1 9999 (skp b 32 s)).1, fun F => (1, F.2.1, F.2.2.1, cvl 1 (num b 1 9999 (skp b 32 s)), F.2.2.2.2), fun M => (2, M.2.1, (num b 1 9999 (skp b 32 s)).2, M.2.2.2.1, M.2.2.2.2.1, M.2.2.2.2.2), num_v T (skp_v T (by decide) S), fun z F M => ?_, fun _ => rfl, fun h F Φ C K => c_restN (lo := 1) (hi := 9999) T C S hx (by omega) K, fun h M Φ C K => ?_⟩
  · have q := num_r (skp_v (c := 32) T (by decide) S) z
    have e : cvl 1 (num b 1 9999 (skp b 32 s)) = (num b 1 9999 (skp b 32 s)).2 := cvl_r z
    show LR 1 F.2.1 F.2.2.1 (cvl 1 (num b 1 9999 (skp b 32 s))) F.2.2.2.2 2 M.2.1 (num b 1 9999 (skp b 32 s)).2 M.2.2.2.1 M.2.2.2.2.1 M.2.2.2.2.2
    rw [e]
    exact Or.inl ⟨rfl, rfl, rfl, q.1, q.2⟩
  · refine ⟨fun y => absurd y (by decide), fun _ => ?_, fun y => absurd y (by decide), fun y => absurd y (by decide), fun y => absurd y (by decide), fun y => absurd y (by decide), fun y => absurd y (by decide), fun y => absurd y (by decide), fun y => absurd y (by decide), fun y => absurd y (by decide)⟩
    rw [sM_u (by decide), ln6_103]
    refine m_behind T C.l S ?_
    rw [sM_u (by decide), ln6_105]
    exact K
theorem sr_6 (T : TX b n) (S : SV n s) (hx : 0 ≤ x ∧ x < 30) : ∃ (s' : PS) (fc : T5 → T5) (fm : T6 → T6), SV n s' ∧ (s'.2 = -1 → ∀ F M, LRt (fc F) (fm M)) ∧ (∀ F, (fc F).1 = 6) ∧ RSM G b n x s s' 6 0 fc fm := by
  refine ⟨(num b 0 7 (skp b 32 s)).1, fun F => (6, F.2.1, F.2.2.1, cvl 0 (num b 0 7 (skp b 32 s)), F.2.2.2.2), fun M => (0, (num b 0 7 (skp b 32 s)).2, M.2.2.1, M.2.2.2.1, M.2.2.2.2.1, M.2.2.2.2.2), num_v T (skp_v T (by decide) S), fun z F M => ?_, fun _ => rfl, fun h F Φ C K => c_restN (lo := 0) (hi := 7) T C S hx (by omega) K, fun h M Φ C K => ?_⟩
  · have q := num_r (skp_v (c := 32) T (by decide) S) z
    have e : cvl 0 (num b 0 7 (skp b 32 s)) = (num b 0 7 (skp b 32 s)).2 := cvl_r z
    show LR 6 F.2.1 F.2.2.1 (cvl 0 (num b 0 7 (skp b 32 s))) F.2.2.2.2 0 (num b 0 7 (skp b 32 s)).2 M.2.2.1 M.2.2.2.1 M.2.2.2.2.1 M.2.2.2.2.2
    rw [e]
    exact Or.inr (Or.inr (Or.inr (Or.inr (Or.inr (Or.inl ⟨rfl, rfl, rfl, q.1, q.2⟩)))))
  · refine ⟨fun _ => ?_, fun y => absurd y (by decide), fun y => absurd y (by decide), fun y => absurd y (by decide), fun y => absurd y (by decide), fun y => absurd y (by decide), fun y => absurd y (by decide), fun y => absurd y (by decide), fun y => absurd y (by decide), fun y => absurd y (by decide)⟩
    rw [sM_u (by decide), ln6_103]
    refine m_behind T C.l S ?_
    rw [sM_u (by decide), ln6_104]
    exact K
theorem sr_7 (T : TX b n) (S : SV n s) (hx : 0 ≤ x ∧ x < 30) : ∃ (s' : PS) (fc : T5 → T5) (fm : T6 → T6), SV n s' ∧ (s'.2 = -1 → ∀ F M, LRt (fc F) (fm M)) ∧ (∀ F, (fc F).1 = 7) ∧ RSM G b n x s s' 7 1 fc fm := by
  refine ⟨(num b 0 7 (skp b 32 s)).1, fun F => (7, F.2.1, F.2.2.1, cvl 0 (num b 0 7 (skp b 32 s)), F.2.2.2.2), fun M => (1, (num b 0 7 (skp b 32 s)).2, M.2.2.1, M.2.2.2.1, M.2.2.2.2.1, M.2.2.2.2.2), num_v T (skp_v T (by decide) S), fun z F M => ?_, fun _ => rfl, fun h F Φ C K => c_restN (lo := 0) (hi := 7) T C S hx (by omega) K, fun h M Φ C K => ?_⟩
  · have q := num_r (skp_v (c := 32) T (by decide) S) z
    have e : cvl 0 (num b 0 7 (skp b 32 s)) = (num b 0 7 (skp b 32 s)).2 := cvl_r z
    show LR 7 F.2.1 F.2.2.1 (cvl 0 (num b 0 7 (skp b 32 s))) F.2.2.2.2 1 (num b 0 7 (skp b 32 s)).2 M.2.2.1 M.2.2.2.1 M.2.2.2.2.1 M.2.2.2.2.2
    rw [e]
    exact Or.inr (Or.inr (Or.inr (Or.inr (Or.inr (Or.inr (Or.inl ⟨rfl, rfl, rfl, q.1, q.2⟩))))))
  · refine ⟨fun _ => ?_, fun y => absurd y (by decide), fun y => absurd y (by decide), fun y => absurd y (by decide), fun y => absurd y (by decide), fun y => absurd y (by decide), fun y => absurd y (by decide), fun y => absurd y (by decide), fun y => absurd y (by decide), fun y => absurd y (by decide)⟩
    rw [sM_u (by decide), ln6_103]
    refine m_behind T C.l S ?_
    rw [sM_u (by decide), ln6_104]
    exact K
theorem sr_10 (T : TX b n) (S : SV n s) (hx : 0 ≤ x ∧ x < 30) : ∃ (s' : PS) (fc : T5 → T5) (fm : T6 → T6), SV n s' ∧ (s'.2 = -1 → ∀ F M, LRt (fc F) (fm M)) ∧ (∀ F, (fc F).1 = 10) ∧ RSM G b n x s s' 10 8 fc fm := by
  refine ⟨(num b 0 15 (skp b 32 s)).1, fun F => (10, F.2.1, F.2.2.1, cvl 0 (num b 0 15 (skp b 32 s)), F.2.2.2.2), fun M => (8, M.2.1, (num b 0 15 (skp b 32 s)).2, M.2.2.2.1, M.2.2.2.2.1, M.2.2.2.2.2), num_v T (skp_v T (by decide) S), fun z F M => ?_, fun _ => rfl, fun h F Φ C K => c_restN (lo := 0) (hi := 15) T C S hx (by omega) K, fun h M Φ C K => ?_⟩
  · have q := num_r (skp_v (c := 32) T (by decide) S) z
    have e : cvl 0 (num b 0 15 (skp b 32 s)) = (num b 0 15 (skp b 32 s)).2 := cvl_r z
    show LR 10 F.2.1 F.2.2.1 (cvl 0 (num b 0 15 (skp b 32 s))) F.2.2.2.2 8 M.2.1 (num b 0 15 (skp b 32 s)).2 M.2.2.2.1 M.2.2.2.2.1 M.2.2.2.2.2
    rw [e]
    exact Or.inr (Or.inr (Or.inr (Or.inr (Or.inr (Or.inr (Or.inr (Or.inr (Or.inr (Or.inl ⟨rfl, rfl, rfl, q.1, q.2⟩)))))))))
  · refine ⟨fun y => absurd y (by decide), fun y => absurd y (by decide), fun y => absurd y (by decide), fun y => absurd y (by decide), fun y => absurd y (by decide), fun y => absurd y (by decide), fun _ => ?_, fun y => absurd y (by decide), fun y => absurd y (by decide), fun y => absurd y (by decide)⟩
    rw [sM_u (by decide), ln6_103]
    refine m_behind T C.l S ?_
    rw [sM_u (by decide), ln6_105]
    exact K
theorem sr_11 (T : TX b n) (S : SV n s) (hx : 0 ≤ x ∧ x < 30) : ∃ (s' : PS) (fc : T5 → T5) (fm : T6 → T6), SV n s' ∧ (s'.2 = -1 → ∀ F M, LRt (fc F) (fm M)) ∧ (∀ F, (fc F).1 = 11) ∧ RSM G b n x s s' 11 9 fc fm := by
  refine ⟨(num b 0 3 (skp b 32 s)).1, fun F => (11, F.2.1, F.2.2.1, cvl 0 (num b 0 3 (skp b 32 s)), F.2.2.2.2), fun M => (9, M.2.1, (num b 0 3 (skp b 32 s)).2, M.2.2.2.1, M.2.2.2.2.1, M.2.2.2.2.2), num_v T (skp_v T (by decide) S), fun z F M => ?_, fun _ => rfl, fun h F Φ C K => c_restN (lo := 0) (hi := 3) T C S hx (by omega) K, fun h M Φ C K => ?_⟩
  · have q := num_r (skp_v (c := 32) T (by decide) S) z
    have e : cvl 0 (num b 0 3 (skp b 32 s)) = (num b 0 3 (skp b 32 s)).2 := cvl_r z
    show LR 11 F.2.1 F.2.2.1 (cvl 0 (num b 0 3 (skp b 32 s))) F.2.2.2.2 9 M.2.1 (num b 0 3 (skp b 32 s)).2 M.2.2.2.1 M.2.2.2.2.1 M.2.2.2.2.2
    rw [e]
    exact Or.inr (Or.inr (Or.inr (Or.inr (Or.inr (Or.inr (Or.inr (Or.inr (Or.inr (Or.inr (Or.inl ⟨rfl, rfl, rfl, q.1, q.2⟩))))))))))
  · refine ⟨fun y => absurd y (by decide), fun y => absurd y (by decide), fun y => absurd y (by decide), fun y => absurd y (by decide), fun y => absurd y (by decide), fun y => absurd y (by decide), fun y => absurd y (by decide), fun _ => ?_, fun y => absurd y (by decide), fun y => absurd y (by decide)⟩
    rw [sM_u (by decide), ln6_103]
    refine m_behind T C.l S ?_
    rw [sM_u (by decide), ln6_105]
    exact K
theorem sr_12 (T : TX b n) (S : SV n s) (hx : 0 ≤ x ∧ x < 30) : ∃ (s' : PS) (fc : T5 → T5) (fm : T6 → T6), SV n s' ∧ (s'.2 = -1 → ∀ F M, LRt (fc F) (fm M)) ∧ (∀ F, (fc F).1 = 12) ∧ RSM G b n x s s' 12 10 fc fm := by
  refine ⟨(num b 0 7 (skp b 32 s)).1, fun F => (12, F.2.1, F.2.2.1, cvl 0 (num b 0 7 (skp b 32 s)), F.2.2.2.2), fun M => (10, (num b 0 7 (skp b 32 s)).2, M.2.2.1, M.2.2.2.1, M.2.2.2.2.1, M.2.2.2.2.2), num_v T (skp_v T (by decide) S), fun z F M => ?_, fun _ => rfl, fun h F Φ C K => c_restN (lo := 0) (hi := 7) T C S hx (by omega) K, fun h M Φ C K => ?_⟩
  · have q := num_r (skp_v (c := 32) T (by decide) S) z
    have e : cvl 0 (num b 0 7 (skp b 32 s)) = (num b 0 7 (skp b 32 s)).2 := cvl_r z
    show LR 12 F.2.1 F.2.2.1 (cvl 0 (num b 0 7 (skp b 32 s))) F.2.2.2.2 10 (num b 0 7 (skp b 32 s)).2 M.2.2.1 M.2.2.2.1 M.2.2.2.2.1 M.2.2.2.2.2
    rw [e]
    exact Or.inr (Or.inr (Or.inr (Or.inr (Or.inr (Or.inr (Or.inr (Or.inr (Or.inr (Or.inr (Or.inr (Or.inl ⟨rfl, rfl, rfl, q.1, q.2⟩)))))))))))
  · refine ⟨fun y => absurd y (by decide), fun y => absurd y (by decide), fun y => absurd y (by decide), fun y => absurd y (by decide), fun y => absurd y (by decide), fun y => absurd y (by decide), fun y => absurd y (by decide), fun y => absurd y (by decide), fun _ => ?_, fun y => absurd y (by decide)⟩
    rw [sM_u (by decide), ln6_103]
    refine m_behind T C.l S ?_
    rw [sM_u (by decide), ln6_104]
    exact K
theorem sr_13 (T : TX b n) (S : SV n s) (hx : 0 ≤ x ∧ x < 30) : ∃ (s' : PS) (fc : T5 → T5) (fm : T6 → T6), SV n s' ∧ (s'.2 = -1 → ∀ F M, LRt (fc F) (fm M)) ∧ (∀ F, (fc F).1 = 13) ∧ RSM G b n x s s' 13 11 fc fm := by
  refine ⟨(num b 0 7 (skp b 32 s)).1, fun F => (13, F.2.1, F.2.2.1, cvl 0 (num b 0 7 (skp b 32 s)), F.2.2.2.2), fun M => (11, (num b 0 7 (skp b 32 s)).2, M.2.2.1, M.2.2.2.1, M.2.2.2.2.1, M.2.2.2.2.2), num_v T (skp_v T (by decide) S), fun z F M => ?_, fun _ => rfl, fun h F Φ C K => c_restN (lo := 0) (hi := 7) T C S hx (by omega) K, fun h M Φ C K => ?_⟩
  · have q := num_r (skp_v (c := 32) T (by decide) S) z
    have e : cvl 0 (num b 0 7 (skp b 32 s)) = (num b 0 7 (skp b 32 s)).2 := cvl_r z
    show LR 13 F.2.1 F.2.2.1 (cvl 0 (num b 0 7 (skp b 32 s))) F.2.2.2.2 11 (num b 0 7 (skp b 32 s)).2 M.2.2.1 M.2.2.2.1 M.2.2.2.2.1 M.2.2.2.2.2
    rw [e]
    exact Or.inr (Or.inr (Or.inr (Or.inr (Or.inr (Or.inr (Or.inr (Or.inr (Or.inr (Or.inr (Or.inr (Or.inr (⟨rfl, rfl, rfl, q.1, q.2⟩))))))))))))
  · refine ⟨fun y => absurd y (by decide), fun y => absurd y (by decide), fun y => absurd y (by decide), fun y => absurd y (by decide), fun y => absurd y (by decide), fun y => absurd y (by decide), fun y => absurd y (by decide), fun y => absurd y (by decide), fun _ => ?_, fun y => absurd y (by decide)⟩
    rw [sM_u (by decide), ln6_103]
    refine m_behind T C.l S ?_
    rw [sM_u (by decide), ln6_104]
    exact K
theorem sr_4 (T : TX b n) (S : SV n s) (hx : 0 ≤ x ∧ x < 30) : ∃ (s' : PS) (fc : T5 → T5) (fm : T6 → T6), SV n s' ∧ (s'.2 = -1 → ∀ F M, LRt (fc F) (fm M)) ∧ (∀ F, (fc F).1 = 4) ∧ RSM G b n x s s' 4 5 fc fm := by
  refine ⟨(num b 0 29 (skp b 32 s)).1, fun F => (4, F.2.1, F.2.2.1, F.2.2.2.1, cvl 0 (num b 0 29 (skp b 32 s))), fun M => (5, M.2.1, (num b 0 29 (skp b 32 s)).2, M.2.2.2.1, M.2.2.2.2.1, M.2.2.2.2.2), num_v T (skp_v T (by decide) S), fun z F M => ?_, fun _ => rfl, fun h F Φ C K => c_restG T C S hx K, fun h M Φ C K => ?_⟩
  · have q := num_r (skp_v (c := 32) T (by decide) S) z
    have e : cvl 0 (num b 0 29 (skp b 32 s)) = (num b 0 29 (skp b 32 s)).2 := cvl_r z
    show LR 4 F.2.1 F.2.2.1 F.2.2.2.1 (cvl 0 (num b 0 29 (skp b 32 s))) 5 M.2.1 (num b 0 29 (skp b 32 s)).2 M.2.2.2.1 M.2.2.2.2.1 M.2.2.2.2.2
    rw [e]
    exact Or.inr (Or.inr (Or.inr (Or.inl ⟨rfl, rfl, rfl, q.1, q.2⟩)))
  · refine ⟨fun y => absurd y (by decide), fun y => absurd y (by decide), fun y => absurd y (by decide), fun y => absurd y (by decide), fun _ => ?_, fun y => absurd y (by decide), fun y => absurd y (by decide), fun y => absurd y (by decide), fun y => absurd y (by decide), fun y => absurd y (by decide)⟩
    rw [sM_u (by decide), ln6_103]
    refine m_behind T C.l S ?_
    rw [sM_u (by decide), ln6_105]
    exact K
theorem sr_5 (S : SV n s) (hx : 0 ≤ x ∧ x < 30) : ∃ (s' : PS) (fc : T5 → T5) (fm : T6 → T6), SV n s' ∧ (s'.2 = -1 → ∀ F M, LRt (fc F) (fm M)) ∧ (∀ F, (fc F).1 = 5) ∧ RSM G b n x s s' 5 12 fc fm := by
  refine ⟨s, fun F => (5, F.2.1, F.2.2.1, F.2.2.2.1, F.2.2.2.2), fun M => (12, M.2.1, M.2.2.1, M.2.2.2.1, M.2.2.2.2.1, M.2.2.2.2.2), S, fun z F M => ?_, fun _ => rfl, fun h F Φ C K => c_restE hx K, fun h M Φ C K => ?_⟩
  · exact Or.inr (Or.inr (Or.inr (Or.inr (Or.inl ⟨rfl, rfl⟩))))
  · refine ⟨fun y => absurd y (by decide), fun y => absurd y (by decide), fun y => absurd y (by decide), fun y => absurd y (by decide), fun y => absurd y (by decide), fun y => absurd y (by decide), fun y => absurd y (by decide), fun y => absurd y (by decide), fun y => absurd y (by decide), fun _ => ?_⟩
    rw [sM_u (by decide), ln6_103]
    exact K
theorem sr_8 (T : TX b n) (S : SV n s) (hx : 0 ≤ x ∧ x < 30) : ∃ (s' : PS) (fc : T5 → T5) (fm : T6 → T6), SV n s' ∧ (s'.2 = -1 → ∀ F M, LRt (fc F) (fm M)) ∧ (∀ F, (fc F).1 = 8) ∧ RSM G b n x s s' 8 6 fc fm := by
  have S1 := skp_v (c := 32) T (by decide) S
  have rl := rel_w (b := b) wr_101 S1
  refine ⟨(stN b s).1, fun F => (8, (stT b s).2, F.2.2.1, cvl 0 (stN b s), F.2.2.2.2), fun M => (6, (mwo b 101 8 (skp b 32 s)).2, (stN b s).2, M.2.2.2.1, M.2.2.2.2.1, M.2.2.2.2.2), stN_v T S, fun z F M => ?_, fun _ => rfl, fun h F Φ C K => c_restS T C S hx (by omega) K, fun h M Φ C K => ?_⟩
  · have q := num_r (skp_v (c := 32) T (by decide) (stT_v T S)) z
    have q : 0 ≤ (stN b s).2 ∧ (stN b s).2 ≤ 255 := q
    have e : cvl 0 (stN b s) = (stN b s).2 := cvl_r z
    have z0 : (stT b s).1.2 = -1 := by
      false_or_by_contra
      rename_i y
      unfold stN at z
      rw [skp_w y, num_w y] at z
      exact y z
    have r := rl.2.1 z0
    have r1 : 25 ≤ (stT b s).2 ∧ (stT b s).2 < 25 + ((8 : Nat) : Int) := r.1
    have r2 : (mwo b 101 8 (skp b 32 s)).2 = (stT b s).2 - 25 := r.2
    show LR 8 (stT b s).2 F.2.2.1 (cvl 0 (stN b s)) F.2.2.2.2 6 (mwo b 101 8 (skp b 32 s)).2 (stN b s).2 M.2.2.2.1 M.2.2.2.2.1 M.2.2.2.2.2
    rw [e]
    exact Or.inr (Or.inr (Or.inr (Or.inr (Or.inr (Or.inr (Or.inr (Or.inl ⟨rfl, rfl, by omega, by omega, rfl, q.1, q.2⟩)))))))
  · refine ⟨fun y => absurd y (by decide), fun y => absurd y (by decide), fun y => absurd y (by decide), fun y => absurd y (by decide), fun y => absurd y (by decide), fun _ => ?_, fun y => absurd y (by decide), fun y => absurd y (by decide), fun y => absurd y (by decide), fun y => absurd y (by decide)⟩
    rw [sM_u (by decide), ln6_103]
    refine m_need T C.l S (m_wordOf101 T C.l S1 ?_)
    rw [sM_u (by decide), ln6_104, rl.1]
    refine m_behind T C.l (stT_v T S) ?_
    rw [sM_u (by decide), ln6_105]
    exact K
theorem sr_9 (T : TX b n) (S : SV n s) (hx : 0 ≤ x ∧ x < 30) : ∃ (s' : PS) (fc : T5 → T5) (fm : T6 → T6), SV n s' ∧ (s'.2 = -1 → ∀ F M, LRt (fc F) (fm M)) ∧ (∀ F, (fc F).1 = 9) ∧ RSM G b n x s s' 9 7 fc fm := by
  have S1 := skp_v (c := 32) T (by decide) S
  have rl := rel_w (b := b) wr_101 S1
  refine ⟨(stN b s).1, fun F => (9, (stT b s).2, F.2.2.1, cvl 0 (stN b s), F.2.2.2.2), fun M => (7, (mwo b 101 8 (skp b 32 s)).2, (stN b s).2, M.2.2.2.1, M.2.2.2.2.1, M.2.2.2.2.2), stN_v T S, fun z F M => ?_, fun _ => rfl, fun h F Φ C K => c_restS T C S hx (by omega) K, fun h M Φ C K => ?_⟩
  · have q := num_r (skp_v (c := 32) T (by decide) (stT_v T S)) z
    have q : 0 ≤ (stN b s).2 ∧ (stN b s).2 ≤ 255 := q
    have e : cvl 0 (stN b s) = (stN b s).2 := cvl_r z
    have z0 : (stT b s).1.2 = -1 := by
      false_or_by_contra
      rename_i y
      unfold stN at z
      rw [skp_w y, num_w y] at z
      exact y z
    have r := rl.2.1 z0
    have r1 : 25 ≤ (stT b s).2 ∧ (stT b s).2 < 25 + ((8 : Nat) : Int) := r.1
    have r2 : (mwo b 101 8 (skp b 32 s)).2 = (stT b s).2 - 25 := r.2
    show LR 9 (stT b s).2 F.2.2.1 (cvl 0 (stN b s)) F.2.2.2.2 7 (mwo b 101 8 (skp b 32 s)).2 (stN b s).2 M.2.2.2.1 M.2.2.2.2.1 M.2.2.2.2.2
    rw [e]
    exact Or.inr (Or.inr (Or.inr (Or.inr (Or.inr (Or.inr (Or.inr (Or.inr (Or.inl ⟨rfl, rfl, by omega, by omega, rfl, q.1, q.2⟩))))))))
  · refine ⟨fun y => absurd y (by decide), fun y => absurd y (by decide), fun y => absurd y (by decide), fun y => absurd y (by decide), fun y => absurd y (by decide), fun _ => ?_, fun y => absurd y (by decide), fun y => absurd y (by decide), fun y => absurd y (by decide), fun y => absurd y (by decide)⟩
    rw [sM_u (by decide), ln6_103]
    refine m_need T C.l S (m_wordOf101 T C.l S1 ?_)
    rw [sM_u (by decide), ln6_104, rl.1]
    refine m_behind T C.l (stT_v T S) ?_
    rw [sM_u (by decide), ln6_105]
    exact K
theorem sr_2 (T : TX b n) (S : SV n s) (hx : 0 ≤ x ∧ x < 30) : ∃ (s' : PS) (fc : T5 → T5) (fm : T6 → T6), SV n s' ∧ (s'.2 = -1 → ∀ F M, LRt (fc F) (fm M)) ∧ (∀ F, (fc F).1 = 2) ∧ RSM G b n x s s' 2 3 fc fm := by
  have S1 := skp_v (c := 32) T (by decide) S
  refine ⟨(cnI b (skp b 32 s)).1, fun F => fcC b (skp b 32 s) (2, F.2.1, F.2.2.1, F.2.2.2.1, F.2.2.2.2), fun M => fcM b (skp b 32 s) (3, M.2.1, M.2.2.1, M.2.2.2.1, M.2.2.2.2.1, M.2.2.2.2.2), cnI_v T S1, fun z F M => ?_, fun _ => rfl, fun h F Φ C K => c_restU T C S hx K, fun h M Φ C K => ?_⟩
  · exact Or.inr (Or.inl ⟨rfl, rfl, cnd_ok T S1 z⟩)
  · refine ⟨fun y => absurd y (by decide), fun y => absurd y (by decide), fun _ => ?_, fun y => absurd y (by decide), fun y => absurd y (by decide), fun y => absurd y (by decide), fun y => absurd y (by decide), fun y => absurd y (by decide), fun y => absurd y (by decide), fun y => absurd y (by decide)⟩
    rw [sM_u (by decide), ln6_103]
    exact m_need T C.l S (m_cond T C S1 K)
theorem sr_3 (T : TX b n) (S : SV n s) (hx : 0 ≤ x ∧ x < 30) : ∃ (s' : PS) (fc : T5 → T5) (fm : T6 → T6), SV n s' ∧ (s'.2 = -1 → ∀ F M, LRt (fc F) (fm M)) ∧ (∀ F, (fc F).1 = 3) ∧ RSM G b n x s s' 3 4 fc fm := by
  have S1 := skp_v (c := 32) T (by decide) S
  have S2 := cnI_v T S1
  have S3 := skp_v (c := 32) T (by decide) S2
  have rl := rel_w (b := b) wr_102 S3
  refine ⟨(ifN b s).1, fun F => (3, (tol b 16 17 (skp b 32 s)).2, b (cs1 b (skp b 32 s)).1, cvl (-99999) (cnI b (skp b 32 s)), cvl 0 (ifN b s)), fun M => (4, M.2.1, (ifN b s).2, (mwo b 100 17 (skp b 32 s)).2, b (cs1 b (skp b 32 s)).1, (cnI b (skp b 32 s)).2), ifN_v T S, fun z F M => ?_, fun _ => rfl, fun h F Φ C K => c_restI T C S hx K, fun h M Φ C K => ?_⟩
  · have q := num_r (skp_v (c := 32) T (by decide) (ifG_v T S)) z
    have q : 0 ≤ (ifN b s).2 ∧ (ifN b s).2 ≤ 29 := q
    have e : cvl 0 (ifN b s) = (ifN b s).2 := cvl_r z
    have z0 : (ifG b s).1.2 = -1 := by
      false_or_by_contra
      rename_i y
      unfold ifN at z
      rw [skp_w y, num_w y] at z
      exact y z
    have z1 : (cnI b (skp b 32 s)).1.2 = -1 := by
      false_or_by_contra
      rename_i y
      unfold ifG at z0
      rw [skp_w y, tol_w y] at z0
      exact y z0
    exact Or.inr (Or.inr (Or.inl ⟨rfl, rfl, cnd_ok T S1 z1, e.symm, by show 0 ≤ cvl 0 (ifN b s); omega, by show cvl 0 (ifN b s) ≤ 29; omega⟩))
  · refine ⟨fun y => absurd y (by decide), fun y => absurd y (by decide), fun y => absurd y (by decide), fun _ => ?_, fun y => absurd y (by decide), fun y => absurd y (by decide), fun y => absurd y (by decide), fun y => absurd y (by decide), fun y => absurd y (by decide), fun y => absurd y (by decide)⟩
    rw [sM_u (by decide), ln6_103]
    refine m_need T C.l S (m_cond T C S1 (m_need T C.l S2 (m_wordOf102 T C.l S3 ?_)))
    rw [rl.1]
    refine m_behind T C.l (ifG_v T S) ?_
    rw [sM_u (by decide), ln6_105]
    exact K
/-- any verb of a line -/
theorem sim_rest {c : Int} (T : TX b n) (S : SV n s) (hx : 0 ≤ x ∧ x < 30) (hc : 1 ≤ c ∧ c ≤ 13) : ∃ (s' : PS) (fc : T5 → T5) (fm : T6 → T6), SV n s' ∧ (s'.2 = -1 → ∀ F M, LRt (fc F) (fm M)) ∧ (∀ F, (fc F).1 = c) ∧ RSM G b n x s s' c (mvb c) fc fm := by
  have t : c = 1 ∨ c = 2 ∨ c = 3 ∨ c = 4 ∨ c = 5 ∨ c = 6 ∨ c = 7 ∨ c = 8 ∨ c = 9 ∨ c = 10 ∨ c = 11 ∨ c = 12 ∨ c = 13 := by omega
  rcases t with rfl | rfl | rfl | rfl | rfl | rfl | rfl | rfl | rfl | rfl | rfl | rfl | rfl
  · exact sr_1 T S hx
  · exact sr_2 T S hx
  · exact sr_3 T S hx
  · exact sr_4 T S hx
  · exact sr_5 S hx
  · exact sr_6 T S hx
  · exact sr_7 T S hx
  · exact sr_8 T S hx
  · exact sr_9 T S hx
  · exact sr_10 T S hx
  · exact sr_11 T S hx
  · exact sr_12 T S hx
  · exact sr_13 T S hx
/-- a whole line -/
theorem sim_line (T : TX b n) (S : SV n s) (hx : 0 ≤ x ∧ x < 30) : ∃ (s' : PS) (fc : T5 → T5) (fm : T6 → T6), SV n s' ∧ (s'.2 = -1 → ∀ F M, LRt (fc F) (fm M)) ∧ (s.2 ≠ -1 → s' = s) ∧
    (∀ (h : Hp) (F : T5) (Φ : Int → Hp → Prop), TXc h b n → Φ 0 (sT (ln5 h x (fc F)) s') → Call G m_X3_readLine [rv 4, rv 2, iv x] (sT (ln5 h x F) s) Φ) ∧
    (∀ (h : Hp) (M : T6) (Φ : Int → Hp → Prop), TXm h b n → Φ 0 (sM (ln6 h 240 (fm M)) s') → Call G m_X12_line [rv 85, rv 99] (sM (ln6 h 240 M) s) Φ) := by
  have rl := rel_w (b := b) wr_99 S
  have S1 := tol_v (x1 := 1) (d := 13) T S
  by_cases z : (tol b 1 13 s).1.2 = -1
  · have r := rl.2.1 z
    obtain ⟨s', fc, fm, V, L, -, RC, RM⟩ := sim_rest (G := G) (c := (tol b 1 13 s).2) T S1 hx (by omega)
    refine ⟨s', fc, fm, V, L, fun y => ?_, fun h F Φ C K => ?_, fun h M Φ C K => ?_⟩
    · rw [tol_w y] at z; exact absurd z y
    · exact Call.of rfl (Nat.le_of_ble_eq_true rfl) rfl (U_X3_readLine_4_2_0 (c_told (d := 13) T C.l S ⟨by omega, by omega⟩ (by omega) (RC h F _ C K)))
    · refine Call.of rfl (Nat.le_of_ble_eq_true rfl) rfl (U_X12_line_85_99_0 (m_wordOf99 T C.l S ?_))
      show LNT G (mwo b 99 13 s).2 (sM (ln6 h 240 M) (mwo b 99 13 s).1) Φ
      rw [rl.1, r.2]
      exact RM h M Φ C K
  · have r := rl.2.2 z
    have N : num b 1 9999 (skp b 32 (tol b 1 13 s).1) = ((tol b 1 13 s).1, 0) := by rw [skp_w z, num_w z]
    refine ⟨(tol b 1 13 s).1, fun F => (1, F.2.1, F.2.2.1, cvl 1 (num b 1 9999 (skp b 32 (tol b 1 13 s).1)), F.2.2.2.2), fun M => (-1, M.2.1, M.2.2.1, M.2.2.2.1, M.2.2.2.2.1, M.2.2.2.2.2), S1, fun y => absurd y z, fun y => by rw [tol_w y], fun h F Φ C K => ?_, fun h M Φ C K => ?_⟩
    · refine Call.of rfl (Nat.le_of_ble_eq_true rfl) rfl (U_X3_readLine_4_2_0 (c_told (d := 13) T C.l S ⟨by omega, by omega⟩ (by omega) ?_))
      show Call G m_X3_readRest [rv 4, rv 2, iv x, iv (tol b 1 13 s).2] (sT (ln5 h x F) (tol b 1 13 s).1) _
      rw [r.1]
      refine c_restN (lo := 1) (hi := 9999) T C S1 hx (by omega) ?_
      rw [N] at K ⊢
      exact K
    · refine Call.of rfl (Nat.le_of_ble_eq_true rfl) rfl (U_X12_line_85_99_0 (m_wordOf99 T C.l S ?_))
      show LNT G (mwo b 99 13 s).2 (sM (ln6 h 240 M) (mwo b 99 13 s).1) Φ
      rw [rl.1, r.2]
      refine ⟨fun y => absurd y (by decide), fun y => absurd y (by decide), fun y => absurd y (by decide), fun y => absurd y (by decide), fun y => absurd y (by decide), fun y => absurd y (by decide), fun y => absurd y (by decide), fun y => absurd y (by decide), fun y => absurd y (by decide), fun _ => ?_⟩
      rw [sM_u (by decide), ln6_103]
      exact K
end
