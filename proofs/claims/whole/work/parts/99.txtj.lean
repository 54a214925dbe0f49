/-! program -/
theorem ers_sT {H : Hp} {s : PS} {p n v : Int} : ers (sT H s) 5 p n v = sT (ers H 5 p n v) s := by
  funext k i
  by_cases z : k = 5 ∧ p ≤ i ∧ i < n
  · obtain ⟨rfl, z⟩ := z
    rw [ers_i z, sT_o (by decide), ers_i z]
  · rw [ers_o z]
    unfold sT up
    rw [ers_o z]
def LRf (hc hm : Hp) (i : Int) : Prop := LR (hc 5 i) (hc 6 i) (hc 7 i) (hc 8 i) (hc 9 i) (hm 118 i) (hm 119 i) (hm 120 i) (hm 121 i) (hm 122 i) (hm 123 i)
def frw (H : Hp) (j : Int) : Hp := fun k i => if (118 ≤ k ∧ k ≤ 123) ∧ i = j then H (k - 118 + 103) 240 else H k i
theorem frw_o {H : Hp} {j i : Int} {k : Nat} (z : ¬ ((118 ≤ k ∧ k ≤ 123) ∧ i = j)) : frw H j k i = H k i := if_neg z
theorem frw_i {H : Hp} {j : Int} {k : Nat} (z : 118 ≤ k ∧ k ≤ 123) : frw H j k j = H (k - 118 + 103) 240 := if_pos ⟨z, rfl⟩
theorem frw_up {H : Hp} {s : PS} {j : Int} : up (up (up (up (up (up (sM H s) 118 j (sM H s 103 240)) 119 j (sM H s 104 240)) 120 j (sM H s 105 240)) 121 j (sM H s 106 240)) 122 j (sM H s 107 240)) 123 j (sM H s 108 240) = sM (frw H j) s := by
  rw [cp_118_103]
  funext k i
  by_cases z : 118 ≤ k ∧ k ≤ 123
  · rw [if_pos z, sM_o (by omega), sM_o (by omega), sM_o (by omega)]
    by_cases e : i = j
    · rw [if_pos e, e, frw_i z]
    · rw [if_neg e, frw_o (fun t => e t.2)]
  · rw [if_neg z]
    unfold sM up
    rw [frw_o (fun t => z t.1)]
theorem cb_frw {g H : Hp} {j : Int} : cb g (frw H j) = frw (cb g H) j := by
  funext k i
  by_cases z : (118 ≤ k ∧ k ≤ 123) ∧ i = j
  · obtain ⟨z, rfl⟩ := z
    rw [cb_m (by omega), frw_i z, frw_i z, cb_m (by omega)]
  · rw [frw_o z]
    unfold cb
    rw [frw_o z]
section
variable {G : GG} {b : Int → Int} {n x : Int} {s : PS} {hc hm : Hp}
theorem sim_lineE (T : TX b n) (Cc : TXc hc b n) (Cm : TXm hm b n) (S : SV n s) (hx : 0 ≤ x ∧ x < 30) : ∃ (s' : PS) (hc' hm' : Hp), SV n s' ∧ (s'.2 = -1 → LR (hc' 5 x) (hc' 6 x) (hc' 7 x) (hc' 8 x) (hc' 9 x) (hm' 103 240) (hm' 104 240) (hm' 105 240) (hm' 106 240) (hm' 107 240) (hm' 108 240)) ∧ (s.2 ≠ -1 → s' = s) ∧ CE G m_X3_readLine [rv 4, rv 2, iv x] (sT hc s) 0 (sT hc' s') ∧ ME G m_X12_line [rv 85, rv 99] (sM hm s) 0 (sM hm' s') ∧ (∀ k i, ¬ (i = x ∧ 5 ≤ k ∧ k ≤ 9) → hc' k i = hc k i) ∧ (∀ k i, ¬ (i = 240 ∧ 103 ≤ k ∧ k ≤ 108) → hm' k i = hm k i) := by
  obtain ⟨s', fc, fm, V, L, B, RC, RM⟩ := sim_line (G := G) (x := x) T S hx
  refine ⟨s', ln5 hc x (fc (hc 5 x, hc 6 x, hc 7 x, hc 8 x, hc 9 x)), ln6 hm 240 (fm (hm 103 240, hm 104 240, hm 105 240, hm 106 240, hm 107 240, hm 108 240)), V, fun z => ?_, B, fun g Φ K => ?_, fun g Φ K => ?_, fun k i z => ln5_o z, fun k i z => ln6_o z⟩
  · have t := L z (hc 5 x, hc 6 x, hc 7 x, hc 8 x, hc 9 x) (hm 103 240, hm 104 240, hm 105 240, hm 106 240, hm 107 240, hm 108 240)
    rw [ln5_r5, ln5_r6, ln5_r7, ln5_r8, ln5_r9, ln6_r103, ln6_r104, ln6_r105, ln6_r106, ln6_r107, ln6_r108]
    exact t
  · rw [cb_sT, cb_ln5] at K
    have C' : TXc (cb hc g) b n := Cc
    have t := RC (cb hc g) (hc 5 x, hc 6 x, hc 7 x, hc 8 x, hc 9 x) Φ C' K
    have e : ln5 (cb hc g) x (hc 5 x, hc 6 x, hc 7 x, hc 8 x, hc 9 x) = cb hc g := ln5_id (h := cb hc g) (x := x)
    rw [e] at t
    rw [cb_sT]; exact t
  · rw [cb_sM, cb_ln6] at K
    have C' : TXm (cb g hm) b n := Cm
    have t := RM (cb g hm) (hm 103 240, hm 104 240, hm 105 240, hm 106 240, hm 107 240, hm 108 240) Φ C' K
    have e : ln6 (cb g hm) 240 (hm 103 240, hm 104 240, hm 105 240, hm 106 240, hm 107 240, hm 108 240) = cb g hm := ln6_id (h := cb g hm) (x := 240)
    rw [e] at t
    rw [cb_sM]; exact t
theorem ce_skip {c : Int} (T : TX b n) (Cc : TXc hc b n) (S : SV n s) : CE G m_X10_skip [rv 2, iv c] (sT hc s) 0 (sT hc (skp b c s)) := fun g Φ K => by
  rw [cb_sT] at K ⊢
  have C' : TXc (cb hc g) b n := Cc
  exact c_skip T C' S K
theorem me_need {c : Int} (T : TX b n) (Cm : TXm hm b n) (S : SV n s) : ME G m_X12_need [rv 85, iv c] (sM hm s) 0 (sM hm (skp b c s)) := fun g Φ K => by
  rw [cb_sM] at K ⊢
  have C' : TXm (cb g hm) b n := Cm
  exact m_need T C' S K
theorem mz_bad {k j : Int} (n1 : n ≤ 1600) (S : SV n s) (z : s.2 ≠ -1) : MZ G m_X12_program 18 [(0, rv 85), (1, iv k), (2, iv j)] (sM hm s) (-1000 - s.2) (sM hm s) := fun g Φ K => by
  have v := S.2
  rw [cb_sM] at K ⊢
  refine U_X12_program_85_18 ?_
  simp only [sM_w]
  refine ⟨fun y => absurd y (by omega), fun _ => ⟨fun y => absurd y (by omega), fun _ => ?_⟩⟩
  rw [w32_of (by omega) (by omega)]; exact K
theorem fns_bad (z : s.2 ≠ -1) : fns n s = s := if_neg (fun t => z t.1)
theorem sim_prog {k : Int} (T : TX b n) : ∀ (d j : Nat) (s : PS) (hc hm : Hp), j + d = 30 → SV n s → s.2 = -1 → TXc hc b n → TXm hm b n → hc 4 0 = 30 → (∀ i : Int, 0 ≤ i → i < j → LRf hc hm i) → (∀ i : Int, j ≤ i → i < 30 → hc 5 i = 0) →
    ∃ (s' : PS) (m : Int) (hc' hm' : Hp), SV n s' ∧ (0 ≤ m ∧ m ≤ 30) ∧ CZ G m_X3_readProgram 15 [(0, rv 4), (1, rv 2), (2, iv (j : Int))] (sT hc s) m (sT hc' s') ∧
      (((fns n s').2 = -1 ∧ (∀ i, 0 ≤ i → i < m → LRf hc' hm' i) ∧ (∀ i, m ≤ i → i < 30 → hc' 5 i = 0) ∧ MR G m_X12_program 18 [(0, rv 85), (1, iv k), (2, iv (j : Int))] (sM hm s) 186 [(0, rv 85), (1, iv k), (2, iv m), (3, iv 0)] (sM hm' s')) ∨
       ((fns n s').2 ≠ -1 ∧ MZ G m_X12_program 18 [(0, rv 85), (1, iv k), (2, iv (j : Int))] (sM hm s) (-1000 - (fns n s').2) (sM hm' (fns n s')))) ∧
      (∀ c i, ¬ (5 ≤ c ∧ c ≤ 9) → hc' c i = hc c i) ∧ (∀ c i, ¬ ((103 ≤ c ∧ c ≤ 108) ∧ i = 240 ∨ (118 ≤ c ∧ c ≤ 123)) → hm' c i = hm c i) := by
  have t1 := T.1
  -- the loops end here: no fault
  have endC : ∀ (j : Nat) (s : PS) (hc : Hp), SV n s → s.2 = -1 → TXc hc b n → hc 4 0 = 30 → (30 ≤ (j : Int) ∨ ((j : Int) ≠ 0 ∧ n ≤ s.1)) → CZ G m_X3_readProgram 15 [(0, rv 4), (1, rv 2), (2, iv (j : Int))] (sT hc s) j (sT hc s) := fun j s hc S z C h4 o g Φ K => by
    rw [cb_sT] at K ⊢
    refine U_X3_readProgram_4_2_15 ?_
    have q4 : sT (cb hc g) s 4 0 = 30 := (sT_o (by decide)).trans h4
    have q1 : sT (cb hc g) s 2 1 = n := sT_n.trans C.1
    rw [q4, sT_w, q1, sT_a]
    refine ⟨fun _ => K, fun y => ⟨fun _ => K, fun _ => ⟨fun x => absurd x (by omega), fun _ => ⟨fun u => absurd u (by omega), fun _ => K⟩⟩⟩⟩
  have endM : ∀ (j : Nat) (s : PS) (hm : Hp), SV n s → s.2 = -1 → TXm hm b n → (j : Int) ≠ 0 → n ≤ s.1 → MR G m_X12_program 18 [(0, rv 85), (1, iv k), (2, iv (j : Int))] (sM hm s) 186 [(0, rv 85), (1, iv k), (2, iv (j : Int)), (3, iv 0)] (sM hm s) := fun j s hm S z C j0 o g Φ K => by
    rw [cb_sM] at K ⊢
    refine U_X12_program_85_18 ?_
    have q4 : sM (cb g hm) s 85 4 = n := sM_n.trans C.1
    rw [sM_w, q4, sM_a]
    exact ⟨fun _ => ⟨fun y => absurd y (by omega), fun _ => ⟨fun _ => ⟨fun _ => K, fun y => absurd y (by omega)⟩, fun y => absurd y j0⟩⟩, fun y => absurd y (by omega)⟩
  intro d
  induction d with
  | zero =>
    intro j s hc hm hj S z Cc Cm h4 R Z
    have j30 : (j : Int) = 30 := by omega
    by_cases o : n ≤ s.1
    · have ef : fns n s = s := if_neg (by omega)
      exact ⟨s, j, hc, hm, S, by omega, endC j s hc S z Cc h4 (by omega), Or.inl ⟨by rw [ef]; exact z, R, Z, endM j s hm S z Cm (by omega) o⟩, fun _ _ _ => rfl, fun _ _ _ => rfl⟩
    · have ef : fns n s = (s.1, s.1) := if_pos ⟨z, by omega⟩
      have Sb : SV n (s.1, s.1) := ⟨S.1, Or.inr S.1⟩
      have zb : ((s.1, s.1) : PS).2 ≠ -1 := by show ¬ s.1 = -1; have := S.1; omega
      obtain ⟨s1, hc1, hm1, V, -, B, -, RM, -, FM⟩ := sim_lineE (G := G) (x := 0) T Cc Cm Sb (by omega)
      have e1 := B zb
      subst e1
      refine ⟨s, j, hc, hm1, S, by omega, endC j s hc S z Cc h4 (by omega), Or.inr ⟨by rw [ef]; exact zb, ?_⟩, fun _ _ _ => rfl, fun c i w => FM c i (by omega)⟩
      have Cm1 : TXm hm1 b n := ⟨by rw [FM 85 4 (by omega)]; exact Cm.1, fun y y0 y1 => by rw [FM 87 y (by omega)]; exact Cm.2 y y0 y1⟩
      rw [ef]
      intro g Φ K
      have MB := mz_bad (G := G) (hm := hm1) (k := k) (j := (j : Int)) (by omega) Sb zb g Φ K
      rw [cb_sM]
      refine U_X12_program_85_18 ?_
      have q4 : sM (cb g hm) s 85 4 = n := sM_n.trans Cm.1
      rw [sM_w, q4, sM_a]
      have LN : Call G m_X12_line [rv 85, rv 99] (up (sM (cb g hm) s) 85 6 s.1) (fun _ h10 => Call G m_X12_need [rv 85, iv 10] h10 (fun _ h12 => (((h12 85 6) < 0 → (0 ≤ (j : Int) ∧ (j : Int) < 30) ∧ (0 ≤ (j : Int) ∧ (j : Int) < 30) ∧ (0 ≤ (j : Int) ∧ (j : Int) < 30) ∧ (0 ≤ (j : Int) ∧ (j : Int) < 30) ∧ (0 ≤ (j : Int) ∧ (j : Int) < 30) ∧ (0 ≤ (j : Int) ∧ (j : Int) < 30) ∧ AT G m_X12_program 18 [(0, rv 85), (1, iv k), (2, iv (w32 ((j : Int) + 1)))] [] (up (up (up (up (up (up h12 118 (j : Int) (h12 103 240)) 119 (j : Int) (h12 104 240)) 120 (j : Int) (h12 105 240)) 121 (j : Int) (h12 106 240)) 122 (j : Int) (h12 107 240)) 123 (j : Int) (h12 108 240)) Φ) ∧ (0 ≤ (h12 85 6) → AT G m_X12_program 18 [(0, rv 85), (1, iv k), (2, iv (j : Int))] [] h12 Φ)))) := by
        rw [sM_2, ← cb_sM]
        refine RM g _ (me_need T Cm1 Sb g _ ?_)
        rw [skp_w zb]
        refine ⟨fun y => ?_, fun _ => MB⟩
        rw [cb_sM, sM_w] at y
        have y : s.1 < 0 := y
        have := S.1
        omega
      refine ⟨fun _ => ⟨fun _ => ⟨fun y => absurd j30 y, fun _ => ⟨fun y => absurd y (by omega), fun _ => LN⟩⟩, fun y => absurd y o⟩, fun y => absurd y (by omega)⟩
  | succ d ih =>
    intro j s hc hm hj S z Cc Cm h4 R Z
    by_cases o : (j : Int) ≠ 0 ∧ n ≤ s.1
    · have ef : fns n s = s := if_neg (by omega)
      exact ⟨s, j, hc, hm, S, by omega, endC j s hc S z Cc h4 (Or.inr o), Or.inl ⟨by rw [ef]; exact z, R, Z, endM j s hm S z Cm o.1 o.2⟩, fun _ _ _ => rfl, fun _ _ _ => rfl⟩
    · obtain ⟨s1, hc1, hm1, V, LL, B, RC, RM, FC, FM⟩ := sim_lineE (G := G) (x := (j : Int)) T Cc Cm S (by omega)
      have Cc1 : TXc hc1 b n := ⟨by rw [FC 2 1 (by omega)]; exact Cc.1, fun y y0 y1 => by rw [FC 3 y (by omega)]; exact Cc.2 y y0 y1⟩
      have Cm1 : TXm hm1 b n := ⟨by rw [FM 85 4 (by omega)]; exact Cm.1, fun y y0 y1 => by rw [FM 87 y (by omega)]; exact Cm.2 y y0 y1⟩
      have V2 := skp_v (c := 10) T (by decide) V
      -- the class's step
      have stC : CR G m_X3_readProgram 15 [(0, rv 4), (1, rv 2), (2, iv (j : Int))] (sT hc s) 15 [(0, rv 4), (1, rv 2), (2, iv ((j + 1 : Nat) : Int))] (sT hc1 (skp b 10 s1)) := fun g Φ K => by
        have K1 := RC g (fun _ h2 => Call G m_X10_skip [rv 2, iv 10] h2 (fun _ h4 => AT G m_X3_readProgram 15 [(0, rv 4), (1, rv 2), (2, iv (w32 ((j : Int) + 1)))] [] h4 Φ)) (ce_skip T Cc1 V g _ (by rw [w32_of (by omega) (by omega)]; exact K))
        rw [cb_sT] at K1 ⊢
        refine U_X3_readProgram_4_2_15 ?_
        have q4 : sT (cb hc g) s 4 0 = 30 := (sT_o (by decide)).trans h4
        have q1 : sT (cb hc g) s 2 1 = n := sT_n.trans Cc.1
        rw [q4, sT_w, q1, sT_a]
        exact ⟨fun y => absurd y (by omega), fun _ => ⟨fun y => absurd z y, fun _ => ⟨fun _ => K1, fun y => ⟨fun _ => K1, fun x => absurd ⟨y, x⟩ o⟩⟩⟩⟩
      -- the model's step
      have stM : ∀ (g : Hp) (Φ : Int → Hp → Prop), (((skp b 10 s1).2 = -1 → AT G m_X12_program 18 [(0, rv 85), (1, iv k), (2, iv ((j + 1 : Nat) : Int))] [] (cb g (sM (frw hm1 j) (skp b 10 s1))) Φ) ∧ ((skp b 10 s1).2 ≠ -1 → AT G m_X12_program 18 [(0, rv 85), (1, iv k), (2, iv (j : Int))] [] (cb g (sM hm1 (skp b 10 s1))) Φ)) → AT G m_X12_program 18 [(0, rv 85), (1, iv k), (2, iv (j : Int))] [] (cb g (sM hm s)) Φ := fun g Φ K => by
        have bd : 0 ≤ (j : Int) ∧ (j : Int) < 30 := by omega
        have v2 := V2.2
        have LN : Call G m_X12_line [rv 85, rv 99] (cb g (sM hm s)) (fun _ h2 => Call G m_X12_need [rv 85, iv 10] h2 (fun _ h4 => (((h4 85 6) < 0 → (0 ≤ (j : Int) ∧ (j : Int) < 30) ∧ (0 ≤ (j : Int) ∧ (j : Int) < 30) ∧ (0 ≤ (j : Int) ∧ (j : Int) < 30) ∧ (0 ≤ (j : Int) ∧ (j : Int) < 30) ∧ (0 ≤ (j : Int) ∧ (j : Int) < 30) ∧ (0 ≤ (j : Int) ∧ (j : Int) < 30) ∧ AT G m_X12_program 18 [(0, rv 85), (1, iv k), (2, iv (w32 ((j : Int) + 1)))] [] (up (up (up (up (up (up h4 118 (j : Int) (h4 103 240)) 119 (j : Int) (h4 104 240)) 120 (j : Int) (h4 105 240)) 121 (j : Int) (h4 106 240)) 122 (j : Int) (h4 107 240)) 123 (j : Int) (h4 108 240)) Φ) ∧ (0 ≤ (h4 85 6) → AT G m_X12_program 18 [(0, rv 85), (1, iv k), (2, iv (j : Int))] [] h4 Φ)))) := by
          refine RM g _ (me_need T Cm1 V g _ ?_)
          rw [cb_sM]
          refine ⟨fun y => ⟨bd, bd, bd, bd, bd, bd, ?_⟩, fun y => ?_⟩
          · rw [sM_w] at y
            have t := K.1 (by omega)
            rw [cb_sM, cb_frw] at t
            rw [frw_up, w32_of (by omega) (by omega)]
            exact t
          · rw [sM_w] at y
            have t := K.2 (by omega)
            rw [cb_sM] at t
            exact t
        rw [cb_sM] at LN ⊢
        refine U_X12_program_85_18 ?_
        have q4 : sM (cb g hm) s 85 4 = n := sM_n.trans Cm.1
        rw [sM_w, q4, sM_a]
        exact ⟨fun _ => ⟨fun _ => ⟨fun _ => LN, fun y => absurd y (by omega)⟩, fun y => ⟨fun x => absurd ⟨x, y⟩ o, fun _ => ⟨fun _ => LN, fun x => absurd x (by omega)⟩⟩⟩, fun y => absurd y (by omega)⟩
      by_cases z2 : (skp b 10 s1).2 = -1
      · have z1 : s1.2 = -1 := skp_g z2
        have Cm2 : TXm (frw hm1 j) b n := ⟨by rw [frw_o (by omega)]; exact Cm1.1, fun y y0 y1 => by rw [frw_o (by omega)]; exact Cm1.2 y y0 y1⟩
        have LL1 := LL z1
        obtain ⟨s', m, hc', hm', V', mb, RCz, alt, FC', FM'⟩ := ih (j + 1) (skp b 10 s1) hc1 (frw hm1 j) (by omega) V2 z2 Cc1 Cm2 (by rw [FC 4 0 (by omega)]; exact h4) (fun i i0 i1 => by
          by_cases e : i = j
          · subst e
            unfold LRf
            rw [frw_i (by decide), frw_i (by decide), frw_i (by decide), frw_i (by decide), frw_i (by decide), frw_i (by decide)]
            exact LL1
          · have t := R i i0 (by omega)
            unfold LRf at t ⊢
            rw [FC 5 i (by omega), FC 6 i (by omega), FC 7 i (by omega), FC 8 i (by omega), FC 9 i (by omega), frw_o (by omega), frw_o (by omega), frw_o (by omega), frw_o (by omega), frw_o (by omega), frw_o (by omega), FM 118 i (by omega), FM 119 i (by omega), FM 120 i (by omega), FM 121 i (by omega), FM 122 i (by omega), FM 123 i (by omega)]
            exact t) (fun i i0 i1 => by rw [FC 5 i (by omega)]; exact Z i (by omega) i1)
        refine ⟨s', m, hc', hm', V', mb, stC.z RCz, ?_, fun c i w => by rw [FC' c i w, FC c i (by omega)], fun c i w => by rw [FM' c i w, frw_o (by omega), FM c i (by omega)]⟩
        rcases alt with ⟨a1, a2, a3, a4⟩ | ⟨a1, a2⟩
        · exact Or.inl ⟨a1, a2, a3, fun g Φ K => stM g Φ ⟨fun _ => a4 g Φ K, fun y => absurd z2 y⟩⟩
        · exact Or.inr ⟨a1, fun g Φ K => stM g Φ ⟨fun _ => a2 g Φ K, fun y => absurd z2 y⟩⟩
      · have ef := fns_bad (n := n) z2
        refine ⟨skp b 10 s1, ((j + 1 : Nat) : Int), hc1, hm1, V2, by omega, stC.z (fun g Φ K => ?_), Or.inr ⟨by rw [ef]; exact z2, ?_⟩, fun c i w => FC c i (by omega), fun c i w => FM c i (by omega)⟩
        · rw [cb_sT] at K ⊢
          refine U_X3_readProgram_4_2_15 ?_
          rw [sT_w]
          exact ⟨fun _ => K, fun _ => ⟨fun _ => K, fun y => absurd y z2⟩⟩
        · rw [ef]
          intro g Φ K
          exact stM g Φ ⟨fun y => absurd y z2, fun _ => mz_bad (by omega) V2 z2 g Φ K⟩
end
