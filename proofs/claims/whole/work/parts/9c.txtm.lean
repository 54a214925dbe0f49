/-! command -/
def CMT (G : GG) (Φ : Int → Hp → Prop) (a r3 : Int) (h4 : Hp) : Prop := ((r3 = 2 → AT G m_X12_command 61 [(0, rv 85), (1, iv a), (2, iv r3), (3, iv 0), (4, iv 0)] [] h4 Φ) ∧ (r3 ≠ 2 → ((r3 = 3 → AT G m_X12_command 61 [(0, rv 85), (1, iv a), (2, iv r3), (3, iv 0), (4, iv 0)] [] h4 Φ) ∧ (r3 ≠ 3 → ((r3 = 4 → AT G m_X12_command 61 [(0, rv 85), (1, iv a), (2, iv r3), (3, iv 0), (4, iv 0)] [] h4 Φ) ∧ (r3 ≠ 4 → ((r3 = 5 → AT G m_X12_command 61 [(0, rv 85), (1, iv a), (2, iv r3), (3, iv 0), (4, iv 0)] [] h4 Φ) ∧ (r3 ≠ 5 → ((r3 ≠ 12 → AT G m_X12_command 66 [(0, rv 85), (1, iv a), (2, iv r3), (3, iv 0), (4, iv 0)] [] h4 Φ) ∧ (r3 = 12 → AT G m_X12_command 61 [(0, rv 85), (1, iv a), (2, iv r3), (3, iv 0), (4, iv 0)] [] h4 Φ))))))))))
def inC (x2 : Int) : Int := if x2 = 13 then 1 else if x2 = 14 then 2 else 0
section
variable {G : GG} {b : Int → Int} {n : Int} {h : Hp}
theorem num_g {lo hi : Int} {s : PS} (z : (num b lo hi s).1.2 = -1) : s.2 = -1 := by
  false_or_by_contra
  rename_i y
  rw [num_w y] at z
  exact y z
theorem fns_g {s : PS} (S : SV n s) (z : (fns n s).2 = -1) : s.2 = -1 ∧ fns n s = s := by
  unfold fns at z ⊢
  split
  · rename_i w
    rw [if_pos w] at z
    have z : s.1 = -1 := z
    have := S.1
    omega
  · rename_i w
    rw [if_neg w] at z
    exact ⟨z, rfl⟩
/-- class and model read a command: up to the model's end at 143 -/
theorem sim_cmd (T : TX b n) (Cc : TXc h b n) (Cm : TXm (tkH h) b n) : ∃ (s1 s2 : PS) (hc1 hm1 : Hp) (x2 x3 x4 : Int), SV n s1 ∧ SV n s2 ∧ (fns n s2).2 = (fns n s1).2 ∧ CE G m_X3_readCommand [rv 4, rv 2] h 0 (sT hc1 s1) ∧
    (∀ (g : Hp) (Φ : Int → Hp → Prop), AT G m_X12_command 143 [(0, rv 85), (2, iv x2), (3, iv x3), (4, iv x4)] [] (cb g (sM hm1 s2)) Φ → Call G m_X12_wordOf [rv 85, rv 98] (cb g (sM (tkH h) (0, -1))) (fun r3 h4 => CMT G Φ 0 r3 h4)) ∧
    ((fns n s1).2 = -1 → KRv (hc1 5 0) (hc1 6 0) (hc1 7 0) (hc1 8 0) (hc1 9 0) (hc1 10 0) (hm1 103 240) (hm1 104 240) (hm1 105 240) (hm1 106 240) (hm1 107 240) (hm1 108 240) x3 x4 (inC x2)) ∧
    (∀ a i, ¬ (5 ≤ a ∧ a ≤ 10) → hc1 a i = h a i) ∧ (∀ a i, ¬ ((103 ≤ a ∧ a ≤ 108) ∧ i = 240) → hm1 a i = tkH h a i) := by
  have t1 := T.1
  have S0 : SV n ((0, -1) : PS) := ⟨⟨Int.le_refl 0, T.1.1⟩, Or.inl rfl⟩
  have hx : 0 ≤ (0 : Int) ∧ (0 : Int) < 30 := by omega
  have ck := wr_98 (wl b 0 (wen b 0))
  have we := wen_v (e := 0) T (Int.le_refl 0) T.1.1
  have e0 : ∀ g : Hp, ln5 (cb h g) 0 (h 5 0, h 6 0, h 7 0, h 8 0, h 9 0) = cb h g := fun g => ln5_id (h := cb h g) (x := 0)
  have em0 : ∀ g : Hp, ln6 (cb g (tkH h)) 240 (tkH h 103 240, tkH h 104 240, tkH h 105 240, tkH h 106 240, tkH h 107 240, tkH h 108 240) = cb g (tkH h) := fun g => ln6_id (h := cb g (tkH h)) (x := 240)
  -- the class's first word
  have clF : ∀ (g : Hp) (Φ : Int → Hp → Prop), (((tol b 6 10 (0, -1)).2 ≠ 14 → Call G m_X3_readRest [rv 4, rv 2, iv 0, iv (tol b 6 10 (0, -1)).2] (sT (up (cb h g) 10 0 (-1)) (tol b 6 10 (0, -1)).1) (fun _ h4 => Φ 0 h4)) ∧ ((tol b 6 10 (0, -1)).2 = 14 → Call G m_X10_skip [rv 2, iv 32] (sT (cb h g) (tol b 6 10 (0, -1)).1) (fun _ h6 => Call G m_X10_number [rv 2, iv 0, iv 7] h6 (fun r7 h8 => Call G m_X10_skip [rv 2, iv 32] h8 (fun _ h10 => Call G m_X10_number [rv 2, iv 0, iv 29] h10 (fun r11 h12 => Call G m_X10_skip [rv 2, iv 32] (up h12 10 0 (w32 ((w32 (r7 * 30)) + r11))) (fun _ h14 => Call G m_X3_readLine [rv 4, rv 2, iv 0] h14 (fun _ h16 => Φ 0 h16)))))))) → Call G m_X3_readCommand [rv 4, rv 2] (cb h g) Φ := fun g Φ K => by
    have C' : TXc (cb h g) b n := Cc
    refine Call.of rfl (Nat.le_of_ble_eq_true rfl) rfl (U_X3_readCommand_4_2_0 ?_)
    refine c_told (h := cb h g) (s := (0, -1)) (d := 10) T C' S0 ⟨by omega, by omega⟩ (by omega) ?_
    refine ⟨fun z => ?_, fun z => K.2 z⟩
    rw [sT_u (by decide)]
    exact K.1 z
  unfold chk98 at ck
  have tolE : tol b 6 10 (0, -1) = pck (tld (wl b 0 (wen b 0)) 10 6) (wen b 0) (0, -1) 6 := if_pos rfl
  have mwoE : mwo b 98 15 (0, -1) = pck (mfd (wl b 0 (wen b 0)) 98 15 0) (wen b 0) (0, -1) (-1) := if_pos rfl
  have mwoL : mwo b 99 13 (0, -1) = pck (mfd (wl b 0 (wen b 0)) 99 13 0) (wen b 0) (0, -1) (-1) := if_pos rfl
  cases et : tld (wl b 0 (wen b 0)) 10 6 with
  | none =>
    rw [et] at ck tolE
    have zb : ((0, 0) : PS).2 ≠ -1 := by decide
    have Sb : SV n ((0, 0) : PS) := ⟨⟨Int.le_refl 0, T.1.1⟩, Or.inr ⟨Int.le_refl 0, T.1.1⟩⟩
    have tE : tol b 6 10 (0, -1) = ((0, 0), 6) := tolE
    have N : num b 0 7 (skp b 32 (0, 0)) = ((0, 0), 0) := by rw [skp_w zb, num_w zb]
    have fb : fns n ((0, 0) : PS) = (0, 0) := fns_bad zb
    have clE : CE G m_X3_readCommand [rv 4, rv 2] h 0 (sT (up (ln5 h 0 (6, h 6 0, h 7 0, cvl 0 (num b 0 7 (skp b 32 (0, 0))), h 9 0)) 10 0 (-1)) (0, 0)) := fun g Φ K => by
      refine clF g Φ ?_
      rw [tE]
      refine ⟨fun _ => ?_, fun z => absurd z (by decide)⟩
      have C' : TXc (cb h g) b n := Cc
      have C2 : TXc (up (cb h g) 10 0 (-1)) b n := C'.u (by decide)
      have e1 : ln5 (up (cb h g) 10 0 (-1)) 0 (h 5 0, h 6 0, h 7 0, h 8 0, h 9 0) = up (cb h g) 10 0 (-1) := by
        have t := ln5_id (h := up (cb h g) 10 0 (-1)) (x := 0)
        exact t
      have t := c_restN (G := G) (h := up (cb h g) 10 0 (-1)) (F := (h 5 0, h 6 0, h 7 0, h 8 0, h 9 0)) (v := 6) (lo := 0) (hi := 7) (s := (0, 0)) (x := 0) (Φ := fun _ h4 => Φ 0 h4) T C2 Sb hx (by omega) (by
        rw [cb_sT, cb_uc (by decide), cb_ln5] at K
        rw [N] at K ⊢
        have ec : up (ln5 (cb h g) 0 (6, h 6 0, h 7 0, cvl 0 (((0, 0) : PS), (0 : Int)), h 9 0)) 10 0 (-1) = ln5 (up (cb h g) 10 0 (-1)) 0 (6, h 6 0, h 7 0, cvl 0 (((0, 0) : PS), (0 : Int)), h 9 0) := ln5_u (by decide)
        rw [ec] at K
        exact K)
      rw [e1] at t
      exact t
    have frC : ∀ a i, ¬ (5 ≤ a ∧ a ≤ 10) → up (ln5 h 0 (6, h 6 0, h 7 0, cvl 0 (num b 0 7 (skp b 32 (0, 0))), h 9 0)) 10 0 (-1) a i = h a i := fun a i z => by rw [up_nk (by omega), ln5_o (by omega)]
    cases em : mfd (wl b 0 (wen b 0)) 98 15 0 with
    | none =>
      rw [em] at mwoE
      have mE : mwo b 98 15 (0, -1) = ((0, 0), -1) := mwoE
      refine ⟨(0, 0), (0, 0), _, tkH h, -1, 0, 0, Sb, Sb, rfl, clE, fun g Φ K => ?_, fun z => absurd z (by rw [fb]; decide), frC, fun _ _ _ => rfl⟩
      have C' : TXm (cb g (tkH h)) b n := Cm
      rw [cb_sM] at K ⊢
      refine m_wordOf98 T C' S0 ?_
      rw [mE]
      refine ⟨fun y => absurd y (by decide), fun _ => ⟨fun y => absurd y (by decide), fun _ => ⟨fun y => absurd y (by decide), fun _ => ⟨fun y => absurd y (by decide), fun _ => ⟨fun _ => ?_, fun y => absurd y (by decide)⟩⟩⟩⟩⟩
      refine U_X12_command_85_66 ⟨fun _ => ⟨fun _ => ⟨fun y => ?_, fun _ => K⟩, fun y => absurd y (by decide)⟩, fun y => absurd y (by decide)⟩
      rw [sM_w] at y
      exact absurd y (by simp)
    | some m =>
      rw [em] at ck mwoE
      have hm : m = 2 ∨ m = 3 ∨ m = 4 ∨ m = 5 ∨ m = 12 := of_decide_eq_true ck
      have mE : mwo b 98 15 (0, -1) = ((wen b 0, -1), m) := mwoE
      have S2 : SV n ((wen b 0, 0) : PS) := ⟨⟨we.1, we.2⟩, Or.inr ⟨Int.le_refl 0, T.1.1⟩⟩
      have f2 : fns n ((wen b 0, 0) : PS) = (wen b 0, 0) := fns_bad (by show ¬ (0 : Int) = -1; decide)
      refine ⟨(0, 0), (wen b 0, 0), _, tkH h, m, 0, 0, Sb, S2, by rw [f2, fb], clE, fun g Φ K => ?_, fun z => absurd z (by rw [fb]; decide), frC, fun _ _ _ => rfl⟩
      have C' : TXm (cb g (tkH h)) b n := Cm
      rw [cb_sM] at K ⊢
      refine m_wordOf98 T C' S0 ?_
      rw [mE]
      have k66 : AT G m_X12_command 66 [(0, rv 85), (1, iv 0), (2, iv m), (3, iv 0), (4, iv 0)] [] (sM (cb g (tkH h)) (wen b 0, 0)) Φ := by
        refine U_X12_command_85_66 ⟨fun _ => ⟨fun _ => ⟨fun y => ?_, fun _ => K⟩, fun y => absurd y (by omega)⟩, fun y => absurd y (by omega)⟩
        rw [sM_w] at y
        exact absurd y (by simp)
      have k61 : AT G m_X12_command 61 [(0, rv 85), (1, iv 0), (2, iv m), (3, iv 0), (4, iv 0)] [] (sM (cb g (tkH h)) (wen b 0, -1)) Φ := by
        refine U_X12_command_85_61 ⟨fun y => ?_, fun _ => ?_⟩
        · rw [sM_w] at y; exact absurd y (by simp)
        · rw [sM_2]; exact k66
      exact ⟨fun _ => k61, fun y2 => ⟨fun _ => k61, fun y3 => ⟨fun _ => k61, fun y4 => ⟨fun _ => k61, fun y5 => ⟨fun y => absurd y (by omega), fun _ => k61⟩⟩⟩⟩⟩
  | some c =>
    rw [et] at ck tolE
    have cb0 := tld_some 10 6 et
    have tE : tol b 6 10 (0, -1) = ((wen b 0, -1), c) := tolE
    have S1 : SV n ((wen b 0, -1) : PS) := ⟨⟨we.1, we.2⟩, Or.inl rfl⟩
    cases em : mfd (wl b 0 (wen b 0)) 98 15 0 with
    | none => rw [em] at ck; exact absurd (show false = true from ck) (by decide)
    | some m =>
      rw [em] at ck mwoE
      have hm : m = mvb c ∧ (c ≤ 13 → mfd (wl b 0 (wen b 0)) 99 13 0 = some m) := of_decide_eq_true ck
      obtain ⟨hm1, hm2⟩ := hm
      have mE : mwo b 98 15 (0, -1) = ((wen b 0, -1), m) := mwoE
      by_cases c13 : c ≤ 13
      · -- a line that may be a command
        have mb : m = c - 6 ∧ c ≤ 7 ∨ m = c - 2 ∧ 8 ≤ c := by rw [hm1]; unfold mvb; rw [if_neg (by omega), if_neg (by omega)]; split <;> omega
        obtain ⟨s', fc, fm, V, L, FC1, RC, RM⟩ := sim_rest (G := G) (x := 0) (c := c) T S1 hx (by omega)
        rw [← hm1] at RM
        rw [hm2 c13] at mwoL
        have mL : mwo b 99 13 (0, -1) = ((wen b 0, -1), m) := mwoL
        refine ⟨s', s', up (ln5 h 0 (fc (h 5 0, h 6 0, h 7 0, h 8 0, h 9 0))) 10 0 (-1), ln6 (tkH h) 240 (fm (tkH h 103 240, tkH h 104 240, tkH h 105 240, tkH h 106 240, tkH h 107 240, tkH h 108 240)), m, 0, 0, V, V, rfl, fun g Φ K => ?_, fun g Φ K => ?_, fun z => ?_, fun a i z => by rw [up_nk (by omega), ln5_o (by omega)], fun a i z => ln6_o (by omega)⟩
        · refine clF g Φ ?_
          rw [tE]
          refine ⟨fun _ => ?_, fun y => absurd y (by show ¬ c = 14; omega)⟩
          have C' : TXc (cb h g) b n := Cc
          have C2 : TXc (up (cb h g) 10 0 (-1)) b n := C'.u (by decide)
          have e1 : ln5 (up (cb h g) 10 0 (-1)) 0 (h 5 0, h 6 0, h 7 0, h 8 0, h 9 0) = up (cb h g) 10 0 (-1) := by
            have t := ln5_id (h := up (cb h g) 10 0 (-1)) (x := 0)
            exact t
          have t := RC (up (cb h g) 10 0 (-1)) (h 5 0, h 6 0, h 7 0, h 8 0, h 9 0) (fun _ h4 => Φ 0 h4) C2 (by
            rw [cb_sT, cb_uc (by decide), cb_ln5, ln5_u (by decide)] at K
            exact K)
          rw [e1] at t
          exact t
        · have C' : TXm (cb g (tkH h)) b n := Cm
          rw [cb_sM, cb_ln6] at K
          rw [cb_sM]
          refine m_wordOf98 T C' S0 ?_
          rw [mE]
          have k66 : AT G m_X12_command 66 [(0, rv 85), (1, iv 0), (2, iv m), (3, iv 0), (4, iv 0)] [] (sM (cb g (tkH h)) (wen b 0, -1)) Φ := by
            refine U_X12_command_85_66 ⟨fun _ => ⟨fun _ => ⟨fun _ => ?_, fun y => ?_⟩, fun y => absurd y (by omega)⟩, fun y => absurd y (by omega)⟩
            · rw [sM_1]
              show Call G m_X12_line [rv 85, rv 99] (sM (cb g (tkH h)) (0, -1)) _
              refine Call.of rfl (Nat.le_of_ble_eq_true rfl) rfl (U_X12_line_85_99_0 (m_wordOf99 T C' S0 ?_))
              show LNT G (mwo b 99 13 (0, -1)).2 (sM (cb g (tkH h)) (mwo b 99 13 (0, -1)).1) (fun _ h2 => AT G m_X12_command 143 [(0, rv 85), (2, iv m), (3, iv 0), (4, iv 0)] [] h2 Φ)
              rw [mL]
              have t := RM (cb g (tkH h)) (tkH h 103 240, tkH h 104 240, tkH h 105 240, tkH h 106 240, tkH h 107 240, tkH h 108 240) (fun _ h2 => AT G m_X12_command 143 [(0, rv 85), (2, iv m), (3, iv 0), (4, iv 0)] [] h2 Φ) C' K
              rw [em0] at t
              exact t
            · rw [sM_w] at y; exact absurd y (by simp)
          exact ⟨fun y => absurd y (by show ¬ m = 2; omega), fun _ => ⟨fun y => absurd y (by show ¬ m = 3; omega), fun _ => ⟨fun y => absurd y (by show ¬ m = 4; omega), fun _ => ⟨fun y => absurd y (by show ¬ m = 5; omega), fun _ => ⟨fun _ => k66, fun y => absurd y (by show ¬ m = 12; omega)⟩⟩⟩⟩⟩
        · have z := (fns_g V z).1
          have l := L z (h 5 0, h 6 0, h 7 0, h 8 0, h 9 0) (tkH h 103 240, tkH h 104 240, tkH h 105 240, tkH h 106 240, tkH h 107 240, tkH h 108 240)
          have f1 := FC1 (h 5 0, h 6 0, h 7 0, h 8 0, h 9 0)
          unfold LRt LR at l
          rw [up_nk (by decide), up_nk (by decide), up_nk (by decide), up_nk (by decide), up_nk (by decide), up_at, ln5_r5, ln5_r6, ln5_r7, ln5_r8, ln5_r9, ln6_r103, ln6_r104, ln6_r105, ln6_r106, ln6_r107, ln6_r108]
          have i0 : inC m = 0 := by unfold inC; rw [if_neg (by omega), if_neg (by omega)]
          rw [i0]
          left
          refine ⟨rfl, rfl, ?_⟩
          rcases l with l | l | l | l | l | l
          · omega
          · omega
          · omega
          · omega
          · omega
          · exact l
      · by_cases c14 : c = 14
        · -- line k n ..
          subst c14
          have em13 : m = 13 := hm1
          subst em13
          have V1 := skp_v (c := 32) T (by decide) S1
          have V2 := num_v (lo := 0) (hi := 7) T V1
          have V3 := skp_v (c := 32) T (by decide) V2
          have V4 := num_v (lo := 0) (hi := 29) T V3
          have V5 := skp_v (c := 32) T (by decide) V4
          obtain ⟨q7, e7⟩ : ∃ q7, q7 = num b 0 7 (skp b 32 (wen b 0, -1)) := ⟨_, rfl⟩
          obtain ⟨q29, e29⟩ : ∃ q29, q29 = num b 0 29 (skp b 32 q7.1) := ⟨_, rfl⟩
          rw [← e7] at V2 V3
          rw [← e7, ← e29] at V4 V5
          obtain ⟨s', fc, fm, V, L, B, RC, RM⟩ := sim_line (G := G) (x := 0) T V5 hx
          have c7 : 0 ≤ cvl 0 q7 ∧ cvl 0 q7 ≤ 7 := by
            by_cases z : q7.1.2 = -1
            · rw [cvl_r z]; rw [e7] at z ⊢; exact num_r V1 z
            · rw [cvl_w z]; omega
          have c29 : 0 ≤ cvl 0 q29 ∧ cvl 0 q29 ≤ 29 := by
            by_cases z : q29.1.2 = -1
            · rw [cvl_r z]; rw [e29] at z ⊢; exact num_r V3 z
            · rw [cvl_w z]; omega
          refine ⟨s', s', up (ln5 h 0 (fc (h 5 0, h 6 0, h 7 0, h 8 0, h 9 0))) 10 0 (cvl 0 q7 * 30 + cvl 0 q29), ln6 (tkH h) 240 (fm (tkH h 103 240, tkH h 104 240, tkH h 105 240, tkH h 106 240, tkH h 107 240, tkH h 108 240)), 13, q7.2, q29.2, V, V, rfl, fun g Φ K => ?_, fun g Φ K => ?_, fun z => ?_, fun a i z => by rw [up_nk (by omega), ln5_o (by omega)], fun a i z => ln6_o (by omega)⟩
          · refine clF g Φ ?_
            rw [tE]
            refine ⟨fun y => absurd rfl y, fun _ => ?_⟩
            have C' : TXc (cb h g) b n := Cc
            refine c_skip T C' S1 (c_number T C' V1 ?_)
            rw [← e7]
            refine c_skip T C' V2 (c_number T C' V3 ?_)
            rw [← e29, w32_of (z := cvl 0 q7 * 30) (by omega) (by omega), w32_of (by omega) (by omega), sT_u (by decide)]
            have C2 : TXc (up (cb h g) 10 0 (cvl 0 q7 * 30 + cvl 0 q29)) b n := C'.u (by decide)
            refine c_skip T C2 V4 ?_
            have e1 : ln5 (up (cb h g) 10 0 (cvl 0 q7 * 30 + cvl 0 q29)) 0 (h 5 0, h 6 0, h 7 0, h 8 0, h 9 0) = up (cb h g) 10 0 (cvl 0 q7 * 30 + cvl 0 q29) := by
              have t := ln5_id (h := up (cb h g) 10 0 (cvl 0 q7 * 30 + cvl 0 q29)) (x := 0)
              exact t
            have t := RC (up (cb h g) 10 0 (cvl 0 q7 * 30 + cvl 0 q29)) (h 5 0, h 6 0, h 7 0, h 8 0, h 9 0) (fun _ h16 => Φ 0 h16) C2 (by
              rw [cb_sT, cb_uc (by decide), cb_ln5, ln5_u (by decide)] at K
              exact K)
            rw [e1] at t
            exact t
          · have C' : TXm (cb g (tkH h)) b n := Cm
            rw [cb_sM, cb_ln6] at K
            rw [cb_sM]
            refine m_wordOf98 T C' S0 ?_
            rw [mE]
            refine ⟨fun y => absurd y (by simp), fun _ => ⟨fun y => absurd y (by simp), fun _ => ⟨fun y => absurd y (by simp), fun _ => ⟨fun y => absurd y (by simp), fun _ => ⟨fun _ => ?_, fun y => absurd y (by simp)⟩⟩⟩⟩⟩
            refine U_X12_command_85_66 ⟨fun y => absurd rfl y, fun _ => ?_⟩
            refine m_behind T C' S1 ?_
            rw [← e7]
            refine m_behind T C' V2 ?_
            rw [← e29]
            refine m_need T C' V4 ?_
            have t := RM (cb g (tkH h)) (tkH h 103 240, tkH h 104 240, tkH h 105 240, tkH h 106 240, tkH h 107 240, tkH h 108 240) (fun _ h12 => AT G m_X12_command 143 [(0, rv 85), (2, iv 13), (3, iv q7.2), (4, iv q29.2)] [] h12 Φ) C' K
            rw [em0] at t
            exact t
          · have z := (fns_g V z).1
            have l := L z (h 5 0, h 6 0, h 7 0, h 8 0, h 9 0) (tkH h 103 240, tkH h 104 240, tkH h 105 240, tkH h 106 240, tkH h 107 240, tkH h 108 240)
            have z5 : (skp b 32 q29.1).2 = -1 := by
              false_or_by_contra
              rename_i y
              rw [B y] at z
              exact y z
            have z4 : q29.1.2 = -1 := skp_g z5
            have z3 : (skp b 32 q7.1).2 = -1 := by rw [e29] at z4; exact num_g z4
            have z2 : q7.1.2 = -1 := skp_g z3
            have r7 : cvl 0 q7 = q7.2 := cvl_r z2
            have r29 : cvl 0 q29 = q29.2 := cvl_r z4
            rw [up_nk (by decide), up_nk (by decide), up_nk (by decide), up_nk (by decide), up_nk (by decide), up_at, ln5_r5, ln5_r6, ln5_r7, ln5_r8, ln5_r9, ln6_r103, ln6_r104, ln6_r105, ln6_r106, ln6_r107, ln6_r108]
            right; right
            exact ⟨rfl, by omega, by omega, by omega, l⟩
        · -- ready k
          have c15 : c = 15 := by omega
          subst c15
          have em14 : m = 14 := hm1
          subst em14
          have V1 := skp_v (c := 32) T (by decide) S1
          obtain ⟨q7, e7⟩ : ∃ q7, q7 = num b 0 7 (skp b 32 (wen b 0, -1)) := ⟨_, rfl⟩
          have V2 := num_v (lo := 0) (hi := 7) T V1
          rw [← e7] at V2
          refine ⟨q7.1, q7.1, up (ln5 h 0 (15, h 6 0, h 7 0, cvl 0 q7, h 9 0)) 10 0 (-1), tkH h, 14, q7.2, 0, V2, V2, rfl, fun g Φ K => ?_, fun g Φ K => ?_, fun z => ?_, fun a i z => by rw [up_nk (by omega), ln5_o (by omega)], fun _ _ _ => rfl⟩
          · refine clF g Φ ?_
            rw [tE]
            refine ⟨fun _ => ?_, fun y => absurd y (by simp)⟩
            have C' : TXc (cb h g) b n := Cc
            have C2 : TXc (up (cb h g) 10 0 (-1)) b n := C'.u (by decide)
            have e1 : ln5 (up (cb h g) 10 0 (-1)) 0 (h 5 0, h 6 0, h 7 0, h 8 0, h 9 0) = up (cb h g) 10 0 (-1) := by
              have t := ln5_id (h := up (cb h g) 10 0 (-1)) (x := 0)
              exact t
            have t := c_restN (G := G) (h := up (cb h g) 10 0 (-1)) (F := (h 5 0, h 6 0, h 7 0, h 8 0, h 9 0)) (v := 15) (lo := 0) (hi := 7) (s := (wen b 0, -1)) (x := 0) (Φ := fun _ h4 => Φ 0 h4) T C2 S1 hx (by omega) (by
              rw [cb_sT, cb_uc (by decide), cb_ln5, ln5_u (by decide)] at K
              rw [← e7]
              exact K)
            rw [e1] at t
            exact t
          · have C' : TXm (cb g (tkH h)) b n := Cm
            rw [cb_sM] at K ⊢
            refine m_wordOf98 T C' S0 ?_
            rw [mE]
            refine ⟨fun y => absurd y (by simp), fun _ => ⟨fun y => absurd y (by simp), fun _ => ⟨fun y => absurd y (by simp), fun _ => ⟨fun y => absurd y (by simp), fun _ => ⟨fun _ => ?_, fun y => absurd y (by simp)⟩⟩⟩⟩⟩
            refine U_X12_command_85_66 ⟨fun _ => ⟨fun y => absurd rfl y, fun _ => ?_⟩, fun y => absurd y (by simp)⟩
            refine m_behind T C' S1 ?_
            rw [← e7]
            exact K
          · have z := (fns_g V2 z).1
            have r7 : cvl 0 q7 = q7.2 := cvl_r z
            have b7 : 0 ≤ q7.2 ∧ q7.2 ≤ 7 := by rw [e7] at z ⊢; exact num_r V1 z
            rw [up_nk (by decide), up_nk (by decide), up_nk (by decide), up_nk (by decide), up_nk (by decide), up_at, ln5_r5, ln5_r6, ln5_r7, ln5_r8, ln5_r9]
            right; left
            exact ⟨rfl, rfl, rfl, by show q7.2 = cvl 0 q7; omega, by show 0 ≤ cvl 0 q7; omega, by show cvl 0 q7 ≤ 7; omega⟩
end
def PCm (k : Nat) (i : Int) : Prop := PTx k i ∨ (5 ≤ k ∧ k ≤ 10) ∨ k = 65 ∧ (i = 9 ∨ i = 11) ∨ (69 ≤ k ∧ k ≤ 74) ∨ k = 85 ∧ (i = 88 ∨ i = 90) ∨ (103 ≤ k ∧ k ≤ 108) ∧ (i = 240 ∨ 249 ≤ i ∧ i < 257) ∨ (143 ≤ k ∧ k ≤ 146)
theorem op_command {G : GG} {h : Hp} (hT : IT h) (hK : IKp h) : BOTH G m_X11_command m_X12_command [] h (fun h' => (IT h' ∧ IKp h') ∧ FR PCm h h') := by
  obtain ⟨⟨a1, a2, a3⟩, ⟨b1, b2, b3⟩, ⟨n1, n2, n3⟩, kd⟩ := id hK
  by_cases full : h 65 9 = 8
  · refine BOTH.of (r := -4) (h' := h) (fun g Φ K => ?_) (fun g Φ K => ?_) ⟨⟨hT, hK⟩, FR.rf⟩
    · exact Call.of rfl (Nat.le_of_ble_eq_true rfl) rfl (U_X11_command_1_0 ⟨fun z => absurd full z, fun _ => K⟩)
    · exact Call.of rfl (Nat.le_of_ble_eq_true rfl) rfl (U_X12_command_85_0 ⟨fun z => absurd (a1.trans full) z, fun _ => K⟩)
  · obtain ⟨T, Cc, Cm⟩ := bT_ok hT
    have t1 := T.1
    obtain ⟨i0, i1, i2, i3⟩ := id hT
    obtain ⟨s1, s2, hc1, hm1, x2, x3, x4, V1, V2, ew, CE1, ME1, KK, FC, FM⟩ := sim_cmd (G := G) T Cc Cm
    have Fv := fns_v V1
    have fv := Fv.2
    have Fv2 := fns_v V2
    have fv2 := Fv2.2
    have Cc1 : TXc hc1 (bT h) (h 2 1) := ⟨by rw [FC 2 1 (by omega)], fun x x0 x1 => by rw [FC 3 x (by omega)]; exact Cc.2 x x0 x1⟩
    have Cm1 : TXm hm1 (bT h) (h 2 1) := ⟨by rw [FM 85 4 (by omega)]; exact Cm.1, fun x x0 x1 => by rw [FM 87 x (by omega)]; exact Cm.2 x x0 x1⟩
    have readC : ∀ (g : Hp) (Φ : Int → Hp → Prop), (((fns (h 2 1) s1).2 = -1 → Call G m_X2_keep [rv 65, rv 4] (cb (up (sT hc1 (fns (h 2 1) s1)) 2 1 0) g) (fun r5 h6 => Φ r5 h6)) ∧ ((fns (h 2 1) s1).2 ≠ -1 → Φ (-1000 - (fns (h 2 1) s1).2) (cb (up (sT hc1 (fns (h 2 1) s1)) 2 1 0) g))) → Call G m_X11_command [rv 1] (cb h g) Φ := fun g Φ K => by
      rw [cb_uc (by decide), cb_sT] at K
      have C' : TXc (cb hc1 g) (bT h) (h 2 1) := Cc1
      refine Call.of rfl (Nat.le_of_ble_eq_true rfl) rfl (U_X11_command_1_0 ⟨fun _ => ?_, fun z => absurd z full⟩)
      refine CE1 g _ ?_
      rw [cb_sT]
      refine c_close V1 C' (fun z => ⟨fun _ => K.1 z, fun y => absurd y (by decide)⟩) (fun z => ⟨fun y => absurd rfl y, fun _ => ?_⟩)
      rw [up_ni (by decide), sT_w, w32_of (by omega) (by omega)]
      exact K.2 z
    have readM : ∀ (g : Hp) (Φ : Int → Hp → Prop), AT G m_X12_command 143 [(0, rv 85), (2, iv x2), (3, iv x3), (4, iv x4)] [] (cb g (sM hm1 s2)) Φ → Call G m_X12_command [rv 85] (cb g h) Φ := fun g Φ K => by
      refine Call.of rfl (Nat.le_of_ble_eq_true rfl) rfl (U_X12_command_85_0 ⟨fun _ => m_take (by show 0 ≤ h 85 3 ∧ h 85 3 ≤ 1600; omega) ?_, fun z => absurd (a1.symm.trans z) full⟩)
      rw [cb_tkH, ← cb_sM]
      have q5 : cb g (sM (tkH h) (0, -1)) 85 5 = 0 := by rw [cb_m (by decide), sM_a]
      rw [q5]
      exact ME1 g Φ K
    by_cases gd : (fns (h 2 1) s1).2 = -1
    · have gd2 : (fns (h 2 1) s2).2 = -1 := ew.trans gd
      have kr := KK gd
      obtain ⟨kp, ekp⟩ : ∃ kp, kp = h 65 9 := ⟨_, rfl⟩
      obtain ⟨nu, enu⟩ : ∃ nu, nu = h 65 11 := ⟨_, rfl⟩
      obtain ⟨Hc, eHc⟩ : ∃ Hc, Hc = up (sT hc1 (fns (h 2 1) s1)) 2 1 0 := ⟨_, rfl⟩
      obtain ⟨Hm, eHm⟩ : ∃ Hm, Hm = sM hm1 (fns (h 2 1) s2) := ⟨_, rfl⟩
      have Hco : ∀ a i, a ≠ 2 → Hc a i = hc1 a i := fun a i z => by rw [eHc, up_nk z, sT_o z]
      have Hmo : ∀ a i, ¬ (a = 85 ∧ (i = 5 ∨ i = 6)) → Hm a i = hm1 a i := fun a i z => by
        rw [eHm]; unfold sM; rw [up_ap, if_neg (by omega), up_ap, if_neg (by omega)]
      have c659 : Hc 65 9 = kp := by rw [Hco 65 9 (by decide), FC 65 9 (by omega), ekp]
      have c6511 : Hc 65 11 = nu := by rw [Hco 65 11 (by decide), FC 65 11 (by omega), enu]
      have m88 : Hm 85 88 = kp := by rw [Hmo 85 88 (by omega), FM 85 88 (by omega), tkH_o (by omega), a1, ekp]
      have m90 : Hm 85 90 = nu := by rw [Hmo 85 90 (by omega), FM 85 90 (by omega), tkH_o (by omega), n1, enu]
      obtain ⟨hcF, ehc⟩ : ∃ hcF, hcF = up (up (cpr Hc 69 kp) 65 9 (kp + 1)) 65 11 ((nu + 1) % 256) := ⟨_, rfl⟩
      obtain ⟨hmF, ehm⟩ : ∃ hmF, hmF = up (up (up (up (up (up (cpl Hm 240 (249 + kp)) 143 kp nu) 146 kp (inC x2)) 144 kp x3) 145 kp x4) 85 88 (kp + 1)) 85 90 ((nu + 1) % 256) := ⟨_, rfl⟩
      have kpb : 0 ≤ kp ∧ kp < 8 := by omega
      have kp9 : 0 ≤ kp ∧ kp < 9 := by omega
      have nub : 0 ≤ nu ∧ nu ≤ 255 := by omega
      have co : ∀ a i, ¬ (a = 2 ∨ (5 ≤ a ∧ a ≤ 10) ∨ (69 ≤ a ∧ a ≤ 74) ∧ i = kp ∨ a = 65 ∧ (i = 9 ∨ i = 11)) → hcF a i = h a i := fun a i z => by
        rw [ehc, up_ap, if_neg (by omega), up_ap, if_neg (by omega), cpr_o (by omega), Hco a i (by omega), FC a i (by omega)]
      have mo' : ∀ a i, ¬ ((143 ≤ a ∧ a ≤ 146) ∧ i = kp ∨ a = 85 ∧ (i = 88 ∨ i = 90 ∨ i = 3 ∨ i = 4 ∨ i = 5 ∨ i = 6) ∨ a = 87 ∨ (103 ≤ a ∧ a ≤ 108) ∧ (i = 240 ∨ i = 249 + kp)) → hmF a i = h a i := fun a i z => by
        rw [ehm, up_ap, if_neg (by omega), up_ap, if_neg (by omega), up_ap, if_neg (by omega), up_ap, if_neg (by omega), up_ap, if_neg (by omega), up_ap, if_neg (by omega), cpl_o (by omega), Hmo a i (by omega), FM a i (by omega), tkH_o (by omega)]
      have cr : ∀ t : Nat, t ≤ 5 → hcF (69 + t) kp = hc1 (5 + t) 0 := fun t t5 => by
        rw [ehc, up_nk (by omega), up_nk (by omega), cpr_i (by omega), Hco _ _ (by omega)]
        congr 1
        omega
      have mr : ∀ t : Nat, t ≤ 5 → hmF (103 + t) (249 + kp) = hm1 (103 + t) 240 := fun t t5 => by
        rw [ehm, up_nk (by omega), up_nk (by omega), up_nk (by omega), up_nk (by omega), up_nk (by omega), up_nk (by omega), cpl_i (by omega), Hmo _ _ (by omega)]
      have v143 : hmF 143 kp = nu := by rw [ehm, up_nk (by decide), up_nk (by decide), up_nk (by decide), up_nk (by decide), up_nk (by decide), up_at]
      have v146 : hmF 146 kp = inC x2 := by rw [ehm, up_nk (by decide), up_nk (by decide), up_nk (by decide), up_nk (by decide), up_at]
      have v144 : hmF 144 kp = x3 := by rw [ehm, up_nk (by decide), up_nk (by decide), up_nk (by decide), up_at]
      have v145 : hmF 145 kp = x4 := by rw [ehm, up_nk (by decide), up_nk (by decide), up_at]
      have v88 : hmF 85 88 = kp + 1 := by rw [ehm, up_ni (by decide), up_at]
      have v90 : hmF 85 90 = (nu + 1) % 256 := by rw [ehm, up_at]
      have w9 : hcF 65 9 = kp + 1 := by rw [ehc, up_ni (by decide), up_at]
      have w11 : hcF 65 11 = (nu + 1) % 256 := by rw [ehc, up_at]
      have w10 : hcF 65 10 = h 65 10 := co 65 10 (by omega)
      have v89 : hmF 85 89 = h 85 89 := mo' 85 89 (by omega)
      refine BOTH.of (r := nu) (h' := cb hcF hmF) (CE.mk (fun g Φ K => ?_)) (ME.mk (fun g Φ K => ?_)) ⟨⟨?_, ?_⟩, ?_⟩
      · refine readC g Φ ⟨fun _ => ?_, fun z => absurd gd z⟩
        rw [← eHc]
        refine Call.of rfl (Nat.le_of_ble_eq_true rfl) rfl (U_X2_keep_65_4_0 ?_)
        have q9 : cb Hc g 65 9 = kp := c659
        have q11 : cb Hc g 65 11 = nu := c6511
        rw [q9, q11]
        refine c_copy68 kpb ?_
        have q9' : cpr (cb Hc g) 69 kp 65 9 = kp := by rw [cpr_o (by omega)]; exact q9
        rw [q9', w32_of (z := kp + 1) (by omega) (by omega), w32_of (z := nu + 1) (by omega) (by omega), band_255x]
        rw [ehc, cb_uc (by decide), cb_uc (by decide), cb_cpr (by decide)] at K
        exact K
      · refine readM g Φ ?_
        have C' : TXm (cb g hm1) (bT h) (h 2 1) := Cm1
        rw [cb_sM]
        refine U_X12_command_85_143 (m_close V2 C' ?_)
        rw [sM_w]
        refine ⟨fun _ => ?_, fun z => absurd z (by omega)⟩
        have eg : sM (cb g hm1) (fns (h 2 1) s2) = cb g Hm := by rw [eHm, cb_sM]
        rw [eg]
        have q88 : cb g Hm 85 88 = kp := m88
        rw [q88, w32_of (z := 249 + kp) (by omega) (by omega)]
        refine m_copyLine (by omega) (by omega) (by omega) ?_
        have p88 : cpl (cb g Hm) 240 (249 + kp) 85 88 = kp := by rw [cpl_o (by omega)]; exact q88
        have p90 : cpl (cb g Hm) 240 (249 + kp) 85 90 = nu := by rw [cpl_o (by omega)]; exact m90
        rw [p88, p90, w32_of (z := nu + 1) (by omega) (by omega), w32_of (z := kp + 1) (by omega) (by omega), band_255x, band_255x, w32_of (z := (nu + 1) % 256 - 1) (by omega) (by omega)]
        have er : ((nu + 1) % 256 - 1) % 256 = nu := by omega
        rw [er]
        rw [ehm, cb_um (by decide), cb_um (by decide), cb_um (by decide), cb_um (by decide), cb_um (by decide), cb_um (by decide), cb_cpl] at K
        refine ⟨kp9, fun y13 => ⟨fun y14 => ⟨kp9, kp9, kp9, ?_⟩, fun y14 => ⟨kp9, kp9, kp9, ?_⟩⟩, fun y13 => ⟨kp9, kp9, kp9, ?_⟩⟩
        · have ei : inC x2 = 0 := by unfold inC; rw [if_neg y13, if_neg y14]
          rw [ei] at K; exact K
        · have ei : inC x2 = 2 := by unfold inC; rw [if_neg y13, if_pos y14]
          rw [ei] at K; exact K
        · have ei : inC x2 = 1 := by unfold inC; rw [if_pos y13]
          rw [ei] at K; exact K
      · refine IT_of ?_ ?_
        · rw [cb_c (by decide), ehc, up_nk (by decide), up_nk (by decide), cpr_o (by omega), eHc, up_at]
        · rw [cb_m (by decide), ehm, up_ni (by decide), up_ni (by decide), up_nk (by decide), up_nk (by decide), up_nk (by decide), up_nk (by decide), cpl_o (by omega), Hmo 85 3 (by omega), FM 85 3 (by omega), tkH_3]
      · unfold IKp
        rw [cb_m (k := 85) (by decide), cb_m (k := 85) (by decide), cb_m (k := 85) (by decide), cb_c (k := 65) (by decide), cb_c (k := 65) (by decide), cb_c (k := 65) (by decide), v88, v89, v90, w9, w10, w11]
        refine ⟨by omega, by omega, by omega, fun i i0 i1 => ?_⟩
        rw [cb_m (k := 143) (by decide)]
        by_cases e : i = kp
        · subst e
          refine ⟨by rw [v143]; omega, ?_⟩
          unfold KR
          have x0 := cr 0 (by omega)
          have x1 := cr 1 (by omega)
          have x2' := cr 2 (by omega)
          have x3' := cr 3 (by omega)
          have x4' := cr 4 (by omega)
          have x5 := cr 5 (by omega)
          have y0 := mr 0 (by omega)
          have y1 := mr 1 (by omega)
          have y2 := mr 2 (by omega)
          have y3 := mr 3 (by omega)
          have y4 := mr 4 (by omega)
          have y5 := mr 5 (by omega)
          simp only [Nat.reduceAdd] at x0 x1 x2' x3' x4' x5 y0 y1 y2 y3 y4 y5
          rw [cb_c (k := 69) (by decide), cb_c (k := 70) (by decide), cb_c (k := 71) (by decide), cb_c (k := 72) (by decide), cb_c (k := 73) (by decide), cb_c (k := 74) (by decide), cb_m (k := 103) (by decide), cb_m (k := 104) (by decide), cb_m (k := 105) (by decide), cb_m (k := 106) (by decide), cb_m (k := 107) (by decide), cb_m (k := 108) (by decide), cb_m (k := 144) (by decide), cb_m (k := 145) (by decide), cb_m (k := 146) (by decide), x0, x1, x2', x3', x4', x5, y0, y1, y2, y3, y4, y5, v144, v145, v146]
          exact kr
        · have w := kd i i0 (by omega)
          refine ⟨by rw [mo' 143 i (by omega), w.1]; omega, ?_⟩
          have q := w.2
          unfold KR at q ⊢
          rw [cb_c (k := 69) (by decide), cb_c (k := 70) (by decide), cb_c (k := 71) (by decide), cb_c (k := 72) (by decide), cb_c (k := 73) (by decide), cb_c (k := 74) (by decide), cb_m (k := 103) (by decide), cb_m (k := 104) (by decide), cb_m (k := 105) (by decide), cb_m (k := 106) (by decide), cb_m (k := 107) (by decide), cb_m (k := 108) (by decide), cb_m (k := 144) (by decide), cb_m (k := 145) (by decide), cb_m (k := 146) (by decide),
            co 69 i (by omega), co 70 i (by omega), co 71 i (by omega), co 72 i (by omega), co 73 i (by omega), co 74 i (by omega), mo' 103 _ (by omega), mo' 104 _ (by omega), mo' 105 _ (by omega), mo' 106 _ (by omega), mo' 107 _ (by omega), mo' 108 _ (by omega), mo' 144 i (by omega), mo' 145 i (by omega), mo' 146 i (by omega)]
          exact q
      · intro a i z
        unfold PCm PTx at z
        by_cases k85 : a < 85
        · rw [cb_c k85]
          by_cases a2 : a = 2
          · subst a2
            rw [ehc, up_nk (by decide), up_nk (by decide), cpr_o (by omega), eHc, up_ni (by omega)]
            unfold sT
            rw [up_ni (by omega), up_ni (by omega), FC 2 i (by omega)]
          · exact co a i (by omega)
        · rw [cb_m (by omega)]; exact mo' a i (by omega)
    · have gd2 : (fns (h 2 1) s2).2 ≠ -1 := fun z => gd (ew.symm.trans z)
      refine BOTH.of (r := -1000 - (fns (h 2 1) s1).2) (h' := cb (up (sT hc1 (fns (h 2 1) s1)) 2 1 0) (sM hm1 (fns (h 2 1) s2))) (CE.mk (fun g Φ K => readC g Φ ⟨fun z => absurd z gd, fun _ => K⟩)) (ME.mk (fun g Φ K => ?_)) ⟨⟨?_, ?_⟩, ?_⟩
      · refine readM g Φ ?_
        have C' : TXm (cb g hm1) (bT h) (h 2 1) := Cm1
        rw [cb_sM] at K ⊢
        refine U_X12_command_85_143 (m_close V2 C' ?_)
        rw [sM_w, ew, w32_of (z := -1000 - (fns (h 2 1) s1).2) (by omega) (by omega)]
        exact ⟨fun z => absurd z (by omega), fun _ => K⟩
      · refine IT_of ?_ ?_
        · rw [cb_c (by decide), up_at]
        · rw [cb_m (by decide), sM_oi (by decide), FM 85 3 (by omega), tkH_3]
      · refine IKp_cg (fun a i d => ?_) hK
        unfold DKp at d
        by_cases k85 : a < 85
        · rw [cb_c k85, up_nk (by omega), sT_o (by omega), FC a i (by omega)]
        · rw [cb_m (by omega)]
          unfold sM
          rw [up_ap, if_neg (by omega), up_ap, if_neg (by omega), FM a i (by omega), tkH_o (by omega)]
      · intro a i z
        unfold PCm PTx at z
        by_cases k85 : a < 85
        · rw [cb_c k85, up_ap, if_neg (by omega)]
          unfold sT
          rw [up_ap, if_neg (by omega), up_ap, if_neg (by omega), FC a i (by omega)]
        · rw [cb_m (by omega)]
          unfold sM
          rw [up_ap, if_neg (by omega), up_ap, if_neg (by omega), FM a i (by omega), tkH_o (by omega)]
