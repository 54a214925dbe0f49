set_option maxHeartbeats 40000000 in
theorem U_X6_firstSight_14_0 {G : GG} {Φ : Int → Hp → Prop} {h : Hp} {x1 : Int} {x2 : Int} {x3 : Int} (H : AT G m_X6_firstSight 6 [(0, rv 14), (1, iv x1), (2, iv x2), (3, iv x3), (4, iv x2), (5, iv 0)] [] h Φ) : AT G m_X6_firstSight 0 [(0, rv 14), (1, iv x1), (2, iv x2), (3, iv x3)] [] h Φ := by
  refine a_iload_n (pc := 0) (dk dt_X6_firstSight 0 rfl) rfl ?_
  refine a_istore (pc := 1) (dk dt_X6_firstSight 1 rfl) (by decide) rfl rfl ?_
  refine a_iconst (pc := 3) (dk dt_X6_firstSight 2 rfl) (ik rfl) ?_
  refine a_istore (pc := 4) (dk dt_X6_firstSight 3 rfl) (by decide) rfl rfl ?_
  exact a_pick [0, 1, 2, 3, 4, 5] rfl H
set_option maxHeartbeats 40000000 in
theorem U_X6_firstSight_14_6 {G : GG} {Φ : Int → Hp → Prop} {h : Hp} {x1 : Int} {x2 : Int} {x3 : Int} {x4 : Int} {x5 : Int} (H : ((20000 < x5 → Φ (-1) h) ∧ (x5 ≤ 20000 → (((w32 (x2 + 20000)) < x4 → Φ (-1) h) ∧ (x4 ≤ (w32 (x2 + 20000)) → Call G m_X6_angle [rv 14, iv x4] h (fun r1 h2 => (h2 14 0) ≠ 0 ∧ Call G m_X6_inArc [rv 14, iv x1, iv r1, iv (w32 (x4.tdiv (h2 14 0)))] h2 (fun r3 h4 => (0 ≤ x1 ∧ x1 < 4) ∧ (((h4 16 x1) ≤ r3 → ((0 ≠ x3 → Call G m_X6_whenPassed [rv 14, iv x4, iv (w32 (3600 - r3))] h4 (fun r5 h6 => AT G m_X6_firstSight 6 [(0, rv 14), (1, iv x1), (2, iv x2), (3, iv x3), (4, iv r5), (5, iv (w32 (x5 + 1)))] [] h6 Φ)) ∧ (0 = x3 → Φ x4 h4))) ∧ (r3 < (h4 16 x1) → ((1 ≠ x3 → (0 ≤ x1 ∧ x1 < 4) ∧ Call G m_X6_whenPassed [rv 14, iv x4, iv (w32 ((h4 16 x1) - r3))] h4 (fun r7 h8 => AT G m_X6_firstSight 6 [(0, rv 14), (1, iv x1), (2, iv x2), (3, iv x3), (4, iv r7), (5, iv (w32 (x5 + 1)))] [] h8 Φ)) ∧ (1 = x3 → Φ x4 h4))))))))))) : AT G m_X6_firstSight 6 [(0, rv 14), (1, iv x1), (2, iv x2), (3, iv x3), (4, iv x4), (5, iv x5)] [] h Φ := by
  refine a_iload (pc := 6) (dk dt_X6_firstSight 4 rfl) rfl ?_
  refine a_sipush (pc := 8) (dk dt_X6_firstSight 5 rfl) (ik rfl) (spk rfl) ?_
  refine a_icmp_gt (pc := 11) (dk dt_X6_firstSight 6 rfl) (tgt := 104) rfl ⟨fun c => ?_, fun c => ?_⟩
  · replace H := H.1 c
    refine a_iconst (pc := 104) (dk dt_X6_firstSight 53 rfl) (ik rfl) ?_
    exact a_iret (pc := 105) (dk dt_X6_firstSight 54 rfl) rfl rfl H
  · replace H := H.2 c
    refine a_iload (pc := 14) (dk dt_X6_firstSight 7 rfl) rfl ?_
    refine a_iload_n (pc := 16) (dk dt_X6_firstSight 8 rfl) rfl ?_
    refine a_sipush (pc := 17) (dk dt_X6_firstSight 9 rfl) (ik rfl) (spk rfl) ?_
    refine a_iadd (pc := 20) (dk dt_X6_firstSight 10 rfl) ?_
    refine a_icmp_gt (pc := 21) (dk dt_X6_firstSight 11 rfl) (tgt := 104) rfl ⟨fun c => ?_, fun c => ?_⟩
    · replace H := H.1 c
      refine a_iconst (pc := 104) (dk dt_X6_firstSight 53 rfl) (ik rfl) ?_
      exact a_iret (pc := 105) (dk dt_X6_firstSight 54 rfl) rfl rfl H
    · replace H := H.2 c
      refine a_aload_n (pc := 24) (dk dt_X6_firstSight 12 rfl) rfl ?_
      refine a_iload_n (pc := 25) (dk dt_X6_firstSight 13 rfl) rfl ?_
      refine a_aload_n (pc := 26) (dk dt_X6_firstSight 14 rfl) rfl ?_
      refine a_iload (pc := 27) (dk dt_X6_firstSight 15 rfl) rfl ?_
      refine a_callVi (as := [iv x4]) (st := [iv x1, rv 14]) (pc := 29) (dk dt_X6_firstSight 16 rfl) cl_RX6_42 ⟨Nat.le_of_ble_eq_true rfl, Nat.le_of_ble_eq_true rfl⟩ ⟨Nat.le_of_ble_eq_true rfl, Nat.le_of_ble_eq_true rfl⟩ cls_6 rfl cc_14 rfl rfl rfl (Nat.le_of_ble_eq_true rfl) (Call.mono H fun r1 h2 H => ?_)
      refine a_aload_n (pc := 32) (dk dt_X6_firstSight 17 rfl) rfl ?_
      refine a_iload (pc := 33) (dk dt_X6_firstSight 18 rfl) rfl ?_
      refine a_callVi (as := [iv x4]) (st := [iv r1, iv x1, rv 14]) (pc := 35) (dk dt_X6_firstSight 19 rfl) cl_RX6_52 ⟨Nat.le_of_ble_eq_true rfl, Nat.le_of_ble_eq_true rfl⟩ ⟨Nat.le_of_ble_eq_true rfl, Nat.le_of_ble_eq_true rfl⟩ cls_6 rfl cc_14 rfl rfl rfl (Nat.le_of_ble_eq_true rfl) (Call.of rfl (Nat.le_of_ble_eq_true rfl) rfl ?_)
      refine a_iload_n (pc := 0) (dk dt_X6_turn 0 rfl) rfl ?_
      refine a_aload_n (pc := 1) (dk dt_X6_turn 1 rfl) rfl ?_
      refine a_geti (pc := 2) (dk dt_X6_turn 2 rfl) cls_6 fl_RX6_9 cf_14_0 ?_
      refine a_idiv (pc := 5) (dk dt_X6_turn 3 rfl) ⟨H.1, ?_⟩
      replace H := H.2
      refine a_iret (pc := 6) (dk dt_X6_turn 4 rfl) rfl rfl ?_
      show ATW _ _ _ _ _ _ _ _ _ _
      refine a_callVi (as := [iv x1, iv r1, iv (w32 (x4.tdiv (h2 14 0)))]) (st := []) (pc := 38) (dk dt_X6_firstSight 20 rfl) cl_RX6_55 ⟨Nat.le_of_ble_eq_true rfl, Nat.le_of_ble_eq_true rfl⟩ ⟨Nat.le_of_ble_eq_true rfl, Nat.le_of_ble_eq_true rfl⟩ cls_6 rfl cc_14 rfl rfl rfl (Nat.le_of_ble_eq_true rfl) (Call.mono H fun r3 h4 H => ?_)
      refine a_istore (pc := 41) (dk dt_X6_firstSight 21 rfl) (by decide) rfl rfl ?_
      refine a_iload (pc := 43) (dk dt_X6_firstSight 22 rfl) rfl ?_
      refine a_aload_n (pc := 45) (dk dt_X6_firstSight 23 rfl) rfl ?_
      refine a_getr (r := 15) (pc := 46) (dk dt_X6_firstSight 24 rfl) cls_6 fl_RX6_19 cf_14_7 ?_
      refine a_iload_n (pc := 49) (dk dt_X6_firstSight 25 rfl) rfl ?_
      refine a_iald (pc := 50) (dk dt_X6_firstSight 26 rfl) ar_16 ⟨H.1, ?_⟩
      replace H := H.2
      refine a_icmp_ge (pc := 51) (dk dt_X6_firstSight 27 rfl) (tgt := 58) rfl ⟨fun c => ?_, fun c => ?_⟩
      · replace H := H.1 c
        refine a_iconst (pc := 58) (dk dt_X6_firstSight 30 rfl) (ik rfl) ?_
        refine a_istore (pc := 59) (dk dt_X6_firstSight 31 rfl) (by decide) rfl rfl ?_
        refine a_iload (pc := 61) (dk dt_X6_firstSight 32 rfl) rfl ?_
        refine a_iload_n (pc := 63) (dk dt_X6_firstSight 33 rfl) rfl ?_
        refine a_icmp_ne (pc := 64) (dk dt_X6_firstSight 34 rfl) (tgt := 70) rfl ⟨fun c => ?_, fun c => ?_⟩
        · replace H := H.1 c
          refine a_aload_n (pc := 70) (dk dt_X6_firstSight 37 rfl) rfl ?_
          refine a_iload (pc := 71) (dk dt_X6_firstSight 38 rfl) rfl ?_
          refine a_iload (pc := 73) (dk dt_X6_firstSight 39 rfl) rfl ?_
          refine a_if_eq (pc := 75) (dk dt_X6_firstSight 40 rfl) (tgt := 87) rfl ⟨fun _ => ?_, fun c => absurd c (by decide)⟩
          refine a_sipush (pc := 87) (dk dt_X6_firstSight 46 rfl) (ik rfl) (spk rfl) ?_
          refine a_iload (pc := 90) (dk dt_X6_firstSight 47 rfl) rfl ?_
          refine a_isub (pc := 92) (dk dt_X6_firstSight 48 rfl) ?_
          refine a_callVi (as := [iv x4, iv (w32 (3600 - r3))]) (st := []) (pc := 93) (dk dt_X6_firstSight 49 rfl) cl_RX6_59 ⟨Nat.le_of_ble_eq_true rfl, Nat.le_of_ble_eq_true rfl⟩ ⟨Nat.le_of_ble_eq_true rfl, Nat.le_of_ble_eq_true rfl⟩ cls_6 rfl cc_14 rfl rfl rfl (Nat.le_of_ble_eq_true rfl) (Call.mono H fun r5 h6 H => ?_)
          refine a_istore (pc := 96) (dk dt_X6_firstSight 50 rfl) (by decide) rfl rfl ?_
          refine a_iinc (pc := 98) (dk dt_X6_firstSight 51 rfl) (by decide) rfl rfl rfl ?_
          refine a_goto (pc := 101) (dk dt_X6_firstSight 52 rfl) (tgt := 6) rfl ?_
          exact a_pick [0, 1, 2, 3, 4, 5] rfl H
        · replace H := H.2 c
          refine a_iload (pc := 67) (dk dt_X6_firstSight 35 rfl) rfl ?_
          exact a_iret (pc := 69) (dk dt_X6_firstSight 36 rfl) rfl rfl H
      · replace H := H.2 c
        refine a_iconst (pc := 54) (dk dt_X6_firstSight 28 rfl) (ik rfl) ?_
        refine a_goto (pc := 55) (dk dt_X6_firstSight 29 rfl) (tgt := 59) rfl ?_
        refine a_istore (pc := 59) (dk dt_X6_firstSight 31 rfl) (by decide) rfl rfl ?_
        refine a_iload (pc := 61) (dk dt_X6_firstSight 32 rfl) rfl ?_
        refine a_iload_n (pc := 63) (dk dt_X6_firstSight 33 rfl) rfl ?_
        refine a_icmp_ne (pc := 64) (dk dt_X6_firstSight 34 rfl) (tgt := 70) rfl ⟨fun c => ?_, fun c => ?_⟩
        · replace H := H.1 c
          refine a_aload_n (pc := 70) (dk dt_X6_firstSight 37 rfl) rfl ?_
          refine a_iload (pc := 71) (dk dt_X6_firstSight 38 rfl) rfl ?_
          refine a_iload (pc := 73) (dk dt_X6_firstSight 39 rfl) rfl ?_
          refine a_if_eq (pc := 75) (dk dt_X6_firstSight 40 rfl) (tgt := 87) rfl ⟨fun c => absurd c (by decide), fun _ => ?_⟩
          refine a_aload_n (pc := 78) (dk dt_X6_firstSight 41 rfl) rfl ?_
          refine a_getr (r := 15) (pc := 79) (dk dt_X6_firstSight 42 rfl) cls_6 fl_RX6_19 cf_14_7 ?_
          refine a_iload_n (pc := 82) (dk dt_X6_firstSight 43 rfl) rfl ?_
          refine a_iald (pc := 83) (dk dt_X6_firstSight 44 rfl) ar_16 ⟨H.1, ?_⟩
          replace H := H.2
          refine a_goto (pc := 84) (dk dt_X6_firstSight 45 rfl) (tgt := 90) rfl ?_
          refine a_iload (pc := 90) (dk dt_X6_firstSight 47 rfl) rfl ?_
          refine a_isub (pc := 92) (dk dt_X6_firstSight 48 rfl) ?_
          refine a_callVi (as := [iv x4, iv (w32 ((h4 16 x1) - r3))]) (st := []) (pc := 93) (dk dt_X6_firstSight 49 rfl) cl_RX6_59 ⟨Nat.le_of_ble_eq_true rfl, Nat.le_of_ble_eq_true rfl⟩ ⟨Nat.le_of_ble_eq_true rfl, Nat.le_of_ble_eq_true rfl⟩ cls_6 rfl cc_14 rfl rfl rfl (Nat.le_of_ble_eq_true rfl) (Call.mono H fun r7 h8 H => ?_)
          refine a_istore (pc := 96) (dk dt_X6_firstSight 50 rfl) (by decide) rfl rfl ?_
          refine a_iinc (pc := 98) (dk dt_X6_firstSight 51 rfl) (by decide) rfl rfl rfl ?_
          refine a_goto (pc := 101) (dk dt_X6_firstSight 52 rfl) (tgt := 6) rfl ?_
          exact a_pick [0, 1, 2, 3, 4, 5] rfl H
        · replace H := H.2 c
          refine a_iload (pc := 67) (dk dt_X6_firstSight 35 rfl) rfl ?_
          exact a_iret (pc := 69) (dk dt_X6_firstSight 36 rfl) rfl rfl H
set_option maxHeartbeats 40000000 in
theorem U_X6_angle_14_0 {G : GG} {Φ : Int → Hp → Prop} {h : Hp} {x1 : Int} (H : (h 14 0) ≠ 0 ∧ (h 14 0) ≠ 0 ∧ Φ ((w32 ((h 14 1) + (w32 ((w32 (3600 * (x1.tmod (h 14 0)))).tdiv (h 14 0))))).tmod 3600) h) : AT G m_X6_angle 0 [(0, rv 14), (1, iv x1)] [] h Φ := by
  refine a_aload_n (pc := 0) (dk dt_X6_angle 0 rfl) rfl ?_
  refine a_geti (pc := 1) (dk dt_X6_angle 1 rfl) cls_6 fl_RX6_39 cf_14_1 ?_
  refine a_sipush (pc := 4) (dk dt_X6_angle 2 rfl) (ik rfl) (spk rfl) ?_
  refine a_iload_n (pc := 7) (dk dt_X6_angle 3 rfl) rfl ?_
  refine a_aload_n (pc := 8) (dk dt_X6_angle 4 rfl) rfl ?_
  refine a_geti (pc := 9) (dk dt_X6_angle 5 rfl) cls_6 fl_RX6_9 cf_14_0 ?_
  refine a_irem (pc := 12) (dk dt_X6_angle 6 rfl) ⟨H.1, ?_⟩
  replace H := H.2
  refine a_imul (pc := 13) (dk dt_X6_angle 7 rfl) ?_
  refine a_aload_n (pc := 14) (dk dt_X6_angle 8 rfl) rfl ?_
  refine a_geti (pc := 15) (dk dt_X6_angle 9 rfl) cls_6 fl_RX6_9 cf_14_0 ?_
  refine a_idiv (pc := 18) (dk dt_X6_angle 10 rfl) ⟨H.1, ?_⟩
  replace H := H.2
  refine a_iadd (pc := 19) (dk dt_X6_angle 11 rfl) ?_
  refine a_sipush (pc := 20) (dk dt_X6_angle 12 rfl) (ik rfl) (spk rfl) ?_
  refine a_irem (pc := 23) (dk dt_X6_angle 13 rfl) ⟨by decide, ?_⟩
  exact a_iret (pc := 24) (dk dt_X6_angle 14 rfl) rfl rfl H
set_option maxHeartbeats 40000000 in
theorem U_X6_isInShadow_14_0 {G : GG} {Φ : Int → Hp → Prop} {h : Hp} {x1 : Int} (H : Call G m_X6_angle [rv 14, iv x1] h (fun r1 h2 => (((h2 14 3) ≤ ((w32 ((w32 (r1 - (h2 14 2))) + 3600)).tmod 3600) → Φ 0 h2) ∧ (((w32 ((w32 (r1 - (h2 14 2))) + 3600)).tmod 3600) < (h2 14 3) → Φ 1 h2)))) : AT G m_X6_isInShadow 0 [(0, rv 14), (1, iv x1)] [] h Φ := by
  refine a_aload_n (pc := 0) (dk dt_X6_isInShadow 0 rfl) rfl ?_
  refine a_iload_n (pc := 1) (dk dt_X6_isInShadow 1 rfl) rfl ?_
  refine a_callVi (as := [iv x1]) (st := []) (pc := 2) (dk dt_X6_isInShadow 2 rfl) cl_RX6_42 ⟨Nat.le_of_ble_eq_true rfl, Nat.le_of_ble_eq_true rfl⟩ ⟨Nat.le_of_ble_eq_true rfl, Nat.le_of_ble_eq_true rfl⟩ cls_6 rfl cc_14 rfl rfl rfl (Nat.le_of_ble_eq_true rfl) (Call.mono H fun r1 h2 H => ?_)
  refine a_aload_n (pc := 5) (dk dt_X6_isInShadow 3 rfl) rfl ?_
  refine a_geti (pc := 6) (dk dt_X6_isInShadow 4 rfl) cls_6 fl_RX6_46 cf_14_2 ?_
  refine a_isub (pc := 9) (dk dt_X6_isInShadow 5 rfl) ?_
  refine a_sipush (pc := 10) (dk dt_X6_isInShadow 6 rfl) (ik rfl) (spk rfl) ?_
  refine a_iadd (pc := 13) (dk dt_X6_isInShadow 7 rfl) ?_
  refine a_sipush (pc := 14) (dk dt_X6_isInShadow 8 rfl) (ik rfl) (spk rfl) ?_
  refine a_irem (pc := 17) (dk dt_X6_isInShadow 9 rfl) ⟨by decide, ?_⟩
  refine a_aload_n (pc := 18) (dk dt_X6_isInShadow 10 rfl) rfl ?_
  refine a_geti (pc := 19) (dk dt_X6_isInShadow 11 rfl) cls_6 fl_RX6_49 cf_14_3 ?_
  refine a_icmp_ge (pc := 22) (dk dt_X6_isInShadow 12 rfl) (tgt := 29) rfl ⟨fun c => ?_, fun c => ?_⟩
  · replace H := H.1 c
    refine a_iconst (pc := 29) (dk dt_X6_isInShadow 15 rfl) (ik rfl) ?_
    exact a_zret (pc := 30) (dk dt_X6_isInShadow 16 rfl) rfl rfl ⟨by decide, H⟩
  · replace H := H.2 c
    refine a_iconst (pc := 25) (dk dt_X6_isInShadow 13 rfl) (ik rfl) ?_
    refine a_goto (pc := 26) (dk dt_X6_isInShadow 14 rfl) (tgt := 30) rfl ?_
    exact a_zret (pc := 30) (dk dt_X6_isInShadow 16 rfl) rfl rfl ⟨by decide, H⟩
set_option maxHeartbeats 40000000 in
theorem U_X6_isSeen_14_0 {G : GG} {Φ : Int → Hp → Prop} {h : Hp} {x1 : Int} (H : Call G m_X6_angle [rv 14, iv x1] h (fun r1 h2 => (h2 14 0) ≠ 0 ∧ AT G m_X6_isSeen 18 [(0, rv 14), (2, iv r1), (3, iv (w32 (x1.tdiv (h2 14 0)))), (4, iv 0), (5, iv 0)] [] h2 Φ)) : AT G m_X6_isSeen 0 [(0, rv 14), (1, iv x1)] [] h Φ := by
  refine a_aload_n (pc := 0) (dk dt_X6_isSeen 0 rfl) rfl ?_
  refine a_iload_n (pc := 1) (dk dt_X6_isSeen 1 rfl) rfl ?_
  refine a_callVi (as := [iv x1]) (st := []) (pc := 2) (dk dt_X6_isSeen 2 rfl) cl_RX6_42 ⟨Nat.le_of_ble_eq_true rfl, Nat.le_of_ble_eq_true rfl⟩ ⟨Nat.le_of_ble_eq_true rfl, Nat.le_of_ble_eq_true rfl⟩ cls_6 rfl cc_14 rfl rfl rfl (Nat.le_of_ble_eq_true rfl) (Call.mono H fun r1 h2 H => ?_)
  refine a_istore_n (pc := 5) (dk dt_X6_isSeen 3 rfl) (by decide) rfl rfl ?_
  refine a_aload_n (pc := 6) (dk dt_X6_isSeen 4 rfl) rfl ?_
  refine a_iload_n (pc := 7) (dk dt_X6_isSeen 5 rfl) rfl ?_
  refine a_callVi (as := [iv x1]) (st := []) (pc := 8) (dk dt_X6_isSeen 6 rfl) cl_RX6_52 ⟨Nat.le_of_ble_eq_true rfl, Nat.le_of_ble_eq_true rfl⟩ ⟨Nat.le_of_ble_eq_true rfl, Nat.le_of_ble_eq_true rfl⟩ cls_6 rfl cc_14 rfl rfl rfl (Nat.le_of_ble_eq_true rfl) (Call.of rfl (Nat.le_of_ble_eq_true rfl) rfl ?_)
  refine a_iload_n (pc := 0) (dk dt_X6_turn 0 rfl) rfl ?_
  refine a_aload_n (pc := 1) (dk dt_X6_turn 1 rfl) rfl ?_
  refine a_geti (pc := 2) (dk dt_X6_turn 2 rfl) cls_6 fl_RX6_9 cf_14_0 ?_
  refine a_idiv (pc := 5) (dk dt_X6_turn 3 rfl) ⟨H.1, ?_⟩
  replace H := H.2
  refine a_iret (pc := 6) (dk dt_X6_turn 4 rfl) rfl rfl ?_
  show ATW _ _ _ _ _ _ _ _ _ _
  refine a_istore_n (pc := 11) (dk dt_X6_isSeen 7 rfl) (by decide) rfl rfl ?_
  refine a_iconst (pc := 12) (dk dt_X6_isSeen 8 rfl) (ik rfl) ?_
  refine a_istore (pc := 13) (dk dt_X6_isSeen 9 rfl) (by decide) rfl rfl ?_
  refine a_iconst (pc := 15) (dk dt_X6_isSeen 10 rfl) (ik rfl) ?_
  refine a_istore (pc := 16) (dk dt_X6_isSeen 11 rfl) (by decide) rfl rfl ?_
  exact a_pick [0, 2, 3, 4, 5] rfl H
set_option maxHeartbeats 40000000 in
theorem U_X6_isSeen_14_18 {G : GG} {Φ : Int → Hp → Prop} {h : Hp} {x2 : Int} {x3 : Int} {x4 : Int} {x5 : Int} (H : ((4 ≤ x5 → (x4 = 0 ∨ x4 = 1) ∧ Φ x4 h) ∧ (x5 < 4 → ((x4 ≠ 0 → AT G m_X6_isSeen 18 [(0, rv 14), (2, iv x2), (3, iv x3), (4, iv 1), (5, iv (w32 (x5 + 1)))] [] h Φ) ∧ (x4 = 0 → Call G m_X6_inArc [rv 14, iv x5, iv x2, iv x3] h (fun r1 h2 => (0 ≤ x5 ∧ x5 < 4) ∧ (((h2 16 x5) ≤ r1 → AT G m_X6_isSeen 18 [(0, rv 14), (2, iv x2), (3, iv x3), (4, iv 0), (5, iv (w32 (x5 + 1)))] [] h2 Φ) ∧ (r1 < (h2 16 x5) → AT G m_X6_isSeen 18 [(0, rv 14), (2, iv x2), (3, iv x3), (4, iv 1), (5, iv (w32 (x5 + 1)))] [] h2 Φ)))))))) : AT G m_X6_isSeen 18 [(0, rv 14), (2, iv x2), (3, iv x3), (4, iv x4), (5, iv x5)] [] h Φ := by
  refine a_iload (pc := 18) (dk dt_X6_isSeen 12 rfl) rfl ?_
  refine a_iconst (pc := 20) (dk dt_X6_isSeen 13 rfl) (ik rfl) ?_
  refine a_icmp_ge (pc := 21) (dk dt_X6_isSeen 14 rfl) (tgt := 60) rfl ⟨fun c => ?_, fun c => ?_⟩
  · replace H := H.1 c
    refine a_iload (pc := 60) (dk dt_X6_isSeen 33 rfl) rfl ?_
    exact a_zret (pc := 62) (dk dt_X6_isSeen 34 rfl) rfl rfl H
  · replace H := H.2 c
    refine a_iload (pc := 24) (dk dt_X6_isSeen 15 rfl) rfl ?_
    refine a_if_ne (pc := 26) (dk dt_X6_isSeen 16 rfl) (tgt := 47) rfl ⟨fun c => ?_, fun c => ?_⟩
    · replace H := H.1 c
      refine a_iconst (pc := 47) (dk dt_X6_isSeen 27 rfl) (ik rfl) ?_
      refine a_goto (pc := 48) (dk dt_X6_isSeen 28 rfl) (tgt := 52) rfl ?_
      refine a_istore (pc := 52) (dk dt_X6_isSeen 30 rfl) (by decide) rfl rfl ?_
      refine a_iinc (pc := 54) (dk dt_X6_isSeen 31 rfl) (by decide) rfl rfl rfl ?_
      refine a_goto (pc := 57) (dk dt_X6_isSeen 32 rfl) (tgt := 18) rfl ?_
      exact a_pick [0, 1, 2, 3, 4] rfl H
    · replace H := H.2 c
      refine a_aload_n (pc := 29) (dk dt_X6_isSeen 17 rfl) rfl ?_
      refine a_iload (pc := 30) (dk dt_X6_isSeen 18 rfl) rfl ?_
      refine a_iload_n (pc := 32) (dk dt_X6_isSeen 19 rfl) rfl ?_
      refine a_iload_n (pc := 33) (dk dt_X6_isSeen 20 rfl) rfl ?_
      refine a_callVi (as := [iv x5, iv x2, iv x3]) (st := []) (pc := 34) (dk dt_X6_isSeen 21 rfl) cl_RX6_55 ⟨Nat.le_of_ble_eq_true rfl, Nat.le_of_ble_eq_true rfl⟩ ⟨Nat.le_of_ble_eq_true rfl, Nat.le_of_ble_eq_true rfl⟩ cls_6 rfl cc_14 rfl rfl rfl (Nat.le_of_ble_eq_true rfl) (Call.mono H fun r1 h2 H => ?_)
      refine a_aload_n (pc := 37) (dk dt_X6_isSeen 22 rfl) rfl ?_
      refine a_getr (r := 15) (pc := 38) (dk dt_X6_isSeen 23 rfl) cls_6 fl_RX6_19 cf_14_7 ?_
      refine a_iload (pc := 41) (dk dt_X6_isSeen 24 rfl) rfl ?_
      refine a_iald (pc := 43) (dk dt_X6_isSeen 25 rfl) ar_16 ⟨H.1, ?_⟩
      replace H := H.2
      refine a_icmp_ge (pc := 44) (dk dt_X6_isSeen 26 rfl) (tgt := 51) rfl ⟨fun c => ?_, fun c => ?_⟩
      · replace H := H.1 c
        refine a_iconst (pc := 51) (dk dt_X6_isSeen 29 rfl) (ik rfl) ?_
        refine a_istore (pc := 52) (dk dt_X6_isSeen 30 rfl) (by decide) rfl rfl ?_
        refine a_iinc (pc := 54) (dk dt_X6_isSeen 31 rfl) (by decide) rfl rfl rfl ?_
        refine a_goto (pc := 57) (dk dt_X6_isSeen 32 rfl) (tgt := 18) rfl ?_
        exact a_pick [0, 1, 2, 3, 4] rfl H
      · replace H := H.2 c
        refine a_iconst (pc := 47) (dk dt_X6_isSeen 27 rfl) (ik rfl) ?_
        refine a_goto (pc := 48) (dk dt_X6_isSeen 28 rfl) (tgt := 52) rfl ?_
        refine a_istore (pc := 52) (dk dt_X6_isSeen 30 rfl) (by decide) rfl rfl ?_
        refine a_iinc (pc := 54) (dk dt_X6_isSeen 31 rfl) (by decide) rfl rfl rfl ?_
        refine a_goto (pc := 57) (dk dt_X6_isSeen 32 rfl) (tgt := 18) rfl ?_
        exact a_pick [0, 1, 2, 3, 4] rfl H
set_option maxHeartbeats 40000000 in
theorem U_X6_inArc_14_0 {G : GG} {Φ : Int → Hp → Prop} {h : Hp} {x1 : Int} {x2 : Int} {x3 : Int} (H : (0 ≤ x1 ∧ x1 < 4) ∧ (0 ≤ x1 ∧ x1 < 4) ∧ Φ ((w32 ((w32 (x2 - ((w32 ((h 15 x1) + (w32 (x3 * (h 17 x1))))).tmod 3600))) + 3600)).tmod 3600) h) : AT G m_X6_inArc 0 [(0, rv 14), (1, iv x1), (2, iv x2), (3, iv x3)] [] h Φ := by
  refine a_aload_n (pc := 0) (dk dt_X6_inArc 0 rfl) rfl ?_
  refine a_getr (r := 14) (pc := 1) (dk dt_X6_inArc 1 rfl) cls_6 fl_RX6_15 cf_14_6 ?_
  refine a_iload_n (pc := 4) (dk dt_X6_inArc 2 rfl) rfl ?_
  refine a_iald (pc := 5) (dk dt_X6_inArc 3 rfl) ar_15 ⟨H.1, ?_⟩
  replace H := H.2
  refine a_iload_n (pc := 6) (dk dt_X6_inArc 4 rfl) rfl ?_
  refine a_aload_n (pc := 7) (dk dt_X6_inArc 5 rfl) rfl ?_
  refine a_getr (r := 16) (pc := 8) (dk dt_X6_inArc 6 rfl) cls_6 fl_RX6_22 cf_14_8 ?_
  refine a_iload_n (pc := 11) (dk dt_X6_inArc 7 rfl) rfl ?_
  refine a_iald (pc := 12) (dk dt_X6_inArc 8 rfl) ar_17 ⟨H.1, ?_⟩
  replace H := H.2
  refine a_imul (pc := 13) (dk dt_X6_inArc 9 rfl) ?_
  refine a_iadd (pc := 14) (dk dt_X6_inArc 10 rfl) ?_
  refine a_sipush (pc := 15) (dk dt_X6_inArc 11 rfl) (ik rfl) (spk rfl) ?_
  refine a_irem (pc := 18) (dk dt_X6_inArc 12 rfl) ⟨by decide, ?_⟩
  refine a_istore (pc := 19) (dk dt_X6_inArc 13 rfl) (by decide) rfl rfl ?_
  refine a_iload_n (pc := 21) (dk dt_X6_inArc 14 rfl) rfl ?_
  refine a_iload (pc := 22) (dk dt_X6_inArc 15 rfl) rfl ?_
  refine a_isub (pc := 24) (dk dt_X6_inArc 16 rfl) ?_
  refine a_sipush (pc := 25) (dk dt_X6_inArc 17 rfl) (ik rfl) (spk rfl) ?_
  refine a_iadd (pc := 28) (dk dt_X6_inArc 18 rfl) ?_
  refine a_sipush (pc := 29) (dk dt_X6_inArc 19 rfl) (ik rfl) (spk rfl) ?_
  refine a_irem (pc := 32) (dk dt_X6_inArc 20 rfl) ⟨by decide, ?_⟩
  exact a_iret (pc := 33) (dk dt_X6_inArc 21 rfl) rfl rfl H
set_option maxHeartbeats 40000000 in
theorem U_X6_whenPassed_14_0 {G : GG} {Φ : Int → Hp → Prop} {h : Hp} {x1 : Int} {x2 : Int} (H : (h 14 0) ≠ 0 ∧ (h 14 0) ≠ 0 ∧ Φ (w32 ((w32 (x1 - (x1.tmod (h 14 0)))) + (imin (w32 ((w32 ((w32 ((w32 ((w32 ((w32 ((w32 (3600 * (x1.tmod (h 14 0)))).tdiv (h 14 0))) + x2)) * (h 14 0))) + 3600)) - 1)).tdiv 3600)) (h 14 0)))) h) : AT G m_X6_whenPassed 0 [(0, rv 14), (1, iv x1), (2, iv x2)] [] h Φ := by
  refine a_iload_n (pc := 0) (dk dt_X6_whenPassed 0 rfl) rfl ?_
  refine a_aload_n (pc := 1) (dk dt_X6_whenPassed 1 rfl) rfl ?_
  refine a_geti (pc := 2) (dk dt_X6_whenPassed 2 rfl) cls_6 fl_RX6_9 cf_14_0 ?_
  refine a_irem (pc := 5) (dk dt_X6_whenPassed 3 rfl) ⟨H.1, ?_⟩
  replace H := H.2
  refine a_istore_n (pc := 6) (dk dt_X6_whenPassed 4 rfl) (by decide) rfl rfl ?_
  refine a_sipush (pc := 7) (dk dt_X6_whenPassed 5 rfl) (ik rfl) (spk rfl) ?_
  refine a_iload_n (pc := 10) (dk dt_X6_whenPassed 6 rfl) rfl ?_
  refine a_imul (pc := 11) (dk dt_X6_whenPassed 7 rfl) ?_
  refine a_aload_n (pc := 12) (dk dt_X6_whenPassed 8 rfl) rfl ?_
  refine a_geti (pc := 13) (dk dt_X6_whenPassed 9 rfl) cls_6 fl_RX6_9 cf_14_0 ?_
  refine a_idiv (pc := 16) (dk dt_X6_whenPassed 10 rfl) ⟨H.1, ?_⟩
  replace H := H.2
  refine a_iload_n (pc := 17) (dk dt_X6_whenPassed 11 rfl) rfl ?_
  refine a_iadd (pc := 18) (dk dt_X6_whenPassed 12 rfl) ?_
  refine a_istore (pc := 19) (dk dt_X6_whenPassed 13 rfl) (by decide) rfl rfl ?_
  refine a_iload (pc := 21) (dk dt_X6_whenPassed 14 rfl) rfl ?_
  refine a_aload_n (pc := 23) (dk dt_X6_whenPassed 15 rfl) rfl ?_
  refine a_geti (pc := 24) (dk dt_X6_whenPassed 16 rfl) cls_6 fl_RX6_9 cf_14_0 ?_
  refine a_imul (pc := 27) (dk dt_X6_whenPassed 17 rfl) ?_
  refine a_sipush (pc := 28) (dk dt_X6_whenPassed 18 rfl) (ik rfl) (spk rfl) ?_
  refine a_iadd (pc := 31) (dk dt_X6_whenPassed 19 rfl) ?_
  refine a_iconst (pc := 32) (dk dt_X6_whenPassed 20 rfl) (ik rfl) ?_
  refine a_isub (pc := 33) (dk dt_X6_whenPassed 21 rfl) ?_
  refine a_sipush (pc := 34) (dk dt_X6_whenPassed 22 rfl) (ik rfl) (spk rfl) ?_
  refine a_idiv (pc := 37) (dk dt_X6_whenPassed 23 rfl) ⟨by decide, ?_⟩
  refine a_istore (pc := 38) (dk dt_X6_whenPassed 24 rfl) (by decide) rfl rfl ?_
  refine a_iload_n (pc := 40) (dk dt_X6_whenPassed 25 rfl) rfl ?_
  refine a_iload_n (pc := 41) (dk dt_X6_whenPassed 26 rfl) rfl ?_
  refine a_isub (pc := 42) (dk dt_X6_whenPassed 27 rfl) ?_
  refine a_iload (pc := 43) (dk dt_X6_whenPassed 28 rfl) rfl ?_
  refine a_aload_n (pc := 45) (dk dt_X6_whenPassed 29 rfl) rfl ?_
  refine a_geti (pc := 46) (dk dt_X6_whenPassed 30 rfl) cls_6 fl_RX6_9 cf_14_0 ?_
  refine a_mmin (pc := 49) (dk dt_X6_whenPassed 31 rfl) cl_RX6_63 ⟨Nat.le_of_ble_eq_true rfl, Nat.le_of_ble_eq_true rfl⟩ ⟨Nat.le_of_ble_eq_true rfl, Nat.le_of_ble_eq_true rfl⟩ ?_
  refine a_iadd (pc := 52) (dk dt_X6_whenPassed 32 rfl) ?_
  exact a_iret (pc := 53) (dk dt_X6_whenPassed 33 rfl) rfl rfl H
set_option maxHeartbeats 40000000 in
theorem U_X6_look_14_0 {G : GG} {Φ : Int → Hp → Prop} {h : Hp} {x1 : Int} (H : Call G m_X6_isInShadow [rv 14, iv x1] h (fun r1 h2 => (r1 = 0 ∨ r1 = 1) ∧ Call G m_X6_isSeen [rv 14, iv x1] (up h2 14 4 r1) (fun r3 h4 => (r3 = 0 ∨ r3 = 1) ∧ Φ 0 (up h4 14 5 r3)))) : AT G m_X6_look 0 [(0, rv 14), (1, iv x1)] [] h Φ := by
  refine a_aload_n (pc := 0) (dk dt_X6_look 0 rfl) rfl ?_
  refine a_aload_n (pc := 1) (dk dt_X6_look 1 rfl) rfl ?_
  refine a_iload_n (pc := 2) (dk dt_X6_look 2 rfl) rfl ?_
  refine a_callVi (as := [iv x1]) (st := [rv 14]) (pc := 3) (dk dt_X6_look 3 rfl) cl_RX6_25 ⟨Nat.le_of_ble_eq_true rfl, Nat.le_of_ble_eq_true rfl⟩ ⟨Nat.le_of_ble_eq_true rfl, Nat.le_of_ble_eq_true rfl⟩ cls_6 rfl cc_14 rfl rfl rfl (Nat.le_of_ble_eq_true rfl) (Call.mono H fun r1 h2 H => ?_)
  refine a_putz (pc := 6) (dk dt_X6_look 4 rfl) cls_6 fl_RX6_29 cf_14_4 rfl rfl ⟨H.1, ?_⟩
  replace H := H.2
  refine a_aload_n (pc := 9) (dk dt_X6_look 5 rfl) rfl ?_
  refine a_aload_n (pc := 10) (dk dt_X6_look 6 rfl) rfl ?_
  refine a_iload_n (pc := 11) (dk dt_X6_look 7 rfl) rfl ?_
  refine a_callVi (as := [iv x1]) (st := [rv 14]) (pc := 12) (dk dt_X6_look 8 rfl) cl_RX6_33 ⟨Nat.le_of_ble_eq_true rfl, Nat.le_of_ble_eq_true rfl⟩ ⟨Nat.le_of_ble_eq_true rfl, Nat.le_of_ble_eq_true rfl⟩ cls_6 rfl cc_14 rfl rfl rfl (Nat.le_of_ble_eq_true rfl) (Call.mono H fun r3 h4 H => ?_)
  refine a_putz (pc := 15) (dk dt_X6_look 9 rfl) cls_6 fl_RX6_36 cf_14_5 rfl rfl ⟨H.1, ?_⟩
  replace H := H.2
  exact a_vret (pc := 18) (dk dt_X6_look 10 rfl) rfl rfl H
set_option maxHeartbeats 40000000 in
theorem U_X8_putInOrder_18_0 {G : GG} {Φ : Int → Hp → Prop} {h : Hp} (H : AT G m_X8_putInOrder 4 [(0, rv 18), (1, iv 0), (2, iv 0)] [] h Φ) : AT G m_X8_putInOrder 0 [(0, rv 18)] [] h Φ := by
  refine a_iconst (pc := 0) (dk dt_X8_putInOrder 0 rfl) (ik rfl) ?_
  refine a_istore_n (pc := 1) (dk dt_X8_putInOrder 1 rfl) (by decide) rfl rfl ?_
  refine a_iconst (pc := 2) (dk dt_X8_putInOrder 2 rfl) (ik rfl) ?_
  refine a_istore_n (pc := 3) (dk dt_X8_putInOrder 3 rfl) (by decide) rfl rfl ?_
  exact a_pick [0, 1, 2] rfl H
set_option maxHeartbeats 40000000 in
theorem U_X8_putInOrder_18_4 {G : GG} {Φ : Int → Hp → Prop} {h : Hp} {x1 : Int} {x2 : Int} (H : ((9 < x2 → Φ 0 h) ∧ (x2 ≤ 9 → AT G m_X8_putInOrder 12 [(0, rv 18), (1, iv x1), (2, iv x2), (3, iv 0)] [] h Φ))) : AT G m_X8_putInOrder 4 [(0, rv 18), (1, iv x1), (2, iv x2)] [] h Φ := by
  refine a_iload_n (pc := 4) (dk dt_X8_putInOrder 4 rfl) rfl ?_
  refine a_bipush (pc := 5) (dk dt_X8_putInOrder 5 rfl) (ik rfl) (bpk rfl) ?_
  refine a_icmp_gt (pc := 7) (dk dt_X8_putInOrder 6 rfl) (tgt := 56) rfl ⟨fun c => ?_, fun c => ?_⟩
  · replace H := H.1 c
    exact a_vret (pc := 56) (dk dt_X8_putInOrder 31 rfl) rfl rfl H
  · replace H := H.2 c
    refine a_iconst (pc := 10) (dk dt_X8_putInOrder 7 rfl) (ik rfl) ?_
    refine a_istore_n (pc := 11) (dk dt_X8_putInOrder 8 rfl) (by decide) rfl rfl ?_
    exact a_pick [0, 1, 2, 3] rfl H
set_option maxHeartbeats 40000000 in
theorem U_X8_putInOrder_18_12 {G : GG} {Φ : Int → Hp → Prop} {h : Hp} {x1 : Int} {x2 : Int} {x3 : Int} (H : ((8 ≤ x3 → AT G m_X8_putInOrder 4 [(0, rv 18), (1, iv x1), (2, iv (w32 (x2 + 1)))] [] h Φ) ∧ (x3 < 8 → (0 ≤ x3 ∧ x3 < 8) ∧ (((h 20 x3) ≠ x2 → AT G m_X8_putInOrder 12 [(0, rv 18), (1, iv x1), (2, iv x2), (3, iv (w32 (x3 + 1)))] [] h Φ) ∧ ((h 20 x3) = x2 → ((8 ≤ x1 → AT G m_X8_putInOrder 12 [(0, rv 18), (1, iv x1), (2, iv x2), (3, iv (w32 (x3 + 1)))] [] h Φ) ∧ (x1 < 8 → (0 ≤ x1 ∧ x1 < 8) ∧ AT G m_X8_putInOrder 12 [(0, rv 18), (1, iv (w32 (x1 + 1))), (2, iv x2), (3, iv (w32 (x3 + 1)))] [] (up h 23 x1 x3) Φ))))))) : AT G m_X8_putInOrder 12 [(0, rv 18), (1, iv x1), (2, iv x2), (3, iv x3)] [] h Φ := by
  refine a_iload_n (pc := 12) (dk dt_X8_putInOrder 9 rfl) rfl ?_
  refine a_bipush (pc := 13) (dk dt_X8_putInOrder 10 rfl) (ik rfl) (bpk rfl) ?_
  refine a_icmp_ge (pc := 15) (dk dt_X8_putInOrder 11 rfl) (tgt := 50) rfl ⟨fun c => ?_, fun c => ?_⟩
  · replace H := H.1 c
    refine a_iinc (pc := 50) (dk dt_X8_putInOrder 29 rfl) (by decide) rfl rfl rfl ?_
    refine a_goto (pc := 53) (dk dt_X8_putInOrder 30 rfl) (tgt := 4) rfl ?_
    exact a_pick [0, 1, 2] rfl H
  · replace H := H.2 c
    refine a_aload_n (pc := 18) (dk dt_X8_putInOrder 12 rfl) rfl ?_
    refine a_getr (r := 19) (pc := 19) (dk dt_X8_putInOrder 13 rfl) cls_8 fl_RX8_25 cf_18_6 ?_
    refine a_iload_n (pc := 22) (dk dt_X8_putInOrder 14 rfl) rfl ?_
    refine a_iald (pc := 23) (dk dt_X8_putInOrder 15 rfl) ar_20 ⟨H.1, ?_⟩
    replace H := H.2
    refine a_iload_n (pc := 24) (dk dt_X8_putInOrder 16 rfl) rfl ?_
    refine a_icmp_ne (pc := 25) (dk dt_X8_putInOrder 17 rfl) (tgt := 44) rfl ⟨fun c => ?_, fun c => ?_⟩
    · replace H := H.1 c
      refine a_iinc (pc := 44) (dk dt_X8_putInOrder 27 rfl) (by decide) rfl rfl rfl ?_
      refine a_goto (pc := 47) (dk dt_X8_putInOrder 28 rfl) (tgt := 12) rfl ?_
      exact a_pick [0, 1, 2, 3] rfl H
    · replace H := H.2 c
      refine a_iload_n (pc := 28) (dk dt_X8_putInOrder 18 rfl) rfl ?_
      refine a_bipush (pc := 29) (dk dt_X8_putInOrder 19 rfl) (ik rfl) (bpk rfl) ?_
      refine a_icmp_ge (pc := 31) (dk dt_X8_putInOrder 20 rfl) (tgt := 44) rfl ⟨fun c => ?_, fun c => ?_⟩
      · replace H := H.1 c
        refine a_iinc (pc := 44) (dk dt_X8_putInOrder 27 rfl) (by decide) rfl rfl rfl ?_
        refine a_goto (pc := 47) (dk dt_X8_putInOrder 28 rfl) (tgt := 12) rfl ?_
        exact a_pick [0, 1, 2, 3] rfl H
      · replace H := H.2 c
        refine a_aload_n (pc := 34) (dk dt_X8_putInOrder 21 rfl) rfl ?_
        refine a_getr (r := 22) (pc := 35) (dk dt_X8_putInOrder 22 rfl) cls_8 fl_RX8_35 cf_18_9 ?_
        refine a_iload_n (pc := 38) (dk dt_X8_putInOrder 23 rfl) rfl ?_
        refine a_iload_n (pc := 39) (dk dt_X8_putInOrder 24 rfl) rfl ?_
        refine a_iast (pc := 40) (dk dt_X8_putInOrder 25 rfl) ar_23 ⟨H.1, ?_⟩
        replace H := H.2
        refine a_iinc (pc := 41) (dk dt_X8_putInOrder 26 rfl) (by decide) rfl rfl rfl ?_
        refine a_iinc (pc := 44) (dk dt_X8_putInOrder 27 rfl) (by decide) rfl rfl rfl ?_
        refine a_goto (pc := 47) (dk dt_X8_putInOrder 28 rfl) (tgt := 12) rfl ?_
        exact a_pick [0, 1, 2, 3] rfl H
set_option maxHeartbeats 40000000 in
theorem U_X8_serve_18_0 {G : GG} {Φ : Int → Hp → Prop} {h : Hp} {x1 : Int} (H : ((x1 = 0 → AT G m_X8_serve 36 [(0, rv 18), (2, iv 0), (3, iv (w32 ((h 18 2) + (h 18 1)))), (4, iv 0)] [] (up (up h 18 3 (h 18 2)) 18 4 0) Φ) ∧ (x1 ≠ 0 → AT G m_X8_serve 36 [(0, rv 18), (2, iv 0), (3, iv (w32 (0 + (h 18 1)))), (4, iv 0)] [] (up (up h 18 3 0) 18 4 0) Φ))) : AT G m_X8_serve 0 [(0, rv 18), (1, iv x1)] [] h Φ := by
  refine a_aload_n (pc := 0) (dk dt_X8_serve 0 rfl) rfl ?_
  refine a_iload_n (pc := 1) (dk dt_X8_serve 1 rfl) rfl ?_
  refine a_if_eq (pc := 2) (dk dt_X8_serve 2 rfl) (tgt := 9) rfl ⟨fun c => ?_, fun c => ?_⟩
  · replace H := H.1 c
    refine a_aload_n (pc := 9) (dk dt_X8_serve 5 rfl) rfl ?_
    refine a_geti (pc := 10) (dk dt_X8_serve 6 rfl) cls_8 fl_RX8_18 cf_18_2 ?_
    refine a_puti (pc := 13) (dk dt_X8_serve 7 rfl) cls_8 fl_RX8_38 cf_18_3 rfl rfl ?_
    refine a_iconst (pc := 16) (dk dt_X8_serve 8 rfl) (ik rfl) ?_
    refine a_istore_n (pc := 17) (dk dt_X8_serve 9 rfl) (by decide) rfl rfl ?_
    refine a_aload_n (pc := 18) (dk dt_X8_serve 10 rfl) rfl ?_
    refine a_geti (pc := 19) (dk dt_X8_serve 11 rfl) cls_8 fl_RX8_38 cf_18_3 ?_
    refine a_top (y := (h 18 2)) (by simp [up, cpy]) ?_
    refine a_aload_n (pc := 22) (dk dt_X8_serve 12 rfl) rfl ?_
    refine a_geti (pc := 23) (dk dt_X8_serve 13 rfl) cls_8 fl_RX8_15 cf_18_1 ?_
    refine a_top (y := (h 18 1)) (by simp [up, cpy]) ?_
    refine a_iadd (pc := 26) (dk dt_X8_serve 14 rfl) ?_
    refine a_istore_n (pc := 27) (dk dt_X8_serve 15 rfl) (by decide) rfl rfl ?_
    refine a_aload_n (pc := 28) (dk dt_X8_serve 16 rfl) rfl ?_
    refine a_iconst (pc := 29) (dk dt_X8_serve 17 rfl) (ik rfl) ?_
    refine a_puti (pc := 30) (dk dt_X8_serve 18 rfl) cls_8 fl_RX8_41 cf_18_4 rfl rfl ?_
    refine a_iconst (pc := 33) (dk dt_X8_serve 19 rfl) (ik rfl) ?_
    refine a_istore (pc := 34) (dk dt_X8_serve 20 rfl) (by decide) rfl rfl ?_
    exact a_pick [0, 2, 3, 4] rfl H
  · replace H := H.2 c
    refine a_iconst (pc := 5) (dk dt_X8_serve 3 rfl) (ik rfl) ?_
    refine a_goto (pc := 6) (dk dt_X8_serve 4 rfl) (tgt := 13) rfl ?_
    refine a_puti (pc := 13) (dk dt_X8_serve 7 rfl) cls_8 fl_RX8_38 cf_18_3 rfl rfl ?_
    refine a_iconst (pc := 16) (dk dt_X8_serve 8 rfl) (ik rfl) ?_
    refine a_istore_n (pc := 17) (dk dt_X8_serve 9 rfl) (by decide) rfl rfl ?_
    refine a_aload_n (pc := 18) (dk dt_X8_serve 10 rfl) rfl ?_
    refine a_geti (pc := 19) (dk dt_X8_serve 11 rfl) cls_8 fl_RX8_38 cf_18_3 ?_
    refine a_top (y := 0) (by simp [up, cpy]) ?_
    refine a_aload_n (pc := 22) (dk dt_X8_serve 12 rfl) rfl ?_
    refine a_geti (pc := 23) (dk dt_X8_serve 13 rfl) cls_8 fl_RX8_15 cf_18_1 ?_
    refine a_top (y := (h 18 1)) (by simp [up, cpy]) ?_
    refine a_iadd (pc := 26) (dk dt_X8_serve 14 rfl) ?_
    refine a_istore_n (pc := 27) (dk dt_X8_serve 15 rfl) (by decide) rfl rfl ?_
    refine a_aload_n (pc := 28) (dk dt_X8_serve 16 rfl) rfl ?_
    refine a_iconst (pc := 29) (dk dt_X8_serve 17 rfl) (ik rfl) ?_
    refine a_puti (pc := 30) (dk dt_X8_serve 18 rfl) cls_8 fl_RX8_41 cf_18_4 rfl rfl ?_
    refine a_iconst (pc := 33) (dk dt_X8_serve 19 rfl) (ik rfl) ?_
    refine a_istore (pc := 34) (dk dt_X8_serve 20 rfl) (by decide) rfl rfl ?_
    exact a_pick [0, 2, 3, 4] rfl H
set_option maxHeartbeats 40000000 in
theorem U_X8_serve_18_36 {G : GG} {Φ : Int → Hp → Prop} {h : Hp} {x2 : Int} {x3 : Int} {x4 : Int} (H : ((8 ≤ x4 → Φ x2 (up h 18 1 (imin x3 (h 18 0)))) ∧ (x4 < 8 → (0 ≤ x4 ∧ x4 < 8) ∧ (0 ≤ (h 23 x4) ∧ (h 23 x4) < 8) ∧ ((x3 < (h 19 (h 23 x4)) → (0 ≤ (h 23 x4) ∧ (h 23 x4) < 8) ∧ (((h 21 (h 23 x4)) = 0 → (0 ≤ (h 23 x4) ∧ (h 23 x4) < 8) ∧ (0 ≤ (h 23 x4) ∧ (h 23 x4) < 8) ∧ (0 ≤ (h 23 x4) ∧ (h 23 x4) < 8) ∧ (((h 21 (h 23 x4)) = 0 → AT G m_X8_serve 36 [(0, rv 18), (2, iv x2), (3, iv x3), (4, iv (w32 (x4 + 1)))] [] (up h 22 (h 23 x4) 0) Φ) ∧ ((h 21 (h 23 x4)) ≠ 0 → (0 ≤ (h 23 x4) ∧ (h 23 x4) < 8) ∧ AT G m_X8_serve 36 [(0, rv 18), (2, iv (w32 (x2 + 1))), (3, iv x3), (4, iv (w32 (x4 + 1)))] [] (up (up h 22 (h 23 x4) 0) 21 (h 23 x4) 0) Φ))) ∧ ((h 21 (h 23 x4)) ≠ 0 → (0 ≤ (h 23 x4) ∧ (h 23 x4) < 8) ∧ (0 ≤ (h 23 x4) ∧ (h 23 x4) < 8) ∧ (0 ≤ (h 23 x4) ∧ (h 23 x4) < 8) ∧ (((h 21 (h 23 x4)) = 0 → AT G m_X8_serve 36 [(0, rv 18), (2, iv x2), (3, iv x3), (4, iv (w32 (x4 + 1)))] [] (up h 22 (h 23 x4) 0) Φ) ∧ ((h 21 (h 23 x4)) ≠ 0 → (0 ≤ (h 23 x4) ∧ (h 23 x4) < 8) ∧ AT G m_X8_serve 36 [(0, rv 18), (2, iv (w32 (x2 + 1))), (3, iv x3), (4, iv (w32 (x4 + 1)))] [] (up (up h 22 (h 23 x4) 0) 21 (h 23 x4) 0) Φ))))) ∧ ((h 19 (h 23 x4)) ≤ x3 → (0 ≤ (h 23 x4) ∧ (h 23 x4) < 8) ∧ (((h 21 (h 23 x4)) = 0 → (0 ≤ (h 23 x4) ∧ (h 23 x4) < 8) ∧ (0 ≤ (h 23 x4) ∧ (h 23 x4) < 8) ∧ (0 ≤ (h 23 x4) ∧ (h 23 x4) < 8) ∧ (((h 21 (h 23 x4)) = 0 → AT G m_X8_serve 36 [(0, rv 18), (2, iv x2), (3, iv x3), (4, iv (w32 (x4 + 1)))] [] (up h 22 (h 23 x4) 0) Φ) ∧ ((h 21 (h 23 x4)) ≠ 0 → (0 ≤ (h 23 x4) ∧ (h 23 x4) < 8) ∧ AT G m_X8_serve 36 [(0, rv 18), (2, iv (w32 (x2 + 1))), (3, iv x3), (4, iv (w32 (x4 + 1)))] [] (up (up h 22 (h 23 x4) 0) 21 (h 23 x4) 0) Φ))) ∧ ((h 21 (h 23 x4)) ≠ 0 → (0 ≤ (h 23 x4) ∧ (h 23 x4) < 8) ∧ (0 ≤ (h 23 x4) ∧ (h 23 x4) < 8) ∧ (0 ≤ (h 23 x4) ∧ (h 23 x4) < 8) ∧ (0 ≤ (h 23 x4) ∧ (h 23 x4) < 8) ∧ AT G m_X8_serve 36 [(0, rv 18), (2, iv x2), (3, iv (w32 (x3 - (h 19 (h 23 x4))))), (4, iv (w32 (x4 + 1)))] [] (up (up h 22 (h 23 x4) 1) 18 4 (w32 ((h 18 4) + (h 19 (h 23 x4))))) Φ))))))) : AT G m_X8_serve 36 [(0, rv 18), (2, iv x2), (3, iv x3), (4, iv x4)] [] h Φ := by
  refine a_iload (pc := 36) (dk dt_X8_serve 21 rfl) rfl ?_
  refine a_bipush (pc := 38) (dk dt_X8_serve 22 rfl) (ik rfl) (bpk rfl) ?_
  refine a_icmp_ge (pc := 40) (dk dt_X8_serve 23 rfl) (tgt := 163) rfl ⟨fun c => ?_, fun c => ?_⟩
  · replace H := H.1 c
    refine a_aload_n (pc := 163) (dk dt_X8_serve 88 rfl) rfl ?_
    refine a_iload_n (pc := 164) (dk dt_X8_serve 89 rfl) rfl ?_
    refine a_aload_n (pc := 165) (dk dt_X8_serve 90 rfl) rfl ?_
    refine a_geti (pc := 166) (dk dt_X8_serve 91 rfl) cls_8 fl_RX8_9 cf_18_0 ?_
    refine a_mmin (pc := 169) (dk dt_X8_serve 92 rfl) cl_RX8_44 ⟨Nat.le_of_ble_eq_true rfl, Nat.le_of_ble_eq_true rfl⟩ ⟨Nat.le_of_ble_eq_true rfl, Nat.le_of_ble_eq_true rfl⟩ ?_
    refine a_puti (pc := 172) (dk dt_X8_serve 93 rfl) cls_8 fl_RX8_15 cf_18_1 rfl rfl ?_
    refine a_iload_n (pc := 175) (dk dt_X8_serve 94 rfl) rfl ?_
    exact a_iret (pc := 176) (dk dt_X8_serve 95 rfl) rfl rfl H
  · replace H := H.2 c
    refine a_aload_n (pc := 43) (dk dt_X8_serve 24 rfl) rfl ?_
    refine a_getr (r := 22) (pc := 44) (dk dt_X8_serve 25 rfl) cls_8 fl_RX8_35 cf_18_9 ?_
    refine a_iload (pc := 47) (dk dt_X8_serve 26 rfl) rfl ?_
    refine a_iald (pc := 49) (dk dt_X8_serve 27 rfl) ar_23 ⟨H.1, ?_⟩
    replace H := H.2
    refine a_istore (pc := 50) (dk dt_X8_serve 28 rfl) (by decide) rfl rfl ?_
    refine a_aload_n (pc := 52) (dk dt_X8_serve 29 rfl) rfl ?_
    refine a_getr (r := 18) (pc := 53) (dk dt_X8_serve 30 rfl) cls_8 fl_RX8_21 cf_18_5 ?_
    refine a_iload (pc := 56) (dk dt_X8_serve 31 rfl) rfl ?_
    refine a_iald (pc := 58) (dk dt_X8_serve 32 rfl) ar_19 ⟨H.1, ?_⟩
    replace H := H.2
    refine a_iload_n (pc := 59) (dk dt_X8_serve 33 rfl) rfl ?_
    refine a_icmp_gt (pc := 60) (dk dt_X8_serve 34 rfl) (tgt := 67) rfl ⟨fun c => ?_, fun c => ?_⟩
    · replace H := H.1 c
      refine a_iconst (pc := 67) (dk dt_X8_serve 37 rfl) (ik rfl) ?_
      refine a_istore (pc := 68) (dk dt_X8_serve 38 rfl) (by decide) rfl rfl ?_
      refine a_aload_n (pc := 70) (dk dt_X8_serve 39 rfl) rfl ?_
      refine a_getr (r := 21) (pc := 71) (dk dt_X8_serve 40 rfl) cls_8 fl_RX8_32 cf_18_8 ?_
      refine a_iload (pc := 74) (dk dt_X8_serve 41 rfl) rfl ?_
      refine a_aload_n (pc := 76) (dk dt_X8_serve 42 rfl) rfl ?_
      refine a_getr (r := 20) (pc := 77) (dk dt_X8_serve 43 rfl) cls_8 fl_RX8_28 cf_18_7 ?_
      refine a_iload (pc := 80) (dk dt_X8_serve 44 rfl) rfl ?_
      refine a_zald (pc := 82) (dk dt_X8_serve 45 rfl) ar_21 ⟨H.1, ?_⟩
      replace H := H.2
      refine a_if_eq (pc := 83) (dk dt_X8_serve 46 rfl) (tgt := 95) rfl ⟨fun c => ?_, fun c => ?_⟩
      · replace H := H.1 c
        refine a_iconst (pc := 95) (dk dt_X8_serve 51 rfl) (ik rfl) ?_
        refine a_zast (pc := 96) (dk dt_X8_serve 52 rfl) ar_22 ⟨H.1, by decide, ?_⟩
        replace H := H.2
        refine a_aload_n (pc := 97) (dk dt_X8_serve 53 rfl) rfl ?_
        refine a_getr (r := 21) (pc := 98) (dk dt_X8_serve 54 rfl) cls_8 fl_RX8_32 cf_18_8 ?_
        refine a_iload (pc := 101) (dk dt_X8_serve 55 rfl) rfl ?_
        refine a_zald (pc := 103) (dk dt_X8_serve 56 rfl) ar_22 ⟨H.1, ?_⟩
        replace H := H.2
        refine a_top (y := 0) (by simp [up, cpy]) ?_
        refine a_if_eq (pc := 104) (dk dt_X8_serve 57 rfl) (tgt := 136) rfl ⟨fun _ => ?_, fun c => absurd c (by decide)⟩
        refine a_aload_n (pc := 136) (dk dt_X8_serve 75 rfl) rfl ?_
        refine a_getr (r := 20) (pc := 137) (dk dt_X8_serve 76 rfl) cls_8 fl_RX8_28 cf_18_7 ?_
        refine a_iload (pc := 140) (dk dt_X8_serve 77 rfl) rfl ?_
        refine a_zald (pc := 142) (dk dt_X8_serve 78 rfl) ar_21 ⟨H.1, ?_⟩
        replace H := H.2
        refine a_top (y := (h 21 (h 23 x4))) (by simp [up, cpy]) ?_
        refine a_if_eq (pc := 143) (dk dt_X8_serve 79 rfl) (tgt := 157) rfl ⟨fun c => ?_, fun c => ?_⟩
        · replace H := H.1 c
          refine a_iinc (pc := 157) (dk dt_X8_serve 86 rfl) (by decide) rfl rfl rfl ?_
          refine a_goto (pc := 160) (dk dt_X8_serve 87 rfl) (tgt := 36) rfl ?_
          exact a_pick [0, 1, 2, 3] rfl H
        · replace H := H.2 c
          refine a_aload_n (pc := 146) (dk dt_X8_serve 80 rfl) rfl ?_
          refine a_getr (r := 20) (pc := 147) (dk dt_X8_serve 81 rfl) cls_8 fl_RX8_28 cf_18_7 ?_
          refine a_iload (pc := 150) (dk dt_X8_serve 82 rfl) rfl ?_
          refine a_iconst (pc := 152) (dk dt_X8_serve 83 rfl) (ik rfl) ?_
          refine a_zast (pc := 153) (dk dt_X8_serve 84 rfl) ar_21 ⟨H.1, by decide, ?_⟩
          replace H := H.2
          refine a_iinc (pc := 154) (dk dt_X8_serve 85 rfl) (by decide) rfl rfl rfl ?_
          refine a_iinc (pc := 157) (dk dt_X8_serve 86 rfl) (by decide) rfl rfl rfl ?_
          refine a_goto (pc := 160) (dk dt_X8_serve 87 rfl) (tgt := 36) rfl ?_
          exact a_pick [0, 1, 2, 3] rfl H
      · replace H := H.2 c
        refine a_iload (pc := 86) (dk dt_X8_serve 47 rfl) rfl ?_
        refine a_if_eq (pc := 88) (dk dt_X8_serve 48 rfl) (tgt := 95) rfl ⟨fun _ => ?_, fun c => absurd c (by decide)⟩
        refine a_iconst (pc := 95) (dk dt_X8_serve 51 rfl) (ik rfl) ?_
        refine a_zast (pc := 96) (dk dt_X8_serve 52 rfl) ar_22 ⟨H.1, by decide, ?_⟩
        replace H := H.2
        refine a_aload_n (pc := 97) (dk dt_X8_serve 53 rfl) rfl ?_
        refine a_getr (r := 21) (pc := 98) (dk dt_X8_serve 54 rfl) cls_8 fl_RX8_32 cf_18_8 ?_
        refine a_iload (pc := 101) (dk dt_X8_serve 55 rfl) rfl ?_
        refine a_zald (pc := 103) (dk dt_X8_serve 56 rfl) ar_22 ⟨H.1, ?_⟩
        replace H := H.2
        refine a_top (y := 0) (by simp [up, cpy]) ?_
        refine a_if_eq (pc := 104) (dk dt_X8_serve 57 rfl) (tgt := 136) rfl ⟨fun _ => ?_, fun c => absurd c (by decide)⟩
        refine a_aload_n (pc := 136) (dk dt_X8_serve 75 rfl) rfl ?_
        refine a_getr (r := 20) (pc := 137) (dk dt_X8_serve 76 rfl) cls_8 fl_RX8_28 cf_18_7 ?_
        refine a_iload (pc := 140) (dk dt_X8_serve 77 rfl) rfl ?_
        refine a_zald (pc := 142) (dk dt_X8_serve 78 rfl) ar_21 ⟨H.1, ?_⟩
        replace H := H.2
        refine a_top (y := (h 21 (h 23 x4))) (by simp [up, cpy]) ?_
        refine a_if_eq (pc := 143) (dk dt_X8_serve 79 rfl) (tgt := 157) rfl ⟨fun c => ?_, fun c => ?_⟩
        · replace H := H.1 c
          refine a_iinc (pc := 157) (dk dt_X8_serve 86 rfl) (by decide) rfl rfl rfl ?_
          refine a_goto (pc := 160) (dk dt_X8_serve 87 rfl) (tgt := 36) rfl ?_
          exact a_pick [0, 1, 2, 3] rfl H
        · replace H := H.2 c
          refine a_aload_n (pc := 146) (dk dt_X8_serve 80 rfl) rfl ?_
          refine a_getr (r := 20) (pc := 147) (dk dt_X8_serve 81 rfl) cls_8 fl_RX8_28 cf_18_7 ?_
          refine a_iload (pc := 150) (dk dt_X8_serve 82 rfl) rfl ?_
          refine a_iconst (pc := 152) (dk dt_X8_serve 83 rfl) (ik rfl) ?_
          refine a_zast (pc := 153) (dk dt_X8_serve 84 rfl) ar_21 ⟨H.1, by decide, ?_⟩
          replace H := H.2
          refine a_iinc (pc := 154) (dk dt_X8_serve 85 rfl) (by decide) rfl rfl rfl ?_
          refine a_iinc (pc := 157) (dk dt_X8_serve 86 rfl) (by decide) rfl rfl rfl ?_
          refine a_goto (pc := 160) (dk dt_X8_serve 87 rfl) (tgt := 36) rfl ?_
          exact a_pick [0, 1, 2, 3] rfl H
    · replace H := H.2 c
      refine a_iconst (pc := 63) (dk dt_X8_serve 35 rfl) (ik rfl) ?_
      refine a_goto (pc := 64) (dk dt_X8_serve 36 rfl) (tgt := 68) rfl ?_
      refine a_istore (pc := 68) (dk dt_X8_serve 38 rfl) (by decide) rfl rfl ?_
      refine a_aload_n (pc := 70) (dk dt_X8_serve 39 rfl) rfl ?_
      refine a_getr (r := 21) (pc := 71) (dk dt_X8_serve 40 rfl) cls_8 fl_RX8_32 cf_18_8 ?_
      refine a_iload (pc := 74) (dk dt_X8_serve 41 rfl) rfl ?_
      refine a_aload_n (pc := 76) (dk dt_X8_serve 42 rfl) rfl ?_
      refine a_getr (r := 20) (pc := 77) (dk dt_X8_serve 43 rfl) cls_8 fl_RX8_28 cf_18_7 ?_
      refine a_iload (pc := 80) (dk dt_X8_serve 44 rfl) rfl ?_
      refine a_zald (pc := 82) (dk dt_X8_serve 45 rfl) ar_21 ⟨H.1, ?_⟩
      replace H := H.2
      refine a_if_eq (pc := 83) (dk dt_X8_serve 46 rfl) (tgt := 95) rfl ⟨fun c => ?_, fun c => ?_⟩
      · replace H := H.1 c
        refine a_iconst (pc := 95) (dk dt_X8_serve 51 rfl) (ik rfl) ?_
        refine a_zast (pc := 96) (dk dt_X8_serve 52 rfl) ar_22 ⟨H.1, by decide, ?_⟩
        replace H := H.2
        refine a_aload_n (pc := 97) (dk dt_X8_serve 53 rfl) rfl ?_
        refine a_getr (r := 21) (pc := 98) (dk dt_X8_serve 54 rfl) cls_8 fl_RX8_32 cf_18_8 ?_
        refine a_iload (pc := 101) (dk dt_X8_serve 55 rfl) rfl ?_
        refine a_zald (pc := 103) (dk dt_X8_serve 56 rfl) ar_22 ⟨H.1, ?_⟩
        replace H := H.2
        refine a_top (y := 0) (by simp [up, cpy]) ?_
        refine a_if_eq (pc := 104) (dk dt_X8_serve 57 rfl) (tgt := 136) rfl ⟨fun _ => ?_, fun c => absurd c (by decide)⟩
        refine a_aload_n (pc := 136) (dk dt_X8_serve 75 rfl) rfl ?_
        refine a_getr (r := 20) (pc := 137) (dk dt_X8_serve 76 rfl) cls_8 fl_RX8_28 cf_18_7 ?_
        refine a_iload (pc := 140) (dk dt_X8_serve 77 rfl) rfl ?_
        refine a_zald (pc := 142) (dk dt_X8_serve 78 rfl) ar_21 ⟨H.1, ?_⟩
        replace H := H.2
        refine a_top (y := (h 21 (h 23 x4))) (by simp [up, cpy]) ?_
        refine a_if_eq (pc := 143) (dk dt_X8_serve 79 rfl) (tgt := 157) rfl ⟨fun c => ?_, fun c => ?_⟩
        · replace H := H.1 c
          refine a_iinc (pc := 157) (dk dt_X8_serve 86 rfl) (by decide) rfl rfl rfl ?_
          refine a_goto (pc := 160) (dk dt_X8_serve 87 rfl) (tgt := 36) rfl ?_
          exact a_pick [0, 1, 2, 3] rfl H
        · replace H := H.2 c
          refine a_aload_n (pc := 146) (dk dt_X8_serve 80 rfl) rfl ?_
          refine a_getr (r := 20) (pc := 147) (dk dt_X8_serve 81 rfl) cls_8 fl_RX8_28 cf_18_7 ?_
          refine a_iload (pc := 150) (dk dt_X8_serve 82 rfl) rfl ?_
          refine a_iconst (pc := 152) (dk dt_X8_serve 83 rfl) (ik rfl) ?_
          refine a_zast (pc := 153) (dk dt_X8_serve 84 rfl) ar_21 ⟨H.1, by decide, ?_⟩
          replace H := H.2
          refine a_iinc (pc := 154) (dk dt_X8_serve 85 rfl) (by decide) rfl rfl rfl ?_
          refine a_iinc (pc := 157) (dk dt_X8_serve 86 rfl) (by decide) rfl rfl rfl ?_
          refine a_goto (pc := 160) (dk dt_X8_serve 87 rfl) (tgt := 36) rfl ?_
          exact a_pick [0, 1, 2, 3] rfl H
      · replace H := H.2 c
        refine a_iload (pc := 86) (dk dt_X8_serve 47 rfl) rfl ?_
        refine a_if_eq (pc := 88) (dk dt_X8_serve 48 rfl) (tgt := 95) rfl ⟨fun c => absurd c (by decide), fun _ => ?_⟩
        refine a_iconst (pc := 91) (dk dt_X8_serve 49 rfl) (ik rfl) ?_
        refine a_goto (pc := 92) (dk dt_X8_serve 50 rfl) (tgt := 96) rfl ?_
        refine a_zast (pc := 96) (dk dt_X8_serve 52 rfl) ar_22 ⟨H.1, by decide, ?_⟩
        replace H := H.2
        refine a_aload_n (pc := 97) (dk dt_X8_serve 53 rfl) rfl ?_
        refine a_getr (r := 21) (pc := 98) (dk dt_X8_serve 54 rfl) cls_8 fl_RX8_32 cf_18_8 ?_
        refine a_iload (pc := 101) (dk dt_X8_serve 55 rfl) rfl ?_
        refine a_zald (pc := 103) (dk dt_X8_serve 56 rfl) ar_22 ⟨H.1, ?_⟩
        replace H := H.2
        refine a_top (y := 1) (by simp [up, cpy]) ?_
        refine a_if_eq (pc := 104) (dk dt_X8_serve 57 rfl) (tgt := 136) rfl ⟨fun c => absurd c (by decide), fun _ => ?_⟩
        refine a_iload_n (pc := 107) (dk dt_X8_serve 58 rfl) rfl ?_
        refine a_aload_n (pc := 108) (dk dt_X8_serve 59 rfl) rfl ?_
        refine a_getr (r := 18) (pc := 109) (dk dt_X8_serve 60 rfl) cls_8 fl_RX8_21 cf_18_5 ?_
        refine a_iload (pc := 112) (dk dt_X8_serve 61 rfl) rfl ?_
        refine a_iald (pc := 114) (dk dt_X8_serve 62 rfl) ar_19 ⟨H.1, ?_⟩
        replace H := H.2
        refine a_top (y := (h 19 (h 23 x4))) (by simp [up, cpy]) ?_
        refine a_isub (pc := 115) (dk dt_X8_serve 63 rfl) ?_
        refine a_istore_n (pc := 116) (dk dt_X8_serve 64 rfl) (by decide) rfl rfl ?_
        refine a_aload_n (pc := 117) (dk dt_X8_serve 65 rfl) rfl ?_
        refine a_dup (pc := 118) (dk dt_X8_serve 66 rfl) rfl ?_
        refine a_geti (pc := 119) (dk dt_X8_serve 67 rfl) cls_8 fl_RX8_41 cf_18_4 ?_
        refine a_top (y := (h 18 4)) (by simp [up, cpy]) ?_
        refine a_aload_n (pc := 122) (dk dt_X8_serve 68 rfl) rfl ?_
        refine a_getr (r := 18) (pc := 123) (dk dt_X8_serve 69 rfl) cls_8 fl_RX8_21 cf_18_5 ?_
        refine a_iload (pc := 126) (dk dt_X8_serve 70 rfl) rfl ?_
        refine a_iald (pc := 128) (dk dt_X8_serve 71 rfl) ar_19 ⟨H.1, ?_⟩
        replace H := H.2
        refine a_top (y := (h 19 (h 23 x4))) (by simp [up, cpy]) ?_
        refine a_iadd (pc := 129) (dk dt_X8_serve 72 rfl) ?_
        refine a_puti (pc := 130) (dk dt_X8_serve 73 rfl) cls_8 fl_RX8_41 cf_18_4 rfl rfl ?_
        refine a_goto (pc := 133) (dk dt_X8_serve 74 rfl) (tgt := 157) rfl ?_
        refine a_iinc (pc := 157) (dk dt_X8_serve 86 rfl) (by decide) rfl rfl rfl ?_
        refine a_goto (pc := 160) (dk dt_X8_serve 87 rfl) (tgt := 36) rfl ?_
        exact a_pick [0, 1, 2, 3] rfl H
set_option maxHeartbeats 40000000 in
theorem U_X8_switchTo_18_0 {G : GG} {Φ : Int → Hp → Prop} {h : Hp} {x1 : Int} (H : AT G m_X8_switchTo 2 [(0, rv 18), (1, iv x1), (2, iv 0)] [] h Φ) : AT G m_X8_switchTo 0 [(0, rv 18), (1, iv x1)] [] h Φ := by
  refine a_iconst (pc := 0) (dk dt_X8_switchTo 0 rfl) (ik rfl) ?_
  refine a_istore_n (pc := 1) (dk dt_X8_switchTo 1 rfl) (by decide) rfl rfl ?_
  exact a_pick [0, 1, 2] rfl H
set_option maxHeartbeats 40000000 in
theorem U_X8_switchTo_18_2 {G : GG} {Φ : Int → Hp → Prop} {h : Hp} {x1 : Int} {x2 : Int} (H : ((8 ≤ x2 → Φ 0 h) ∧ (x2 < 8 → (((band (bshr x1 x2) 1) ≠ 1 → (0 ≤ x2 ∧ x2 < 8) ∧ AT G m_X8_switchTo 2 [(0, rv 18), (1, iv x1), (2, iv (w32 (x2 + 1)))] [] (up h 21 x2 0) Φ) ∧ ((band (bshr x1 x2) 1) = 1 → (0 ≤ x2 ∧ x2 < 8) ∧ AT G m_X8_switchTo 2 [(0, rv 18), (1, iv x1), (2, iv (w32 (x2 + 1)))] [] (up h 21 x2 1) Φ))))) : AT G m_X8_switchTo 2 [(0, rv 18), (1, iv x1), (2, iv x2)] [] h Φ := by
  refine a_iload_n (pc := 2) (dk dt_X8_switchTo 2 rfl) rfl ?_
  refine a_bipush (pc := 3) (dk dt_X8_switchTo 3 rfl) (ik rfl) (bpk rfl) ?_
  refine a_icmp_ge (pc := 5) (dk dt_X8_switchTo 4 rfl) (tgt := 34) rfl ⟨fun c => ?_, fun c => ?_⟩
  · replace H := H.1 c
    exact a_vret (pc := 34) (dk dt_X8_switchTo 21 rfl) rfl rfl H
  · replace H := H.2 c
    refine a_aload_n (pc := 8) (dk dt_X8_switchTo 5 rfl) rfl ?_
    refine a_getr (r := 20) (pc := 9) (dk dt_X8_switchTo 6 rfl) cls_8 fl_RX8_28 cf_18_7 ?_
    refine a_iload_n (pc := 12) (dk dt_X8_switchTo 7 rfl) rfl ?_
    refine a_iload_n (pc := 13) (dk dt_X8_switchTo 8 rfl) rfl ?_
    refine a_iload_n (pc := 14) (dk dt_X8_switchTo 9 rfl) rfl ?_
    refine a_ishr (pc := 15) (dk dt_X8_switchTo 10 rfl) ?_
    refine a_iconst (pc := 16) (dk dt_X8_switchTo 11 rfl) (ik rfl) ?_
    refine a_iand (pc := 17) (dk dt_X8_switchTo 12 rfl) ?_
    refine a_iconst (pc := 18) (dk dt_X8_switchTo 13 rfl) (ik rfl) ?_
    refine a_icmp_ne (pc := 19) (dk dt_X8_switchTo 14 rfl) (tgt := 26) rfl ⟨fun c => ?_, fun c => ?_⟩
    · replace H := H.1 c
      refine a_iconst (pc := 26) (dk dt_X8_switchTo 17 rfl) (ik rfl) ?_
      refine a_zast (pc := 27) (dk dt_X8_switchTo 18 rfl) ar_21 ⟨H.1, by decide, ?_⟩
      replace H := H.2
      refine a_iinc (pc := 28) (dk dt_X8_switchTo 19 rfl) (by decide) rfl rfl rfl ?_
      refine a_goto (pc := 31) (dk dt_X8_switchTo 20 rfl) (tgt := 2) rfl ?_
      exact a_pick [0, 1, 2] rfl H
    · replace H := H.2 c
      refine a_iconst (pc := 22) (dk dt_X8_switchTo 15 rfl) (ik rfl) ?_
      refine a_goto (pc := 23) (dk dt_X8_switchTo 16 rfl) (tgt := 27) rfl ?_
      refine a_zast (pc := 27) (dk dt_X8_switchTo 18 rfl) ar_21 ⟨H.1, by decide, ?_⟩
      replace H := H.2
      refine a_iinc (pc := 28) (dk dt_X8_switchTo 19 rfl) (by decide) rfl rfl rfl ?_
      refine a_goto (pc := 31) (dk dt_X8_switchTo 20 rfl) (tgt := 2) rfl ?_
      exact a_pick [0, 1, 2] rfl H
set_option maxHeartbeats 40000000 in
theorem U_X5_byteOf_24_0 {G : GG} {Φ : Int → Hp → Prop} {h : Hp} {x1 : Int} (H : ((x1 < 0 → Φ (-3) h) ∧ (0 ≤ x1 → ((64 ≤ x1 → Φ (-3) h) ∧ (x1 < 64 → (0 ≤ x1 ∧ x1 < 64) ∧ Call G m_X5_corrected [iv (h 25 x1)] h (fun r1 h2 => ((r1 ≠ (-3) → Call G m_X5_decoded [iv r1] h2 (fun r3 h4 => Φ r3 h4)) ∧ (r1 = (-3) → Φ (-3) h2)))))))) : AT G m_X5_byteOf 0 [(0, rv 24), (1, iv x1)] [] h Φ := by
  refine a_iload_n (pc := 0) (dk dt_X5_byteOf 0 rfl) rfl ?_
  refine a_if_lt (pc := 1) (dk dt_X5_byteOf 1 rfl) (tgt := 22) rfl ⟨fun c => ?_, fun c => ?_⟩
  · replace H := H.1 c
    refine a_bipush (pc := 22) (dk dt_X5_byteOf 11 rfl) (ik rfl) (bpk rfl) ?_
    refine a_istore_n (pc := 24) (dk dt_X5_byteOf 12 rfl) (by decide) rfl rfl ?_
    refine a_iload_n (pc := 25) (dk dt_X5_byteOf 13 rfl) rfl ?_
    refine a_bipush (pc := 26) (dk dt_X5_byteOf 14 rfl) (ik rfl) (bpk rfl) ?_
    refine a_icmp_ne (pc := 28) (dk dt_X5_byteOf 15 rfl) (tgt := 36) rfl ⟨fun c => absurd c (by decide), fun _ => ?_⟩
    refine a_bipush (pc := 31) (dk dt_X5_byteOf 16 rfl) (ik rfl) (bpk rfl) ?_
    refine a_goto (pc := 33) (dk dt_X5_byteOf 17 rfl) (tgt := 40) rfl ?_
    exact a_iret (pc := 40) (dk dt_X5_byteOf 20 rfl) rfl rfl H
  · replace H := H.2 c
    refine a_iload_n (pc := 4) (dk dt_X5_byteOf 2 rfl) rfl ?_
    refine a_bipush (pc := 5) (dk dt_X5_byteOf 3 rfl) (ik rfl) (bpk rfl) ?_
    refine a_icmp_ge (pc := 7) (dk dt_X5_byteOf 4 rfl) (tgt := 22) rfl ⟨fun c => ?_, fun c => ?_⟩
    · replace H := H.1 c
      refine a_bipush (pc := 22) (dk dt_X5_byteOf 11 rfl) (ik rfl) (bpk rfl) ?_
      refine a_istore_n (pc := 24) (dk dt_X5_byteOf 12 rfl) (by decide) rfl rfl ?_
      refine a_iload_n (pc := 25) (dk dt_X5_byteOf 13 rfl) rfl ?_
      refine a_bipush (pc := 26) (dk dt_X5_byteOf 14 rfl) (ik rfl) (bpk rfl) ?_
      refine a_icmp_ne (pc := 28) (dk dt_X5_byteOf 15 rfl) (tgt := 36) rfl ⟨fun c => absurd c (by decide), fun _ => ?_⟩
      refine a_bipush (pc := 31) (dk dt_X5_byteOf 16 rfl) (ik rfl) (bpk rfl) ?_
      refine a_goto (pc := 33) (dk dt_X5_byteOf 17 rfl) (tgt := 40) rfl ?_
      exact a_iret (pc := 40) (dk dt_X5_byteOf 20 rfl) rfl rfl H
    · replace H := H.2 c
      refine a_aload_n (pc := 10) (dk dt_X5_byteOf 5 rfl) rfl ?_
      refine a_getr (r := 24) (pc := 11) (dk dt_X5_byteOf 6 rfl) cls_5 fl_RX5_11 cf_24_0 ?_
      refine a_iload_n (pc := 14) (dk dt_X5_byteOf 7 rfl) rfl ?_
      refine a_iald (pc := 15) (dk dt_X5_byteOf 8 rfl) ar_25 ⟨H.1, ?_⟩
      replace H := H.2
      refine a_callSi (as := [iv (h 25 x1)]) (st := []) (pc := 16) (dk dt_X5_byteOf 9 rfl) cl_RX5_19 ⟨Nat.le_of_ble_eq_true rfl, Nat.le_of_ble_eq_true rfl⟩ ⟨Nat.le_of_ble_eq_true rfl, Nat.le_of_ble_eq_true rfl⟩ rfl rfl rfl (Nat.le_of_ble_eq_true rfl) (Call.mono H fun r1 h2 H => ?_)
      refine a_goto (pc := 19) (dk dt_X5_byteOf 10 rfl) (tgt := 24) rfl ?_
      refine a_istore_n (pc := 24) (dk dt_X5_byteOf 12 rfl) (by decide) rfl rfl ?_
      refine a_iload_n (pc := 25) (dk dt_X5_byteOf 13 rfl) rfl ?_
      refine a_bipush (pc := 26) (dk dt_X5_byteOf 14 rfl) (ik rfl) (bpk rfl) ?_
      refine a_icmp_ne (pc := 28) (dk dt_X5_byteOf 15 rfl) (tgt := 36) rfl ⟨fun c => ?_, fun c => ?_⟩
      · replace H := H.1 c
        refine a_iload_n (pc := 36) (dk dt_X5_byteOf 18 rfl) rfl ?_
        refine a_callSi (as := [iv r1]) (st := []) (pc := 37) (dk dt_X5_byteOf 19 rfl) cl_RX5_22 ⟨Nat.le_of_ble_eq_true rfl, Nat.le_of_ble_eq_true rfl⟩ ⟨Nat.le_of_ble_eq_true rfl, Nat.le_of_ble_eq_true rfl⟩ rfl rfl rfl (Nat.le_of_ble_eq_true rfl) (Call.mono H fun r3 h4 H => ?_)
        exact a_iret (pc := 40) (dk dt_X5_byteOf 20 rfl) rfl rfl H
      · replace H := H.2 c
        refine a_bipush (pc := 31) (dk dt_X5_byteOf 16 rfl) (ik rfl) (bpk rfl) ?_
        refine a_goto (pc := 33) (dk dt_X5_byteOf 17 rfl) (tgt := 40) rfl ?_
        exact a_iret (pc := 40) (dk dt_X5_byteOf 20 rfl) rfl rfl H
set_option maxHeartbeats 40000000 in
theorem U_X5_mend_24_0 {G : GG} {Φ : Int → Hp → Prop} {h : Hp} {x1 : Int} (H : (0 ≤ x1 ∧ x1 < 64) ∧ Call G m_X5_corrected [iv (h 25 x1)] h (fun r1 h2 => ((r1 ≠ (-3) → (0 ≤ x1 ∧ x1 < 64) ∧ ((r1 = (h2 25 x1) → Φ 0 h2) ∧ (r1 ≠ (h2 25 x1) → (0 ≤ x1 ∧ x1 < 64) ∧ Φ 0 (up (up h2 25 x1 r1) 24 1 (w32 ((h2 24 1) + 1)))))) ∧ (r1 = (-3) → (0 ≤ x1 ∧ x1 < 64) ∧ Φ 1 (up (up h2 25 x1 0) 24 2 (w32 ((h2 24 2) + 1))))))) : AT G m_X5_mend 0 [(0, rv 24), (1, iv x1)] [] h Φ := by
  refine a_aload_n (pc := 0) (dk dt_X5_mend 0 rfl) rfl ?_
  refine a_getr (r := 24) (pc := 1) (dk dt_X5_mend 1 rfl) cls_5 fl_RX5_11 cf_24_0 ?_
  refine a_iload_n (pc := 4) (dk dt_X5_mend 2 rfl) rfl ?_
  refine a_iald (pc := 5) (dk dt_X5_mend 3 rfl) ar_25 ⟨H.1, ?_⟩
  replace H := H.2
  refine a_callSi (as := [iv (h 25 x1)]) (st := []) (pc := 6) (dk dt_X5_mend 4 rfl) cl_RX5_19 ⟨Nat.le_of_ble_eq_true rfl, Nat.le_of_ble_eq_true rfl⟩ ⟨Nat.le_of_ble_eq_true rfl, Nat.le_of_ble_eq_true rfl⟩ rfl rfl rfl (Nat.le_of_ble_eq_true rfl) (Call.mono H fun r1 h2 H => ?_)
  refine a_istore_n (pc := 9) (dk dt_X5_mend 5 rfl) (by decide) rfl rfl ?_
  refine a_iload_n (pc := 10) (dk dt_X5_mend 6 rfl) rfl ?_
  refine a_bipush (pc := 11) (dk dt_X5_mend 7 rfl) (ik rfl) (bpk rfl) ?_
  refine a_icmp_ne (pc := 13) (dk dt_X5_mend 8 rfl) (tgt := 35) rfl ⟨fun c => ?_, fun c => ?_⟩
  · replace H := H.1 c
    refine a_iload_n (pc := 35) (dk dt_X5_mend 22 rfl) rfl ?_
    refine a_aload_n (pc := 36) (dk dt_X5_mend 23 rfl) rfl ?_
    refine a_getr (r := 24) (pc := 37) (dk dt_X5_mend 24 rfl) cls_5 fl_RX5_11 cf_24_0 ?_
    refine a_iload_n (pc := 40) (dk dt_X5_mend 25 rfl) rfl ?_
    refine a_iald (pc := 41) (dk dt_X5_mend 26 rfl) ar_25 ⟨H.1, ?_⟩
    replace H := H.2
    refine a_icmp_eq (pc := 42) (dk dt_X5_mend 27 rfl) (tgt := 62) rfl ⟨fun c => ?_, fun c => ?_⟩
    · replace H := H.1 c
      refine a_iconst (pc := 62) (dk dt_X5_mend 39 rfl) (ik rfl) ?_
      exact a_zret (pc := 63) (dk dt_X5_mend 40 rfl) rfl rfl ⟨by decide, H⟩
    · replace H := H.2 c
      refine a_aload_n (pc := 45) (dk dt_X5_mend 28 rfl) rfl ?_
      refine a_getr (r := 24) (pc := 46) (dk dt_X5_mend 29 rfl) cls_5 fl_RX5_11 cf_24_0 ?_
      refine a_iload_n (pc := 49) (dk dt_X5_mend 30 rfl) rfl ?_
      refine a_iload_n (pc := 50) (dk dt_X5_mend 31 rfl) rfl ?_
      refine a_iast (pc := 51) (dk dt_X5_mend 32 rfl) ar_25 ⟨H.1, ?_⟩
      replace H := H.2
      refine a_aload_n (pc := 52) (dk dt_X5_mend 33 rfl) rfl ?_
      refine a_dup (pc := 53) (dk dt_X5_mend 34 rfl) rfl ?_
      refine a_geti (pc := 54) (dk dt_X5_mend 35 rfl) cls_5 fl_RX5_29 cf_24_1 ?_
      refine a_top (y := (h2 24 1)) (by simp [up, cpy]) ?_
      refine a_iconst (pc := 57) (dk dt_X5_mend 36 rfl) (ik rfl) ?_
      refine a_iadd (pc := 58) (dk dt_X5_mend 37 rfl) ?_
      refine a_puti (pc := 59) (dk dt_X5_mend 38 rfl) cls_5 fl_RX5_29 cf_24_1 rfl rfl ?_
      refine a_iconst (pc := 62) (dk dt_X5_mend 39 rfl) (ik rfl) ?_
      exact a_zret (pc := 63) (dk dt_X5_mend 40 rfl) rfl rfl ⟨by decide, H⟩
  · replace H := H.2 c
    refine a_aload_n (pc := 16) (dk dt_X5_mend 9 rfl) rfl ?_
    refine a_getr (r := 24) (pc := 17) (dk dt_X5_mend 10 rfl) cls_5 fl_RX5_11 cf_24_0 ?_
    refine a_iload_n (pc := 20) (dk dt_X5_mend 11 rfl) rfl ?_
    refine a_iconst (pc := 21) (dk dt_X5_mend 12 rfl) (ik rfl) ?_
    refine a_iast (pc := 22) (dk dt_X5_mend 13 rfl) ar_25 ⟨H.1, ?_⟩
    replace H := H.2
    refine a_aload_n (pc := 23) (dk dt_X5_mend 14 rfl) rfl ?_
    refine a_dup (pc := 24) (dk dt_X5_mend 15 rfl) rfl ?_
    refine a_geti (pc := 25) (dk dt_X5_mend 16 rfl) cls_5 fl_RX5_25 cf_24_2 ?_
    refine a_top (y := (h2 24 2)) (by simp [up, cpy]) ?_
    refine a_iconst (pc := 28) (dk dt_X5_mend 17 rfl) (ik rfl) ?_
    refine a_iadd (pc := 29) (dk dt_X5_mend 18 rfl) ?_
    refine a_puti (pc := 30) (dk dt_X5_mend 19 rfl) cls_5 fl_RX5_25 cf_24_2 rfl rfl ?_
    refine a_iconst (pc := 33) (dk dt_X5_mend 20 rfl) (ik rfl) ?_
    exact a_zret (pc := 34) (dk dt_X5_mend 21 rfl) rfl rfl ⟨by decide, H⟩
set_option maxHeartbeats 40000000 in
theorem U_X5_decoded_0 {G : GG} {Φ : Int → Hp → Prop} {h : Hp} {x0 : Int} (H : AT G m_X5_decoded 4 [(0, iv x0), (1, iv 0), (2, iv 0)] [] h Φ) : AT G m_X5_decoded 0 [(0, iv x0)] [] h Φ := by
  refine a_iconst (pc := 0) (dk dt_X5_decoded 0 rfl) (ik rfl) ?_
  refine a_istore_n (pc := 1) (dk dt_X5_decoded 1 rfl) (by decide) rfl rfl ?_
  refine a_iconst (pc := 2) (dk dt_X5_decoded 2 rfl) (ik rfl) ?_
  refine a_istore_n (pc := 3) (dk dt_X5_decoded 3 rfl) (by decide) rfl rfl ?_
  exact a_pick [0, 1, 2] rfl H
set_option maxHeartbeats 40000000 in
theorem U_X5_decoded_4 {G : GG} {Φ : Int → Hp → Prop} {h : Hp} {x0 : Int} {x1 : Int} {x2 : Int} (H : ((8 ≤ x2 → Φ x1 h) ∧ (x2 < 8 → (0 ≤ x2 ∧ x2 < 8) ∧ AT G m_X5_decoded 4 [(0, iv x0), (1, iv (bor x1 (bshl (band (bshr x0 (xc 902 x2)) 1) x2))), (2, iv (w32 (x2 + 1)))] [] h Φ))) : AT G m_X5_decoded 4 [(0, iv x0), (1, iv x1), (2, iv x2)] [] h Φ := by
  refine a_iload_n (pc := 4) (dk dt_X5_decoded 4 rfl) rfl ?_
  refine a_gst902 (pc := 5) (dk dt_X5_decoded 5 rfl) fs_RX5_32 ?_
  refine a_xlen (N := 8) (pc := 8) (dk dt_X5_decoded 6 rfl) (by decide) ?_
  refine a_icmp_ge (pc := 9) (dk dt_X5_decoded 7 rfl) (tgt := 32) rfl ⟨fun c => ?_, fun c => ?_⟩
  · replace H := H.1 c
    refine a_iload_n (pc := 32) (dk dt_X5_decoded 22 rfl) rfl ?_
    exact a_iret (pc := 33) (dk dt_X5_decoded 23 rfl) rfl rfl H
  · replace H := H.2 c
    refine a_iload_n (pc := 12) (dk dt_X5_decoded 8 rfl) rfl ?_
    refine a_iload_n (pc := 13) (dk dt_X5_decoded 9 rfl) rfl ?_
    refine a_gst902 (pc := 14) (dk dt_X5_decoded 10 rfl) fs_RX5_32 ?_
    refine a_iload_n (pc := 17) (dk dt_X5_decoded 11 rfl) rfl ?_
    refine a_xald (N := 8) (pc := 18) (dk dt_X5_decoded 12 rfl) (by decide) ⟨H.1, ?_⟩
    replace H := H.2
    refine a_ishr (pc := 19) (dk dt_X5_decoded 13 rfl) ?_
    refine a_iconst (pc := 20) (dk dt_X5_decoded 14 rfl) (ik rfl) ?_
    refine a_iand (pc := 21) (dk dt_X5_decoded 15 rfl) ?_
    refine a_iload_n (pc := 22) (dk dt_X5_decoded 16 rfl) rfl ?_
    refine a_ishl (pc := 23) (dk dt_X5_decoded 17 rfl) ?_
    refine a_ior (pc := 24) (dk dt_X5_decoded 18 rfl) ?_
    refine a_istore_n (pc := 25) (dk dt_X5_decoded 19 rfl) (by decide) rfl rfl ?_
    refine a_iinc (pc := 26) (dk dt_X5_decoded 20 rfl) (by decide) rfl rfl rfl ?_
    refine a_goto (pc := 29) (dk dt_X5_decoded 21 rfl) (tgt := 4) rfl ?_
    exact a_pick [0, 1, 2] rfl H
set_option maxHeartbeats 40000000 in
theorem U_X5_corrected_0 {G : GG} {Φ : Int → Hp → Prop} {h : Hp} {x0 : Int} (H : AT G m_X5_corrected 6 [(0, iv x0), (1, iv 0), (2, iv 0), (3, iv 0)] [] h Φ) : AT G m_X5_corrected 0 [(0, iv x0)] [] h Φ := by
  refine a_iconst (pc := 0) (dk dt_X5_corrected 0 rfl) (ik rfl) ?_
  refine a_istore_n (pc := 1) (dk dt_X5_corrected 1 rfl) (by decide) rfl rfl ?_
  refine a_iconst (pc := 2) (dk dt_X5_corrected 2 rfl) (ik rfl) ?_
  refine a_istore_n (pc := 3) (dk dt_X5_corrected 3 rfl) (by decide) rfl rfl ?_
  refine a_iconst (pc := 4) (dk dt_X5_corrected 4 rfl) (ik rfl) ?_
  refine a_istore_n (pc := 5) (dk dt_X5_corrected 5 rfl) (by decide) rfl rfl ?_
  exact a_pick [0, 1, 2, 3] rfl H
set_option maxHeartbeats 40000000 in
theorem U_X5_corrected_6 {G : GG} {Φ : Int → Hp → Prop} {h : Hp} {x0 : Int} {x1 : Int} {x2 : Int} {x3 : Int} (H : ((13 ≤ x3 → ((x2 ≠ 0 → ((13 ≤ x1 → Φ (-3) h) ∧ (x1 < 13 → Φ (bxor x0 (bshl 1 x1)) h))) ∧ (x2 = 0 → ((x1 ≠ 0 → Φ (-3) h) ∧ (x1 = 0 → Φ x0 h))))) ∧ (x3 < 13 → (((band (bshr x0 x3) 1) ≠ 1 → AT G m_X5_corrected 6 [(0, iv x0), (1, iv x1), (2, iv x2), (3, iv (w32 (x3 + 1)))] [] h Φ) ∧ ((band (bshr x0 x3) 1) = 1 → AT G m_X5_corrected 6 [(0, iv x0), (1, iv (bxor x1 x3)), (2, iv (bxor x2 1)), (3, iv (w32 (x3 + 1)))] [] h Φ))))) : AT G m_X5_corrected 6 [(0, iv x0), (1, iv x1), (2, iv x2), (3, iv x3)] [] h Φ := by
  refine a_iload_n (pc := 6) (dk dt_X5_corrected 6 rfl) rfl ?_
  refine a_bipush (pc := 7) (dk dt_X5_corrected 7 rfl) (ik rfl) (bpk rfl) ?_
  refine a_icmp_ge (pc := 9) (dk dt_X5_corrected 8 rfl) (tgt := 35) rfl ⟨fun c => ?_, fun c => ?_⟩
  · replace H := H.1 c
    refine a_iload_n (pc := 35) (dk dt_X5_corrected 26 rfl) rfl ?_
    refine a_if_ne (pc := 36) (dk dt_X5_corrected 27 rfl) (tgt := 50) rfl ⟨fun c => ?_, fun c => ?_⟩
    · replace H := H.1 c
      refine a_iload_n (pc := 50) (dk dt_X5_corrected 34 rfl) rfl ?_
      refine a_bipush (pc := 51) (dk dt_X5_corrected 35 rfl) (ik rfl) (bpk rfl) ?_
      refine a_icmp_ge (pc := 53) (dk dt_X5_corrected 36 rfl) (tgt := 64) rfl ⟨fun c => ?_, fun c => ?_⟩
      · replace H := H.1 c
        refine a_bipush (pc := 64) (dk dt_X5_corrected 43 rfl) (ik rfl) (bpk rfl) ?_
        exact a_iret (pc := 66) (dk dt_X5_corrected 44 rfl) rfl rfl H
      · replace H := H.2 c
        refine a_iload_n (pc := 56) (dk dt_X5_corrected 37 rfl) rfl ?_
        refine a_iconst (pc := 57) (dk dt_X5_corrected 38 rfl) (ik rfl) ?_
        refine a_iload_n (pc := 58) (dk dt_X5_corrected 39 rfl) rfl ?_
        refine a_ishl (pc := 59) (dk dt_X5_corrected 40 rfl) ?_
        refine a_ixor (pc := 60) (dk dt_X5_corrected 41 rfl) ?_
        refine a_goto (pc := 61) (dk dt_X5_corrected 42 rfl) (tgt := 66) rfl ?_
        exact a_iret (pc := 66) (dk dt_X5_corrected 44 rfl) rfl rfl H
    · replace H := H.2 c
      refine a_iload_n (pc := 39) (dk dt_X5_corrected 28 rfl) rfl ?_
      refine a_if_ne (pc := 40) (dk dt_X5_corrected 29 rfl) (tgt := 47) rfl ⟨fun c => ?_, fun c => ?_⟩
      · replace H := H.1 c
        refine a_bipush (pc := 47) (dk dt_X5_corrected 32 rfl) (ik rfl) (bpk rfl) ?_
        exact a_iret (pc := 49) (dk dt_X5_corrected 33 rfl) rfl rfl H
      · replace H := H.2 c
        refine a_iload_n (pc := 43) (dk dt_X5_corrected 30 rfl) rfl ?_
        refine a_goto (pc := 44) (dk dt_X5_corrected 31 rfl) (tgt := 49) rfl ?_
        exact a_iret (pc := 49) (dk dt_X5_corrected 33 rfl) rfl rfl H
  · replace H := H.2 c
    refine a_iload_n (pc := 12) (dk dt_X5_corrected 9 rfl) rfl ?_
    refine a_iload_n (pc := 13) (dk dt_X5_corrected 10 rfl) rfl ?_
    refine a_ishr (pc := 14) (dk dt_X5_corrected 11 rfl) ?_
    refine a_iconst (pc := 15) (dk dt_X5_corrected 12 rfl) (ik rfl) ?_
    refine a_iand (pc := 16) (dk dt_X5_corrected 13 rfl) ?_
    refine a_iconst (pc := 17) (dk dt_X5_corrected 14 rfl) (ik rfl) ?_
    refine a_icmp_ne (pc := 18) (dk dt_X5_corrected 15 rfl) (tgt := 29) rfl ⟨fun c => ?_, fun c => ?_⟩
    · replace H := H.1 c
      refine a_iinc (pc := 29) (dk dt_X5_corrected 24 rfl) (by decide) rfl rfl rfl ?_
      refine a_goto (pc := 32) (dk dt_X5_corrected 25 rfl) (tgt := 6) rfl ?_
      exact a_pick [0, 1, 2, 3] rfl H
    · replace H := H.2 c
      refine a_iload_n (pc := 21) (dk dt_X5_corrected 16 rfl) rfl ?_
      refine a_iload_n (pc := 22) (dk dt_X5_corrected 17 rfl) rfl ?_
      refine a_ixor (pc := 23) (dk dt_X5_corrected 18 rfl) ?_
      refine a_istore_n (pc := 24) (dk dt_X5_corrected 19 rfl) (by decide) rfl rfl ?_
      refine a_iload_n (pc := 25) (dk dt_X5_corrected 20 rfl) rfl ?_
      refine a_iconst (pc := 26) (dk dt_X5_corrected 21 rfl) (ik rfl) ?_
      refine a_ixor (pc := 27) (dk dt_X5_corrected 22 rfl) ?_
      refine a_istore_n (pc := 28) (dk dt_X5_corrected 23 rfl) (by decide) rfl rfl ?_
      refine a_iinc (pc := 29) (dk dt_X5_corrected 24 rfl) (by decide) rfl rfl rfl ?_
      refine a_goto (pc := 32) (dk dt_X5_corrected 25 rfl) (tgt := 6) rfl ?_
      exact a_pick [0, 1, 2, 3] rfl H
set_option maxHeartbeats 40000000 in
theorem U_X5_write_24_0 {G : GG} {Φ : Int → Hp → Prop} {h : Hp} {x1 : Int} {x2 : Int} (H : ((x1 < 0 → Φ 0 h) ∧ (0 ≤ x1 → ((64 ≤ x1 → Φ 0 h) ∧ (x1 < 64 → Call G m_X5_encoded [iv x2] h (fun r1 h2 => (0 ≤ x1 ∧ x1 < 64) ∧ Φ 0 (up h2 25 x1 r1))))))) : AT G m_X5_write 0 [(0, rv 24), (1, iv x1), (2, iv x2)] [] h Φ := by
  refine a_iload_n (pc := 0) (dk dt_X5_write 0 rfl) rfl ?_
  refine a_if_lt (pc := 1) (dk dt_X5_write 1 rfl) (tgt := 20) rfl ⟨fun c => ?_, fun c => ?_⟩
  · replace H := H.1 c
    exact a_vret (pc := 20) (dk dt_X5_write 11 rfl) rfl rfl H
  · replace H := H.2 c
    refine a_iload_n (pc := 4) (dk dt_X5_write 2 rfl) rfl ?_
    refine a_bipush (pc := 5) (dk dt_X5_write 3 rfl) (ik rfl) (bpk rfl) ?_
    refine a_icmp_ge (pc := 7) (dk dt_X5_write 4 rfl) (tgt := 20) rfl ⟨fun c => ?_, fun c => ?_⟩
    · replace H := H.1 c
      exact a_vret (pc := 20) (dk dt_X5_write 11 rfl) rfl rfl H
    · replace H := H.2 c
      refine a_aload_n (pc := 10) (dk dt_X5_write 5 rfl) rfl ?_
      refine a_getr (r := 24) (pc := 11) (dk dt_X5_write 6 rfl) cls_5 fl_RX5_11 cf_24_0 ?_
      refine a_iload_n (pc := 14) (dk dt_X5_write 7 rfl) rfl ?_
      refine a_iload_n (pc := 15) (dk dt_X5_write 8 rfl) rfl ?_
      refine a_callSi (as := [iv x2]) (st := [iv x1, rv 25]) (pc := 16) (dk dt_X5_write 9 rfl) cl_RX5_15 ⟨Nat.le_of_ble_eq_true rfl, Nat.le_of_ble_eq_true rfl⟩ ⟨Nat.le_of_ble_eq_true rfl, Nat.le_of_ble_eq_true rfl⟩ rfl rfl rfl (Nat.le_of_ble_eq_true rfl) (Call.mono H fun r1 h2 H => ?_)
      refine a_iast (pc := 19) (dk dt_X5_write 10 rfl) ar_25 ⟨H.1, ?_⟩
      replace H := H.2
      exact a_vret (pc := 20) (dk dt_X5_write 11 rfl) rfl rfl H
set_option maxHeartbeats 40000000 in
theorem U_X5_encoded_0 {G : GG} {Φ : Int → Hp → Prop} {h : Hp} {x0 : Int} (H : AT G m_X5_encoded 9 [(0, iv x0), (1, iv 0), (2, iv 0), (3, iv 0), (4, iv 0)] [] h Φ) : AT G m_X5_encoded 0 [(0, iv x0)] [] h Φ := by
  refine a_iconst (pc := 0) (dk dt_X5_encoded 0 rfl) (ik rfl) ?_
  refine a_istore_n (pc := 1) (dk dt_X5_encoded 1 rfl) (by decide) rfl rfl ?_
  refine a_iconst (pc := 2) (dk dt_X5_encoded 2 rfl) (ik rfl) ?_
  refine a_istore_n (pc := 3) (dk dt_X5_encoded 3 rfl) (by decide) rfl rfl ?_
  refine a_iconst (pc := 4) (dk dt_X5_encoded 4 rfl) (ik rfl) ?_
  refine a_istore_n (pc := 5) (dk dt_X5_encoded 5 rfl) (by decide) rfl rfl ?_
  refine a_iconst (pc := 6) (dk dt_X5_encoded 6 rfl) (ik rfl) ?_
  refine a_istore (pc := 7) (dk dt_X5_encoded 7 rfl) (by decide) rfl rfl ?_
  exact a_pick [0, 1, 2, 3, 4] rfl H
set_option maxHeartbeats 40000000 in
theorem U_X5_encoded_9 {G : GG} {Φ : Int → Hp → Prop} {h : Hp} {x0 : Int} {x1 : Int} {x2 : Int} {x3 : Int} {x4 : Int} (H : ((8 ≤ x4 → AT G m_X5_encoded 61 [(1, iv x1), (2, iv x2), (3, iv x3), (4, iv 1)] [] h Φ) ∧ (x4 < 8 → (((band (bshr x0 x4) 1) ≠ 1 → AT G m_X5_encoded 9 [(0, iv x0), (1, iv x1), (2, iv x2), (3, iv x3), (4, iv (w32 (x4 + 1)))] [] h Φ) ∧ ((band (bshr x0 x4) 1) = 1 → (0 ≤ x4 ∧ x4 < 8) ∧ (0 ≤ x4 ∧ x4 < 8) ∧ AT G m_X5_encoded 9 [(0, iv x0), (1, iv (bor x1 (bshl 1 (xc 902 x4)))), (2, iv (bxor x2 (xc 902 x4))), (3, iv (bxor x3 1)), (4, iv (w32 (x4 + 1)))] [] h Φ))))) : AT G m_X5_encoded 9 [(0, iv x0), (1, iv x1), (2, iv x2), (3, iv x3), (4, iv x4)] [] h Φ := by
  refine a_iload (pc := 9) (dk dt_X5_encoded 8 rfl) rfl ?_
  refine a_gst902 (pc := 11) (dk dt_X5_encoded 9 rfl) fs_RX5_32 ?_
  refine a_xlen (N := 8) (pc := 14) (dk dt_X5_encoded 10 rfl) (by decide) ?_
  refine a_icmp_ge (pc := 15) (dk dt_X5_encoded 11 rfl) (tgt := 58) rfl ⟨fun c => ?_, fun c => ?_⟩
  · replace H := H.1 c
    refine a_iconst (pc := 58) (dk dt_X5_encoded 39 rfl) (ik rfl) ?_
    refine a_istore (pc := 59) (dk dt_X5_encoded 40 rfl) (by decide) rfl rfl ?_
    exact a_pick [1, 2, 3, 4] rfl H
  · replace H := H.2 c
    refine a_iload_n (pc := 18) (dk dt_X5_encoded 12 rfl) rfl ?_
    refine a_iload (pc := 19) (dk dt_X5_encoded 13 rfl) rfl ?_
    refine a_ishr (pc := 21) (dk dt_X5_encoded 14 rfl) ?_
    refine a_iconst (pc := 22) (dk dt_X5_encoded 15 rfl) (ik rfl) ?_
    refine a_iand (pc := 23) (dk dt_X5_encoded 16 rfl) ?_
    refine a_iconst (pc := 24) (dk dt_X5_encoded 17 rfl) (ik rfl) ?_
    refine a_icmp_ne (pc := 25) (dk dt_X5_encoded 18 rfl) (tgt := 52) rfl ⟨fun c => ?_, fun c => ?_⟩
    · replace H := H.1 c
      refine a_iinc (pc := 52) (dk dt_X5_encoded 37 rfl) (by decide) rfl rfl rfl ?_
      refine a_goto (pc := 55) (dk dt_X5_encoded 38 rfl) (tgt := 9) rfl ?_
      exact a_pick [0, 1, 2, 3, 4] rfl H
    · replace H := H.2 c
      refine a_iload_n (pc := 28) (dk dt_X5_encoded 19 rfl) rfl ?_
      refine a_iconst (pc := 29) (dk dt_X5_encoded 20 rfl) (ik rfl) ?_
      refine a_gst902 (pc := 30) (dk dt_X5_encoded 21 rfl) fs_RX5_32 ?_
      refine a_iload (pc := 33) (dk dt_X5_encoded 22 rfl) rfl ?_
      refine a_xald (N := 8) (pc := 35) (dk dt_X5_encoded 23 rfl) (by decide) ⟨H.1, ?_⟩
      replace H := H.2
      refine a_ishl (pc := 36) (dk dt_X5_encoded 24 rfl) ?_
      refine a_ior (pc := 37) (dk dt_X5_encoded 25 rfl) ?_
      refine a_istore_n (pc := 38) (dk dt_X5_encoded 26 rfl) (by decide) rfl rfl ?_
      refine a_iload_n (pc := 39) (dk dt_X5_encoded 27 rfl) rfl ?_
      refine a_gst902 (pc := 40) (dk dt_X5_encoded 28 rfl) fs_RX5_32 ?_
      refine a_iload (pc := 43) (dk dt_X5_encoded 29 rfl) rfl ?_
      refine a_xald (N := 8) (pc := 45) (dk dt_X5_encoded 30 rfl) (by decide) ⟨H.1, ?_⟩
      replace H := H.2
      refine a_ixor (pc := 46) (dk dt_X5_encoded 31 rfl) ?_
      refine a_istore_n (pc := 47) (dk dt_X5_encoded 32 rfl) (by decide) rfl rfl ?_
      refine a_iload_n (pc := 48) (dk dt_X5_encoded 33 rfl) rfl ?_
      refine a_iconst (pc := 49) (dk dt_X5_encoded 34 rfl) (ik rfl) ?_
      refine a_ixor (pc := 50) (dk dt_X5_encoded 35 rfl) ?_
      refine a_istore_n (pc := 51) (dk dt_X5_encoded 36 rfl) (by decide) rfl rfl ?_
      refine a_iinc (pc := 52) (dk dt_X5_encoded 37 rfl) (by decide) rfl rfl rfl ?_
      refine a_goto (pc := 55) (dk dt_X5_encoded 38 rfl) (tgt := 9) rfl ?_
      exact a_pick [0, 1, 2, 3, 4] rfl H
set_option maxHeartbeats 40000000 in
theorem U_X5_encoded_61 {G : GG} {Φ : Int → Hp → Prop} {h : Hp} {x1 : Int} {x2 : Int} {x3 : Int} {x4 : Int} (H : ((8 < x4 → Φ (bor x1 x3) h) ∧ (x4 ≤ 8 → (((band x2 x4) = 0 → AT G m_X5_encoded 61 [(1, iv x1), (2, iv x2), (3, iv x3), (4, iv (w32 (x4 * 2)))] [] h Φ) ∧ ((band x2 x4) ≠ 0 → AT G m_X5_encoded 61 [(1, iv (bor x1 (bshl 1 x4))), (2, iv x2), (3, iv (bxor x3 1)), (4, iv (w32 (x4 * 2)))] [] h Φ))))) : AT G m_X5_encoded 61 [(1, iv x1), (2, iv x2), (3, iv x3), (4, iv x4)] [] h Φ := by
  refine a_iload (pc := 61) (dk dt_X5_encoded 41 rfl) rfl ?_
  refine a_bipush (pc := 63) (dk dt_X5_encoded 42 rfl) (ik rfl) (bpk rfl) ?_
  refine a_icmp_gt (pc := 65) (dk dt_X5_encoded 43 rfl) (tgt := 95) rfl ⟨fun c => ?_, fun c => ?_⟩
  · replace H := H.1 c
    refine a_iload_n (pc := 95) (dk dt_X5_encoded 63 rfl) rfl ?_
    refine a_iload_n (pc := 96) (dk dt_X5_encoded 64 rfl) rfl ?_
    refine a_ior (pc := 97) (dk dt_X5_encoded 65 rfl) ?_
    exact a_iret (pc := 98) (dk dt_X5_encoded 66 rfl) rfl rfl H
  · replace H := H.2 c
    refine a_iload_n (pc := 68) (dk dt_X5_encoded 44 rfl) rfl ?_
    refine a_iload (pc := 69) (dk dt_X5_encoded 45 rfl) rfl ?_
    refine a_iand (pc := 71) (dk dt_X5_encoded 46 rfl) ?_
    refine a_if_eq (pc := 72) (dk dt_X5_encoded 47 rfl) (tgt := 86) rfl ⟨fun c => ?_, fun c => ?_⟩
    · replace H := H.1 c
      refine a_iload (pc := 86) (dk dt_X5_encoded 58 rfl) rfl ?_
      refine a_iconst (pc := 88) (dk dt_X5_encoded 59 rfl) (ik rfl) ?_
      refine a_imul (pc := 89) (dk dt_X5_encoded 60 rfl) ?_
      refine a_istore (pc := 90) (dk dt_X5_encoded 61 rfl) (by decide) rfl rfl ?_
      refine a_goto (pc := 92) (dk dt_X5_encoded 62 rfl) (tgt := 61) rfl ?_
      exact a_pick [0, 1, 2, 3] rfl H
    · replace H := H.2 c
      refine a_iload_n (pc := 75) (dk dt_X5_encoded 48 rfl) rfl ?_
      refine a_iconst (pc := 76) (dk dt_X5_encoded 49 rfl) (ik rfl) ?_
      refine a_iload (pc := 77) (dk dt_X5_encoded 50 rfl) rfl ?_
      refine a_ishl (pc := 79) (dk dt_X5_encoded 51 rfl) ?_
      refine a_ior (pc := 80) (dk dt_X5_encoded 52 rfl) ?_
      refine a_istore_n (pc := 81) (dk dt_X5_encoded 53 rfl) (by decide) rfl rfl ?_
      refine a_iload_n (pc := 82) (dk dt_X5_encoded 54 rfl) rfl ?_
      refine a_iconst (pc := 83) (dk dt_X5_encoded 55 rfl) (ik rfl) ?_
      refine a_ixor (pc := 84) (dk dt_X5_encoded 56 rfl) ?_
      refine a_istore_n (pc := 85) (dk dt_X5_encoded 57 rfl) (by decide) rfl rfl ?_
      refine a_iload (pc := 86) (dk dt_X5_encoded 58 rfl) rfl ?_
      refine a_iconst (pc := 88) (dk dt_X5_encoded 59 rfl) (ik rfl) ?_
      refine a_imul (pc := 89) (dk dt_X5_encoded 60 rfl) ?_
      refine a_istore (pc := 90) (dk dt_X5_encoded 61 rfl) (by decide) rfl rfl ?_
      refine a_goto (pc := 92) (dk dt_X5_encoded 62 rfl) (tgt := 61) rfl ?_
      exact a_pick [0, 1, 2, 3] rfl H
set_option maxHeartbeats 40000000 in
theorem U_X0_install_34_4_0 {G : GG} {Φ : Int → Hp → Prop} {h : Hp} {x1 : Int} {x3 : Int} (H : Call G m_X3_countFrom [rv 4, iv x3] h (fun r1 h2 => AT G m_X0_install 16 [(0, rv 34), (1, iv x1), (2, rv 4), (3, iv x3), (4, iv r1), (5, iv (w32 (x1 * 30))), (6, iv 0)] [] h2 Φ)) : AT G m_X0_install 0 [(0, rv 34), (1, iv x1), (2, rv 4), (3, iv x3)] [] h Φ := by
  refine a_aload_n (pc := 0) (dk dt_X0_install 0 rfl) rfl ?_
  refine a_iload_n (pc := 1) (dk dt_X0_install 1 rfl) rfl ?_
  refine a_callVi (as := [iv x3]) (st := []) (pc := 2) (dk dt_X0_install 2 rfl) cl_RX0_131 ⟨Nat.le_of_ble_eq_true rfl, Nat.le_of_ble_eq_true rfl⟩ ⟨Nat.le_of_ble_eq_true rfl, Nat.le_of_ble_eq_true rfl⟩ cls_3 rfl cc_4 rfl rfl rfl (Nat.le_of_ble_eq_true rfl) (Call.mono H fun r1 h2 H => ?_)
  refine a_istore (pc := 5) (dk dt_X0_install 3 rfl) (by decide) rfl rfl ?_
  refine a_iload_n (pc := 7) (dk dt_X0_install 4 rfl) rfl ?_
  refine a_bipush (pc := 8) (dk dt_X0_install 5 rfl) (ik rfl) (bpk rfl) ?_
  refine a_imul (pc := 10) (dk dt_X0_install 6 rfl) ?_
  refine a_istore (pc := 11) (dk dt_X0_install 7 rfl) (by decide) rfl rfl ?_
  refine a_iconst (pc := 13) (dk dt_X0_install 8 rfl) (ik rfl) ?_
  refine a_istore (pc := 14) (dk dt_X0_install 9 rfl) (by decide) rfl rfl ?_
  exact a_pick [0, 1, 2, 3, 4, 5, 6] rfl H
set_option maxHeartbeats 40000000 in
theorem U_X0_install_34_4_16 {G : GG} {Φ : Int → Hp → Prop} {h : Hp} {x1 : Int} {x3 : Int} {x4 : Int} {x5 : Int} {x6 : Int} (H : ((x4 ≤ x6 → Call G m_X3_erase [rv 36, iv (w32 (x5 + x4)), iv (w32 (x5 + 30))] h (fun _ h2 => (0 ≤ x1 ∧ x1 < 8) ∧ (0 ≤ x1 ∧ x1 < 8) ∧ Φ 0 (up (up h2 50 x1 (-1)) 51 x1 0))) ∧ (x6 < x4 → Call G m_X3_copy [rv 36, iv (w32 (x5 + x6)), rv 4, iv (w32 (x3 + x6))] h (fun _ h4 => AT G m_X0_install 16 [(0, rv 34), (1, iv x1), (2, rv 4), (3, iv x3), (4, iv x4), (5, iv x5), (6, iv (w32 (x6 + 1)))] [] h4 Φ)))) : AT G m_X0_install 16 [(0, rv 34), (1, iv x1), (2, rv 4), (3, iv x3), (4, iv x4), (5, iv x5), (6, iv x6)] [] h Φ := by
  refine a_iload (pc := 16) (dk dt_X0_install 10 rfl) rfl ?_
  refine a_iload (pc := 18) (dk dt_X0_install 11 rfl) rfl ?_
  refine a_icmp_ge (pc := 20) (dk dt_X0_install 12 rfl) (tgt := 46) rfl ⟨fun c => ?_, fun c => ?_⟩
  · replace H := H.1 c
    refine a_aload_n (pc := 46) (dk dt_X0_install 25 rfl) rfl ?_
    refine a_getr (r := 35) (pc := 47) (dk dt_X0_install 26 rfl) cls_0 fl_RX0_20 cf_34_8 ?_
    refine a_iload (pc := 50) (dk dt_X0_install 27 rfl) rfl ?_
    refine a_iload (pc := 52) (dk dt_X0_install 28 rfl) rfl ?_
    refine a_iadd (pc := 54) (dk dt_X0_install 29 rfl) ?_
    refine a_iload (pc := 55) (dk dt_X0_install 30 rfl) rfl ?_
    refine a_bipush (pc := 57) (dk dt_X0_install 31 rfl) (ik rfl) (bpk rfl) ?_
    refine a_iadd (pc := 59) (dk dt_X0_install 32 rfl) ?_
    refine a_callVv (as := [iv (w32 (x5 + x4)), iv (w32 (x5 + 30))]) (st := []) (pc := 60) (dk dt_X0_install 33 rfl) cl_RX0_139 ⟨Nat.le_of_ble_eq_true rfl, Nat.le_of_ble_eq_true rfl⟩ ⟨Nat.le_of_ble_eq_true rfl, Nat.le_of_ble_eq_true rfl⟩ cls_3 rfl cc_36 rfl rfl rfl (Nat.le_of_ble_eq_true rfl) (Call.mono H fun _ h2 H => ?_)
    refine a_aload_n (pc := 63) (dk dt_X0_install 34 rfl) rfl ?_
    refine a_iload_n (pc := 64) (dk dt_X0_install 35 rfl) rfl ?_
    refine a_callVv (as := [iv x1]) (st := []) (pc := 65) (dk dt_X0_install 36 rfl) cl_RX0_143 ⟨Nat.le_of_ble_eq_true rfl, Nat.le_of_ble_eq_true rfl⟩ ⟨Nat.le_of_ble_eq_true rfl, Nat.le_of_ble_eq_true rfl⟩ cls_0 rfl cc_34 rfl rfl rfl (Nat.le_of_ble_eq_true rfl) (Call.of rfl (Nat.le_of_ble_eq_true rfl) rfl ?_)
    refine a_aload_n (pc := 0) (dk dt_X0_stop 0 rfl) rfl ?_
    refine a_getr (r := 49) (pc := 1) (dk dt_X0_stop 1 rfl) cls_0 fl_RX0_27 cf_34_10 ?_
    refine a_iload_n (pc := 4) (dk dt_X0_stop 2 rfl) rfl ?_
    refine a_iconst (pc := 5) (dk dt_X0_stop 3 rfl) (ik rfl) ?_
    refine a_iast (pc := 6) (dk dt_X0_stop 4 rfl) ar_50 ⟨H.1, ?_⟩
    replace H := H.2
    refine a_aload_n (pc := 7) (dk dt_X0_stop 5 rfl) rfl ?_
    refine a_getr (r := 50) (pc := 8) (dk dt_X0_stop 6 rfl) cls_0 fl_RX0_30 cf_34_11 ?_
    refine a_iload_n (pc := 11) (dk dt_X0_stop 7 rfl) rfl ?_
    refine a_iconst (pc := 12) (dk dt_X0_stop 8 rfl) (ik rfl) ?_
    refine a_iast (pc := 13) (dk dt_X0_stop 9 rfl) ar_51 ⟨H.1, ?_⟩
    replace H := H.2
    refine a_vret (pc := 14) (dk dt_X0_stop 10 rfl) rfl rfl ?_
    show ATW _ _ _ _ _ _ _ _ _ _
    exact a_vret (pc := 68) (dk dt_X0_install 37 rfl) rfl rfl H
  · replace H := H.2 c
    refine a_aload_n (pc := 23) (dk dt_X0_install 13 rfl) rfl ?_
    refine a_getr (r := 35) (pc := 24) (dk dt_X0_install 14 rfl) cls_0 fl_RX0_20 cf_34_8 ?_
    refine a_iload (pc := 27) (dk dt_X0_install 15 rfl) rfl ?_
    refine a_iload (pc := 29) (dk dt_X0_install 16 rfl) rfl ?_
    refine a_iadd (pc := 31) (dk dt_X0_install 17 rfl) ?_
    refine a_aload_n (pc := 32) (dk dt_X0_install 18 rfl) rfl ?_
    refine a_iload_n (pc := 33) (dk dt_X0_install 19 rfl) rfl ?_
    refine a_iload (pc := 34) (dk dt_X0_install 20 rfl) rfl ?_
    refine a_iadd (pc := 36) (dk dt_X0_install 21 rfl) ?_
    refine a_callVv (as := [iv (w32 (x5 + x6)), rv 4, iv (w32 (x3 + x6))]) (st := []) (pc := 37) (dk dt_X0_install 22 rfl) cl_RX0_135 ⟨Nat.le_of_ble_eq_true rfl, Nat.le_of_ble_eq_true rfl⟩ ⟨Nat.le_of_ble_eq_true rfl, Nat.le_of_ble_eq_true rfl⟩ cls_3 rfl cc_36 rfl rfl rfl (Nat.le_of_ble_eq_true rfl) (Call.mono H fun _ h4 H => ?_)
    refine a_iinc (pc := 40) (dk dt_X0_install 23 rfl) (by decide) rfl rfl rfl ?_
    refine a_goto (pc := 43) (dk dt_X0_install 24 rfl) (tgt := 16) rfl ?_
    exact a_pick [0, 1, 2, 3, 4, 5, 6] rfl H
set_option maxHeartbeats 40000000 in
theorem U_X0_addDue_34_0 {G : GG} {Φ : Int → Hp → Prop} {h : Hp} {x1 : Int} {x2 : Int} (H : (((h 34 14) ≠ 10 → (0 ≤ (h 34 14) ∧ (h 34 14) < 10) ∧ (0 ≤ (h 34 14) ∧ (h 34 14) < 10) ∧ Φ (w32 ((h 34 14) + 1)) (up (up (up h 52 (h 34 14) x1) 53 (h 34 14) x2) 34 14 (w32 ((h 34 14) + 1)))) ∧ ((h 34 14) = 10 → Φ (-4) h))) : AT G m_X0_addDue 0 [(0, rv 34), (1, iv x1), (2, iv x2)] [] h Φ := by
  refine a_aload_n (pc := 0) (dk dt_X0_addDue 0 rfl) rfl ?_
  refine a_geti (pc := 1) (dk dt_X0_addDue 1 rfl) cls_0 fl_RX0_125 cf_34_14 ?_
  refine a_bipush (pc := 4) (dk dt_X0_addDue 2 rfl) (ik rfl) (bpk rfl) ?_
  refine a_icmp_ne (pc := 6) (dk dt_X0_addDue 3 rfl) (tgt := 12) rfl ⟨fun c => ?_, fun c => ?_⟩
  · replace H := H.1 c
    refine a_aload_n (pc := 12) (dk dt_X0_addDue 6 rfl) rfl ?_
    refine a_getr (r := 51) (pc := 13) (dk dt_X0_addDue 7 rfl) cls_0 fl_RX0_33 cf_34_12 ?_
    refine a_aload_n (pc := 16) (dk dt_X0_addDue 8 rfl) rfl ?_
    refine a_geti (pc := 17) (dk dt_X0_addDue 9 rfl) cls_0 fl_RX0_125 cf_34_14 ?_
    refine a_iload_n (pc := 20) (dk dt_X0_addDue 10 rfl) rfl ?_
    refine a_iast (pc := 21) (dk dt_X0_addDue 11 rfl) ar_52 ⟨H.1, ?_⟩
    replace H := H.2
    refine a_aload_n (pc := 22) (dk dt_X0_addDue 12 rfl) rfl ?_
    refine a_getr (r := 52) (pc := 23) (dk dt_X0_addDue 13 rfl) cls_0 fl_RX0_36 cf_34_13 ?_
    refine a_aload_n (pc := 26) (dk dt_X0_addDue 14 rfl) rfl ?_
    refine a_geti (pc := 27) (dk dt_X0_addDue 15 rfl) cls_0 fl_RX0_125 cf_34_14 ?_
    refine a_top (y := (h 34 14)) (by simp [up, cpy]) ?_
    refine a_iload_n (pc := 30) (dk dt_X0_addDue 16 rfl) rfl ?_
    refine a_iast (pc := 31) (dk dt_X0_addDue 17 rfl) ar_53 ⟨H.1, ?_⟩
    replace H := H.2
    refine a_aload_n (pc := 32) (dk dt_X0_addDue 18 rfl) rfl ?_
    refine a_dup (pc := 33) (dk dt_X0_addDue 19 rfl) rfl ?_
    refine a_geti (pc := 34) (dk dt_X0_addDue 20 rfl) cls_0 fl_RX0_125 cf_34_14 ?_
    refine a_top (y := (h 34 14)) (by simp [up, cpy]) ?_
    refine a_iconst (pc := 37) (dk dt_X0_addDue 21 rfl) (ik rfl) ?_
    refine a_iadd (pc := 38) (dk dt_X0_addDue 22 rfl) ?_
    refine a_puti (pc := 39) (dk dt_X0_addDue 23 rfl) cls_0 fl_RX0_125 cf_34_14 rfl rfl ?_
    refine a_aload_n (pc := 42) (dk dt_X0_addDue 24 rfl) rfl ?_
    refine a_geti (pc := 43) (dk dt_X0_addDue 25 rfl) cls_0 fl_RX0_125 cf_34_14 ?_
    refine a_top (y := (w32 ((h 34 14) + 1))) (by simp [up, cpy]) ?_
    exact a_iret (pc := 46) (dk dt_X0_addDue 26 rfl) rfl rfl H
  · replace H := H.2 c
    refine a_bipush (pc := 9) (dk dt_X0_addDue 4 rfl) (ik rfl) (bpk rfl) ?_
    exact a_iret (pc := 11) (dk dt_X0_addDue 5 rfl) rfl rfl H
set_option maxHeartbeats 40000000 in
theorem U_X0_setMonitor_34_4_0 {G : GG} {Φ : Int → Hp → Prop} {h : Hp} {x1 : Int} {x2 : Int} {x3 : Int} (H : (0 ≤ x1 ∧ x1 < 8) ∧ (0 ≤ x1 ∧ x1 < 8) ∧ (0 ≤ x1 ∧ x1 < 8) ∧ (0 ≤ x1 ∧ x1 < 8) ∧ Call G m_X3_copy [rv 54, iv x1, rv 4, iv 0] (up (up (up (up h 61 x1 x2) 62 x1 x3) 63 x1 0) 64 x1 (-60)) (fun _ h2 => Φ 0 h2)) : AT G m_X0_setMonitor 0 [(0, rv 34), (1, iv x1), (2, iv x2), (3, iv x3), (4, rv 4)] [] h Φ := by
  refine a_aload_n (pc := 0) (dk dt_X0_setMonitor 0 rfl) rfl ?_
  refine a_getr (r := 60) (pc := 1) (dk dt_X0_setMonitor 1 rfl) cls_0 fl_RX0_42 cf_34_16 ?_
  refine a_iload_n (pc := 4) (dk dt_X0_setMonitor 2 rfl) rfl ?_
  refine a_aload (pc := 5) (dk dt_X0_setMonitor 3 rfl) rfl ?_
  refine a_ifnonnullS (pc := 7) (dk dt_X0_setMonitor 4 rfl) (tgt := 14) rfl ?_
  refine a_iload_n (pc := 14) (dk dt_X0_setMonitor 7 rfl) rfl ?_
  refine a_iast (pc := 15) (dk dt_X0_setMonitor 8 rfl) ar_61 ⟨H.1, ?_⟩
  replace H := H.2
  refine a_aload_n (pc := 16) (dk dt_X0_setMonitor 9 rfl) rfl ?_
  refine a_getr (r := 61) (pc := 17) (dk dt_X0_setMonitor 10 rfl) cls_0 fl_RX0_45 cf_34_17 ?_
  refine a_iload_n (pc := 20) (dk dt_X0_setMonitor 11 rfl) rfl ?_
  refine a_iload_n (pc := 21) (dk dt_X0_setMonitor 12 rfl) rfl ?_
  refine a_iast (pc := 22) (dk dt_X0_setMonitor 13 rfl) ar_62 ⟨H.1, ?_⟩
  replace H := H.2
  refine a_aload_n (pc := 23) (dk dt_X0_setMonitor 14 rfl) rfl ?_
  refine a_getr (r := 62) (pc := 24) (dk dt_X0_setMonitor 15 rfl) cls_0 fl_RX0_48 cf_34_18 ?_
  refine a_iload_n (pc := 27) (dk dt_X0_setMonitor 16 rfl) rfl ?_
  refine a_iconst (pc := 28) (dk dt_X0_setMonitor 17 rfl) (ik rfl) ?_
  refine a_iast (pc := 29) (dk dt_X0_setMonitor 18 rfl) ar_63 ⟨H.1, ?_⟩
  replace H := H.2
  refine a_aload_n (pc := 30) (dk dt_X0_setMonitor 19 rfl) rfl ?_
  refine a_getr (r := 63) (pc := 31) (dk dt_X0_setMonitor 20 rfl) cls_0 fl_RX0_51 cf_34_19 ?_
  refine a_iload_n (pc := 34) (dk dt_X0_setMonitor 21 rfl) rfl ?_
  refine a_bipush (pc := 35) (dk dt_X0_setMonitor 22 rfl) (ik rfl) (bpk rfl) ?_
  refine a_iast (pc := 37) (dk dt_X0_setMonitor 23 rfl) ar_64 ⟨H.1, ?_⟩
  replace H := H.2
  refine a_aload (pc := 38) (dk dt_X0_setMonitor 24 rfl) rfl ?_
  refine a_ifnullS (pc := 40) (dk dt_X0_setMonitor 25 rfl) ?_
  refine a_aload_n (pc := 43) (dk dt_X0_setMonitor 26 rfl) rfl ?_
  refine a_getr (r := 53) (pc := 44) (dk dt_X0_setMonitor 27 rfl) cls_0 fl_RX0_39 cf_34_15 ?_
  refine a_iload_n (pc := 47) (dk dt_X0_setMonitor 28 rfl) rfl ?_
  refine a_aload (pc := 48) (dk dt_X0_setMonitor 29 rfl) rfl ?_
  refine a_iconst (pc := 50) (dk dt_X0_setMonitor 30 rfl) (ik rfl) ?_
  refine a_callVv (as := [iv x1, rv 4, iv 0]) (st := []) (pc := 51) (dk dt_X0_setMonitor 31 rfl) cl_RX0_135 ⟨Nat.le_of_ble_eq_true rfl, Nat.le_of_ble_eq_true rfl⟩ ⟨Nat.le_of_ble_eq_true rfl, Nat.le_of_ble_eq_true rfl⟩ cls_3 rfl cc_54 rfl rfl rfl (Nat.le_of_ble_eq_true rfl) (Call.mono H fun _ h2 H => ?_)
  exact a_vret (pc := 54) (dk dt_X0_setMonitor 32 rfl) rfl rfl H
set_option maxHeartbeats 40000000 in
theorem U_X0_setMonitor_34_0_0 {G : GG} {Φ : Int → Hp → Prop} {h : Hp} {x1 : Int} {x2 : Int} {x3 : Int} (H : (0 ≤ x1 ∧ x1 < 8) ∧ (0 ≤ x1 ∧ x1 < 8) ∧ (0 ≤ x1 ∧ x1 < 8) ∧ (0 ≤ x1 ∧ x1 < 8) ∧ Φ 0 (up (up (up (up h 61 x1 0) 62 x1 x3) 63 x1 0) 64 x1 (-60))) : AT G m_X0_setMonitor 0 [(0, rv 34), (1, iv x1), (2, iv x2), (3, iv x3), (4, rv 0)] [] h Φ := by
  refine a_aload_n (pc := 0) (dk dt_X0_setMonitor 0 rfl) rfl ?_
  refine a_getr (r := 60) (pc := 1) (dk dt_X0_setMonitor 1 rfl) cls_0 fl_RX0_42 cf_34_16 ?_
  refine a_iload_n (pc := 4) (dk dt_X0_setMonitor 2 rfl) rfl ?_
  refine a_aload (pc := 5) (dk dt_X0_setMonitor 3 rfl) rfl ?_
  refine a_ifnonnull0 (pc := 7) (dk dt_X0_setMonitor 4 rfl) ?_
  refine a_iconst (pc := 10) (dk dt_X0_setMonitor 5 rfl) (ik rfl) ?_
  refine a_goto (pc := 11) (dk dt_X0_setMonitor 6 rfl) (tgt := 15) rfl ?_
  refine a_iast (pc := 15) (dk dt_X0_setMonitor 8 rfl) ar_61 ⟨H.1, ?_⟩
  replace H := H.2
  refine a_aload_n (pc := 16) (dk dt_X0_setMonitor 9 rfl) rfl ?_
  refine a_getr (r := 61) (pc := 17) (dk dt_X0_setMonitor 10 rfl) cls_0 fl_RX0_45 cf_34_17 ?_
  refine a_iload_n (pc := 20) (dk dt_X0_setMonitor 11 rfl) rfl ?_
  refine a_iload_n (pc := 21) (dk dt_X0_setMonitor 12 rfl) rfl ?_
  refine a_iast (pc := 22) (dk dt_X0_setMonitor 13 rfl) ar_62 ⟨H.1, ?_⟩
  replace H := H.2
  refine a_aload_n (pc := 23) (dk dt_X0_setMonitor 14 rfl) rfl ?_
  refine a_getr (r := 62) (pc := 24) (dk dt_X0_setMonitor 15 rfl) cls_0 fl_RX0_48 cf_34_18 ?_
  refine a_iload_n (pc := 27) (dk dt_X0_setMonitor 16 rfl) rfl ?_
  refine a_iconst (pc := 28) (dk dt_X0_setMonitor 17 rfl) (ik rfl) ?_
  refine a_iast (pc := 29) (dk dt_X0_setMonitor 18 rfl) ar_63 ⟨H.1, ?_⟩
  replace H := H.2
  refine a_aload_n (pc := 30) (dk dt_X0_setMonitor 19 rfl) rfl ?_
  refine a_getr (r := 63) (pc := 31) (dk dt_X0_setMonitor 20 rfl) cls_0 fl_RX0_51 cf_34_19 ?_
  refine a_iload_n (pc := 34) (dk dt_X0_setMonitor 21 rfl) rfl ?_
  refine a_bipush (pc := 35) (dk dt_X0_setMonitor 22 rfl) (ik rfl) (bpk rfl) ?_
  refine a_iast (pc := 37) (dk dt_X0_setMonitor 23 rfl) ar_64 ⟨H.1, ?_⟩
  replace H := H.2
  refine a_aload (pc := 38) (dk dt_X0_setMonitor 24 rfl) rfl ?_
  refine a_ifnull0 (pc := 40) (dk dt_X0_setMonitor 25 rfl) (tgt := 54) rfl ?_
  exact a_vret (pc := 54) (dk dt_X0_setMonitor 32 rfl) rfl rfl H
set_option maxHeartbeats 40000000 in
theorem U_X0_doSecond_34_0 {G : GG} {Φ : Int → Hp → Prop} {h : Hp} (H : Call G m_X6_look [rv 14, iv (w32 ((h 34 4) + 1))] (up h 34 4 (w32 ((h 34 4) + 1))) (fun _ h2 => Call G m_X8_serve [rv 18, iv (h2 14 4)] h2 (fun r3 h4 => Call G m_X5_mend [rv 24, iv (band (h4 34 4) 63)] (up h4 34 5 (w32 ((h2 34 5) + r3))) (fun r5 h6 => ((r5 = 0 → Call G m_X0_beginDue [rv 34] h6 (fun _ h8 => AT G m_X0_doSecond 77 [(0, rv 34), (1, iv 0)] [] h8 Φ)) ∧ (r5 ≠ 0 → Call G m_X0_beginDue [rv 34] (up h6 34 5 (w32 ((h6 34 5) + 1))) (fun _ h10 => AT G m_X0_doSecond 77 [(0, rv 34), (1, iv 0)] [] h10 Φ))))))) : AT G m_X0_doSecond 0 [(0, rv 34)] [] h Φ := by
  refine a_aload_n (pc := 0) (dk dt_X0_doSecond 0 rfl) rfl ?_
  refine a_dup (pc := 1) (dk dt_X0_doSecond 1 rfl) rfl ?_
  refine a_geti (pc := 2) (dk dt_X0_doSecond 2 rfl) cls_0 fl_RX0_76 cf_34_4 ?_
  refine a_iconst (pc := 5) (dk dt_X0_doSecond 3 rfl) (ik rfl) ?_
  refine a_iadd (pc := 6) (dk dt_X0_doSecond 4 rfl) ?_
  refine a_puti (pc := 7) (dk dt_X0_doSecond 5 rfl) cls_0 fl_RX0_76 cf_34_4 rfl rfl ?_
  refine a_aload_n (pc := 10) (dk dt_X0_doSecond 6 rfl) rfl ?_
  refine a_getr (r := 13) (pc := 11) (dk dt_X0_doSecond 7 rfl) cls_0 fl_RX0_54 cf_34_0 ?_
  refine a_aload_n (pc := 14) (dk dt_X0_doSecond 8 rfl) rfl ?_
  refine a_geti (pc := 15) (dk dt_X0_doSecond 9 rfl) cls_0 fl_RX0_76 cf_34_4 ?_
  refine a_top (y := (w32 ((h 34 4) + 1))) (by simp [up, cpy]) ?_
  refine a_callVv (as := [iv (w32 ((h 34 4) + 1))]) (st := []) (pc := 18) (dk dt_X0_doSecond 10 rfl) cl_RX0_80 ⟨Nat.le_of_ble_eq_true rfl, Nat.le_of_ble_eq_true rfl⟩ ⟨Nat.le_of_ble_eq_true rfl, Nat.le_of_ble_eq_true rfl⟩ cls_6 rfl cc_14 rfl rfl rfl (Nat.le_of_ble_eq_true rfl) (Call.mono H fun _ h2 H => ?_)
  refine a_aload_n (pc := 21) (dk dt_X0_doSecond 11 rfl) rfl ?_
  refine a_dup (pc := 22) (dk dt_X0_doSecond 12 rfl) rfl ?_
  refine a_geti (pc := 23) (dk dt_X0_doSecond 13 rfl) cls_0 fl_RX0_85 cf_34_5 ?_
  refine a_aload_n (pc := 26) (dk dt_X0_doSecond 14 rfl) rfl ?_
  refine a_getr (r := 17) (pc := 27) (dk dt_X0_doSecond 15 rfl) cls_0 fl_RX0_58 cf_34_1 ?_
  refine a_aload_n (pc := 30) (dk dt_X0_doSecond 16 rfl) rfl ?_
  refine a_getr (r := 13) (pc := 31) (dk dt_X0_doSecond 17 rfl) cls_0 fl_RX0_54 cf_34_0 ?_
  refine a_geti (pc := 34) (dk dt_X0_doSecond 18 rfl) cls_6 fl_RX0_88 cf_14_4 ?_
  refine a_callVi (as := [iv (h2 14 4)]) (st := [iv (h2 34 5), rv 34]) (pc := 37) (dk dt_X0_doSecond 19 rfl) cl_RX0_92 ⟨Nat.le_of_ble_eq_true rfl, Nat.le_of_ble_eq_true rfl⟩ ⟨Nat.le_of_ble_eq_true rfl, Nat.le_of_ble_eq_true rfl⟩ cls_8 rfl cc_18 rfl rfl rfl (Nat.le_of_ble_eq_true rfl) (Call.mono H fun r3 h4 H => ?_)
  refine a_iadd (pc := 40) (dk dt_X0_doSecond 20 rfl) ?_
  refine a_puti (pc := 41) (dk dt_X0_doSecond 21 rfl) cls_0 fl_RX0_85 cf_34_5 rfl rfl ?_
  refine a_aload_n (pc := 44) (dk dt_X0_doSecond 22 rfl) rfl ?_
  refine a_getr (r := 23) (pc := 45) (dk dt_X0_doSecond 23 rfl) cls_0 fl_RX0_62 cf_34_2 ?_
  refine a_aload_n (pc := 48) (dk dt_X0_doSecond 24 rfl) rfl ?_
  refine a_geti (pc := 49) (dk dt_X0_doSecond 25 rfl) cls_0 fl_RX0_76 cf_34_4 ?_
  refine a_top (y := (h4 34 4)) (by simp [up, cpy]) ?_
  refine a_bipush (pc := 52) (dk dt_X0_doSecond 26 rfl) (ik rfl) (bpk rfl) ?_
  refine a_iand (pc := 54) (dk dt_X0_doSecond 27 rfl) ?_
  refine a_callVi (as := [iv (band (h4 34 4) 63)]) (st := []) (pc := 55) (dk dt_X0_doSecond 28 rfl) cl_RX0_100 ⟨Nat.le_of_ble_eq_true rfl, Nat.le_of_ble_eq_true rfl⟩ ⟨Nat.le_of_ble_eq_true rfl, Nat.le_of_ble_eq_true rfl⟩ cls_5 rfl cc_24 rfl rfl rfl (Nat.le_of_ble_eq_true rfl) (Call.mono H fun r5 h6 H => ?_)
  refine a_if_eq (pc := 58) (dk dt_X0_doSecond 29 rfl) (tgt := 71) rfl ⟨fun c => ?_, fun c => ?_⟩
  · replace H := H.1 c
    refine a_aload_n (pc := 71) (dk dt_X0_doSecond 36 rfl) rfl ?_
    refine a_callVv (as := []) (st := []) (pc := 72) (dk dt_X0_doSecond 37 rfl) cl_RX0_104 ⟨Nat.le_of_ble_eq_true rfl, Nat.le_of_ble_eq_true rfl⟩ ⟨Nat.le_of_ble_eq_true rfl, Nat.le_of_ble_eq_true rfl⟩ cls_0 rfl cc_34 rfl rfl rfl (Nat.le_of_ble_eq_true rfl) (Call.mono H fun _ h8 H => ?_)
    refine a_iconst (pc := 75) (dk dt_X0_doSecond 38 rfl) (ik rfl) ?_
    refine a_istore_n (pc := 76) (dk dt_X0_doSecond 39 rfl) (by decide) rfl rfl ?_
    exact a_pick [0, 1] rfl H
  · replace H := H.2 c
    refine a_aload_n (pc := 61) (dk dt_X0_doSecond 30 rfl) rfl ?_
    refine a_dup (pc := 62) (dk dt_X0_doSecond 31 rfl) rfl ?_
    refine a_geti (pc := 63) (dk dt_X0_doSecond 32 rfl) cls_0 fl_RX0_85 cf_34_5 ?_
    refine a_iconst (pc := 66) (dk dt_X0_doSecond 33 rfl) (ik rfl) ?_
    refine a_iadd (pc := 67) (dk dt_X0_doSecond 34 rfl) ?_
    refine a_puti (pc := 68) (dk dt_X0_doSecond 35 rfl) cls_0 fl_RX0_85 cf_34_5 rfl rfl ?_
    refine a_aload_n (pc := 71) (dk dt_X0_doSecond 36 rfl) rfl ?_
    refine a_callVv (as := []) (st := []) (pc := 72) (dk dt_X0_doSecond 37 rfl) cl_RX0_104 ⟨Nat.le_of_ble_eq_true rfl, Nat.le_of_ble_eq_true rfl⟩ ⟨Nat.le_of_ble_eq_true rfl, Nat.le_of_ble_eq_true rfl⟩ cls_0 rfl cc_34 rfl rfl rfl (Nat.le_of_ble_eq_true rfl) (Call.mono H fun _ h10 H => ?_)
    refine a_iconst (pc := 75) (dk dt_X0_doSecond 38 rfl) (ik rfl) ?_
    refine a_istore_n (pc := 76) (dk dt_X0_doSecond 39 rfl) (by decide) rfl rfl ?_
    exact a_pick [0, 1] rfl H
set_option maxHeartbeats 40000000 in
theorem U_X0_doSecond_34_77 {G : GG} {Φ : Int → Hp → Prop} {h : Hp} {x1 : Int} (H : ((8 ≤ x1 → AT G m_X0_doSecond 96 [(0, rv 34), (1, iv 0)] [] h Φ) ∧ (x1 < 8 → Call G m_X0_goOn [rv 34, iv x1] h (fun _ h2 => AT G m_X0_doSecond 77 [(0, rv 34), (1, iv (w32 (x1 + 1)))] [] h2 Φ)))) : AT G m_X0_doSecond 77 [(0, rv 34), (1, iv x1)] [] h Φ := by
  refine a_iload_n (pc := 77) (dk dt_X0_doSecond 40 rfl) rfl ?_
  refine a_bipush (pc := 78) (dk dt_X0_doSecond 41 rfl) (ik rfl) (bpk rfl) ?_
  refine a_icmp_ge (pc := 80) (dk dt_X0_doSecond 42 rfl) (tgt := 94) rfl ⟨fun c => ?_, fun c => ?_⟩
  · replace H := H.1 c
    refine a_iconst (pc := 94) (dk dt_X0_doSecond 48 rfl) (ik rfl) ?_
    refine a_istore_n (pc := 95) (dk dt_X0_doSecond 49 rfl) (by decide) rfl rfl ?_
    exact a_pick [0, 1] rfl H
  · replace H := H.2 c
    refine a_aload_n (pc := 83) (dk dt_X0_doSecond 43 rfl) rfl ?_
    refine a_iload_n (pc := 84) (dk dt_X0_doSecond 44 rfl) rfl ?_
    refine a_callVv (as := [iv x1]) (st := []) (pc := 85) (dk dt_X0_doSecond 45 rfl) cl_RX0_107 ⟨Nat.le_of_ble_eq_true rfl, Nat.le_of_ble_eq_true rfl⟩ ⟨Nat.le_of_ble_eq_true rfl, Nat.le_of_ble_eq_true rfl⟩ cls_0 rfl cc_34 rfl rfl rfl (Nat.le_of_ble_eq_true rfl) (Call.mono H fun _ h2 H => ?_)
    refine a_iinc (pc := 88) (dk dt_X0_doSecond 46 rfl) (by decide) rfl rfl rfl ?_
    refine a_goto (pc := 91) (dk dt_X0_doSecond 47 rfl) (tgt := 77) rfl ?_
    exact a_pick [0, 1] rfl H
set_option maxHeartbeats 40000000 in
theorem U_X0_doSecond_34_96 {G : GG} {Φ : Int → Hp → Prop} {h : Hp} {x1 : Int} (H : ((8 ≤ x1 → (((h 22 0) = 0 → Φ 0 h) ∧ ((h 22 0) ≠ 0 → (((h 14 5) = 0 → Φ 0 h) ∧ ((h 14 5) ≠ 0 → Call G m_X4_sendFrame [rv 26] h (fun _ h2 => Φ 0 h2)))))) ∧ (x1 < 8 → Call G m_X0_watch [rv 34, iv x1] h (fun _ h4 => AT G m_X0_doSecond 96 [(0, rv 34), (1, iv (w32 (x1 + 1)))] [] h4 Φ)))) : AT G m_X0_doSecond 96 [(0, rv 34), (1, iv x1)] [] h Φ := by
  refine a_iload_n (pc := 96) (dk dt_X0_doSecond 50 rfl) rfl ?_
  refine a_bipush (pc := 97) (dk dt_X0_doSecond 51 rfl) (ik rfl) (bpk rfl) ?_
  refine a_icmp_ge (pc := 99) (dk dt_X0_doSecond 52 rfl) (tgt := 113) rfl ⟨fun c => ?_, fun c => ?_⟩
  · replace H := H.1 c
    refine a_aload_n (pc := 113) (dk dt_X0_doSecond 58 rfl) rfl ?_
    refine a_getr (r := 17) (pc := 114) (dk dt_X0_doSecond 59 rfl) cls_0 fl_RX0_58 cf_34_1 ?_
    refine a_getr (r := 21) (pc := 117) (dk dt_X0_doSecond 60 rfl) cls_8 fl_RX0_113 cf_18_8 ?_
    refine a_iconst (pc := 120) (dk dt_X0_doSecond 61 rfl) (ik rfl) ?_
    refine a_zald (pc := 121) (dk dt_X0_doSecond 62 rfl) ar_22 ⟨⟨by decide, by decide⟩, ?_⟩
    refine a_if_eq (pc := 122) (dk dt_X0_doSecond 63 rfl) (tgt := 142) rfl ⟨fun c => ?_, fun c => ?_⟩
    · replace H := H.1 c
      exact a_vret (pc := 142) (dk dt_X0_doSecond 71 rfl) rfl rfl H
    · replace H := H.2 c
      refine a_aload_n (pc := 125) (dk dt_X0_doSecond 64 rfl) rfl ?_
      refine a_getr (r := 13) (pc := 126) (dk dt_X0_doSecond 65 rfl) cls_0 fl_RX0_54 cf_34_0 ?_
      refine a_geti (pc := 129) (dk dt_X0_doSecond 66 rfl) cls_6 fl_RX0_117 cf_14_5 ?_
      refine a_if_eq (pc := 132) (dk dt_X0_doSecond 67 rfl) (tgt := 142) rfl ⟨fun c => ?_, fun c => ?_⟩
      · replace H := H.1 c
        exact a_vret (pc := 142) (dk dt_X0_doSecond 71 rfl) rfl rfl H
      · replace H := H.2 c
        refine a_aload_n (pc := 135) (dk dt_X0_doSecond 68 rfl) rfl ?_
        refine a_getr (r := 25) (pc := 136) (dk dt_X0_doSecond 69 rfl) cls_0 fl_RX0_66 cf_34_3 ?_
        refine a_callVv (as := []) (st := []) (pc := 139) (dk dt_X0_doSecond 70 rfl) cl_RX0_120 ⟨Nat.le_of_ble_eq_true rfl, Nat.le_of_ble_eq_true rfl⟩ ⟨Nat.le_of_ble_eq_true rfl, Nat.le_of_ble_eq_true rfl⟩ cls_4 rfl cc_26 rfl rfl rfl (Nat.le_of_ble_eq_true rfl) (Call.mono H fun _ h2 H => ?_)
        exact a_vret (pc := 142) (dk dt_X0_doSecond 71 rfl) rfl rfl H
  · replace H := H.2 c
    refine a_aload_n (pc := 102) (dk dt_X0_doSecond 53 rfl) rfl ?_
    refine a_iload_n (pc := 103) (dk dt_X0_doSecond 54 rfl) rfl ?_
    refine a_callVv (as := [iv x1]) (st := []) (pc := 104) (dk dt_X0_doSecond 55 rfl) cl_RX0_110 ⟨Nat.le_of_ble_eq_true rfl, Nat.le_of_ble_eq_true rfl⟩ ⟨Nat.le_of_ble_eq_true rfl, Nat.le_of_ble_eq_true rfl⟩ cls_0 rfl cc_34 rfl rfl rfl (Nat.le_of_ble_eq_true rfl) (Call.mono H fun _ h4 H => ?_)
    refine a_iinc (pc := 107) (dk dt_X0_doSecond 56 rfl) (by decide) rfl rfl rfl ?_
    refine a_goto (pc := 110) (dk dt_X0_doSecond 57 rfl) (tgt := 96) rfl ?_
    exact a_pick [0, 1] rfl H
set_option maxHeartbeats 40000000 in
theorem U_X0_takeCommand_34_68_0 {G : GG} {Φ : Int → Hp → Prop} {h : Hp} {x1 : Int} {x3 : Int} (H : ((x1 = (h 26 13) → (0 ≤ x3 ∧ x3 < 8) ∧ (((h 74 x3) = (-1) → (0 ≤ x3 ∧ x3 < 8) ∧ (((h 69 x3) ≠ 15 → Call G m_X0_perform [rv 34, rv 68, iv x3] (up (up h 26 13 (band (w32 (x1 + 1)) 255)) 26 14 0) (fun r1 h2 => ((r1 ≠ 0 → Φ 1 h2) ∧ (r1 = 0 → Φ 1 (up h2 34 5 (w32 ((h2 34 5) + 1))))))) ∧ ((h 69 x3) = 15 → (0 ≤ x3 ∧ x3 < 8) ∧ Call G m_X0_ready [rv 34, iv (h 72 x3)] (up (up h 26 13 (band (w32 (x1 + 1)) 255)) 26 14 0) (fun _ h4 => Φ 1 h4)))) ∧ ((h 74 x3) ≠ (-1) → (0 ≤ x3 ∧ x3 < 8) ∧ Call G m_X3_copy [rv 43, iv (h 74 x3), rv 68, iv x3] (up (up h 26 13 (band (w32 (x1 + 1)) 255)) 26 14 0) (fun _ h6 => Φ 1 h6)))) ∧ (x1 ≠ (h 26 13) → Φ 0 (up h 26 14 1)))) : AT G m_X0_takeCommand 0 [(0, rv 34), (1, iv x1), (2, rv 68), (3, iv x3)] [] h Φ := by
  refine a_iload_n (pc := 0) (dk dt_X0_takeCommand 0 rfl) rfl ?_
  refine a_aload_n (pc := 1) (dk dt_X0_takeCommand 1 rfl) rfl ?_
  refine a_getr (r := 25) (pc := 2) (dk dt_X0_takeCommand 2 rfl) cls_0 fl_RX0_66 cf_34_3 ?_
  refine a_geti (pc := 5) (dk dt_X0_takeCommand 3 rfl) cls_4 fl_RX0_243 cf_26_13 ?_
  refine a_icmp_eq (pc := 8) (dk dt_X0_takeCommand 4 rfl) (tgt := 21) rfl ⟨fun c => ?_, fun c => ?_⟩
  · replace H := H.1 c
    refine a_aload_n (pc := 21) (dk dt_X0_takeCommand 11 rfl) rfl ?_
    refine a_getr (r := 25) (pc := 22) (dk dt_X0_takeCommand 12 rfl) cls_0 fl_RX0_66 cf_34_3 ?_
    refine a_iload_n (pc := 25) (dk dt_X0_takeCommand 13 rfl) rfl ?_
    refine a_iconst (pc := 26) (dk dt_X0_takeCommand 14 rfl) (ik rfl) ?_
    refine a_iadd (pc := 27) (dk dt_X0_takeCommand 15 rfl) ?_
    refine a_sipush (pc := 28) (dk dt_X0_takeCommand 16 rfl) (ik rfl) (spk rfl) ?_
    refine a_iand (pc := 31) (dk dt_X0_takeCommand 17 rfl) ?_
    refine a_puti (pc := 32) (dk dt_X0_takeCommand 18 rfl) cls_4 fl_RX0_243 cf_26_13 rfl rfl ?_
    refine a_aload_n (pc := 35) (dk dt_X0_takeCommand 19 rfl) rfl ?_
    refine a_getr (r := 25) (pc := 36) (dk dt_X0_takeCommand 20 rfl) cls_0 fl_RX0_66 cf_34_3 ?_
    refine a_iconst (pc := 39) (dk dt_X0_takeCommand 21 rfl) (ik rfl) ?_
    refine a_puti (pc := 40) (dk dt_X0_takeCommand 22 rfl) cls_4 fl_RX0_246 cf_26_14 rfl rfl ?_
    refine a_aload_n (pc := 43) (dk dt_X0_takeCommand 23 rfl) rfl ?_
    refine a_getr (r := 73) (pc := 44) (dk dt_X0_takeCommand 24 rfl) cls_3 fl_RX0_249 cf_68_6 ?_
    refine a_iload_n (pc := 47) (dk dt_X0_takeCommand 25 rfl) rfl ?_
    refine a_iald (pc := 48) (dk dt_X0_takeCommand 26 rfl) ar_74 ⟨H.1, ?_⟩
    replace H := H.2
    refine a_top (y := (h 74 x3)) (by simp [up, cpy]) ?_
    refine a_iconst (pc := 49) (dk dt_X0_takeCommand 27 rfl) (ik rfl) ?_
    refine a_icmp_eq (pc := 50) (dk dt_X0_takeCommand 28 rfl) (tgt := 71) rfl ⟨fun c => ?_, fun c => ?_⟩
    · replace H := H.1 c
      refine a_aload_n (pc := 71) (dk dt_X0_takeCommand 39 rfl) rfl ?_
      refine a_getr (r := 68) (pc := 72) (dk dt_X0_takeCommand 40 rfl) cls_3 fl_RX0_158 cf_68_1 ?_
      refine a_iload_n (pc := 75) (dk dt_X0_takeCommand 41 rfl) rfl ?_
      refine a_iald (pc := 76) (dk dt_X0_takeCommand 42 rfl) ar_69 ⟨H.1, ?_⟩
      replace H := H.2
      refine a_top (y := (h 69 x3)) (by simp [up, cpy]) ?_
      refine a_bipush (pc := 77) (dk dt_X0_takeCommand 43 rfl) (ik rfl) (bpk rfl) ?_
      refine a_icmp_ne (pc := 79) (dk dt_X0_takeCommand 44 rfl) (tgt := 95) rfl ⟨fun c => ?_, fun c => ?_⟩
      · replace H := H.1 c
        refine a_aload_n (pc := 95) (dk dt_X0_takeCommand 52 rfl) rfl ?_
        refine a_aload_n (pc := 96) (dk dt_X0_takeCommand 53 rfl) rfl ?_
        refine a_iload_n (pc := 97) (dk dt_X0_takeCommand 54 rfl) rfl ?_
        refine a_callVi (as := [rv 68, iv x3]) (st := []) (pc := 98) (dk dt_X0_takeCommand 55 rfl) cl_RX0_175 ⟨Nat.le_of_ble_eq_true rfl, Nat.le_of_ble_eq_true rfl⟩ ⟨Nat.le_of_ble_eq_true rfl, Nat.le_of_ble_eq_true rfl⟩ cls_0 rfl cc_34 rfl rfl rfl (Nat.le_of_ble_eq_true rfl) (Call.mono H fun r1 h2 H => ?_)
        refine a_if_ne (pc := 101) (dk dt_X0_takeCommand 56 rfl) (tgt := 114) rfl ⟨fun c => ?_, fun c => ?_⟩
        · replace H := H.1 c
          refine a_iconst (pc := 114) (dk dt_X0_takeCommand 63 rfl) (ik rfl) ?_
          exact a_zret (pc := 115) (dk dt_X0_takeCommand 64 rfl) rfl rfl ⟨by decide, H⟩
        · replace H := H.2 c
          refine a_aload_n (pc := 104) (dk dt_X0_takeCommand 57 rfl) rfl ?_
          refine a_dup (pc := 105) (dk dt_X0_takeCommand 58 rfl) rfl ?_
          refine a_geti (pc := 106) (dk dt_X0_takeCommand 59 rfl) cls_0 fl_RX0_85 cf_34_5 ?_
          refine a_iconst (pc := 109) (dk dt_X0_takeCommand 60 rfl) (ik rfl) ?_
          refine a_iadd (pc := 110) (dk dt_X0_takeCommand 61 rfl) ?_
          refine a_puti (pc := 111) (dk dt_X0_takeCommand 62 rfl) cls_0 fl_RX0_85 cf_34_5 rfl rfl ?_
          refine a_iconst (pc := 114) (dk dt_X0_takeCommand 63 rfl) (ik rfl) ?_
          exact a_zret (pc := 115) (dk dt_X0_takeCommand 64 rfl) rfl rfl ⟨by decide, H⟩
      · replace H := H.2 c
        refine a_aload_n (pc := 82) (dk dt_X0_takeCommand 45 rfl) rfl ?_
        refine a_aload_n (pc := 83) (dk dt_X0_takeCommand 46 rfl) rfl ?_
        refine a_getr (r := 71) (pc := 84) (dk dt_X0_takeCommand 47 rfl) cls_3 fl_RX0_161 cf_68_4 ?_
        refine a_iload_n (pc := 87) (dk dt_X0_takeCommand 48 rfl) rfl ?_
        refine a_iald (pc := 88) (dk dt_X0_takeCommand 49 rfl) ar_72 ⟨H.1, ?_⟩
        replace H := H.2
        refine a_top (y := (h 72 x3)) (by simp [up, cpy]) ?_
        refine a_callVv (as := [iv (h 72 x3)]) (st := []) (pc := 89) (dk dt_X0_takeCommand 50 rfl) cl_RX0_252 ⟨Nat.le_of_ble_eq_true rfl, Nat.le_of_ble_eq_true rfl⟩ ⟨Nat.le_of_ble_eq_true rfl, Nat.le_of_ble_eq_true rfl⟩ cls_0 rfl cc_34 rfl rfl rfl (Nat.le_of_ble_eq_true rfl) (Call.mono H fun _ h4 H => ?_)
        refine a_goto (pc := 92) (dk dt_X0_takeCommand 51 rfl) (tgt := 114) rfl ?_
        refine a_iconst (pc := 114) (dk dt_X0_takeCommand 63 rfl) (ik rfl) ?_
        exact a_zret (pc := 115) (dk dt_X0_takeCommand 64 rfl) rfl rfl ⟨by decide, H⟩
    · replace H := H.2 c
      refine a_aload_n (pc := 53) (dk dt_X0_takeCommand 29 rfl) rfl ?_
      refine a_getr (r := 42) (pc := 54) (dk dt_X0_takeCommand 30 rfl) cls_0 fl_RX0_24 cf_34_9 ?_
      refine a_aload_n (pc := 57) (dk dt_X0_takeCommand 31 rfl) rfl ?_
      refine a_getr (r := 73) (pc := 58) (dk dt_X0_takeCommand 32 rfl) cls_3 fl_RX0_249 cf_68_6 ?_
      refine a_iload_n (pc := 61) (dk dt_X0_takeCommand 33 rfl) rfl ?_
      refine a_iald (pc := 62) (dk dt_X0_takeCommand 34 rfl) ar_74 ⟨H.1, ?_⟩
      replace H := H.2
      refine a_top (y := (h 74 x3)) (by simp [up, cpy]) ?_
      refine a_aload_n (pc := 63) (dk dt_X0_takeCommand 35 rfl) rfl ?_
      refine a_iload_n (pc := 64) (dk dt_X0_takeCommand 36 rfl) rfl ?_
      refine a_callVv (as := [iv (h 74 x3), rv 68, iv x3]) (st := []) (pc := 65) (dk dt_X0_takeCommand 37 rfl) cl_RX0_135 ⟨Nat.le_of_ble_eq_true rfl, Nat.le_of_ble_eq_true rfl⟩ ⟨Nat.le_of_ble_eq_true rfl, Nat.le_of_ble_eq_true rfl⟩ cls_3 rfl cc_43 rfl rfl rfl (Nat.le_of_ble_eq_true rfl) (Call.mono H fun _ h6 H => ?_)
      refine a_goto (pc := 68) (dk dt_X0_takeCommand 38 rfl) (tgt := 114) rfl ?_
      refine a_iconst (pc := 114) (dk dt_X0_takeCommand 63 rfl) (ik rfl) ?_
      exact a_zret (pc := 115) (dk dt_X0_takeCommand 64 rfl) rfl rfl ⟨by decide, H⟩
  · replace H := H.2 c
    refine a_aload_n (pc := 11) (dk dt_X0_takeCommand 5 rfl) rfl ?_
    refine a_getr (r := 25) (pc := 12) (dk dt_X0_takeCommand 6 rfl) cls_0 fl_RX0_66 cf_34_3 ?_
    refine a_iconst (pc := 15) (dk dt_X0_takeCommand 7 rfl) (ik rfl) ?_
    refine a_puti (pc := 16) (dk dt_X0_takeCommand 8 rfl) cls_4 fl_RX0_246 cf_26_14 rfl rfl ?_
    refine a_iconst (pc := 19) (dk dt_X0_takeCommand 9 rfl) (ik rfl) ?_
    exact a_zret (pc := 20) (dk dt_X0_takeCommand 10 rfl) rfl rfl ⟨by decide, H⟩
set_option maxHeartbeats 40000000 in
theorem U_X0_watch_34_0 {G : GG} {Φ : Int → Hp → Prop} {h : Hp} {x1 : Int} (H : (0 ≤ x1 ∧ x1 < 8) ∧ (((h 61 x1) ≠ 0 → Call G m_X0_judge [rv 34, rv 54, iv x1] h (fun r1 h2 => ((r1 = 1 → (0 ≤ x1 ∧ x1 < 8) ∧ (0 ≤ x1 ∧ x1 < 8) ∧ (0 ≤ x1 ∧ x1 < 8) ∧ (0 ≤ x1 ∧ x1 < 8) ∧ (((w32 ((h2 63 x1) + 1)) ≠ (h2 61 x1) → Φ 0 (up h2 63 x1 (w32 ((h2 63 x1) + 1)))) ∧ ((w32 ((h2 63 x1) + 1)) = (h2 61 x1) → Call G m_X0_act [rv 34, iv x1] (up h2 63 x1 (w32 ((h2 63 x1) + 1))) (fun _ h4 => Φ 0 h4)))) ∧ (r1 ≠ 1 → (0 ≤ x1 ∧ x1 < 8) ∧ Φ 0 (up h2 63 x1 0))))) ∧ ((h 61 x1) = 0 → Φ 0 h))) : AT G m_X0_watch 0 [(0, rv 34), (1, iv x1)] [] h Φ := by
  refine a_aload_n (pc := 0) (dk dt_X0_watch 0 rfl) rfl ?_
  refine a_getr (r := 60) (pc := 1) (dk dt_X0_watch 1 rfl) cls_0 fl_RX0_42 cf_34_16 ?_
  refine a_iload_n (pc := 4) (dk dt_X0_watch 2 rfl) rfl ?_
  refine a_iald (pc := 5) (dk dt_X0_watch 3 rfl) ar_61 ⟨H.1, ?_⟩
  replace H := H.2
  refine a_if_ne (pc := 6) (dk dt_X0_watch 4 rfl) (tgt := 10) rfl ⟨fun c => ?_, fun c => ?_⟩
  · replace H := H.1 c
    refine a_aload_n (pc := 10) (dk dt_X0_watch 6 rfl) rfl ?_
    refine a_aload_n (pc := 11) (dk dt_X0_watch 7 rfl) rfl ?_
    refine a_getr (r := 53) (pc := 12) (dk dt_X0_watch 8 rfl) cls_0 fl_RX0_39 cf_34_15 ?_
    refine a_iload_n (pc := 15) (dk dt_X0_watch 9 rfl) rfl ?_
    refine a_callVi (as := [rv 54, iv x1]) (st := []) (pc := 16) (dk dt_X0_watch 10 rfl) cl_RX0_164 ⟨Nat.le_of_ble_eq_true rfl, Nat.le_of_ble_eq_true rfl⟩ ⟨Nat.le_of_ble_eq_true rfl, Nat.le_of_ble_eq_true rfl⟩ cls_0 rfl cc_34 rfl rfl rfl (Nat.le_of_ble_eq_true rfl) (Call.mono H fun r1 h2 H => ?_)
    refine a_iconst (pc := 19) (dk dt_X0_watch 11 rfl) (ik rfl) ?_
    refine a_icmp_eq (pc := 20) (dk dt_X0_watch 12 rfl) (tgt := 31) rfl ⟨fun c => ?_, fun c => ?_⟩
    · replace H := H.1 c
      refine a_aload_n (pc := 31) (dk dt_X0_watch 19 rfl) rfl ?_
      refine a_getr (r := 62) (pc := 32) (dk dt_X0_watch 20 rfl) cls_0 fl_RX0_48 cf_34_18 ?_
      refine a_iload_n (pc := 35) (dk dt_X0_watch 21 rfl) rfl ?_
      refine a_dup2 (pc := 36) (dk dt_X0_watch 22 rfl) rfl rfl ?_
      refine a_iald (pc := 37) (dk dt_X0_watch 23 rfl) ar_63 ⟨H.1, ?_⟩
      replace H := H.2
      refine a_iconst (pc := 38) (dk dt_X0_watch 24 rfl) (ik rfl) ?_
      refine a_iadd (pc := 39) (dk dt_X0_watch 25 rfl) ?_
      refine a_iast (pc := 40) (dk dt_X0_watch 26 rfl) ar_63 ⟨H.1, ?_⟩
      replace H := H.2
      refine a_aload_n (pc := 41) (dk dt_X0_watch 27 rfl) rfl ?_
      refine a_getr (r := 62) (pc := 42) (dk dt_X0_watch 28 rfl) cls_0 fl_RX0_48 cf_34_18 ?_
      refine a_iload_n (pc := 45) (dk dt_X0_watch 29 rfl) rfl ?_
      refine a_iald (pc := 46) (dk dt_X0_watch 30 rfl) ar_63 ⟨H.1, ?_⟩
      replace H := H.2
      refine a_top (y := (w32 ((h2 63 x1) + 1))) (by simp [up, cpy]) ?_
      refine a_aload_n (pc := 47) (dk dt_X0_watch 31 rfl) rfl ?_
      refine a_getr (r := 60) (pc := 48) (dk dt_X0_watch 32 rfl) cls_0 fl_RX0_42 cf_34_16 ?_
      refine a_iload_n (pc := 51) (dk dt_X0_watch 33 rfl) rfl ?_
      refine a_iald (pc := 52) (dk dt_X0_watch 34 rfl) ar_61 ⟨H.1, ?_⟩
      replace H := H.2
      refine a_top (y := (h2 61 x1)) (by simp [up, cpy]) ?_
      refine a_icmp_ne (pc := 53) (dk dt_X0_watch 35 rfl) (tgt := 61) rfl ⟨fun c => ?_, fun c => ?_⟩
      · replace H := H.1 c
        exact a_vret (pc := 61) (dk dt_X0_watch 39 rfl) rfl rfl H
      · replace H := H.2 c
        refine a_aload_n (pc := 56) (dk dt_X0_watch 36 rfl) rfl ?_
        refine a_iload_n (pc := 57) (dk dt_X0_watch 37 rfl) rfl ?_
        refine a_callVv (as := [iv x1]) (st := []) (pc := 58) (dk dt_X0_watch 38 rfl) cl_RX0_240 ⟨Nat.le_of_ble_eq_true rfl, Nat.le_of_ble_eq_true rfl⟩ ⟨Nat.le_of_ble_eq_true rfl, Nat.le_of_ble_eq_true rfl⟩ cls_0 rfl cc_34 rfl rfl rfl (Nat.le_of_ble_eq_true rfl) (Call.mono H fun _ h4 H => ?_)
        exact a_vret (pc := 61) (dk dt_X0_watch 39 rfl) rfl rfl H
    · replace H := H.2 c
      refine a_aload_n (pc := 23) (dk dt_X0_watch 13 rfl) rfl ?_
      refine a_getr (r := 62) (pc := 24) (dk dt_X0_watch 14 rfl) cls_0 fl_RX0_48 cf_34_18 ?_
      refine a_iload_n (pc := 27) (dk dt_X0_watch 15 rfl) rfl ?_
      refine a_iconst (pc := 28) (dk dt_X0_watch 16 rfl) (ik rfl) ?_
      refine a_iast (pc := 29) (dk dt_X0_watch 17 rfl) ar_63 ⟨H.1, ?_⟩
      replace H := H.2
      exact a_vret (pc := 30) (dk dt_X0_watch 18 rfl) rfl rfl H
  · replace H := H.2 c
    exact a_vret (pc := 9) (dk dt_X0_watch 5 rfl) rfl rfl H
set_option maxHeartbeats 40000000 in
theorem U_X0_goOn_34_0 {G : GG} {Φ : Int → Hp → Prop} {h : Hp} {x1 : Int} (H : (0 ≤ x1 ∧ x1 < 8) ∧ (((h 51 x1) ≤ 0 → (0 ≤ x1 ∧ x1 < 8) ∧ (((h 50 x1) = (-1) → AT G m_X0_goOn 46 [(0, rv 34), (1, iv x1), (2, iv 0), (3, iv 0)] [] h Φ) ∧ ((h 50 x1) ≠ (-1) → (0 ≤ x1 ∧ x1 < 8) ∧ (((h 51 x1) ≠ 0 → AT G m_X0_goOn 46 [(0, rv 34), (1, iv x1), (2, iv 0), (3, iv 0)] [] h Φ) ∧ ((h 51 x1) = 0 → AT G m_X0_goOn 46 [(0, rv 34), (1, iv x1), (2, iv 1), (3, iv 0)] [] h Φ))))) ∧ (0 < (h 51 x1) → (0 ≤ x1 ∧ x1 < 8) ∧ (0 ≤ x1 ∧ x1 < 8) ∧ (0 ≤ x1 ∧ x1 < 8) ∧ (((h 50 x1) = (-1) → AT G m_X0_goOn 46 [(0, rv 34), (1, iv x1), (2, iv 0), (3, iv 0)] [] (up h 51 x1 (w32 ((h 51 x1) - 1))) Φ) ∧ ((h 50 x1) ≠ (-1) → (0 ≤ x1 ∧ x1 < 8) ∧ (((w32 ((h 51 x1) - 1)) ≠ 0 → AT G m_X0_goOn 46 [(0, rv 34), (1, iv x1), (2, iv 0), (3, iv 0)] [] (up h 51 x1 (w32 ((h 51 x1) - 1))) Φ) ∧ ((w32 ((h 51 x1) - 1)) = 0 → AT G m_X0_goOn 46 [(0, rv 34), (1, iv x1), (2, iv 1), (3, iv 0)] [] (up h 51 x1 (w32 ((h 51 x1) - 1))) Φ))))))) : AT G m_X0_goOn 0 [(0, rv 34), (1, iv x1)] [] h Φ := by
  refine a_aload_n (pc := 0) (dk dt_X0_goOn 0 rfl) rfl ?_
  refine a_getr (r := 50) (pc := 1) (dk dt_X0_goOn 1 rfl) cls_0 fl_RX0_30 cf_34_11 ?_
  refine a_iload_n (pc := 4) (dk dt_X0_goOn 2 rfl) rfl ?_
  refine a_iald (pc := 5) (dk dt_X0_goOn 3 rfl) ar_51 ⟨H.1, ?_⟩
  replace H := H.2
  refine a_if_le (pc := 6) (dk dt_X0_goOn 4 rfl) (tgt := 19) rfl ⟨fun c => ?_, fun c => ?_⟩
  · replace H := H.1 c
    refine a_aload_n (pc := 19) (dk dt_X0_goOn 13 rfl) rfl ?_
    refine a_getr (r := 49) (pc := 20) (dk dt_X0_goOn 14 rfl) cls_0 fl_RX0_27 cf_34_10 ?_
    refine a_iload_n (pc := 23) (dk dt_X0_goOn 15 rfl) rfl ?_
    refine a_iald (pc := 24) (dk dt_X0_goOn 16 rfl) ar_50 ⟨H.1, ?_⟩
    replace H := H.2
    refine a_iconst (pc := 25) (dk dt_X0_goOn 17 rfl) (ik rfl) ?_
    refine a_icmp_eq (pc := 26) (dk dt_X0_goOn 18 rfl) (tgt := 42) rfl ⟨fun c => ?_, fun c => ?_⟩
    · replace H := H.1 c
      refine a_iconst (pc := 42) (dk dt_X0_goOn 26 rfl) (ik rfl) ?_
      refine a_istore_n (pc := 43) (dk dt_X0_goOn 27 rfl) (by decide) rfl rfl ?_
      refine a_iconst (pc := 44) (dk dt_X0_goOn 28 rfl) (ik rfl) ?_
      refine a_istore_n (pc := 45) (dk dt_X0_goOn 29 rfl) (by decide) rfl rfl ?_
      exact a_pick [0, 1, 2, 3] rfl H
    · replace H := H.2 c
      refine a_aload_n (pc := 29) (dk dt_X0_goOn 19 rfl) rfl ?_
      refine a_getr (r := 50) (pc := 30) (dk dt_X0_goOn 20 rfl) cls_0 fl_RX0_30 cf_34_11 ?_
      refine a_iload_n (pc := 33) (dk dt_X0_goOn 21 rfl) rfl ?_
      refine a_iald (pc := 34) (dk dt_X0_goOn 22 rfl) ar_51 ⟨H.1, ?_⟩
      replace H := H.2
      refine a_if_ne (pc := 35) (dk dt_X0_goOn 23 rfl) (tgt := 42) rfl ⟨fun c => ?_, fun c => ?_⟩
      · replace H := H.1 c
        refine a_iconst (pc := 42) (dk dt_X0_goOn 26 rfl) (ik rfl) ?_
        refine a_istore_n (pc := 43) (dk dt_X0_goOn 27 rfl) (by decide) rfl rfl ?_
        refine a_iconst (pc := 44) (dk dt_X0_goOn 28 rfl) (ik rfl) ?_
        refine a_istore_n (pc := 45) (dk dt_X0_goOn 29 rfl) (by decide) rfl rfl ?_
        exact a_pick [0, 1, 2, 3] rfl H
      · replace H := H.2 c
        refine a_iconst (pc := 38) (dk dt_X0_goOn 24 rfl) (ik rfl) ?_
        refine a_goto (pc := 39) (dk dt_X0_goOn 25 rfl) (tgt := 43) rfl ?_
        refine a_istore_n (pc := 43) (dk dt_X0_goOn 27 rfl) (by decide) rfl rfl ?_
        refine a_iconst (pc := 44) (dk dt_X0_goOn 28 rfl) (ik rfl) ?_
        refine a_istore_n (pc := 45) (dk dt_X0_goOn 29 rfl) (by decide) rfl rfl ?_
        exact a_pick [0, 1, 2, 3] rfl H
  · replace H := H.2 c
    refine a_aload_n (pc := 9) (dk dt_X0_goOn 5 rfl) rfl ?_
    refine a_getr (r := 50) (pc := 10) (dk dt_X0_goOn 6 rfl) cls_0 fl_RX0_30 cf_34_11 ?_
    refine a_iload_n (pc := 13) (dk dt_X0_goOn 7 rfl) rfl ?_
    refine a_dup2 (pc := 14) (dk dt_X0_goOn 8 rfl) rfl rfl ?_
    refine a_iald (pc := 15) (dk dt_X0_goOn 9 rfl) ar_51 ⟨H.1, ?_⟩
    replace H := H.2
    refine a_iconst (pc := 16) (dk dt_X0_goOn 10 rfl) (ik rfl) ?_
    refine a_isub (pc := 17) (dk dt_X0_goOn 11 rfl) ?_
    refine a_iast (pc := 18) (dk dt_X0_goOn 12 rfl) ar_51 ⟨H.1, ?_⟩
    replace H := H.2
    refine a_aload_n (pc := 19) (dk dt_X0_goOn 13 rfl) rfl ?_
    refine a_getr (r := 49) (pc := 20) (dk dt_X0_goOn 14 rfl) cls_0 fl_RX0_27 cf_34_10 ?_
    refine a_iload_n (pc := 23) (dk dt_X0_goOn 15 rfl) rfl ?_
    refine a_iald (pc := 24) (dk dt_X0_goOn 16 rfl) ar_50 ⟨H.1, ?_⟩
    replace H := H.2
    refine a_top (y := (h 50 x1)) (by simp [up, cpy]) ?_
    refine a_iconst (pc := 25) (dk dt_X0_goOn 17 rfl) (ik rfl) ?_
    refine a_icmp_eq (pc := 26) (dk dt_X0_goOn 18 rfl) (tgt := 42) rfl ⟨fun c => ?_, fun c => ?_⟩
    · replace H := H.1 c
      refine a_iconst (pc := 42) (dk dt_X0_goOn 26 rfl) (ik rfl) ?_
      refine a_istore_n (pc := 43) (dk dt_X0_goOn 27 rfl) (by decide) rfl rfl ?_
      refine a_iconst (pc := 44) (dk dt_X0_goOn 28 rfl) (ik rfl) ?_
      refine a_istore_n (pc := 45) (dk dt_X0_goOn 29 rfl) (by decide) rfl rfl ?_
      exact a_pick [0, 1, 2, 3] rfl H
    · replace H := H.2 c
      refine a_aload_n (pc := 29) (dk dt_X0_goOn 19 rfl) rfl ?_
      refine a_getr (r := 50) (pc := 30) (dk dt_X0_goOn 20 rfl) cls_0 fl_RX0_30 cf_34_11 ?_
      refine a_iload_n (pc := 33) (dk dt_X0_goOn 21 rfl) rfl ?_
      refine a_iald (pc := 34) (dk dt_X0_goOn 22 rfl) ar_51 ⟨H.1, ?_⟩
      replace H := H.2
      refine a_top (y := (w32 ((h 51 x1) - 1))) (by simp [up, cpy]) ?_
      refine a_if_ne (pc := 35) (dk dt_X0_goOn 23 rfl) (tgt := 42) rfl ⟨fun c => ?_, fun c => ?_⟩
      · replace H := H.1 c
        refine a_iconst (pc := 42) (dk dt_X0_goOn 26 rfl) (ik rfl) ?_
        refine a_istore_n (pc := 43) (dk dt_X0_goOn 27 rfl) (by decide) rfl rfl ?_
        refine a_iconst (pc := 44) (dk dt_X0_goOn 28 rfl) (ik rfl) ?_
        refine a_istore_n (pc := 45) (dk dt_X0_goOn 29 rfl) (by decide) rfl rfl ?_
        exact a_pick [0, 1, 2, 3] rfl H
      · replace H := H.2 c
        refine a_iconst (pc := 38) (dk dt_X0_goOn 24 rfl) (ik rfl) ?_
        refine a_goto (pc := 39) (dk dt_X0_goOn 25 rfl) (tgt := 43) rfl ?_
        refine a_istore_n (pc := 43) (dk dt_X0_goOn 27 rfl) (by decide) rfl rfl ?_
        refine a_iconst (pc := 44) (dk dt_X0_goOn 28 rfl) (ik rfl) ?_
        refine a_istore_n (pc := 45) (dk dt_X0_goOn 29 rfl) (by decide) rfl rfl ?_
        exact a_pick [0, 1, 2, 3] rfl H
set_option maxHeartbeats 40000000 in
theorem U_X0_goOn_34_46 {G : GG} {Φ : Int → Hp → Prop} {h : Hp} {x1 : Int} {x2 : Int} {x3 : Int} (H : ((8 ≤ x3 → Φ 0 h) ∧ (x3 < 8 → ((x2 = 0 → Φ 0 h) ∧ (x2 ≠ 0 → Call G m_X0_doLine [rv 34, iv x1] h (fun r1 h2 => AT G m_X0_goOn 46 [(0, rv 34), (1, iv x1), (2, iv r1), (3, iv (w32 (x3 + 1)))] [] h2 Φ)))))) : AT G m_X0_goOn 46 [(0, rv 34), (1, iv x1), (2, iv x2), (3, iv x3)] [] h Φ := by
  refine a_iload_n (pc := 46) (dk dt_X0_goOn 30 rfl) rfl ?_
  refine a_bipush (pc := 47) (dk dt_X0_goOn 31 rfl) (ik rfl) (bpk rfl) ?_
  refine a_icmp_ge (pc := 49) (dk dt_X0_goOn 32 rfl) (tgt := 68) rfl ⟨fun c => ?_, fun c => ?_⟩
  · replace H := H.1 c
    exact a_vret (pc := 68) (dk dt_X0_goOn 41 rfl) rfl rfl H
  · replace H := H.2 c
    refine a_iload_n (pc := 52) (dk dt_X0_goOn 33 rfl) rfl ?_
    refine a_if_eq (pc := 53) (dk dt_X0_goOn 34 rfl) (tgt := 68) rfl ⟨fun c => ?_, fun c => ?_⟩
    · replace H := H.1 c
      exact a_vret (pc := 68) (dk dt_X0_goOn 41 rfl) rfl rfl H
    · replace H := H.2 c
      refine a_aload_n (pc := 56) (dk dt_X0_goOn 35 rfl) rfl ?_
      refine a_iload_n (pc := 57) (dk dt_X0_goOn 36 rfl) rfl ?_
      refine a_callVi (as := [iv x1]) (st := []) (pc := 58) (dk dt_X0_goOn 37 rfl) cl_RX0_152 ⟨Nat.le_of_ble_eq_true rfl, Nat.le_of_ble_eq_true rfl⟩ ⟨Nat.le_of_ble_eq_true rfl, Nat.le_of_ble_eq_true rfl⟩ cls_0 rfl cc_34 rfl rfl rfl (Nat.le_of_ble_eq_true rfl) (Call.mono H fun r1 h2 H => ?_)
      refine a_istore_n (pc := 61) (dk dt_X0_goOn 38 rfl) (by decide) rfl rfl ?_
      refine a_iinc (pc := 62) (dk dt_X0_goOn 39 rfl) (by decide) rfl rfl rfl ?_
      refine a_goto (pc := 65) (dk dt_X0_goOn 40 rfl) (tgt := 46) rfl ?_
      exact a_pick [0, 1, 2, 3] rfl H
set_option maxHeartbeats 40000000 in
theorem U_X0_beginDue_34_0 {G : GG} {Φ : Int → Hp → Prop} {h : Hp} (H : AT G m_X0_beginDue 4 [(0, rv 34), (1, iv 0), (2, iv 0)] [] h Φ) : AT G m_X0_beginDue 0 [(0, rv 34)] [] h Φ := by
  refine a_iconst (pc := 0) (dk dt_X0_beginDue 0 rfl) (ik rfl) ?_
  refine a_istore_n (pc := 1) (dk dt_X0_beginDue 1 rfl) (by decide) rfl rfl ?_
  refine a_iconst (pc := 2) (dk dt_X0_beginDue 2 rfl) (ik rfl) ?_
  refine a_istore_n (pc := 3) (dk dt_X0_beginDue 3 rfl) (by decide) rfl rfl ?_
  exact a_pick [0, 1, 2] rfl H
set_option maxHeartbeats 40000000 in
theorem U_X0_beginDue_34_4 {G : GG} {Φ : Int → Hp → Prop} {h : Hp} {x1 : Int} {x2 : Int} (H : (((h 34 14) ≤ x2 → Φ 0 (up h 34 14 x1)) ∧ (x2 < (h 34 14) → (0 ≤ x2 ∧ x2 < 10) ∧ (((h 52 x2) ≠ (h 34 4) → (0 ≤ x2 ∧ x2 < 10) ∧ (0 ≤ x1 ∧ x1 < 10) ∧ (0 ≤ x2 ∧ x2 < 10) ∧ (0 ≤ x1 ∧ x1 < 10) ∧ AT G m_X0_beginDue 4 [(0, rv 34), (1, iv (w32 (x1 + 1))), (2, iv (w32 (x2 + 1)))] [] (up (up h 52 x1 (h 52 x2)) 53 x1 (h 53 x2)) Φ) ∧ ((h 52 x2) = (h 34 4) → (0 ≤ x2 ∧ x2 < 10) ∧ (0 ≤ (h 53 x2) ∧ (h 53 x2) < 8) ∧ (0 ≤ (h 53 x2) ∧ (h 53 x2) < 8) ∧ AT G m_X0_beginDue 4 [(0, rv 34), (1, iv x1), (2, iv (w32 (x2 + 1)))] [] (up (up h 50 (h 53 x2) 0) 51 (h 53 x2) 0) Φ))))) : AT G m_X0_beginDue 4 [(0, rv 34), (1, iv x1), (2, iv x2)] [] h Φ := by
  refine a_iload_n (pc := 4) (dk dt_X0_beginDue 4 rfl) rfl ?_
  refine a_aload_n (pc := 5) (dk dt_X0_beginDue 5 rfl) rfl ?_
  refine a_geti (pc := 6) (dk dt_X0_beginDue 6 rfl) cls_0 fl_RX0_125 cf_34_14 ?_
  refine a_icmp_ge (pc := 9) (dk dt_X0_beginDue 7 rfl) (tgt := 71) rfl ⟨fun c => ?_, fun c => ?_⟩
  · replace H := H.1 c
    refine a_aload_n (pc := 71) (dk dt_X0_beginDue 41 rfl) rfl ?_
    refine a_iload_n (pc := 72) (dk dt_X0_beginDue 42 rfl) rfl ?_
    refine a_puti (pc := 73) (dk dt_X0_beginDue 43 rfl) cls_0 fl_RX0_125 cf_34_14 rfl rfl ?_
    exact a_vret (pc := 76) (dk dt_X0_beginDue 44 rfl) rfl rfl H
  · replace H := H.2 c
    refine a_aload_n (pc := 12) (dk dt_X0_beginDue 8 rfl) rfl ?_
    refine a_getr (r := 51) (pc := 13) (dk dt_X0_beginDue 9 rfl) cls_0 fl_RX0_33 cf_34_12 ?_
    refine a_iload_n (pc := 16) (dk dt_X0_beginDue 10 rfl) rfl ?_
    refine a_iald (pc := 17) (dk dt_X0_beginDue 11 rfl) ar_52 ⟨H.1, ?_⟩
    replace H := H.2
    refine a_aload_n (pc := 18) (dk dt_X0_beginDue 12 rfl) rfl ?_
    refine a_geti (pc := 19) (dk dt_X0_beginDue 13 rfl) cls_0 fl_RX0_76 cf_34_4 ?_
    refine a_icmp_ne (pc := 22) (dk dt_X0_beginDue 14 rfl) (tgt := 38) rfl ⟨fun c => ?_, fun c => ?_⟩
    · replace H := H.1 c
      refine a_aload_n (pc := 38) (dk dt_X0_beginDue 22 rfl) rfl ?_
      refine a_getr (r := 51) (pc := 39) (dk dt_X0_beginDue 23 rfl) cls_0 fl_RX0_33 cf_34_12 ?_
      refine a_iload_n (pc := 42) (dk dt_X0_beginDue 24 rfl) rfl ?_
      refine a_aload_n (pc := 43) (dk dt_X0_beginDue 25 rfl) rfl ?_
      refine a_getr (r := 51) (pc := 44) (dk dt_X0_beginDue 26 rfl) cls_0 fl_RX0_33 cf_34_12 ?_
      refine a_iload_n (pc := 47) (dk dt_X0_beginDue 27 rfl) rfl ?_
      refine a_iald (pc := 48) (dk dt_X0_beginDue 28 rfl) ar_52 ⟨H.1, ?_⟩
      replace H := H.2
      refine a_iast (pc := 49) (dk dt_X0_beginDue 29 rfl) ar_52 ⟨H.1, ?_⟩
      replace H := H.2
      refine a_aload_n (pc := 50) (dk dt_X0_beginDue 30 rfl) rfl ?_
      refine a_getr (r := 52) (pc := 51) (dk dt_X0_beginDue 31 rfl) cls_0 fl_RX0_36 cf_34_13 ?_
      refine a_iload_n (pc := 54) (dk dt_X0_beginDue 32 rfl) rfl ?_
      refine a_aload_n (pc := 55) (dk dt_X0_beginDue 33 rfl) rfl ?_
      refine a_getr (r := 52) (pc := 56) (dk dt_X0_beginDue 34 rfl) cls_0 fl_RX0_36 cf_34_13 ?_
      refine a_iload_n (pc := 59) (dk dt_X0_beginDue 35 rfl) rfl ?_
      refine a_iald (pc := 60) (dk dt_X0_beginDue 36 rfl) ar_53 ⟨H.1, ?_⟩
      replace H := H.2
      refine a_top (y := (h 53 x2)) (by simp [up, cpy]) ?_
      refine a_iast (pc := 61) (dk dt_X0_beginDue 37 rfl) ar_53 ⟨H.1, ?_⟩
      replace H := H.2
      refine a_iinc (pc := 62) (dk dt_X0_beginDue 38 rfl) (by decide) rfl rfl rfl ?_
      refine a_iinc (pc := 65) (dk dt_X0_beginDue 39 rfl) (by decide) rfl rfl rfl ?_
      refine a_goto (pc := 68) (dk dt_X0_beginDue 40 rfl) (tgt := 4) rfl ?_
      exact a_pick [0, 1, 2] rfl H
    · replace H := H.2 c
      refine a_aload_n (pc := 25) (dk dt_X0_beginDue 15 rfl) rfl ?_
      refine a_aload_n (pc := 26) (dk dt_X0_beginDue 16 rfl) rfl ?_
      refine a_getr (r := 52) (pc := 27) (dk dt_X0_beginDue 17 rfl) cls_0 fl_RX0_36 cf_34_13 ?_
      refine a_iload_n (pc := 30) (dk dt_X0_beginDue 18 rfl) rfl ?_
      refine a_iald (pc := 31) (dk dt_X0_beginDue 19 rfl) ar_53 ⟨H.1, ?_⟩
      replace H := H.2
      refine a_callVv (as := [iv (h 53 x2)]) (st := []) (pc := 32) (dk dt_X0_beginDue 20 rfl) cl_RX0_128 ⟨Nat.le_of_ble_eq_true rfl, Nat.le_of_ble_eq_true rfl⟩ ⟨Nat.le_of_ble_eq_true rfl, Nat.le_of_ble_eq_true rfl⟩ cls_0 rfl cc_34 rfl rfl rfl (Nat.le_of_ble_eq_true rfl) (Call.of rfl (Nat.le_of_ble_eq_true rfl) rfl ?_)
      refine a_aload_n (pc := 0) (dk dt_X0_begin 0 rfl) rfl ?_
      refine a_getr (r := 49) (pc := 1) (dk dt_X0_begin 1 rfl) cls_0 fl_RX0_27 cf_34_10 ?_
      refine a_iload_n (pc := 4) (dk dt_X0_begin 2 rfl) rfl ?_
      refine a_iconst (pc := 5) (dk dt_X0_begin 3 rfl) (ik rfl) ?_
      refine a_iast (pc := 6) (dk dt_X0_begin 4 rfl) ar_50 ⟨H.1, ?_⟩
      replace H := H.2
      refine a_aload_n (pc := 7) (dk dt_X0_begin 5 rfl) rfl ?_
      refine a_getr (r := 50) (pc := 8) (dk dt_X0_begin 6 rfl) cls_0 fl_RX0_30 cf_34_11 ?_
      refine a_iload_n (pc := 11) (dk dt_X0_begin 7 rfl) rfl ?_
      refine a_iconst (pc := 12) (dk dt_X0_begin 8 rfl) (ik rfl) ?_
      refine a_iast (pc := 13) (dk dt_X0_begin 9 rfl) ar_51 ⟨H.1, ?_⟩
      replace H := H.2
      refine a_vret (pc := 14) (dk dt_X0_begin 10 rfl) rfl rfl ?_
      show ATW _ _ _ _ _ _ _ _ _ _
      refine a_goto (pc := 35) (dk dt_X0_beginDue 21 rfl) (tgt := 65) rfl ?_
      refine a_iinc (pc := 65) (dk dt_X0_beginDue 39 rfl) (by decide) rfl rfl rfl ?_
      refine a_goto (pc := 68) (dk dt_X0_beginDue 40 rfl) (tgt := 4) rfl ?_
      exact a_pick [0, 1, 2] rfl H
set_option maxHeartbeats 40000000 in
theorem U_X0_ready_34_0 {G : GG} {Φ : Int → Hp → Prop} {h : Hp} {x1 : Int} (H : Call G m_X3_isThere [rv 43, iv (w32 (x1 * 30))] h (fun r1 h2 => ((r1 = 0 → Φ 0 h2) ∧ (r1 ≠ 0 → Call G m_X0_install [rv 34, iv x1, rv 43, iv (w32 (x1 * 30))] h2 (fun _ h4 => Call G m_X3_erase [rv 43, iv (w32 (x1 * 30)), iv (w32 ((w32 (x1 * 30)) + 30))] h4 (fun _ h6 => Φ 0 h6)))))) : AT G m_X0_ready 0 [(0, rv 34), (1, iv x1)] [] h Φ := by
  refine a_iload_n (pc := 0) (dk dt_X0_ready 0 rfl) rfl ?_
  refine a_bipush (pc := 1) (dk dt_X0_ready 1 rfl) (ik rfl) (bpk rfl) ?_
  refine a_imul (pc := 3) (dk dt_X0_ready 2 rfl) ?_
  refine a_istore_n (pc := 4) (dk dt_X0_ready 3 rfl) (by decide) rfl rfl ?_
  refine a_aload_n (pc := 5) (dk dt_X0_ready 4 rfl) rfl ?_
  refine a_getr (r := 42) (pc := 6) (dk dt_X0_ready 5 rfl) cls_0 fl_RX0_24 cf_34_9 ?_
  refine a_iload_n (pc := 9) (dk dt_X0_ready 6 rfl) rfl ?_
  refine a_callVi (as := [iv (w32 (x1 * 30))]) (st := []) (pc := 10) (dk dt_X0_ready 7 rfl) cl_RX0_155 ⟨Nat.le_of_ble_eq_true rfl, Nat.le_of_ble_eq_true rfl⟩ ⟨Nat.le_of_ble_eq_true rfl, Nat.le_of_ble_eq_true rfl⟩ cls_3 rfl cc_43 rfl rfl rfl (Nat.le_of_ble_eq_true rfl) (Call.mono H fun r1 h2 H => ?_)
  refine a_if_eq (pc := 13) (dk dt_X0_ready 8 rfl) (tgt := 38) rfl ⟨fun c => ?_, fun c => ?_⟩
  · replace H := H.1 c
    exact a_vret (pc := 38) (dk dt_X0_ready 22 rfl) rfl rfl H
  · replace H := H.2 c
    refine a_aload_n (pc := 16) (dk dt_X0_ready 9 rfl) rfl ?_
    refine a_iload_n (pc := 17) (dk dt_X0_ready 10 rfl) rfl ?_
    refine a_aload_n (pc := 18) (dk dt_X0_ready 11 rfl) rfl ?_
    refine a_getr (r := 42) (pc := 19) (dk dt_X0_ready 12 rfl) cls_0 fl_RX0_24 cf_34_9 ?_
    refine a_iload_n (pc := 22) (dk dt_X0_ready 13 rfl) rfl ?_
    refine a_callVv (as := [iv x1, rv 43, iv (w32 (x1 * 30))]) (st := []) (pc := 23) (dk dt_X0_ready 14 rfl) cl_RX0_255 ⟨Nat.le_of_ble_eq_true rfl, Nat.le_of_ble_eq_true rfl⟩ ⟨Nat.le_of_ble_eq_true rfl, Nat.le_of_ble_eq_true rfl⟩ cls_0 rfl cc_34 rfl rfl rfl (Nat.le_of_ble_eq_true rfl) (Call.mono H fun _ h4 H => ?_)
    refine a_aload_n (pc := 26) (dk dt_X0_ready 15 rfl) rfl ?_
    refine a_getr (r := 42) (pc := 27) (dk dt_X0_ready 16 rfl) cls_0 fl_RX0_24 cf_34_9 ?_
    refine a_iload_n (pc := 30) (dk dt_X0_ready 17 rfl) rfl ?_
    refine a_iload_n (pc := 31) (dk dt_X0_ready 18 rfl) rfl ?_
    refine a_bipush (pc := 32) (dk dt_X0_ready 19 rfl) (ik rfl) (bpk rfl) ?_
    refine a_iadd (pc := 34) (dk dt_X0_ready 20 rfl) ?_
    refine a_callVv (as := [iv (w32 (x1 * 30)), iv (w32 ((w32 (x1 * 30)) + 30))]) (st := []) (pc := 35) (dk dt_X0_ready 21 rfl) cl_RX0_139 ⟨Nat.le_of_ble_eq_true rfl, Nat.le_of_ble_eq_true rfl⟩ ⟨Nat.le_of_ble_eq_true rfl, Nat.le_of_ble_eq_true rfl⟩ cls_3 rfl cc_43 rfl rfl rfl (Nat.le_of_ble_eq_true rfl) (Call.mono H fun _ h6 H => ?_)
    exact a_vret (pc := 38) (dk dt_X0_ready 22 rfl) rfl rfl H
set_option maxHeartbeats 40000000 in
theorem U_X0_perform_34_68_0 {G : GG} {Φ : Int → Hp → Prop} {h : Hp} {x2 : Int} (H : (0 ≤ x2 ∧ x2 < 8) ∧ (0 ≤ x2 ∧ x2 < 8) ∧ ((((h 69 x2) = 6 ∨ (h 69 x2) = 7) → (0 ≤ x2 ∧ x2 < 8) ∧ (((h 69 x2) ≠ 6 → (0 ≤ (h 72 x2) ∧ (h 72 x2) < 8) ∧ Φ 1 (up h 21 (h 72 x2) 0)) ∧ ((h 69 x2) = 6 → (0 ≤ (h 72 x2) ∧ (h 72 x2) < 8) ∧ Φ 1 (up h 21 (h 72 x2) 1)))) ∧ (((h 69 x2) = 8) → (0 ≤ x2 ∧ x2 < 8) ∧ Call G m_X5_write [rv 24, iv (w32 ((h 70 x2) - 25)), iv (h 72 x2)] h (fun _ h2 => Φ 1 h2)) ∧ (((h 69 x2) = 9) → (0 ≤ x2 ∧ x2 < 8) ∧ Call G m_X0_add [rv 34, iv (w32 ((h 70 x2) - 25)), iv (h 72 x2)] h (fun r3 h4 => (r3 = 0 ∨ r3 = 1) ∧ Φ r3 h4)) ∧ (((h 69 x2) = 10) → Call G m_X0_record [rv 34, iv (h 72 x2)] h (fun r5 h6 => (r5 = 0 ∨ r5 = 1) ∧ Φ r5 h6)) ∧ (((h 69 x2) = 11) → Call G m_X0_goTo [rv 34, iv (h 72 x2)] h (fun _ h8 => Φ 1 h8)) ∧ (((h 69 x2) = 12) → (0 ≤ (h 72 x2) ∧ (h 72 x2) < 8) ∧ (0 ≤ (h 72 x2) ∧ (h 72 x2) < 8) ∧ Φ 1 (up (up h 50 (h 72 x2) 0) 51 (h 72 x2) 0)) ∧ (((h 69 x2) = 13) → (0 ≤ (h 72 x2) ∧ (h 72 x2) < 8) ∧ (0 ≤ (h 72 x2) ∧ (h 72 x2) < 8) ∧ Φ 1 (up (up h 50 (h 72 x2) (-1)) 51 (h 72 x2) 0)) ∧ ((((h 69 x2) < 6 ∨ 13 < (h 69 x2))) → Φ 1 h))) : AT G m_X0_perform 0 [(0, rv 34), (1, rv 68), (2, iv x2)] [] h Φ := by
  refine a_aload_n (pc := 0) (dk dt_X0_perform 0 rfl) rfl ?_
  refine a_getr (r := 71) (pc := 1) (dk dt_X0_perform 1 rfl) cls_3 fl_RX0_161 cf_68_4 ?_
  refine a_iload_n (pc := 4) (dk dt_X0_perform 2 rfl) rfl ?_
  refine a_iald (pc := 5) (dk dt_X0_perform 3 rfl) ar_72 ⟨H.1, ?_⟩
  replace H := H.2
  refine a_istore_n (pc := 6) (dk dt_X0_perform 4 rfl) (by decide) rfl rfl ?_
  refine a_aload_n (pc := 7) (dk dt_X0_perform 5 rfl) rfl ?_
  refine a_getr (r := 68) (pc := 8) (dk dt_X0_perform 6 rfl) cls_3 fl_RX0_158 cf_68_1 ?_
  refine a_iload_n (pc := 11) (dk dt_X0_perform 7 rfl) rfl ?_
  refine a_iald (pc := 12) (dk dt_X0_perform 8 rfl) ar_69 ⟨H.1, ?_⟩
  replace H := H.2
  have B0 : ((h 69 x2) = 6 ∨ (h 69 x2) = 7) → AT G m_X0_perform 60 [(0, rv 34), (1, rv 68), (2, iv x2), (3, iv (h 72 x2))] [] h Φ := by
    intro c
    replace H := H.1 c
    refine a_aload_n (pc := 60) (dk dt_X0_perform 10 rfl) rfl ?_
    refine a_getr (r := 17) (pc := 61) (dk dt_X0_perform 11 rfl) cls_0 fl_RX0_58 cf_34_1 ?_
    refine a_getr (r := 20) (pc := 64) (dk dt_X0_perform 12 rfl) cls_8 fl_RX0_215 cf_18_7 ?_
    refine a_iload_n (pc := 67) (dk dt_X0_perform 13 rfl) rfl ?_
    refine a_aload_n (pc := 68) (dk dt_X0_perform 14 rfl) rfl ?_
    refine a_getr (r := 68) (pc := 69) (dk dt_X0_perform 15 rfl) cls_3 fl_RX0_158 cf_68_1 ?_
    refine a_iload_n (pc := 72) (dk dt_X0_perform 16 rfl) rfl ?_
    refine a_iald (pc := 73) (dk dt_X0_perform 17 rfl) ar_69 ⟨H.1, ?_⟩
    replace H := H.2
    refine a_bipush (pc := 74) (dk dt_X0_perform 18 rfl) (ik rfl) (bpk rfl) ?_
    refine a_icmp_ne (pc := 76) (dk dt_X0_perform 19 rfl) (tgt := 83) rfl ⟨fun c => ?_, fun c => ?_⟩
    · replace H := H.1 c
      refine a_iconst (pc := 83) (dk dt_X0_perform 22 rfl) (ik rfl) ?_
      refine a_zast (pc := 84) (dk dt_X0_perform 23 rfl) ar_21 ⟨H.1, by decide, ?_⟩
      replace H := H.2
      refine a_iconst (pc := 85) (dk dt_X0_perform 24 rfl) (ik rfl) ?_
      exact a_zret (pc := 86) (dk dt_X0_perform 25 rfl) rfl rfl ⟨by decide, H⟩
    · replace H := H.2 c
      refine a_iconst (pc := 79) (dk dt_X0_perform 20 rfl) (ik rfl) ?_
      refine a_goto (pc := 80) (dk dt_X0_perform 21 rfl) (tgt := 84) rfl ?_
      refine a_zast (pc := 84) (dk dt_X0_perform 23 rfl) ar_21 ⟨H.1, by decide, ?_⟩
      replace H := H.2
      refine a_iconst (pc := 85) (dk dt_X0_perform 24 rfl) (ik rfl) ?_
      exact a_zret (pc := 86) (dk dt_X0_perform 25 rfl) rfl rfl ⟨by decide, H⟩
  have B1 : ((h 69 x2) = 8) → AT G m_X0_perform 87 [(0, rv 34), (1, rv 68), (2, iv x2), (3, iv (h 72 x2))] [] h Φ := by
    intro c
    replace H := H.2.1 c
    refine a_aload_n (pc := 87) (dk dt_X0_perform 26 rfl) rfl ?_
    refine a_getr (r := 23) (pc := 88) (dk dt_X0_perform 27 rfl) cls_0 fl_RX0_62 cf_34_2 ?_
    refine a_aload_n (pc := 91) (dk dt_X0_perform 28 rfl) rfl ?_
    refine a_getr (r := 69) (pc := 92) (dk dt_X0_perform 29 rfl) cls_3 fl_RX0_182 cf_68_2 ?_
    refine a_iload_n (pc := 95) (dk dt_X0_perform 30 rfl) rfl ?_
    refine a_iald (pc := 96) (dk dt_X0_perform 31 rfl) ar_70 ⟨H.1, ?_⟩
    replace H := H.2
    refine a_bipush (pc := 97) (dk dt_X0_perform 32 rfl) (ik rfl) (bpk rfl) ?_
    refine a_isub (pc := 99) (dk dt_X0_perform 33 rfl) ?_
    refine a_iload_n (pc := 100) (dk dt_X0_perform 34 rfl) rfl ?_
    refine a_callVv (as := [iv (w32 ((h 70 x2) - 25)), iv (h 72 x2)]) (st := []) (pc := 101) (dk dt_X0_perform 35 rfl) cl_RX0_218 ⟨Nat.le_of_ble_eq_true rfl, Nat.le_of_ble_eq_true rfl⟩ ⟨Nat.le_of_ble_eq_true rfl, Nat.le_of_ble_eq_true rfl⟩ cls_5 rfl cc_24 rfl rfl rfl (Nat.le_of_ble_eq_true rfl) (Call.mono H fun _ h2 H => ?_)
    refine a_iconst (pc := 104) (dk dt_X0_perform 36 rfl) (ik rfl) ?_
    exact a_zret (pc := 105) (dk dt_X0_perform 37 rfl) rfl rfl ⟨by decide, H⟩
  have B2 : ((h 69 x2) = 9) → AT G m_X0_perform 106 [(0, rv 34), (1, rv 68), (2, iv x2), (3, iv (h 72 x2))] [] h Φ := by
    intro c
    replace H := H.2.2.1 c
    refine a_aload_n (pc := 106) (dk dt_X0_perform 38 rfl) rfl ?_
    refine a_aload_n (pc := 107) (dk dt_X0_perform 39 rfl) rfl ?_
    refine a_getr (r := 69) (pc := 108) (dk dt_X0_perform 40 rfl) cls_3 fl_RX0_182 cf_68_2 ?_
    refine a_iload_n (pc := 111) (dk dt_X0_perform 41 rfl) rfl ?_
    refine a_iald (pc := 112) (dk dt_X0_perform 42 rfl) ar_70 ⟨H.1, ?_⟩
    replace H := H.2
    refine a_bipush (pc := 113) (dk dt_X0_perform 43 rfl) (ik rfl) (bpk rfl) ?_
    refine a_isub (pc := 115) (dk dt_X0_perform 44 rfl) ?_
    refine a_iload_n (pc := 116) (dk dt_X0_perform 45 rfl) rfl ?_
    refine a_callVi (as := [iv (w32 ((h 70 x2) - 25)), iv (h 72 x2)]) (st := []) (pc := 117) (dk dt_X0_perform 46 rfl) cl_RX0_221 ⟨Nat.le_of_ble_eq_true rfl, Nat.le_of_ble_eq_true rfl⟩ ⟨Nat.le_of_ble_eq_true rfl, Nat.le_of_ble_eq_true rfl⟩ cls_0 rfl cc_34 rfl rfl rfl (Nat.le_of_ble_eq_true rfl) (Call.mono H fun r3 h4 H => ?_)
    exact a_zret (pc := 120) (dk dt_X0_perform 47 rfl) rfl rfl H
  have B3 : ((h 69 x2) = 10) → AT G m_X0_perform 121 [(0, rv 34), (1, rv 68), (2, iv x2), (3, iv (h 72 x2))] [] h Φ := by
    intro c
    replace H := H.2.2.2.1 c
    refine a_aload_n (pc := 121) (dk dt_X0_perform 48 rfl) rfl ?_
    refine a_iload_n (pc := 122) (dk dt_X0_perform 49 rfl) rfl ?_
    refine a_callVi (as := [iv (h 72 x2)]) (st := []) (pc := 123) (dk dt_X0_perform 50 rfl) cl_RX0_225 ⟨Nat.le_of_ble_eq_true rfl, Nat.le_of_ble_eq_true rfl⟩ ⟨Nat.le_of_ble_eq_true rfl, Nat.le_of_ble_eq_true rfl⟩ cls_0 rfl cc_34 rfl rfl rfl (Nat.le_of_ble_eq_true rfl) (Call.mono H fun r5 h6 H => ?_)
    exact a_zret (pc := 126) (dk dt_X0_perform 51 rfl) rfl rfl H
  have B4 : ((h 69 x2) = 11) → AT G m_X0_perform 127 [(0, rv 34), (1, rv 68), (2, iv x2), (3, iv (h 72 x2))] [] h Φ := by
    intro c
    replace H := H.2.2.2.2.1 c
    refine a_aload_n (pc := 127) (dk dt_X0_perform 52 rfl) rfl ?_
    refine a_iload_n (pc := 128) (dk dt_X0_perform 53 rfl) rfl ?_
    refine a_callVv (as := [iv (h 72 x2)]) (st := []) (pc := 129) (dk dt_X0_perform 54 rfl) cl_RX0_228 ⟨Nat.le_of_ble_eq_true rfl, Nat.le_of_ble_eq_true rfl⟩ ⟨Nat.le_of_ble_eq_true rfl, Nat.le_of_ble_eq_true rfl⟩ cls_0 rfl cc_34 rfl rfl rfl (Nat.le_of_ble_eq_true rfl) (Call.mono H fun _ h8 H => ?_)
    refine a_iconst (pc := 132) (dk dt_X0_perform 55 rfl) (ik rfl) ?_
    exact a_zret (pc := 133) (dk dt_X0_perform 56 rfl) rfl rfl ⟨by decide, H⟩
  have B5 : ((h 69 x2) = 12) → AT G m_X0_perform 134 [(0, rv 34), (1, rv 68), (2, iv x2), (3, iv (h 72 x2))] [] h Φ := by
    intro c
    replace H := H.2.2.2.2.2.1 c
    refine a_aload_n (pc := 134) (dk dt_X0_perform 57 rfl) rfl ?_
    refine a_iload_n (pc := 135) (dk dt_X0_perform 58 rfl) rfl ?_
    refine a_callVv (as := [iv (h 72 x2)]) (st := []) (pc := 136) (dk dt_X0_perform 59 rfl) cl_RX0_128 ⟨Nat.le_of_ble_eq_true rfl, Nat.le_of_ble_eq_true rfl⟩ ⟨Nat.le_of_ble_eq_true rfl, Nat.le_of_ble_eq_true rfl⟩ cls_0 rfl cc_34 rfl rfl rfl (Nat.le_of_ble_eq_true rfl) (Call.of rfl (Nat.le_of_ble_eq_true rfl) rfl ?_)
    refine a_aload_n (pc := 0) (dk dt_X0_begin 0 rfl) rfl ?_
    refine a_getr (r := 49) (pc := 1) (dk dt_X0_begin 1 rfl) cls_0 fl_RX0_27 cf_34_10 ?_
    refine a_iload_n (pc := 4) (dk dt_X0_begin 2 rfl) rfl ?_
    refine a_iconst (pc := 5) (dk dt_X0_begin 3 rfl) (ik rfl) ?_
    refine a_iast (pc := 6) (dk dt_X0_begin 4 rfl) ar_50 ⟨H.1, ?_⟩
    replace H := H.2
    refine a_aload_n (pc := 7) (dk dt_X0_begin 5 rfl) rfl ?_
    refine a_getr (r := 50) (pc := 8) (dk dt_X0_begin 6 rfl) cls_0 fl_RX0_30 cf_34_11 ?_
    refine a_iload_n (pc := 11) (dk dt_X0_begin 7 rfl) rfl ?_
    refine a_iconst (pc := 12) (dk dt_X0_begin 8 rfl) (ik rfl) ?_
    refine a_iast (pc := 13) (dk dt_X0_begin 9 rfl) ar_51 ⟨H.1, ?_⟩
    replace H := H.2
    refine a_vret (pc := 14) (dk dt_X0_begin 10 rfl) rfl rfl ?_
    show ATW _ _ _ _ _ _ _ _ _ _
    refine a_iconst (pc := 139) (dk dt_X0_perform 60 rfl) (ik rfl) ?_
    exact a_zret (pc := 140) (dk dt_X0_perform 61 rfl) rfl rfl ⟨by decide, H⟩
  have B6 : ((h 69 x2) = 13) → AT G m_X0_perform 141 [(0, rv 34), (1, rv 68), (2, iv x2), (3, iv (h 72 x2))] [] h Φ := by
    intro c
    replace H := H.2.2.2.2.2.2.1 c
    refine a_aload_n (pc := 141) (dk dt_X0_perform 62 rfl) rfl ?_
    refine a_iload_n (pc := 142) (dk dt_X0_perform 63 rfl) rfl ?_
    refine a_callVv (as := [iv (h 72 x2)]) (st := []) (pc := 143) (dk dt_X0_perform 64 rfl) cl_RX0_143 ⟨Nat.le_of_ble_eq_true rfl, Nat.le_of_ble_eq_true rfl⟩ ⟨Nat.le_of_ble_eq_true rfl, Nat.le_of_ble_eq_true rfl⟩ cls_0 rfl cc_34 rfl rfl rfl (Nat.le_of_ble_eq_true rfl) (Call.of rfl (Nat.le_of_ble_eq_true rfl) rfl ?_)
    refine a_aload_n (pc := 0) (dk dt_X0_stop 0 rfl) rfl ?_
    refine a_getr (r := 49) (pc := 1) (dk dt_X0_stop 1 rfl) cls_0 fl_RX0_27 cf_34_10 ?_
    refine a_iload_n (pc := 4) (dk dt_X0_stop 2 rfl) rfl ?_
    refine a_iconst (pc := 5) (dk dt_X0_stop 3 rfl) (ik rfl) ?_
    refine a_iast (pc := 6) (dk dt_X0_stop 4 rfl) ar_50 ⟨H.1, ?_⟩
    replace H := H.2
    refine a_aload_n (pc := 7) (dk dt_X0_stop 5 rfl) rfl ?_
    refine a_getr (r := 50) (pc := 8) (dk dt_X0_stop 6 rfl) cls_0 fl_RX0_30 cf_34_11 ?_
    refine a_iload_n (pc := 11) (dk dt_X0_stop 7 rfl) rfl ?_
    refine a_iconst (pc := 12) (dk dt_X0_stop 8 rfl) (ik rfl) ?_
    refine a_iast (pc := 13) (dk dt_X0_stop 9 rfl) ar_51 ⟨H.1, ?_⟩
    replace H := H.2
    refine a_vret (pc := 14) (dk dt_X0_stop 10 rfl) rfl rfl ?_
    show ATW _ _ _ _ _ _ _ _ _ _
    refine a_iconst (pc := 146) (dk dt_X0_perform 65 rfl) (ik rfl) ?_
    exact a_zret (pc := 147) (dk dt_X0_perform 66 rfl) rfl rfl ⟨by decide, H⟩
  have BD : (((h 69 x2) < 6 ∨ 13 < (h 69 x2))) → AT G m_X0_perform 148 [(0, rv 34), (1, rv 68), (2, iv x2), (3, iv (h 72 x2))] [] h Φ := by
    intro c
    replace H := H.2.2.2.2.2.2.2 c
    refine a_iconst (pc := 148) (dk dt_X0_perform 67 rfl) (ik rfl) ?_
    exact a_zret (pc := 149) (dk dt_X0_perform 68 rfl) rfl rfl ⟨by decide, H⟩
  exact a_tsw [60, 60, 87, 106, 121, 127, 134, 141] (pc := 13) (dk dt_X0_perform 9 rfl) (by decide) (dt := 148) rfl (by decide) ⟨⟨fun c => B0 (Or.inl c), fun c => B0 (Or.inr (c)), fun c => B1 (c), fun c => B2 (c), fun c => B3 (c), fun c => B4 (c), fun c => B5 (c), fun c => B6 (c), trivial⟩, fun c => BD (c)⟩
set_option maxHeartbeats 40000000 in
theorem U_X0_act_34_0 {G : GG} {Φ : Int → Hp → Prop} {h : Hp} {x1 : Int} (H : (0 ≤ x1 ∧ x1 < 8) ∧ ((60 ≤ (w32 ((h 34 4) - (h 64 x1))) → (0 ≤ x1 ∧ x1 < 8) ∧ (0 ≤ x1 ∧ x1 < 8) ∧ (((h 62 x1) ≠ 8 → (0 ≤ x1 ∧ x1 < 8) ∧ (0 ≤ (h 62 x1) ∧ (h 62 x1) < 8) ∧ (0 ≤ (h 62 x1) ∧ (h 62 x1) < 8) ∧ Φ 0 (up (up (up (up h 64 x1 (h 34 4)) 34 5 (w32 ((h 34 5) + 1))) 50 (h 62 x1) 0) 51 (h 62 x1) 0)) ∧ ((h 62 x1) = 8 → Call G m_X0_goTo [rv 34, iv 0] (up (up h 64 x1 (h 34 4)) 34 5 (w32 ((h 34 5) + 1))) (fun _ h2 => Φ 0 h2)))) ∧ ((w32 ((h 34 4) - (h 64 x1))) < 60 → (0 ≤ x1 ∧ x1 < 8) ∧ Call G m_X0_goTo [rv 34, iv 0] (up (up h 64 x1 (h 34 4)) 34 5 (w32 ((h 34 5) + 1))) (fun _ h4 => Φ 0 h4)))) : AT G m_X0_act 0 [(0, rv 34), (1, iv x1)] [] h Φ := by
  refine a_aload_n (pc := 0) (dk dt_X0_act 0 rfl) rfl ?_
  refine a_geti (pc := 1) (dk dt_X0_act 1 rfl) cls_0 fl_RX0_76 cf_34_4 ?_
  refine a_aload_n (pc := 4) (dk dt_X0_act 2 rfl) rfl ?_
  refine a_getr (r := 63) (pc := 5) (dk dt_X0_act 3 rfl) cls_0 fl_RX0_51 cf_34_19 ?_
  refine a_iload_n (pc := 8) (dk dt_X0_act 4 rfl) rfl ?_
  refine a_iald (pc := 9) (dk dt_X0_act 5 rfl) ar_64 ⟨H.1, ?_⟩
  replace H := H.2
  refine a_isub (pc := 10) (dk dt_X0_act 6 rfl) ?_
  refine a_bipush (pc := 11) (dk dt_X0_act 7 rfl) (ik rfl) (bpk rfl) ?_
  refine a_icmp_ge (pc := 13) (dk dt_X0_act 8 rfl) (tgt := 20) rfl ⟨fun c => ?_, fun c => ?_⟩
  · replace H := H.1 c
    refine a_iconst (pc := 20) (dk dt_X0_act 11 rfl) (ik rfl) ?_
    refine a_istore_n (pc := 21) (dk dt_X0_act 12 rfl) (by decide) rfl rfl ?_
    refine a_aload_n (pc := 22) (dk dt_X0_act 13 rfl) rfl ?_
    refine a_getr (r := 63) (pc := 23) (dk dt_X0_act 14 rfl) cls_0 fl_RX0_51 cf_34_19 ?_
    refine a_iload_n (pc := 26) (dk dt_X0_act 15 rfl) rfl ?_
    refine a_aload_n (pc := 27) (dk dt_X0_act 16 rfl) rfl ?_
    refine a_geti (pc := 28) (dk dt_X0_act 17 rfl) cls_0 fl_RX0_76 cf_34_4 ?_
    refine a_iast (pc := 31) (dk dt_X0_act 18 rfl) ar_64 ⟨H.1, ?_⟩
    replace H := H.2
    refine a_aload_n (pc := 32) (dk dt_X0_act 19 rfl) rfl ?_
    refine a_dup (pc := 33) (dk dt_X0_act 20 rfl) rfl ?_
    refine a_geti (pc := 34) (dk dt_X0_act 21 rfl) cls_0 fl_RX0_85 cf_34_5 ?_
    refine a_top (y := (h 34 5)) (by simp [up, cpy]) ?_
    refine a_iconst (pc := 37) (dk dt_X0_act 22 rfl) (ik rfl) ?_
    refine a_iadd (pc := 38) (dk dt_X0_act 23 rfl) ?_
    refine a_puti (pc := 39) (dk dt_X0_act 24 rfl) cls_0 fl_RX0_85 cf_34_5 rfl rfl ?_
    refine a_iload_n (pc := 42) (dk dt_X0_act 25 rfl) rfl ?_
    refine a_if_ne (pc := 43) (dk dt_X0_act 26 rfl) (tgt := 57) rfl ⟨fun c => absurd c (by decide), fun _ => ?_⟩
    refine a_aload_n (pc := 46) (dk dt_X0_act 27 rfl) rfl ?_
    refine a_getr (r := 61) (pc := 47) (dk dt_X0_act 28 rfl) cls_0 fl_RX0_45 cf_34_17 ?_
    refine a_iload_n (pc := 50) (dk dt_X0_act 29 rfl) rfl ?_
    refine a_iald (pc := 51) (dk dt_X0_act 30 rfl) ar_62 ⟨H.1, ?_⟩
    replace H := H.2
    refine a_top (y := (h 62 x1)) (by simp [up, cpy]) ?_
    refine a_bipush (pc := 52) (dk dt_X0_act 31 rfl) (ik rfl) (bpk rfl) ?_
    refine a_icmp_ne (pc := 54) (dk dt_X0_act 32 rfl) (tgt := 65) rfl ⟨fun c => ?_, fun c => ?_⟩
    · replace H := H.1 c
      refine a_aload_n (pc := 65) (dk dt_X0_act 37 rfl) rfl ?_
      refine a_aload_n (pc := 66) (dk dt_X0_act 38 rfl) rfl ?_
      refine a_getr (r := 61) (pc := 67) (dk dt_X0_act 39 rfl) cls_0 fl_RX0_45 cf_34_17 ?_
      refine a_iload_n (pc := 70) (dk dt_X0_act 40 rfl) rfl ?_
      refine a_iald (pc := 71) (dk dt_X0_act 41 rfl) ar_62 ⟨H.1, ?_⟩
      replace H := H.2
      refine a_top (y := (h 62 x1)) (by simp [up, cpy]) ?_
      refine a_callVv (as := [iv (h 62 x1)]) (st := []) (pc := 72) (dk dt_X0_act 42 rfl) cl_RX0_128 ⟨Nat.le_of_ble_eq_true rfl, Nat.le_of_ble_eq_true rfl⟩ ⟨Nat.le_of_ble_eq_true rfl, Nat.le_of_ble_eq_true rfl⟩ cls_0 rfl cc_34 rfl rfl rfl (Nat.le_of_ble_eq_true rfl) (Call.of rfl (Nat.le_of_ble_eq_true rfl) rfl ?_)
      refine a_aload_n (pc := 0) (dk dt_X0_begin 0 rfl) rfl ?_
      refine a_getr (r := 49) (pc := 1) (dk dt_X0_begin 1 rfl) cls_0 fl_RX0_27 cf_34_10 ?_
      refine a_iload_n (pc := 4) (dk dt_X0_begin 2 rfl) rfl ?_
      refine a_iconst (pc := 5) (dk dt_X0_begin 3 rfl) (ik rfl) ?_
      refine a_iast (pc := 6) (dk dt_X0_begin 4 rfl) ar_50 ⟨H.1, ?_⟩
      replace H := H.2
      refine a_aload_n (pc := 7) (dk dt_X0_begin 5 rfl) rfl ?_
      refine a_getr (r := 50) (pc := 8) (dk dt_X0_begin 6 rfl) cls_0 fl_RX0_30 cf_34_11 ?_
      refine a_iload_n (pc := 11) (dk dt_X0_begin 7 rfl) rfl ?_
      refine a_iconst (pc := 12) (dk dt_X0_begin 8 rfl) (ik rfl) ?_
      refine a_iast (pc := 13) (dk dt_X0_begin 9 rfl) ar_51 ⟨H.1, ?_⟩
      replace H := H.2
      refine a_vret (pc := 14) (dk dt_X0_begin 10 rfl) rfl rfl ?_
      show ATW _ _ _ _ _ _ _ _ _ _
      exact a_vret (pc := 75) (dk dt_X0_act 43 rfl) rfl rfl H
    · replace H := H.2 c
      refine a_aload_n (pc := 57) (dk dt_X0_act 33 rfl) rfl ?_
      refine a_iconst (pc := 58) (dk dt_X0_act 34 rfl) (ik rfl) ?_
      refine a_callVv (as := [iv 0]) (st := []) (pc := 59) (dk dt_X0_act 35 rfl) cl_RX0_228 ⟨Nat.le_of_ble_eq_true rfl, Nat.le_of_ble_eq_true rfl⟩ ⟨Nat.le_of_ble_eq_true rfl, Nat.le_of_ble_eq_true rfl⟩ cls_0 rfl cc_34 rfl rfl rfl (Nat.le_of_ble_eq_true rfl) (Call.mono H fun _ h2 H => ?_)
      refine a_goto (pc := 62) (dk dt_X0_act 36 rfl) (tgt := 75) rfl ?_
      exact a_vret (pc := 75) (dk dt_X0_act 43 rfl) rfl rfl H
  · replace H := H.2 c
    refine a_iconst (pc := 16) (dk dt_X0_act 9 rfl) (ik rfl) ?_
    refine a_goto (pc := 17) (dk dt_X0_act 10 rfl) (tgt := 21) rfl ?_
    refine a_istore_n (pc := 21) (dk dt_X0_act 12 rfl) (by decide) rfl rfl ?_
    refine a_aload_n (pc := 22) (dk dt_X0_act 13 rfl) rfl ?_
    refine a_getr (r := 63) (pc := 23) (dk dt_X0_act 14 rfl) cls_0 fl_RX0_51 cf_34_19 ?_
    refine a_iload_n (pc := 26) (dk dt_X0_act 15 rfl) rfl ?_
    refine a_aload_n (pc := 27) (dk dt_X0_act 16 rfl) rfl ?_
    refine a_geti (pc := 28) (dk dt_X0_act 17 rfl) cls_0 fl_RX0_76 cf_34_4 ?_
    refine a_iast (pc := 31) (dk dt_X0_act 18 rfl) ar_64 ⟨H.1, ?_⟩
    replace H := H.2
    refine a_aload_n (pc := 32) (dk dt_X0_act 19 rfl) rfl ?_
    refine a_dup (pc := 33) (dk dt_X0_act 20 rfl) rfl ?_
    refine a_geti (pc := 34) (dk dt_X0_act 21 rfl) cls_0 fl_RX0_85 cf_34_5 ?_
    refine a_top (y := (h 34 5)) (by simp [up, cpy]) ?_
    refine a_iconst (pc := 37) (dk dt_X0_act 22 rfl) (ik rfl) ?_
    refine a_iadd (pc := 38) (dk dt_X0_act 23 rfl) ?_
    refine a_puti (pc := 39) (dk dt_X0_act 24 rfl) cls_0 fl_RX0_85 cf_34_5 rfl rfl ?_
    refine a_iload_n (pc := 42) (dk dt_X0_act 25 rfl) rfl ?_
    refine a_if_ne (pc := 43) (dk dt_X0_act 26 rfl) (tgt := 57) rfl ⟨fun _ => ?_, fun c => absurd c (by decide)⟩
    refine a_aload_n (pc := 57) (dk dt_X0_act 33 rfl) rfl ?_
    refine a_iconst (pc := 58) (dk dt_X0_act 34 rfl) (ik rfl) ?_
    refine a_callVv (as := [iv 0]) (st := []) (pc := 59) (dk dt_X0_act 35 rfl) cl_RX0_228 ⟨Nat.le_of_ble_eq_true rfl, Nat.le_of_ble_eq_true rfl⟩ ⟨Nat.le_of_ble_eq_true rfl, Nat.le_of_ble_eq_true rfl⟩ cls_0 rfl cc_34 rfl rfl rfl (Nat.le_of_ble_eq_true rfl) (Call.mono H fun _ h4 H => ?_)
    refine a_goto (pc := 62) (dk dt_X0_act 36 rfl) (tgt := 75) rfl ?_
    exact a_vret (pc := 75) (dk dt_X0_act 43 rfl) rfl rfl H
set_option maxHeartbeats 40000000 in
theorem U_X0_judge_34_54_0 {G : GG} {Φ : Int → Hp → Prop} {h : Hp} {x2 : Int} (H : (0 ≤ x2 ∧ x2 < 8) ∧ Call G m_X0_measure [rv 34, iv (h 56 x2)] h (fun r1 h2 => (0 ≤ x2 ∧ x2 < 8) ∧ ((r1 ≠ (-3) → (0 ≤ x2 ∧ x2 < 8) ∧ (((h2 57 x2) = 60 → (((h2 58 x2) ≤ r1 → Φ 0 h2) ∧ (r1 < (h2 58 x2) → Φ 1 h2))) ∧ ((h2 57 x2) ≠ 60 → (((h2 57 x2) = 61 → ((r1 ≠ (h2 58 x2) → Φ 0 h2) ∧ (r1 = (h2 58 x2) → Φ 1 h2))) ∧ ((h2 57 x2) ≠ 61 → ((r1 ≤ (h2 58 x2) → Φ 0 h2) ∧ ((h2 58 x2) < r1 → Φ 1 h2))))))) ∧ (r1 = (-3) → Φ (-3) h2)))) : AT G m_X0_judge 0 [(0, rv 34), (1, rv 54), (2, iv x2)] [] h Φ := by
  refine a_aload_n (pc := 0) (dk dt_X0_judge 0 rfl) rfl ?_
  refine a_aload_n (pc := 1) (dk dt_X0_judge 1 rfl) rfl ?_
  refine a_getr (r := 55) (pc := 2) (dk dt_X0_judge 2 rfl) cls_3 fl_RX0_182 cf_54_2 ?_
  refine a_iload_n (pc := 5) (dk dt_X0_judge 3 rfl) rfl ?_
  refine a_iald (pc := 6) (dk dt_X0_judge 4 rfl) ar_56 ⟨H.1, ?_⟩
  replace H := H.2
  refine a_callVi (as := [iv (h 56 x2)]) (st := []) (pc := 7) (dk dt_X0_judge 5 rfl) cl_RX0_185 ⟨Nat.le_of_ble_eq_true rfl, Nat.le_of_ble_eq_true rfl⟩ ⟨Nat.le_of_ble_eq_true rfl, Nat.le_of_ble_eq_true rfl⟩ cls_0 rfl cc_34 rfl rfl rfl (Nat.le_of_ble_eq_true rfl) (Call.mono H fun r1 h2 H => ?_)
  refine a_istore_n (pc := 10) (dk dt_X0_judge 6 rfl) (by decide) rfl rfl ?_
  refine a_aload_n (pc := 11) (dk dt_X0_judge 7 rfl) rfl ?_
  refine a_getr (r := 57) (pc := 12) (dk dt_X0_judge 8 rfl) cls_3 fl_RX0_161 cf_54_4 ?_
  refine a_iload_n (pc := 15) (dk dt_X0_judge 9 rfl) rfl ?_
  refine a_iald (pc := 16) (dk dt_X0_judge 10 rfl) ar_58 ⟨H.1, ?_⟩
  replace H := H.2
  refine a_istore (pc := 17) (dk dt_X0_judge 11 rfl) (by decide) rfl rfl ?_
  refine a_iload_n (pc := 19) (dk dt_X0_judge 12 rfl) rfl ?_
  refine a_bipush (pc := 20) (dk dt_X0_judge 13 rfl) (ik rfl) (bpk rfl) ?_
  refine a_icmp_ne (pc := 22) (dk dt_X0_judge 14 rfl) (tgt := 28) rfl ⟨fun c => ?_, fun c => ?_⟩
  · replace H := H.1 c
    refine a_aload_n (pc := 28) (dk dt_X0_judge 17 rfl) rfl ?_
    refine a_getr (r := 56) (pc := 29) (dk dt_X0_judge 18 rfl) cls_3 fl_RX0_188 cf_54_3 ?_
    refine a_iload_n (pc := 32) (dk dt_X0_judge 19 rfl) rfl ?_
    refine a_iald (pc := 33) (dk dt_X0_judge 20 rfl) ar_57 ⟨H.1, ?_⟩
    replace H := H.2
    refine a_lsw [(60, 75), (61, 60)] (pc := 34) (dk dt_X0_judge 21 rfl) (by decide) (by decide) (dt := 90) rfl ?_
    refine ⟨fun c => ?_, fun c => ?_⟩
    · replace H := H.1 c
      refine a_iload_n (pc := 75) (dk dt_X0_judge 30 rfl) rfl ?_
      refine a_iload (pc := 76) (dk dt_X0_judge 31 rfl) rfl ?_
      refine a_icmp_ge (pc := 78) (dk dt_X0_judge 32 rfl) (tgt := 85) rfl ⟨fun c => ?_, fun c => ?_⟩
      · replace H := H.1 c
        refine a_iconst (pc := 85) (dk dt_X0_judge 35 rfl) (ik rfl) ?_
        refine a_callNi (as := [iv 0]) (st := []) (pc := 86) (dk dt_X0_judge 36 rfl) cl_RX0_191 ⟨Nat.le_of_ble_eq_true rfl, Nat.le_of_ble_eq_true rfl⟩ ⟨Nat.le_of_ble_eq_true rfl, Nat.le_of_ble_eq_true rfl⟩ rfl rfl rfl (Nat.le_of_ble_eq_true rfl) (Call.of rfl (Nat.le_of_ble_eq_true rfl) rfl ?_)
        refine a_iload_n (pc := 0) (dk dt_X11_bit 0 rfl) rfl ?_
        refine a_if_eq (pc := 1) (dk dt_X11_bit 1 rfl) (tgt := 8) rfl ⟨fun _ => ?_, fun c => absurd c (by decide)⟩
        refine a_iconst (pc := 8) (dk dt_X11_bit 4 rfl) (ik rfl) ?_
        refine a_iret (pc := 9) (dk dt_X11_bit 5 rfl) rfl rfl ?_
        show ATW _ _ _ _ _ _ _ _ _ _
        exact a_iret (pc := 89) (dk dt_X0_judge 37 rfl) rfl rfl H
      · replace H := H.2 c
        refine a_iconst (pc := 81) (dk dt_X0_judge 33 rfl) (ik rfl) ?_
        refine a_goto (pc := 82) (dk dt_X0_judge 34 rfl) (tgt := 86) rfl ?_
        refine a_callNi (as := [iv 1]) (st := []) (pc := 86) (dk dt_X0_judge 36 rfl) cl_RX0_191 ⟨Nat.le_of_ble_eq_true rfl, Nat.le_of_ble_eq_true rfl⟩ ⟨Nat.le_of_ble_eq_true rfl, Nat.le_of_ble_eq_true rfl⟩ rfl rfl rfl (Nat.le_of_ble_eq_true rfl) (Call.of rfl (Nat.le_of_ble_eq_true rfl) rfl ?_)
        refine a_iload_n (pc := 0) (dk dt_X11_bit 0 rfl) rfl ?_
        refine a_if_eq (pc := 1) (dk dt_X11_bit 1 rfl) (tgt := 8) rfl ⟨fun c => absurd c (by decide), fun _ => ?_⟩
        refine a_iconst (pc := 4) (dk dt_X11_bit 2 rfl) (ik rfl) ?_
        refine a_goto (pc := 5) (dk dt_X11_bit 3 rfl) (tgt := 9) rfl ?_
        refine a_iret (pc := 9) (dk dt_X11_bit 5 rfl) rfl rfl ?_
        show ATW _ _ _ _ _ _ _ _ _ _
        exact a_iret (pc := 89) (dk dt_X0_judge 37 rfl) rfl rfl H
    · replace H := H.2 c
      refine ⟨fun c => ?_, fun c => ?_⟩
      · replace H := H.1 c
        refine a_iload_n (pc := 60) (dk dt_X0_judge 22 rfl) rfl ?_
        refine a_iload (pc := 61) (dk dt_X0_judge 23 rfl) rfl ?_
        refine a_icmp_ne (pc := 63) (dk dt_X0_judge 24 rfl) (tgt := 70) rfl ⟨fun c => ?_, fun c => ?_⟩
        · replace H := H.1 c
          refine a_iconst (pc := 70) (dk dt_X0_judge 27 rfl) (ik rfl) ?_
          refine a_callNi (as := [iv 0]) (st := []) (pc := 71) (dk dt_X0_judge 28 rfl) cl_RX0_191 ⟨Nat.le_of_ble_eq_true rfl, Nat.le_of_ble_eq_true rfl⟩ ⟨Nat.le_of_ble_eq_true rfl, Nat.le_of_ble_eq_true rfl⟩ rfl rfl rfl (Nat.le_of_ble_eq_true rfl) (Call.of rfl (Nat.le_of_ble_eq_true rfl) rfl ?_)
          refine a_iload_n (pc := 0) (dk dt_X11_bit 0 rfl) rfl ?_
          refine a_if_eq (pc := 1) (dk dt_X11_bit 1 rfl) (tgt := 8) rfl ⟨fun _ => ?_, fun c => absurd c (by decide)⟩
          refine a_iconst (pc := 8) (dk dt_X11_bit 4 rfl) (ik rfl) ?_
          refine a_iret (pc := 9) (dk dt_X11_bit 5 rfl) rfl rfl ?_
          show ATW _ _ _ _ _ _ _ _ _ _
          exact a_iret (pc := 74) (dk dt_X0_judge 29 rfl) rfl rfl H
        · replace H := H.2 c
          refine a_iconst (pc := 66) (dk dt_X0_judge 25 rfl) (ik rfl) ?_
          refine a_goto (pc := 67) (dk dt_X0_judge 26 rfl) (tgt := 71) rfl ?_
          refine a_callNi (as := [iv 1]) (st := []) (pc := 71) (dk dt_X0_judge 28 rfl) cl_RX0_191 ⟨Nat.le_of_ble_eq_true rfl, Nat.le_of_ble_eq_true rfl⟩ ⟨Nat.le_of_ble_eq_true rfl, Nat.le_of_ble_eq_true rfl⟩ rfl rfl rfl (Nat.le_of_ble_eq_true rfl) (Call.of rfl (Nat.le_of_ble_eq_true rfl) rfl ?_)
          refine a_iload_n (pc := 0) (dk dt_X11_bit 0 rfl) rfl ?_
          refine a_if_eq (pc := 1) (dk dt_X11_bit 1 rfl) (tgt := 8) rfl ⟨fun c => absurd c (by decide), fun _ => ?_⟩
          refine a_iconst (pc := 4) (dk dt_X11_bit 2 rfl) (ik rfl) ?_
          refine a_goto (pc := 5) (dk dt_X11_bit 3 rfl) (tgt := 9) rfl ?_
          refine a_iret (pc := 9) (dk dt_X11_bit 5 rfl) rfl rfl ?_
          show ATW _ _ _ _ _ _ _ _ _ _
          exact a_iret (pc := 74) (dk dt_X0_judge 29 rfl) rfl rfl H
      · replace H := H.2 c
        refine a_iload_n (pc := 90) (dk dt_X0_judge 38 rfl) rfl ?_
        refine a_iload (pc := 91) (dk dt_X0_judge 39 rfl) rfl ?_
        refine a_icmp_le (pc := 93) (dk dt_X0_judge 40 rfl) (tgt := 100) rfl ⟨fun c => ?_, fun c => ?_⟩
        · replace H := H.1 c
          refine a_iconst (pc := 100) (dk dt_X0_judge 43 rfl) (ik rfl) ?_
          refine a_callNi (as := [iv 0]) (st := []) (pc := 101) (dk dt_X0_judge 44 rfl) cl_RX0_191 ⟨Nat.le_of_ble_eq_true rfl, Nat.le_of_ble_eq_true rfl⟩ ⟨Nat.le_of_ble_eq_true rfl, Nat.le_of_ble_eq_true rfl⟩ rfl rfl rfl (Nat.le_of_ble_eq_true rfl) (Call.of rfl (Nat.le_of_ble_eq_true rfl) rfl ?_)
          refine a_iload_n (pc := 0) (dk dt_X11_bit 0 rfl) rfl ?_
          refine a_if_eq (pc := 1) (dk dt_X11_bit 1 rfl) (tgt := 8) rfl ⟨fun _ => ?_, fun c => absurd c (by decide)⟩
          refine a_iconst (pc := 8) (dk dt_X11_bit 4 rfl) (ik rfl) ?_
          refine a_iret (pc := 9) (dk dt_X11_bit 5 rfl) rfl rfl ?_
          show ATW _ _ _ _ _ _ _ _ _ _
          exact a_iret (pc := 104) (dk dt_X0_judge 45 rfl) rfl rfl H
        · replace H := H.2 c
          refine a_iconst (pc := 96) (dk dt_X0_judge 41 rfl) (ik rfl) ?_
          refine a_goto (pc := 97) (dk dt_X0_judge 42 rfl) (tgt := 101) rfl ?_
          refine a_callNi (as := [iv 1]) (st := []) (pc := 101) (dk dt_X0_judge 44 rfl) cl_RX0_191 ⟨Nat.le_of_ble_eq_true rfl, Nat.le_of_ble_eq_true rfl⟩ ⟨Nat.le_of_ble_eq_true rfl, Nat.le_of_ble_eq_true rfl⟩ rfl rfl rfl (Nat.le_of_ble_eq_true rfl) (Call.of rfl (Nat.le_of_ble_eq_true rfl) rfl ?_)
          refine a_iload_n (pc := 0) (dk dt_X11_bit 0 rfl) rfl ?_
          refine a_if_eq (pc := 1) (dk dt_X11_bit 1 rfl) (tgt := 8) rfl ⟨fun c => absurd c (by decide), fun _ => ?_⟩
          refine a_iconst (pc := 4) (dk dt_X11_bit 2 rfl) (ik rfl) ?_
          refine a_goto (pc := 5) (dk dt_X11_bit 3 rfl) (tgt := 9) rfl ?_
          refine a_iret (pc := 9) (dk dt_X11_bit 5 rfl) rfl rfl ?_
          show ATW _ _ _ _ _ _ _ _ _ _
          exact a_iret (pc := 104) (dk dt_X0_judge 45 rfl) rfl rfl H
  · replace H := H.2 c
    refine a_bipush (pc := 25) (dk dt_X0_judge 15 rfl) (ik rfl) (bpk rfl) ?_
    exact a_iret (pc := 27) (dk dt_X0_judge 16 rfl) rfl rfl H
set_option maxHeartbeats 40000000 in
theorem U_X0_doLine_34_0 {G : GG} {Φ : Int → Hp → Prop} {h : Hp} {x1 : Int} (H : (0 ≤ x1 ∧ x1 < 8) ∧ ((30 ≤ (h 50 x1) → (0 ≤ x1 ∧ x1 < 8) ∧ (0 ≤ x1 ∧ x1 < 8) ∧ Φ 0 (up (up h 50 x1 (-1)) 51 x1 0)) ∧ ((h 50 x1) < 30 → Call G m_X3_isThere [rv 36, iv (w32 ((w32 (x1 * 30)) + (h 50 x1)))] h (fun r1 h2 => ((r1 ≠ 0 → (0 ≤ (w32 ((w32 (x1 * 30)) + (h 50 x1))) ∧ (w32 ((w32 (x1 * 30)) + (h 50 x1))) < 240) ∧ ((((h2 37 (w32 ((w32 (x1 * 30)) + (h 50 x1)))) = 1) → (0 ≤ x1 ∧ x1 < 8) ∧ (0 ≤ (w32 ((w32 (x1 * 30)) + (h 50 x1))) ∧ (w32 ((w32 (x1 * 30)) + (h 50 x1))) < 240) ∧ (0 ≤ x1 ∧ x1 < 8) ∧ Φ 0 (up (up h2 50 x1 (w32 ((h 50 x1) + 1))) 51 x1 (h2 40 (w32 ((w32 (x1 * 30)) + (h 50 x1)))))) ∧ (((h2 37 (w32 ((w32 (x1 * 30)) + (h 50 x1)))) = 2 ∨ (h2 37 (w32 ((w32 (x1 * 30)) + (h 50 x1)))) = 3) → Call G m_X0_judge [rv 34, rv 36, iv (w32 ((w32 (x1 * 30)) + (h 50 x1)))] h2 (fun r3 h4 => Call G m_X0_decide [rv 34, iv x1, iv (w32 ((w32 (x1 * 30)) + (h 50 x1))), iv r3] h4 (fun r5 h6 => (r5 = 0 ∨ r5 = 1) ∧ Φ r5 h6))) ∧ (((h2 37 (w32 ((w32 (x1 * 30)) + (h 50 x1)))) = 4) → (0 ≤ (w32 ((w32 (x1 * 30)) + (h 50 x1))) ∧ (w32 ((w32 (x1 * 30)) + (h 50 x1))) < 240) ∧ (0 ≤ x1 ∧ x1 < 8) ∧ Φ 1 (up h2 50 x1 (h2 41 (w32 ((w32 (x1 * 30)) + (h 50 x1)))))) ∧ (((h2 37 (w32 ((w32 (x1 * 30)) + (h 50 x1)))) = 5) → (0 ≤ x1 ∧ x1 < 8) ∧ (0 ≤ x1 ∧ x1 < 8) ∧ Φ 0 (up (up h2 50 x1 (-1)) 51 x1 0)) ∧ ((((h2 37 (w32 ((w32 (x1 * 30)) + (h 50 x1)))) < 1 ∨ 5 < (h2 37 (w32 ((w32 (x1 * 30)) + (h 50 x1)))))) → (0 ≤ x1 ∧ x1 < 8) ∧ Call G m_X0_perform [rv 34, rv 36, iv (w32 ((w32 (x1 * 30)) + (h 50 x1)))] (up h2 50 x1 (w32 ((h 50 x1) + 1))) (fun r7 h8 => ((r7 ≠ 0 → (0 ≤ x1 ∧ x1 < 8) ∧ (((h8 50 x1) = (-1) → Φ 0 h8) ∧ ((h8 50 x1) ≠ (-1) → Φ 1 h8))) ∧ (r7 = 0 → Call G m_X0_failOf [rv 34, iv x1] h8 (fun _ h10 => (0 ≤ x1 ∧ x1 < 8) ∧ (((h10 50 x1) = (-1) → Φ 0 h10) ∧ ((h10 50 x1) ≠ (-1) → Φ 1 h10))))))))) ∧ (r1 = 0 → (0 ≤ x1 ∧ x1 < 8) ∧ (0 ≤ x1 ∧ x1 < 8) ∧ Φ 0 (up (up h2 50 x1 (-1)) 51 x1 0))))))) : AT G m_X0_doLine 0 [(0, rv 34), (1, iv x1)] [] h Φ := by
  refine a_aload_n (pc := 0) (dk dt_X0_doLine 0 rfl) rfl ?_
  refine a_getr (r := 49) (pc := 1) (dk dt_X0_doLine 1 rfl) cls_0 fl_RX0_27 cf_34_10 ?_
  refine a_iload_n (pc := 4) (dk dt_X0_doLine 2 rfl) rfl ?_
  refine a_iald (pc := 5) (dk dt_X0_doLine 3 rfl) ar_50 ⟨H.1, ?_⟩
  replace H := H.2
  refine a_istore_n (pc := 6) (dk dt_X0_doLine 4 rfl) (by decide) rfl rfl ?_
  refine a_iload_n (pc := 7) (dk dt_X0_doLine 5 rfl) rfl ?_
  refine a_bipush (pc := 8) (dk dt_X0_doLine 6 rfl) (ik rfl) (bpk rfl) ?_
  refine a_imul (pc := 10) (dk dt_X0_doLine 7 rfl) ?_
  refine a_iload_n (pc := 11) (dk dt_X0_doLine 8 rfl) rfl ?_
  refine a_iadd (pc := 12) (dk dt_X0_doLine 9 rfl) ?_
  refine a_istore_n (pc := 13) (dk dt_X0_doLine 10 rfl) (by decide) rfl rfl ?_
  refine a_iload_n (pc := 14) (dk dt_X0_doLine 11 rfl) rfl ?_
  refine a_bipush (pc := 15) (dk dt_X0_doLine 12 rfl) (ik rfl) (bpk rfl) ?_
  refine a_icmp_ge (pc := 17) (dk dt_X0_doLine 13 rfl) (tgt := 31) rfl ⟨fun c => ?_, fun c => ?_⟩
  · replace H := H.1 c
    refine a_aload_n (pc := 31) (dk dt_X0_doLine 19 rfl) rfl ?_
    refine a_iload_n (pc := 32) (dk dt_X0_doLine 20 rfl) rfl ?_
    refine a_callVv (as := [iv x1]) (st := []) (pc := 33) (dk dt_X0_doLine 21 rfl) cl_RX0_143 ⟨Nat.le_of_ble_eq_true rfl, Nat.le_of_ble_eq_true rfl⟩ ⟨Nat.le_of_ble_eq_true rfl, Nat.le_of_ble_eq_true rfl⟩ cls_0 rfl cc_34 rfl rfl rfl (Nat.le_of_ble_eq_true rfl) (Call.of rfl (Nat.le_of_ble_eq_true rfl) rfl ?_)
    refine a_aload_n (pc := 0) (dk dt_X0_stop 0 rfl) rfl ?_
    refine a_getr (r := 49) (pc := 1) (dk dt_X0_stop 1 rfl) cls_0 fl_RX0_27 cf_34_10 ?_
    refine a_iload_n (pc := 4) (dk dt_X0_stop 2 rfl) rfl ?_
    refine a_iconst (pc := 5) (dk dt_X0_stop 3 rfl) (ik rfl) ?_
    refine a_iast (pc := 6) (dk dt_X0_stop 4 rfl) ar_50 ⟨H.1, ?_⟩
    replace H := H.2
    refine a_aload_n (pc := 7) (dk dt_X0_stop 5 rfl) rfl ?_
    refine a_getr (r := 50) (pc := 8) (dk dt_X0_stop 6 rfl) cls_0 fl_RX0_30 cf_34_11 ?_
    refine a_iload_n (pc := 11) (dk dt_X0_stop 7 rfl) rfl ?_
    refine a_iconst (pc := 12) (dk dt_X0_stop 8 rfl) (ik rfl) ?_
    refine a_iast (pc := 13) (dk dt_X0_stop 9 rfl) ar_51 ⟨H.1, ?_⟩
    replace H := H.2
    refine a_vret (pc := 14) (dk dt_X0_stop 10 rfl) rfl rfl ?_
    show ATW _ _ _ _ _ _ _ _ _ _
    refine a_iconst (pc := 36) (dk dt_X0_doLine 22 rfl) (ik rfl) ?_
    exact a_zret (pc := 37) (dk dt_X0_doLine 23 rfl) rfl rfl ⟨by decide, H⟩
  · replace H := H.2 c
    refine a_aload_n (pc := 20) (dk dt_X0_doLine 14 rfl) rfl ?_
    refine a_getr (r := 35) (pc := 21) (dk dt_X0_doLine 15 rfl) cls_0 fl_RX0_20 cf_34_8 ?_
    refine a_iload_n (pc := 24) (dk dt_X0_doLine 16 rfl) rfl ?_
    refine a_callVi (as := [iv (w32 ((w32 (x1 * 30)) + (h 50 x1)))]) (st := []) (pc := 25) (dk dt_X0_doLine 17 rfl) cl_RX0_155 ⟨Nat.le_of_ble_eq_true rfl, Nat.le_of_ble_eq_true rfl⟩ ⟨Nat.le_of_ble_eq_true rfl, Nat.le_of_ble_eq_true rfl⟩ cls_3 rfl cc_36 rfl rfl rfl (Nat.le_of_ble_eq_true rfl) (Call.mono H fun r1 h2 H => ?_)
    refine a_if_ne (pc := 28) (dk dt_X0_doLine 18 rfl) (tgt := 38) rfl ⟨fun c => ?_, fun c => ?_⟩
    · replace H := H.1 c
      refine a_aload_n (pc := 38) (dk dt_X0_doLine 24 rfl) rfl ?_
      refine a_getr (r := 35) (pc := 39) (dk dt_X0_doLine 25 rfl) cls_0 fl_RX0_20 cf_34_8 ?_
      refine a_getr (r := 36) (pc := 42) (dk dt_X0_doLine 26 rfl) cls_3 fl_RX0_158 cf_36_1 ?_
      refine a_iload_n (pc := 45) (dk dt_X0_doLine 27 rfl) rfl ?_
      refine a_iald (pc := 46) (dk dt_X0_doLine 28 rfl) ar_37 ⟨H.1, ?_⟩
      replace H := H.2
      have B0 : ((h2 37 (w32 ((w32 (x1 * 30)) + (h 50 x1)))) = 1) → AT G m_X0_doLine 80 [(0, rv 34), (1, iv x1), (2, iv (h 50 x1)), (3, iv (w32 ((w32 (x1 * 30)) + (h 50 x1))))] [] h2 Φ := by
        intro c
        replace H := H.1 c
        refine a_aload_n (pc := 80) (dk dt_X0_doLine 30 rfl) rfl ?_
        refine a_getr (r := 49) (pc := 81) (dk dt_X0_doLine 31 rfl) cls_0 fl_RX0_27 cf_34_10 ?_
        refine a_iload_n (pc := 84) (dk dt_X0_doLine 32 rfl) rfl ?_
        refine a_iload_n (pc := 85) (dk dt_X0_doLine 33 rfl) rfl ?_
        refine a_iconst (pc := 86) (dk dt_X0_doLine 34 rfl) (ik rfl) ?_
        refine a_iadd (pc := 87) (dk dt_X0_doLine 35 rfl) ?_
        refine a_iast (pc := 88) (dk dt_X0_doLine 36 rfl) ar_50 ⟨H.1, ?_⟩
        replace H := H.2
        refine a_aload_n (pc := 89) (dk dt_X0_doLine 37 rfl) rfl ?_
        refine a_getr (r := 50) (pc := 90) (dk dt_X0_doLine 38 rfl) cls_0 fl_RX0_30 cf_34_11 ?_
        refine a_iload_n (pc := 93) (dk dt_X0_doLine 39 rfl) rfl ?_
        refine a_aload_n (pc := 94) (dk dt_X0_doLine 40 rfl) rfl ?_
        refine a_getr (r := 35) (pc := 95) (dk dt_X0_doLine 41 rfl) cls_0 fl_RX0_20 cf_34_8 ?_
        refine a_getr (r := 39) (pc := 98) (dk dt_X0_doLine 42 rfl) cls_3 fl_RX0_161 cf_36_4 ?_
        refine a_iload_n (pc := 101) (dk dt_X0_doLine 43 rfl) rfl ?_
        refine a_iald (pc := 102) (dk dt_X0_doLine 44 rfl) ar_40 ⟨H.1, ?_⟩
        replace H := H.2
        refine a_top (y := (h2 40 (w32 ((w32 (x1 * 30)) + (h 50 x1))))) (by simp [up, cpy]) ?_
        refine a_iast (pc := 103) (dk dt_X0_doLine 45 rfl) ar_51 ⟨H.1, ?_⟩
        replace H := H.2
        refine a_iconst (pc := 104) (dk dt_X0_doLine 46 rfl) (ik rfl) ?_
        exact a_zret (pc := 105) (dk dt_X0_doLine 47 rfl) rfl rfl ⟨by decide, H⟩
      have B1 : ((h2 37 (w32 ((w32 (x1 * 30)) + (h 50 x1)))) = 2 ∨ (h2 37 (w32 ((w32 (x1 * 30)) + (h 50 x1)))) = 3) → AT G m_X0_doLine 106 [(0, rv 34), (1, iv x1), (2, iv (h 50 x1)), (3, iv (w32 ((w32 (x1 * 30)) + (h 50 x1))))] [] h2 Φ := by
        intro c
        replace H := H.2.1 c
        refine a_aload_n (pc := 106) (dk dt_X0_doLine 48 rfl) rfl ?_
        refine a_iload_n (pc := 107) (dk dt_X0_doLine 49 rfl) rfl ?_
        refine a_iload_n (pc := 108) (dk dt_X0_doLine 50 rfl) rfl ?_
        refine a_aload_n (pc := 109) (dk dt_X0_doLine 51 rfl) rfl ?_
        refine a_aload_n (pc := 110) (dk dt_X0_doLine 52 rfl) rfl ?_
        refine a_getr (r := 35) (pc := 111) (dk dt_X0_doLine 53 rfl) cls_0 fl_RX0_20 cf_34_8 ?_
        refine a_iload_n (pc := 114) (dk dt_X0_doLine 54 rfl) rfl ?_
        refine a_callVi (as := [rv 36, iv (w32 ((w32 (x1 * 30)) + (h 50 x1)))]) (st := [iv (w32 ((w32 (x1 * 30)) + (h 50 x1))), iv x1, rv 34]) (pc := 115) (dk dt_X0_doLine 55 rfl) cl_RX0_164 ⟨Nat.le_of_ble_eq_true rfl, Nat.le_of_ble_eq_true rfl⟩ ⟨Nat.le_of_ble_eq_true rfl, Nat.le_of_ble_eq_true rfl⟩ cls_0 rfl cc_34 rfl rfl rfl (Nat.le_of_ble_eq_true rfl) (Call.mono H fun r3 h4 H => ?_)
        refine a_callVi (as := [iv x1, iv (w32 ((w32 (x1 * 30)) + (h 50 x1))), iv r3]) (st := []) (pc := 118) (dk dt_X0_doLine 56 rfl) cl_RX0_168 ⟨Nat.le_of_ble_eq_true rfl, Nat.le_of_ble_eq_true rfl⟩ ⟨Nat.le_of_ble_eq_true rfl, Nat.le_of_ble_eq_true rfl⟩ cls_0 rfl cc_34 rfl rfl rfl (Nat.le_of_ble_eq_true rfl) (Call.mono H fun r5 h6 H => ?_)
        exact a_zret (pc := 121) (dk dt_X0_doLine 57 rfl) rfl rfl H
      have B2 : ((h2 37 (w32 ((w32 (x1 * 30)) + (h 50 x1)))) = 4) → AT G m_X0_doLine 122 [(0, rv 34), (1, iv x1), (2, iv (h 50 x1)), (3, iv (w32 ((w32 (x1 * 30)) + (h 50 x1))))] [] h2 Φ := by
        intro c
        replace H := H.2.2.1 c
        refine a_aload_n (pc := 122) (dk dt_X0_doLine 58 rfl) rfl ?_
        refine a_getr (r := 49) (pc := 123) (dk dt_X0_doLine 59 rfl) cls_0 fl_RX0_27 cf_34_10 ?_
        refine a_iload_n (pc := 126) (dk dt_X0_doLine 60 rfl) rfl ?_
        refine a_aload_n (pc := 127) (dk dt_X0_doLine 61 rfl) rfl ?_
        refine a_getr (r := 35) (pc := 128) (dk dt_X0_doLine 62 rfl) cls_0 fl_RX0_20 cf_34_8 ?_
        refine a_getr (r := 40) (pc := 131) (dk dt_X0_doLine 63 rfl) cls_3 fl_RX0_172 cf_36_5 ?_
        refine a_iload_n (pc := 134) (dk dt_X0_doLine 64 rfl) rfl ?_
        refine a_iald (pc := 135) (dk dt_X0_doLine 65 rfl) ar_41 ⟨H.1, ?_⟩
        replace H := H.2
        refine a_iast (pc := 136) (dk dt_X0_doLine 66 rfl) ar_50 ⟨H.1, ?_⟩
        replace H := H.2
        refine a_iconst (pc := 137) (dk dt_X0_doLine 67 rfl) (ik rfl) ?_
        exact a_zret (pc := 138) (dk dt_X0_doLine 68 rfl) rfl rfl ⟨by decide, H⟩
      have B3 : ((h2 37 (w32 ((w32 (x1 * 30)) + (h 50 x1)))) = 5) → AT G m_X0_doLine 139 [(0, rv 34), (1, iv x1), (2, iv (h 50 x1)), (3, iv (w32 ((w32 (x1 * 30)) + (h 50 x1))))] [] h2 Φ := by
        intro c
        replace H := H.2.2.2.1 c
        refine a_aload_n (pc := 139) (dk dt_X0_doLine 69 rfl) rfl ?_
        refine a_iload_n (pc := 140) (dk dt_X0_doLine 70 rfl) rfl ?_
        refine a_callVv (as := [iv x1]) (st := []) (pc := 141) (dk dt_X0_doLine 71 rfl) cl_RX0_143 ⟨Nat.le_of_ble_eq_true rfl, Nat.le_of_ble_eq_true rfl⟩ ⟨Nat.le_of_ble_eq_true rfl, Nat.le_of_ble_eq_true rfl⟩ cls_0 rfl cc_34 rfl rfl rfl (Nat.le_of_ble_eq_true rfl) (Call.of rfl (Nat.le_of_ble_eq_true rfl) rfl ?_)
        refine a_aload_n (pc := 0) (dk dt_X0_stop 0 rfl) rfl ?_
        refine a_getr (r := 49) (pc := 1) (dk dt_X0_stop 1 rfl) cls_0 fl_RX0_27 cf_34_10 ?_
        refine a_iload_n (pc := 4) (dk dt_X0_stop 2 rfl) rfl ?_
        refine a_iconst (pc := 5) (dk dt_X0_stop 3 rfl) (ik rfl) ?_
        refine a_iast (pc := 6) (dk dt_X0_stop 4 rfl) ar_50 ⟨H.1, ?_⟩
        replace H := H.2
        refine a_aload_n (pc := 7) (dk dt_X0_stop 5 rfl) rfl ?_
        refine a_getr (r := 50) (pc := 8) (dk dt_X0_stop 6 rfl) cls_0 fl_RX0_30 cf_34_11 ?_
        refine a_iload_n (pc := 11) (dk dt_X0_stop 7 rfl) rfl ?_
        refine a_iconst (pc := 12) (dk dt_X0_stop 8 rfl) (ik rfl) ?_
        refine a_iast (pc := 13) (dk dt_X0_stop 9 rfl) ar_51 ⟨H.1, ?_⟩
        replace H := H.2
        refine a_vret (pc := 14) (dk dt_X0_stop 10 rfl) rfl rfl ?_
        show ATW _ _ _ _ _ _ _ _ _ _
        refine a_iconst (pc := 144) (dk dt_X0_doLine 72 rfl) (ik rfl) ?_
        exact a_zret (pc := 145) (dk dt_X0_doLine 73 rfl) rfl rfl ⟨by decide, H⟩
      have BD : (((h2 37 (w32 ((w32 (x1 * 30)) + (h 50 x1)))) < 1 ∨ 5 < (h2 37 (w32 ((w32 (x1 * 30)) + (h 50 x1)))))) → AT G m_X0_doLine 146 [(0, rv 34), (1, iv x1), (2, iv (h 50 x1)), (3, iv (w32 ((w32 (x1 * 30)) + (h 50 x1))))] [] h2 Φ := by
        intro c
        replace H := H.2.2.2.2 c
        refine a_aload_n (pc := 146) (dk dt_X0_doLine 74 rfl) rfl ?_
        refine a_getr (r := 49) (pc := 147) (dk dt_X0_doLine 75 rfl) cls_0 fl_RX0_27 cf_34_10 ?_
        refine a_iload_n (pc := 150) (dk dt_X0_doLine 76 rfl) rfl ?_
        refine a_iload_n (pc := 151) (dk dt_X0_doLine 77 rfl) rfl ?_
        refine a_iconst (pc := 152) (dk dt_X0_doLine 78 rfl) (ik rfl) ?_
        refine a_iadd (pc := 153) (dk dt_X0_doLine 79 rfl) ?_
        refine a_iast (pc := 154) (dk dt_X0_doLine 80 rfl) ar_50 ⟨H.1, ?_⟩
        replace H := H.2
        refine a_aload_n (pc := 155) (dk dt_X0_doLine 81 rfl) rfl ?_
        refine a_aload_n (pc := 156) (dk dt_X0_doLine 82 rfl) rfl ?_
        refine a_getr (r := 35) (pc := 157) (dk dt_X0_doLine 83 rfl) cls_0 fl_RX0_20 cf_34_8 ?_
        refine a_iload_n (pc := 160) (dk dt_X0_doLine 84 rfl) rfl ?_
        refine a_callVi (as := [rv 36, iv (w32 ((w32 (x1 * 30)) + (h 50 x1)))]) (st := []) (pc := 161) (dk dt_X0_doLine 85 rfl) cl_RX0_175 ⟨Nat.le_of_ble_eq_true rfl, Nat.le_of_ble_eq_true rfl⟩ ⟨Nat.le_of_ble_eq_true rfl, Nat.le_of_ble_eq_true rfl⟩ cls_0 rfl cc_34 rfl rfl rfl (Nat.le_of_ble_eq_true rfl) (Call.mono H fun r7 h8 H => ?_)
        refine a_if_ne (pc := 164) (dk dt_X0_doLine 86 rfl) (tgt := 172) rfl ⟨fun c => ?_, fun c => ?_⟩
        · replace H := H.1 c
          refine a_aload_n (pc := 172) (dk dt_X0_doLine 90 rfl) rfl ?_
          refine a_getr (r := 49) (pc := 173) (dk dt_X0_doLine 91 rfl) cls_0 fl_RX0_27 cf_34_10 ?_
          refine a_iload_n (pc := 176) (dk dt_X0_doLine 92 rfl) rfl ?_
          refine a_iald (pc := 177) (dk dt_X0_doLine 93 rfl) ar_50 ⟨H.1, ?_⟩
          replace H := H.2
          refine a_iconst (pc := 178) (dk dt_X0_doLine 94 rfl) (ik rfl) ?_
          refine a_icmp_eq (pc := 179) (dk dt_X0_doLine 95 rfl) (tgt := 186) rfl ⟨fun c => ?_, fun c => ?_⟩
          · replace H := H.1 c
            refine a_iconst (pc := 186) (dk dt_X0_doLine 98 rfl) (ik rfl) ?_
            exact a_zret (pc := 187) (dk dt_X0_doLine 99 rfl) rfl rfl ⟨by decide, H⟩
          · replace H := H.2 c
            refine a_iconst (pc := 182) (dk dt_X0_doLine 96 rfl) (ik rfl) ?_
            refine a_goto (pc := 183) (dk dt_X0_doLine 97 rfl) (tgt := 187) rfl ?_
            exact a_zret (pc := 187) (dk dt_X0_doLine 99 rfl) rfl rfl ⟨by decide, H⟩
        · replace H := H.2 c
          refine a_aload_n (pc := 167) (dk dt_X0_doLine 87 rfl) rfl ?_
          refine a_iload_n (pc := 168) (dk dt_X0_doLine 88 rfl) rfl ?_
          refine a_callVv (as := [iv x1]) (st := []) (pc := 169) (dk dt_X0_doLine 89 rfl) cl_RX0_179 ⟨Nat.le_of_ble_eq_true rfl, Nat.le_of_ble_eq_true rfl⟩ ⟨Nat.le_of_ble_eq_true rfl, Nat.le_of_ble_eq_true rfl⟩ cls_0 rfl cc_34 rfl rfl rfl (Nat.le_of_ble_eq_true rfl) (Call.mono H fun _ h10 H => ?_)
          refine a_aload_n (pc := 172) (dk dt_X0_doLine 90 rfl) rfl ?_
          refine a_getr (r := 49) (pc := 173) (dk dt_X0_doLine 91 rfl) cls_0 fl_RX0_27 cf_34_10 ?_
          refine a_iload_n (pc := 176) (dk dt_X0_doLine 92 rfl) rfl ?_
          refine a_iald (pc := 177) (dk dt_X0_doLine 93 rfl) ar_50 ⟨H.1, ?_⟩
          replace H := H.2
          refine a_iconst (pc := 178) (dk dt_X0_doLine 94 rfl) (ik rfl) ?_
          refine a_icmp_eq (pc := 179) (dk dt_X0_doLine 95 rfl) (tgt := 186) rfl ⟨fun c => ?_, fun c => ?_⟩
          · replace H := H.1 c
            refine a_iconst (pc := 186) (dk dt_X0_doLine 98 rfl) (ik rfl) ?_
            exact a_zret (pc := 187) (dk dt_X0_doLine 99 rfl) rfl rfl ⟨by decide, H⟩
          · replace H := H.2 c
            refine a_iconst (pc := 182) (dk dt_X0_doLine 96 rfl) (ik rfl) ?_
            refine a_goto (pc := 183) (dk dt_X0_doLine 97 rfl) (tgt := 187) rfl ?_
            exact a_zret (pc := 187) (dk dt_X0_doLine 99 rfl) rfl rfl ⟨by decide, H⟩
      exact a_tsw [80, 106, 106, 122, 139] (pc := 47) (dk dt_X0_doLine 29 rfl) (by decide) (dt := 146) rfl (by decide) ⟨⟨fun c => B0 (c), fun c => B1 (Or.inl c), fun c => B1 (Or.inr (c)), fun c => B2 (c), fun c => B3 (c), trivial⟩, fun c => BD (c)⟩
    · replace H := H.2 c
      refine a_aload_n (pc := 31) (dk dt_X0_doLine 19 rfl) rfl ?_
      refine a_iload_n (pc := 32) (dk dt_X0_doLine 20 rfl) rfl ?_
      refine a_callVv (as := [iv x1]) (st := []) (pc := 33) (dk dt_X0_doLine 21 rfl) cl_RX0_143 ⟨Nat.le_of_ble_eq_true rfl, Nat.le_of_ble_eq_true rfl⟩ ⟨Nat.le_of_ble_eq_true rfl, Nat.le_of_ble_eq_true rfl⟩ cls_0 rfl cc_34 rfl rfl rfl (Nat.le_of_ble_eq_true rfl) (Call.of rfl (Nat.le_of_ble_eq_true rfl) rfl ?_)
      refine a_aload_n (pc := 0) (dk dt_X0_stop 0 rfl) rfl ?_
      refine a_getr (r := 49) (pc := 1) (dk dt_X0_stop 1 rfl) cls_0 fl_RX0_27 cf_34_10 ?_
      refine a_iload_n (pc := 4) (dk dt_X0_stop 2 rfl) rfl ?_
      refine a_iconst (pc := 5) (dk dt_X0_stop 3 rfl) (ik rfl) ?_
      refine a_iast (pc := 6) (dk dt_X0_stop 4 rfl) ar_50 ⟨H.1, ?_⟩
      replace H := H.2
      refine a_aload_n (pc := 7) (dk dt_X0_stop 5 rfl) rfl ?_
      refine a_getr (r := 50) (pc := 8) (dk dt_X0_stop 6 rfl) cls_0 fl_RX0_30 cf_34_11 ?_
      refine a_iload_n (pc := 11) (dk dt_X0_stop 7 rfl) rfl ?_
      refine a_iconst (pc := 12) (dk dt_X0_stop 8 rfl) (ik rfl) ?_
      refine a_iast (pc := 13) (dk dt_X0_stop 9 rfl) ar_51 ⟨H.1, ?_⟩
      replace H := H.2
      refine a_vret (pc := 14) (dk dt_X0_stop 10 rfl) rfl rfl ?_
      show ATW _ _ _ _ _ _ _ _ _ _
      refine a_iconst (pc := 36) (dk dt_X0_doLine 22 rfl) (ik rfl) ?_
      exact a_zret (pc := 37) (dk dt_X0_doLine 23 rfl) rfl rfl ⟨by decide, H⟩
set_option maxHeartbeats 40000000 in
theorem U_X0_install_34_43_0 {G : GG} {Φ : Int → Hp → Prop} {h : Hp} {x1 : Int} {x3 : Int} (H : Call G m_X3_countFrom [rv 43, iv x3] h (fun r1 h2 => AT G m_X0_install 16 [(0, rv 34), (1, iv x1), (2, rv 43), (3, iv x3), (4, iv r1), (5, iv (w32 (x1 * 30))), (6, iv 0)] [] h2 Φ)) : AT G m_X0_install 0 [(0, rv 34), (1, iv x1), (2, rv 43), (3, iv x3)] [] h Φ := by
  refine a_aload_n (pc := 0) (dk dt_X0_install 0 rfl) rfl ?_
  refine a_iload_n (pc := 1) (dk dt_X0_install 1 rfl) rfl ?_
  refine a_callVi (as := [iv x3]) (st := []) (pc := 2) (dk dt_X0_install 2 rfl) cl_RX0_131 ⟨Nat.le_of_ble_eq_true rfl, Nat.le_of_ble_eq_true rfl⟩ ⟨Nat.le_of_ble_eq_true rfl, Nat.le_of_ble_eq_true rfl⟩ cls_3 rfl cc_43 rfl rfl rfl (Nat.le_of_ble_eq_true rfl) (Call.mono H fun r1 h2 H => ?_)
  refine a_istore (pc := 5) (dk dt_X0_install 3 rfl) (by decide) rfl rfl ?_
  refine a_iload_n (pc := 7) (dk dt_X0_install 4 rfl) rfl ?_
  refine a_bipush (pc := 8) (dk dt_X0_install 5 rfl) (ik rfl) (bpk rfl) ?_
  refine a_imul (pc := 10) (dk dt_X0_install 6 rfl) ?_
  refine a_istore (pc := 11) (dk dt_X0_install 7 rfl) (by decide) rfl rfl ?_
  refine a_iconst (pc := 13) (dk dt_X0_install 8 rfl) (ik rfl) ?_
  refine a_istore (pc := 14) (dk dt_X0_install 9 rfl) (by decide) rfl rfl ?_
  exact a_pick [0, 1, 2, 3, 4, 5, 6] rfl H
set_option maxHeartbeats 40000000 in
theorem U_X0_install_34_43_16 {G : GG} {Φ : Int → Hp → Prop} {h : Hp} {x1 : Int} {x3 : Int} {x4 : Int} {x5 : Int} {x6 : Int} (H : ((x4 ≤ x6 → Call G m_X3_erase [rv 36, iv (w32 (x5 + x4)), iv (w32 (x5 + 30))] h (fun _ h2 => (0 ≤ x1 ∧ x1 < 8) ∧ (0 ≤ x1 ∧ x1 < 8) ∧ Φ 0 (up (up h2 50 x1 (-1)) 51 x1 0))) ∧ (x6 < x4 → Call G m_X3_copy [rv 36, iv (w32 (x5 + x6)), rv 43, iv (w32 (x3 + x6))] h (fun _ h4 => AT G m_X0_install 16 [(0, rv 34), (1, iv x1), (2, rv 43), (3, iv x3), (4, iv x4), (5, iv x5), (6, iv (w32 (x6 + 1)))] [] h4 Φ)))) : AT G m_X0_install 16 [(0, rv 34), (1, iv x1), (2, rv 43), (3, iv x3), (4, iv x4), (5, iv x5), (6, iv x6)] [] h Φ := by
  refine a_iload (pc := 16) (dk dt_X0_install 10 rfl) rfl ?_
  refine a_iload (pc := 18) (dk dt_X0_install 11 rfl) rfl ?_
  refine a_icmp_ge (pc := 20) (dk dt_X0_install 12 rfl) (tgt := 46) rfl ⟨fun c => ?_, fun c => ?_⟩
  · replace H := H.1 c
    refine a_aload_n (pc := 46) (dk dt_X0_install 25 rfl) rfl ?_
    refine a_getr (r := 35) (pc := 47) (dk dt_X0_install 26 rfl) cls_0 fl_RX0_20 cf_34_8 ?_
    refine a_iload (pc := 50) (dk dt_X0_install 27 rfl) rfl ?_
    refine a_iload (pc := 52) (dk dt_X0_install 28 rfl) rfl ?_
    refine a_iadd (pc := 54) (dk dt_X0_install 29 rfl) ?_
    refine a_iload (pc := 55) (dk dt_X0_install 30 rfl) rfl ?_
    refine a_bipush (pc := 57) (dk dt_X0_install 31 rfl) (ik rfl) (bpk rfl) ?_
    refine a_iadd (pc := 59) (dk dt_X0_install 32 rfl) ?_
    refine a_callVv (as := [iv (w32 (x5 + x4)), iv (w32 (x5 + 30))]) (st := []) (pc := 60) (dk dt_X0_install 33 rfl) cl_RX0_139 ⟨Nat.le_of_ble_eq_true rfl, Nat.le_of_ble_eq_true rfl⟩ ⟨Nat.le_of_ble_eq_true rfl, Nat.le_of_ble_eq_true rfl⟩ cls_3 rfl cc_36 rfl rfl rfl (Nat.le_of_ble_eq_true rfl) (Call.mono H fun _ h2 H => ?_)
    refine a_aload_n (pc := 63) (dk dt_X0_install 34 rfl) rfl ?_
    refine a_iload_n (pc := 64) (dk dt_X0_install 35 rfl) rfl ?_
    refine a_callVv (as := [iv x1]) (st := []) (pc := 65) (dk dt_X0_install 36 rfl) cl_RX0_143 ⟨Nat.le_of_ble_eq_true rfl, Nat.le_of_ble_eq_true rfl⟩ ⟨Nat.le_of_ble_eq_true rfl, Nat.le_of_ble_eq_true rfl⟩ cls_0 rfl cc_34 rfl rfl rfl (Nat.le_of_ble_eq_true rfl) (Call.of rfl (Nat.le_of_ble_eq_true rfl) rfl ?_)
    refine a_aload_n (pc := 0) (dk dt_X0_stop 0 rfl) rfl ?_
    refine a_getr (r := 49) (pc := 1) (dk dt_X0_stop 1 rfl) cls_0 fl_RX0_27 cf_34_10 ?_
    refine a_iload_n (pc := 4) (dk dt_X0_stop 2 rfl) rfl ?_
    refine a_iconst (pc := 5) (dk dt_X0_stop 3 rfl) (ik rfl) ?_
    refine a_iast (pc := 6) (dk dt_X0_stop 4 rfl) ar_50 ⟨H.1, ?_⟩
    replace H := H.2
    refine a_aload_n (pc := 7) (dk dt_X0_stop 5 rfl) rfl ?_
    refine a_getr (r := 50) (pc := 8) (dk dt_X0_stop 6 rfl) cls_0 fl_RX0_30 cf_34_11 ?_
    refine a_iload_n (pc := 11) (dk dt_X0_stop 7 rfl) rfl ?_
    refine a_iconst (pc := 12) (dk dt_X0_stop 8 rfl) (ik rfl) ?_
    refine a_iast (pc := 13) (dk dt_X0_stop 9 rfl) ar_51 ⟨H.1, ?_⟩
    replace H := H.2
    refine a_vret (pc := 14) (dk dt_X0_stop 10 rfl) rfl rfl ?_
    show ATW _ _ _ _ _ _ _ _ _ _
    exact a_vret (pc := 68) (dk dt_X0_install 37 rfl) rfl rfl H
  · replace H := H.2 c
    refine a_aload_n (pc := 23) (dk dt_X0_install 13 rfl) rfl ?_
    refine a_getr (r := 35) (pc := 24) (dk dt_X0_install 14 rfl) cls_0 fl_RX0_20 cf_34_8 ?_
    refine a_iload (pc := 27) (dk dt_X0_install 15 rfl) rfl ?_
    refine a_iload (pc := 29) (dk dt_X0_install 16 rfl) rfl ?_
    refine a_iadd (pc := 31) (dk dt_X0_install 17 rfl) ?_
    refine a_aload_n (pc := 32) (dk dt_X0_install 18 rfl) rfl ?_
    refine a_iload_n (pc := 33) (dk dt_X0_install 19 rfl) rfl ?_
    refine a_iload (pc := 34) (dk dt_X0_install 20 rfl) rfl ?_
    refine a_iadd (pc := 36) (dk dt_X0_install 21 rfl) ?_
    refine a_callVv (as := [iv (w32 (x5 + x6)), rv 43, iv (w32 (x3 + x6))]) (st := []) (pc := 37) (dk dt_X0_install 22 rfl) cl_RX0_135 ⟨Nat.le_of_ble_eq_true rfl, Nat.le_of_ble_eq_true rfl⟩ ⟨Nat.le_of_ble_eq_true rfl, Nat.le_of_ble_eq_true rfl⟩ cls_3 rfl cc_36 rfl rfl rfl (Nat.le_of_ble_eq_true rfl) (Call.mono H fun _ h4 H => ?_)
    refine a_iinc (pc := 40) (dk dt_X0_install 23 rfl) (by decide) rfl rfl rfl ?_
    refine a_goto (pc := 43) (dk dt_X0_install 24 rfl) (tgt := 16) rfl ?_
    exact a_pick [0, 1, 2, 3, 4, 5, 6] rfl H
set_option maxHeartbeats 40000000 in
theorem U_X0_record_34_0 {G : GG} {Φ : Int → Hp → Prop} {h : Hp} {x1 : Int} (H : AT G m_X0_record 2 [(0, rv 34), (1, iv x1), (2, iv 0)] [] h Φ) : AT G m_X0_record 0 [(0, rv 34), (1, iv x1)] [] h Φ := by
  refine a_iconst (pc := 0) (dk dt_X0_record 0 rfl) (ik rfl) ?_
  refine a_istore_n (pc := 1) (dk dt_X0_record 1 rfl) (by decide) rfl rfl ?_
  exact a_pick [0, 1, 2] rfl H
set_option maxHeartbeats 40000000 in
theorem U_X0_record_34_2 {G : GG} {Φ : Int → Hp → Prop} {h : Hp} {x1 : Int} {x2 : Int} (H : (((x1.tmod 4) < x2 → Call G m_X4_label [rv 26, iv x1, iv (h 34 4)] h (fun _ h2 => Call G m_X4_record [rv 26] h2 (fun r3 h4 => Φ 1 (up h4 34 5 (w32 ((h2 34 5) + r3)))))) ∧ (x2 ≤ (x1.tmod 4) → Call G m_X5_byteOf [rv 24, iv x2] h (fun r5 h6 => ((r5 ≠ (-3) → (0 ≤ (w32 (5 + x2)) ∧ (w32 (5 + x2)) < 9) ∧ AT G m_X0_record 2 [(0, rv 34), (1, iv x1), (2, iv (w32 (x2 + 1)))] [] (up h6 31 (w32 (5 + x2)) r5) Φ) ∧ (r5 = (-3) → Φ 0 h6)))))) : AT G m_X0_record 2 [(0, rv 34), (1, iv x1), (2, iv x2)] [] h Φ := by
  refine a_iload_n (pc := 2) (dk dt_X0_record 2 rfl) rfl ?_
  refine a_iload_n (pc := 3) (dk dt_X0_record 3 rfl) rfl ?_
  refine a_iconst (pc := 4) (dk dt_X0_record 4 rfl) (ik rfl) ?_
  refine a_irem (pc := 5) (dk dt_X0_record 5 rfl) ⟨by decide, ?_⟩
  refine a_icmp_gt (pc := 6) (dk dt_X0_record 6 rfl) (tgt := 44) rfl ⟨fun c => ?_, fun c => ?_⟩
  · replace H := H.1 c
    refine a_aload_n (pc := 44) (dk dt_X0_record 27 rfl) rfl ?_
    refine a_getr (r := 25) (pc := 45) (dk dt_X0_record 28 rfl) cls_0 fl_RX0_66 cf_34_3 ?_
    refine a_iload_n (pc := 48) (dk dt_X0_record 29 rfl) rfl ?_
    refine a_aload_n (pc := 49) (dk dt_X0_record 30 rfl) rfl ?_
    refine a_geti (pc := 50) (dk dt_X0_record 31 rfl) cls_0 fl_RX0_76 cf_34_4 ?_
    refine a_callVv (as := [iv x1, iv (h 34 4)]) (st := []) (pc := 53) (dk dt_X0_record 32 rfl) cl_RX0_234 ⟨Nat.le_of_ble_eq_true rfl, Nat.le_of_ble_eq_true rfl⟩ ⟨Nat.le_of_ble_eq_true rfl, Nat.le_of_ble_eq_true rfl⟩ cls_4 rfl cc_26 rfl rfl rfl (Nat.le_of_ble_eq_true rfl) (Call.mono H fun _ h2 H => ?_)
    refine a_aload_n (pc := 56) (dk dt_X0_record 33 rfl) rfl ?_
    refine a_dup (pc := 57) (dk dt_X0_record 34 rfl) rfl ?_
    refine a_geti (pc := 58) (dk dt_X0_record 35 rfl) cls_0 fl_RX0_85 cf_34_5 ?_
    refine a_aload_n (pc := 61) (dk dt_X0_record 36 rfl) rfl ?_
    refine a_getr (r := 25) (pc := 62) (dk dt_X0_record 37 rfl) cls_0 fl_RX0_66 cf_34_3 ?_
    refine a_callVi (as := []) (st := [iv (h2 34 5), rv 34]) (pc := 65) (dk dt_X0_record 38 rfl) cl_RX0_237 ⟨Nat.le_of_ble_eq_true rfl, Nat.le_of_ble_eq_true rfl⟩ ⟨Nat.le_of_ble_eq_true rfl, Nat.le_of_ble_eq_true rfl⟩ cls_4 rfl cc_26 rfl rfl rfl (Nat.le_of_ble_eq_true rfl) (Call.mono H fun r3 h4 H => ?_)
    refine a_iadd (pc := 68) (dk dt_X0_record 39 rfl) ?_
    refine a_puti (pc := 69) (dk dt_X0_record 40 rfl) cls_0 fl_RX0_85 cf_34_5 rfl rfl ?_
    refine a_iconst (pc := 72) (dk dt_X0_record 41 rfl) (ik rfl) ?_
    exact a_zret (pc := 73) (dk dt_X0_record 42 rfl) rfl rfl ⟨by decide, H⟩
  · replace H := H.2 c
    refine a_aload_n (pc := 9) (dk dt_X0_record 7 rfl) rfl ?_
    refine a_getr (r := 23) (pc := 10) (dk dt_X0_record 8 rfl) cls_0 fl_RX0_62 cf_34_2 ?_
    refine a_iload_n (pc := 13) (dk dt_X0_record 9 rfl) rfl ?_
    refine a_callVi (as := [iv x2]) (st := []) (pc := 14) (dk dt_X0_record 10 rfl) cl_RX0_212 ⟨Nat.le_of_ble_eq_true rfl, Nat.le_of_ble_eq_true rfl⟩ ⟨Nat.le_of_ble_eq_true rfl, Nat.le_of_ble_eq_true rfl⟩ cls_5 rfl cc_24 rfl rfl rfl (Nat.le_of_ble_eq_true rfl) (Call.mono H fun r5 h6 H => ?_)
    refine a_istore_n (pc := 17) (dk dt_X0_record 11 rfl) (by decide) rfl rfl ?_
    refine a_iload_n (pc := 18) (dk dt_X0_record 12 rfl) rfl ?_
    refine a_bipush (pc := 19) (dk dt_X0_record 13 rfl) (ik rfl) (bpk rfl) ?_
    refine a_icmp_ne (pc := 21) (dk dt_X0_record 14 rfl) (tgt := 26) rfl ⟨fun c => ?_, fun c => ?_⟩
    · replace H := H.1 c
      refine a_aload_n (pc := 26) (dk dt_X0_record 17 rfl) rfl ?_
      refine a_getr (r := 25) (pc := 27) (dk dt_X0_record 18 rfl) cls_0 fl_RX0_66 cf_34_3 ?_
      refine a_getr (r := 30) (pc := 30) (dk dt_X0_record 19 rfl) cls_4 fl_RX0_231 cf_26_5 ?_
      refine a_iconst (pc := 33) (dk dt_X0_record 20 rfl) (ik rfl) ?_
      refine a_iload_n (pc := 34) (dk dt_X0_record 21 rfl) rfl ?_
      refine a_iadd (pc := 35) (dk dt_X0_record 22 rfl) ?_
      refine a_iload_n (pc := 36) (dk dt_X0_record 23 rfl) rfl ?_
      refine a_iast (pc := 37) (dk dt_X0_record 24 rfl) ar_31 ⟨H.1, ?_⟩
      replace H := H.2
      refine a_iinc (pc := 38) (dk dt_X0_record 25 rfl) (by decide) rfl rfl rfl ?_
      refine a_goto (pc := 41) (dk dt_X0_record 26 rfl) (tgt := 2) rfl ?_
      exact a_pick [0, 1, 2] rfl H
    · replace H := H.2 c
      refine a_iconst (pc := 24) (dk dt_X0_record 15 rfl) (ik rfl) ?_
      exact a_zret (pc := 25) (dk dt_X0_record 16 rfl) rfl rfl ⟨by decide, H⟩
set_option maxHeartbeats 40000000 in
theorem U_X0_goTo_34_0 {G : GG} {Φ : Int → Hp → Prop} {h : Hp} {x1 : Int} (H : (0 ≤ x1 ∧ x1 < 8) ∧ Call G m_X8_switchTo [rv 18, iv (h 35 x1)] (up h 34 6 x1) (fun _ h2 => (0 ≤ (w32 (4 + x1)) ∧ (w32 (4 + x1)) < 8) ∧ AT G m_X0_goTo 29 [(0, rv 34), (2, iv (h2 35 (w32 (4 + x1)))), (3, iv 0)] [] h2 Φ)) : AT G m_X0_goTo 0 [(0, rv 34), (1, iv x1)] [] h Φ := by
  refine a_aload_n (pc := 0) (dk dt_X0_goTo 0 rfl) rfl ?_
  refine a_iload_n (pc := 1) (dk dt_X0_goTo 1 rfl) rfl ?_
  refine a_puti (pc := 2) (dk dt_X0_goTo 2 rfl) cls_0 fl_RX0_146 cf_34_6 rfl rfl ?_
  refine a_aload_n (pc := 5) (dk dt_X0_goTo 3 rfl) rfl ?_
  refine a_getr (r := 17) (pc := 6) (dk dt_X0_goTo 4 rfl) cls_0 fl_RX0_58 cf_34_1 ?_
  refine a_aload_n (pc := 9) (dk dt_X0_goTo 5 rfl) rfl ?_
  refine a_getr (r := 34) (pc := 10) (dk dt_X0_goTo 6 rfl) cls_0 fl_RX0_9 cf_34_7 ?_
  refine a_iload_n (pc := 13) (dk dt_X0_goTo 7 rfl) rfl ?_
  refine a_iald (pc := 14) (dk dt_X0_goTo 8 rfl) ar_35 ⟨H.1, ?_⟩
  replace H := H.2
  refine a_top (y := (h 35 x1)) (by simp [up, cpy]) ?_
  refine a_callVv (as := [iv (h 35 x1)]) (st := []) (pc := 15) (dk dt_X0_goTo 9 rfl) cl_RX0_149 ⟨Nat.le_of_ble_eq_true rfl, Nat.le_of_ble_eq_true rfl⟩ ⟨Nat.le_of_ble_eq_true rfl, Nat.le_of_ble_eq_true rfl⟩ cls_8 rfl cc_18 rfl rfl rfl (Nat.le_of_ble_eq_true rfl) (Call.mono H fun _ h2 H => ?_)
  refine a_aload_n (pc := 18) (dk dt_X0_goTo 10 rfl) rfl ?_
  refine a_getr (r := 34) (pc := 19) (dk dt_X0_goTo 11 rfl) cls_0 fl_RX0_9 cf_34_7 ?_
  refine a_iconst (pc := 22) (dk dt_X0_goTo 12 rfl) (ik rfl) ?_
  refine a_iload_n (pc := 23) (dk dt_X0_goTo 13 rfl) rfl ?_
  refine a_iadd (pc := 24) (dk dt_X0_goTo 14 rfl) ?_
  refine a_iald (pc := 25) (dk dt_X0_goTo 15 rfl) ar_35 ⟨H.1, ?_⟩
  replace H := H.2
  refine a_istore_n (pc := 26) (dk dt_X0_goTo 16 rfl) (by decide) rfl rfl ?_
  refine a_iconst (pc := 27) (dk dt_X0_goTo 17 rfl) (ik rfl) ?_
  refine a_istore_n (pc := 28) (dk dt_X0_goTo 18 rfl) (by decide) rfl rfl ?_
  exact a_pick [0, 2, 3] rfl H
set_option maxHeartbeats 40000000 in
theorem U_X0_goTo_34_29 {G : GG} {Φ : Int → Hp → Prop} {h : Hp} {x2 : Int} {x3 : Int} (H : ((8 ≤ x3 → Φ 0 h) ∧ (x3 < 8 → (((band (bshr x2 x3) 1) ≠ 0 → AT G m_X0_goTo 29 [(0, rv 34), (2, iv x2), (3, iv (w32 (x3 + 1)))] [] h Φ) ∧ ((band (bshr x2 x3) 1) = 0 → (0 ≤ x3 ∧ x3 < 8) ∧ (0 ≤ x3 ∧ x3 < 8) ∧ AT G m_X0_goTo 29 [(0, rv 34), (2, iv x2), (3, iv (w32 (x3 + 1)))] [] (up (up h 50 x3 (-1)) 51 x3 0) Φ))))) : AT G m_X0_goTo 29 [(0, rv 34), (2, iv x2), (3, iv x3)] [] h Φ := by
  refine a_iload_n (pc := 29) (dk dt_X0_goTo 19 rfl) rfl ?_
  refine a_bipush (pc := 30) (dk dt_X0_goTo 20 rfl) (ik rfl) (bpk rfl) ?_
  refine a_icmp_ge (pc := 32) (dk dt_X0_goTo 21 rfl) (tgt := 54) rfl ⟨fun c => ?_, fun c => ?_⟩
  · replace H := H.1 c
    exact a_vret (pc := 54) (dk dt_X0_goTo 33 rfl) rfl rfl H
  · replace H := H.2 c
    refine a_iload_n (pc := 35) (dk dt_X0_goTo 22 rfl) rfl ?_
    refine a_iload_n (pc := 36) (dk dt_X0_goTo 23 rfl) rfl ?_
    refine a_ishr (pc := 37) (dk dt_X0_goTo 24 rfl) ?_
    refine a_iconst (pc := 38) (dk dt_X0_goTo 25 rfl) (ik rfl) ?_
    refine a_iand (pc := 39) (dk dt_X0_goTo 26 rfl) ?_
    refine a_if_ne (pc := 40) (dk dt_X0_goTo 27 rfl) (tgt := 48) rfl ⟨fun c => ?_, fun c => ?_⟩
    · replace H := H.1 c
      refine a_iinc (pc := 48) (dk dt_X0_goTo 31 rfl) (by decide) rfl rfl rfl ?_
      refine a_goto (pc := 51) (dk dt_X0_goTo 32 rfl) (tgt := 29) rfl ?_
      exact a_pick [0, 1, 2] rfl H
    · replace H := H.2 c
      refine a_aload_n (pc := 43) (dk dt_X0_goTo 28 rfl) rfl ?_
      refine a_iload_n (pc := 44) (dk dt_X0_goTo 29 rfl) rfl ?_
      refine a_callVv (as := [iv x3]) (st := []) (pc := 45) (dk dt_X0_goTo 30 rfl) cl_RX0_143 ⟨Nat.le_of_ble_eq_true rfl, Nat.le_of_ble_eq_true rfl⟩ ⟨Nat.le_of_ble_eq_true rfl, Nat.le_of_ble_eq_true rfl⟩ cls_0 rfl cc_34 rfl rfl rfl (Nat.le_of_ble_eq_true rfl) (Call.of rfl (Nat.le_of_ble_eq_true rfl) rfl ?_)
      refine a_aload_n (pc := 0) (dk dt_X0_stop 0 rfl) rfl ?_
      refine a_getr (r := 49) (pc := 1) (dk dt_X0_stop 1 rfl) cls_0 fl_RX0_27 cf_34_10 ?_
      refine a_iload_n (pc := 4) (dk dt_X0_stop 2 rfl) rfl ?_
      refine a_iconst (pc := 5) (dk dt_X0_stop 3 rfl) (ik rfl) ?_
      refine a_iast (pc := 6) (dk dt_X0_stop 4 rfl) ar_50 ⟨H.1, ?_⟩
      replace H := H.2
      refine a_aload_n (pc := 7) (dk dt_X0_stop 5 rfl) rfl ?_
      refine a_getr (r := 50) (pc := 8) (dk dt_X0_stop 6 rfl) cls_0 fl_RX0_30 cf_34_11 ?_
      refine a_iload_n (pc := 11) (dk dt_X0_stop 7 rfl) rfl ?_
      refine a_iconst (pc := 12) (dk dt_X0_stop 8 rfl) (ik rfl) ?_
      refine a_iast (pc := 13) (dk dt_X0_stop 9 rfl) ar_51 ⟨H.1, ?_⟩
      replace H := H.2
      refine a_vret (pc := 14) (dk dt_X0_stop 10 rfl) rfl rfl ?_
      show ATW _ _ _ _ _ _ _ _ _ _
      refine a_iinc (pc := 48) (dk dt_X0_goTo 31 rfl) (by decide) rfl rfl rfl ?_
      refine a_goto (pc := 51) (dk dt_X0_goTo 32 rfl) (tgt := 29) rfl ?_
      exact a_pick [0, 1, 2] rfl H
set_option maxHeartbeats 40000000 in
theorem U_X0_add_34_0 {G : GG} {Φ : Int → Hp → Prop} {h : Hp} {x1 : Int} {x2 : Int} (H : Call G m_X5_byteOf [rv 24, iv x1] h (fun r1 h2 => ((r1 ≠ (-3) → Call G m_X5_write [rv 24, iv x1, iv (band (w32 (r1 + x2)) 255)] h2 (fun _ h4 => Φ 1 h4)) ∧ (r1 = (-3) → Φ 0 h2)))) : AT G m_X0_add 0 [(0, rv 34), (1, iv x1), (2, iv x2)] [] h Φ := by
  refine a_aload_n (pc := 0) (dk dt_X0_add 0 rfl) rfl ?_
  refine a_getr (r := 23) (pc := 1) (dk dt_X0_add 1 rfl) cls_0 fl_RX0_62 cf_34_2 ?_
  refine a_iload_n (pc := 4) (dk dt_X0_add 2 rfl) rfl ?_
  refine a_callVi (as := [iv x1]) (st := []) (pc := 5) (dk dt_X0_add 3 rfl) cl_RX0_212 ⟨Nat.le_of_ble_eq_true rfl, Nat.le_of_ble_eq_true rfl⟩ ⟨Nat.le_of_ble_eq_true rfl, Nat.le_of_ble_eq_true rfl⟩ cls_5 rfl cc_24 rfl rfl rfl (Nat.le_of_ble_eq_true rfl) (Call.mono H fun r1 h2 H => ?_)
  refine a_istore_n (pc := 8) (dk dt_X0_add 4 rfl) (by decide) rfl rfl ?_
  refine a_iload_n (pc := 9) (dk dt_X0_add 5 rfl) rfl ?_
  refine a_bipush (pc := 10) (dk dt_X0_add 6 rfl) (ik rfl) (bpk rfl) ?_
  refine a_icmp_ne (pc := 12) (dk dt_X0_add 7 rfl) (tgt := 17) rfl ⟨fun c => ?_, fun c => ?_⟩
  · replace H := H.1 c
    refine a_aload_n (pc := 17) (dk dt_X0_add 10 rfl) rfl ?_
    refine a_getr (r := 23) (pc := 18) (dk dt_X0_add 11 rfl) cls_0 fl_RX0_62 cf_34_2 ?_
    refine a_iload_n (pc := 21) (dk dt_X0_add 12 rfl) rfl ?_
    refine a_iload_n (pc := 22) (dk dt_X0_add 13 rfl) rfl ?_
    refine a_iload_n (pc := 23) (dk dt_X0_add 14 rfl) rfl ?_
    refine a_iadd (pc := 24) (dk dt_X0_add 15 rfl) ?_
    refine a_sipush (pc := 25) (dk dt_X0_add 16 rfl) (ik rfl) (spk rfl) ?_
    refine a_iand (pc := 28) (dk dt_X0_add 17 rfl) ?_
    refine a_callVv (as := [iv x1, iv (band (w32 (r1 + x2)) 255)]) (st := []) (pc := 29) (dk dt_X0_add 18 rfl) cl_RX0_218 ⟨Nat.le_of_ble_eq_true rfl, Nat.le_of_ble_eq_true rfl⟩ ⟨Nat.le_of_ble_eq_true rfl, Nat.le_of_ble_eq_true rfl⟩ cls_5 rfl cc_24 rfl rfl rfl (Nat.le_of_ble_eq_true rfl) (Call.mono H fun _ h4 H => ?_)
    refine a_iconst (pc := 32) (dk dt_X0_add 19 rfl) (ik rfl) ?_
    exact a_zret (pc := 33) (dk dt_X0_add 20 rfl) rfl rfl ⟨by decide, H⟩
  · replace H := H.2 c
    refine a_iconst (pc := 15) (dk dt_X0_add 8 rfl) (ik rfl) ?_
    exact a_zret (pc := 16) (dk dt_X0_add 9 rfl) rfl rfl ⟨by decide, H⟩
set_option maxHeartbeats 40000000 in
theorem U_X0_measure_34_0 {G : GG} {Φ : Int → Hp → Prop} {h : Hp} {x1 : Int} (H : (((x1 = 16) → Φ (h 18 1) h) ∧ ((x1 = 17) → Φ (h 18 3) h) ∧ ((x1 = 18) → Φ (h 18 4) h) ∧ ((x1 = 19) → Φ (h 34 6) h) ∧ ((x1 = 20) → Φ (h 26 3) h) ∧ ((x1 = 21) → Φ (h 24 1) h) ∧ ((x1 = 22) → Φ (h 34 5) h) ∧ ((x1 = 23) → (h 14 0) ≠ 0 ∧ Φ (w32 ((h 34 4).tdiv (h 14 0))) h) ∧ ((x1 = 24) → (((h 14 5) = 0 → Φ 0 h) ∧ ((h 14 5) ≠ 0 → Φ 1 h))) ∧ (((x1 < 16 ∨ 24 < x1)) → Call G m_X5_byteOf [rv 24, iv (w32 (x1 - 25))] h (fun r1 h2 => Φ r1 h2)))) : AT G m_X0_measure 0 [(0, rv 34), (1, iv x1)] [] h Φ := by
  refine a_iload_n (pc := 0) (dk dt_X0_measure 0 rfl) rfl ?_
  have B0 : (x1 = 16) → AT G m_X0_measure 52 [(0, rv 34), (1, iv x1)] [] h Φ := by
    intro c
    replace H := H.1 c
    refine a_aload_n (pc := 52) (dk dt_X0_measure 2 rfl) rfl ?_
    refine a_getr (r := 17) (pc := 53) (dk dt_X0_measure 3 rfl) cls_0 fl_RX0_58 cf_34_1 ?_
    refine a_geti (pc := 56) (dk dt_X0_measure 4 rfl) cls_8 fl_RX0_194 cf_18_1 ?_
    exact a_iret (pc := 59) (dk dt_X0_measure 5 rfl) rfl rfl H
  have B1 : (x1 = 17) → AT G m_X0_measure 60 [(0, rv 34), (1, iv x1)] [] h Φ := by
    intro c
    replace H := H.2.1 c
    refine a_aload_n (pc := 60) (dk dt_X0_measure 6 rfl) rfl ?_
    refine a_getr (r := 17) (pc := 61) (dk dt_X0_measure 7 rfl) cls_0 fl_RX0_58 cf_34_1 ?_
    refine a_geti (pc := 64) (dk dt_X0_measure 8 rfl) cls_8 fl_RX0_197 cf_18_3 ?_
    exact a_iret (pc := 67) (dk dt_X0_measure 9 rfl) rfl rfl H
  have B2 : (x1 = 18) → AT G m_X0_measure 68 [(0, rv 34), (1, iv x1)] [] h Φ := by
    intro c
    replace H := H.2.2.1 c
    refine a_aload_n (pc := 68) (dk dt_X0_measure 10 rfl) rfl ?_
    refine a_getr (r := 17) (pc := 69) (dk dt_X0_measure 11 rfl) cls_0 fl_RX0_58 cf_34_1 ?_
    refine a_geti (pc := 72) (dk dt_X0_measure 12 rfl) cls_8 fl_RX0_200 cf_18_4 ?_
    exact a_iret (pc := 75) (dk dt_X0_measure 13 rfl) rfl rfl H
  have B3 : (x1 = 19) → AT G m_X0_measure 76 [(0, rv 34), (1, iv x1)] [] h Φ := by
    intro c
    replace H := H.2.2.2.1 c
    refine a_aload_n (pc := 76) (dk dt_X0_measure 14 rfl) rfl ?_
    refine a_geti (pc := 77) (dk dt_X0_measure 15 rfl) cls_0 fl_RX0_146 cf_34_6 ?_
    exact a_iret (pc := 80) (dk dt_X0_measure 16 rfl) rfl rfl H
  have B4 : (x1 = 20) → AT G m_X0_measure 81 [(0, rv 34), (1, iv x1)] [] h Φ := by
    intro c
    replace H := H.2.2.2.2.1 c
    refine a_aload_n (pc := 81) (dk dt_X0_measure 17 rfl) rfl ?_
    refine a_getr (r := 25) (pc := 82) (dk dt_X0_measure 18 rfl) cls_0 fl_RX0_66 cf_34_3 ?_
    refine a_geti (pc := 85) (dk dt_X0_measure 19 rfl) cls_4 fl_RX0_203 cf_26_3 ?_
    exact a_iret (pc := 88) (dk dt_X0_measure 20 rfl) rfl rfl H
  have B5 : (x1 = 21) → AT G m_X0_measure 89 [(0, rv 34), (1, iv x1)] [] h Φ := by
    intro c
    replace H := H.2.2.2.2.2.1 c
    refine a_aload_n (pc := 89) (dk dt_X0_measure 21 rfl) rfl ?_
    refine a_getr (r := 23) (pc := 90) (dk dt_X0_measure 22 rfl) cls_0 fl_RX0_62 cf_34_2 ?_
    refine a_geti (pc := 93) (dk dt_X0_measure 23 rfl) cls_5 fl_RX0_206 cf_24_1 ?_
    exact a_iret (pc := 96) (dk dt_X0_measure 24 rfl) rfl rfl H
  have B6 : (x1 = 22) → AT G m_X0_measure 97 [(0, rv 34), (1, iv x1)] [] h Φ := by
    intro c
    replace H := H.2.2.2.2.2.2.1 c
    refine a_aload_n (pc := 97) (dk dt_X0_measure 25 rfl) rfl ?_
    refine a_geti (pc := 98) (dk dt_X0_measure 26 rfl) cls_0 fl_RX0_85 cf_34_5 ?_
    exact a_iret (pc := 101) (dk dt_X0_measure 27 rfl) rfl rfl H
  have B7 : (x1 = 23) → AT G m_X0_measure 102 [(0, rv 34), (1, iv x1)] [] h Φ := by
    intro c
    replace H := H.2.2.2.2.2.2.2.1 c
    refine a_aload_n (pc := 102) (dk dt_X0_measure 28 rfl) rfl ?_
    refine a_getr (r := 13) (pc := 103) (dk dt_X0_measure 29 rfl) cls_0 fl_RX0_54 cf_34_0 ?_
    refine a_aload_n (pc := 106) (dk dt_X0_measure 30 rfl) rfl ?_
    refine a_geti (pc := 107) (dk dt_X0_measure 31 rfl) cls_0 fl_RX0_76 cf_34_4 ?_
    refine a_callVi (as := [iv (h 34 4)]) (st := []) (pc := 110) (dk dt_X0_measure 32 rfl) cl_RX0_209 ⟨Nat.le_of_ble_eq_true rfl, Nat.le_of_ble_eq_true rfl⟩ ⟨Nat.le_of_ble_eq_true rfl, Nat.le_of_ble_eq_true rfl⟩ cls_6 rfl cc_14 rfl rfl rfl (Nat.le_of_ble_eq_true rfl) (Call.of rfl (Nat.le_of_ble_eq_true rfl) rfl ?_)
    refine a_iload_n (pc := 0) (dk dt_X6_turn 0 rfl) rfl ?_
    refine a_aload_n (pc := 1) (dk dt_X6_turn 1 rfl) rfl ?_
    refine a_geti (pc := 2) (dk dt_X6_turn 2 rfl) cls_6 fl_RX6_9 cf_14_0 ?_
    refine a_idiv (pc := 5) (dk dt_X6_turn 3 rfl) ⟨H.1, ?_⟩
    replace H := H.2
    refine a_iret (pc := 6) (dk dt_X6_turn 4 rfl) rfl rfl ?_
    show ATW _ _ _ _ _ _ _ _ _ _
    exact a_iret (pc := 113) (dk dt_X0_measure 33 rfl) rfl rfl H
  have B8 : (x1 = 24) → AT G m_X0_measure 114 [(0, rv 34), (1, iv x1)] [] h Φ := by
    intro c
    replace H := H.2.2.2.2.2.2.2.2.1 c
    refine a_aload_n (pc := 114) (dk dt_X0_measure 34 rfl) rfl ?_
    refine a_getr (r := 13) (pc := 115) (dk dt_X0_measure 35 rfl) cls_0 fl_RX0_54 cf_34_0 ?_
    refine a_geti (pc := 118) (dk dt_X0_measure 36 rfl) cls_6 fl_RX0_117 cf_14_5 ?_
    refine a_callNi (as := [iv (h 14 5)]) (st := []) (pc := 121) (dk dt_X0_measure 37 rfl) cl_RX0_191 ⟨Nat.le_of_ble_eq_true rfl, Nat.le_of_ble_eq_true rfl⟩ ⟨Nat.le_of_ble_eq_true rfl, Nat.le_of_ble_eq_true rfl⟩ rfl rfl rfl (Nat.le_of_ble_eq_true rfl) (Call.of rfl (Nat.le_of_ble_eq_true rfl) rfl ?_)
    refine a_iload_n (pc := 0) (dk dt_X11_bit 0 rfl) rfl ?_
    refine a_if_eq (pc := 1) (dk dt_X11_bit 1 rfl) (tgt := 8) rfl ⟨fun c => ?_, fun c => ?_⟩
    · replace H := H.1 c
      refine a_iconst (pc := 8) (dk dt_X11_bit 4 rfl) (ik rfl) ?_
      refine a_iret (pc := 9) (dk dt_X11_bit 5 rfl) rfl rfl ?_
      show ATW _ _ _ _ _ _ _ _ _ _
      exact a_iret (pc := 124) (dk dt_X0_measure 38 rfl) rfl rfl H
    · replace H := H.2 c
      refine a_iconst (pc := 4) (dk dt_X11_bit 2 rfl) (ik rfl) ?_
      refine a_goto (pc := 5) (dk dt_X11_bit 3 rfl) (tgt := 9) rfl ?_
      refine a_iret (pc := 9) (dk dt_X11_bit 5 rfl) rfl rfl ?_
      show ATW _ _ _ _ _ _ _ _ _ _
      exact a_iret (pc := 124) (dk dt_X0_measure 38 rfl) rfl rfl H
  have BD : ((x1 < 16 ∨ 24 < x1)) → AT G m_X0_measure 125 [(0, rv 34), (1, iv x1)] [] h Φ := by
    intro c
    replace H := H.2.2.2.2.2.2.2.2.2 c
    refine a_aload_n (pc := 125) (dk dt_X0_measure 39 rfl) rfl ?_
    refine a_getr (r := 23) (pc := 126) (dk dt_X0_measure 40 rfl) cls_0 fl_RX0_62 cf_34_2 ?_
    refine a_iload_n (pc := 129) (dk dt_X0_measure 41 rfl) rfl ?_
    refine a_bipush (pc := 130) (dk dt_X0_measure 42 rfl) (ik rfl) (bpk rfl) ?_
    refine a_isub (pc := 132) (dk dt_X0_measure 43 rfl) ?_
    refine a_callVi (as := [iv (w32 (x1 - 25))]) (st := []) (pc := 133) (dk dt_X0_measure 44 rfl) cl_RX0_212 ⟨Nat.le_of_ble_eq_true rfl, Nat.le_of_ble_eq_true rfl⟩ ⟨Nat.le_of_ble_eq_true rfl, Nat.le_of_ble_eq_true rfl⟩ cls_5 rfl cc_24 rfl rfl rfl (Nat.le_of_ble_eq_true rfl) (Call.mono H fun r1 h2 H => ?_)
    exact a_iret (pc := 136) (dk dt_X0_measure 45 rfl) rfl rfl H
  exact a_tsw [52, 60, 68, 76, 81, 89, 97, 102, 114] (pc := 1) (dk dt_X0_measure 1 rfl) (by decide) (dt := 125) rfl (by decide) ⟨⟨fun c => B0 (c), fun c => B1 (c), fun c => B2 (c), fun c => B3 (c), fun c => B4 (c), fun c => B5 (c), fun c => B6 (c), fun c => B7 (c), fun c => B8 (c), trivial⟩, fun c => BD (c)⟩
set_option maxHeartbeats 40000000 in
theorem U_X0_judge_34_36_0 {G : GG} {Φ : Int → Hp → Prop} {h : Hp} {x2 : Int} (H : (0 ≤ x2 ∧ x2 < 240) ∧ Call G m_X0_measure [rv 34, iv (h 38 x2)] h (fun r1 h2 => (0 ≤ x2 ∧ x2 < 240) ∧ ((r1 ≠ (-3) → (0 ≤ x2 ∧ x2 < 240) ∧ (((h2 39 x2) = 60 → (((h2 40 x2) ≤ r1 → Φ 0 h2) ∧ (r1 < (h2 40 x2) → Φ 1 h2))) ∧ ((h2 39 x2) ≠ 60 → (((h2 39 x2) = 61 → ((r1 ≠ (h2 40 x2) → Φ 0 h2) ∧ (r1 = (h2 40 x2) → Φ 1 h2))) ∧ ((h2 39 x2) ≠ 61 → ((r1 ≤ (h2 40 x2) → Φ 0 h2) ∧ ((h2 40 x2) < r1 → Φ 1 h2))))))) ∧ (r1 = (-3) → Φ (-3) h2)))) : AT G m_X0_judge 0 [(0, rv 34), (1, rv 36), (2, iv x2)] [] h Φ := by
  refine a_aload_n (pc := 0) (dk dt_X0_judge 0 rfl) rfl ?_
  refine a_aload_n (pc := 1) (dk dt_X0_judge 1 rfl) rfl ?_
  refine a_getr (r := 37) (pc := 2) (dk dt_X0_judge 2 rfl) cls_3 fl_RX0_182 cf_36_2 ?_
  refine a_iload_n (pc := 5) (dk dt_X0_judge 3 rfl) rfl ?_
  refine a_iald (pc := 6) (dk dt_X0_judge 4 rfl) ar_38 ⟨H.1, ?_⟩
  replace H := H.2
  refine a_callVi (as := [iv (h 38 x2)]) (st := []) (pc := 7) (dk dt_X0_judge 5 rfl) cl_RX0_185 ⟨Nat.le_of_ble_eq_true rfl, Nat.le_of_ble_eq_true rfl⟩ ⟨Nat.le_of_ble_eq_true rfl, Nat.le_of_ble_eq_true rfl⟩ cls_0 rfl cc_34 rfl rfl rfl (Nat.le_of_ble_eq_true rfl) (Call.mono H fun r1 h2 H => ?_)
  refine a_istore_n (pc := 10) (dk dt_X0_judge 6 rfl) (by decide) rfl rfl ?_
  refine a_aload_n (pc := 11) (dk dt_X0_judge 7 rfl) rfl ?_
  refine a_getr (r := 39) (pc := 12) (dk dt_X0_judge 8 rfl) cls_3 fl_RX0_161 cf_36_4 ?_
  refine a_iload_n (pc := 15) (dk dt_X0_judge 9 rfl) rfl ?_
  refine a_iald (pc := 16) (dk dt_X0_judge 10 rfl) ar_40 ⟨H.1, ?_⟩
  replace H := H.2
  refine a_istore (pc := 17) (dk dt_X0_judge 11 rfl) (by decide) rfl rfl ?_
  refine a_iload_n (pc := 19) (dk dt_X0_judge 12 rfl) rfl ?_
  refine a_bipush (pc := 20) (dk dt_X0_judge 13 rfl) (ik rfl) (bpk rfl) ?_
  refine a_icmp_ne (pc := 22) (dk dt_X0_judge 14 rfl) (tgt := 28) rfl ⟨fun c => ?_, fun c => ?_⟩
  · replace H := H.1 c
    refine a_aload_n (pc := 28) (dk dt_X0_judge 17 rfl) rfl ?_
    refine a_getr (r := 38) (pc := 29) (dk dt_X0_judge 18 rfl) cls_3 fl_RX0_188 cf_36_3 ?_
    refine a_iload_n (pc := 32) (dk dt_X0_judge 19 rfl) rfl ?_
    refine a_iald (pc := 33) (dk dt_X0_judge 20 rfl) ar_39 ⟨H.1, ?_⟩
    replace H := H.2
    refine a_lsw [(60, 75), (61, 60)] (pc := 34) (dk dt_X0_judge 21 rfl) (by decide) (by decide) (dt := 90) rfl ?_
    refine ⟨fun c => ?_, fun c => ?_⟩
    · replace H := H.1 c
      refine a_iload_n (pc := 75) (dk dt_X0_judge 30 rfl) rfl ?_
      refine a_iload (pc := 76) (dk dt_X0_judge 31 rfl) rfl ?_
      refine a_icmp_ge (pc := 78) (dk dt_X0_judge 32 rfl) (tgt := 85) rfl ⟨fun c => ?_, fun c => ?_⟩
      · replace H := H.1 c
        refine a_iconst (pc := 85) (dk dt_X0_judge 35 rfl) (ik rfl) ?_
        refine a_callNi (as := [iv 0]) (st := []) (pc := 86) (dk dt_X0_judge 36 rfl) cl_RX0_191 ⟨Nat.le_of_ble_eq_true rfl, Nat.le_of_ble_eq_true rfl⟩ ⟨Nat.le_of_ble_eq_true rfl, Nat.le_of_ble_eq_true rfl⟩ rfl rfl rfl (Nat.le_of_ble_eq_true rfl) (Call.of rfl (Nat.le_of_ble_eq_true rfl) rfl ?_)
        refine a_iload_n (pc := 0) (dk dt_X11_bit 0 rfl) rfl ?_
        refine a_if_eq (pc := 1) (dk dt_X11_bit 1 rfl) (tgt := 8) rfl ⟨fun _ => ?_, fun c => absurd c (by decide)⟩
        refine a_iconst (pc := 8) (dk dt_X11_bit 4 rfl) (ik rfl) ?_
        refine a_iret (pc := 9) (dk dt_X11_bit 5 rfl) rfl rfl ?_
        show ATW _ _ _ _ _ _ _ _ _ _
        exact a_iret (pc := 89) (dk dt_X0_judge 37 rfl) rfl rfl H
      · replace H := H.2 c
        refine a_iconst (pc := 81) (dk dt_X0_judge 33 rfl) (ik rfl) ?_
        refine a_goto (pc := 82) (dk dt_X0_judge 34 rfl) (tgt := 86) rfl ?_
        refine a_callNi (as := [iv 1]) (st := []) (pc := 86) (dk dt_X0_judge 36 rfl) cl_RX0_191 ⟨Nat.le_of_ble_eq_true rfl, Nat.le_of_ble_eq_true rfl⟩ ⟨Nat.le_of_ble_eq_true rfl, Nat.le_of_ble_eq_true rfl⟩ rfl rfl rfl (Nat.le_of_ble_eq_true rfl) (Call.of rfl (Nat.le_of_ble_eq_true rfl) rfl ?_)
        refine a_iload_n (pc := 0) (dk dt_X11_bit 0 rfl) rfl ?_
        refine a_if_eq (pc := 1) (dk dt_X11_bit 1 rfl) (tgt := 8) rfl ⟨fun c => absurd c (by decide), fun _ => ?_⟩
        refine a_iconst (pc := 4) (dk dt_X11_bit 2 rfl) (ik rfl) ?_
        refine a_goto (pc := 5) (dk dt_X11_bit 3 rfl) (tgt := 9) rfl ?_
        refine a_iret (pc := 9) (dk dt_X11_bit 5 rfl) rfl rfl ?_
        show ATW _ _ _ _ _ _ _ _ _ _
        exact a_iret (pc := 89) (dk dt_X0_judge 37 rfl) rfl rfl H
    · replace H := H.2 c
      refine ⟨fun c => ?_, fun c => ?_⟩
      · replace H := H.1 c
        refine a_iload_n (pc := 60) (dk dt_X0_judge 22 rfl) rfl ?_
        refine a_iload (pc := 61) (dk dt_X0_judge 23 rfl) rfl ?_
        refine a_icmp_ne (pc := 63) (dk dt_X0_judge 24 rfl) (tgt := 70) rfl ⟨fun c => ?_, fun c => ?_⟩
        · replace H := H.1 c
          refine a_iconst (pc := 70) (dk dt_X0_judge 27 rfl) (ik rfl) ?_
          refine a_callNi (as := [iv 0]) (st := []) (pc := 71) (dk dt_X0_judge 28 rfl) cl_RX0_191 ⟨Nat.le_of_ble_eq_true rfl, Nat.le_of_ble_eq_true rfl⟩ ⟨Nat.le_of_ble_eq_true rfl, Nat.le_of_ble_eq_true rfl⟩ rfl rfl rfl (Nat.le_of_ble_eq_true rfl) (Call.of rfl (Nat.le_of_ble_eq_true rfl) rfl ?_)
          refine a_iload_n (pc := 0) (dk dt_X11_bit 0 rfl) rfl ?_
          refine a_if_eq (pc := 1) (dk dt_X11_bit 1 rfl) (tgt := 8) rfl ⟨fun _ => ?_, fun c => absurd c (by decide)⟩
          refine a_iconst (pc := 8) (dk dt_X11_bit 4 rfl) (ik rfl) ?_
          refine a_iret (pc := 9) (dk dt_X11_bit 5 rfl) rfl rfl ?_
          show ATW _ _ _ _ _ _ _ _ _ _
          exact a_iret (pc := 74) (dk dt_X0_judge 29 rfl) rfl rfl H
        · replace H := H.2 c
          refine a_iconst (pc := 66) (dk dt_X0_judge 25 rfl) (ik rfl) ?_
          refine a_goto (pc := 67) (dk dt_X0_judge 26 rfl) (tgt := 71) rfl ?_
          refine a_callNi (as := [iv 1]) (st := []) (pc := 71) (dk dt_X0_judge 28 rfl) cl_RX0_191 ⟨Nat.le_of_ble_eq_true rfl, Nat.le_of_ble_eq_true rfl⟩ ⟨Nat.le_of_ble_eq_true rfl, Nat.le_of_ble_eq_true rfl⟩ rfl rfl rfl (Nat.le_of_ble_eq_true rfl) (Call.of rfl (Nat.le_of_ble_eq_true rfl) rfl ?_)
          refine a_iload_n (pc := 0) (dk dt_X11_bit 0 rfl) rfl ?_
          refine a_if_eq (pc := 1) (dk dt_X11_bit 1 rfl) (tgt := 8) rfl ⟨fun c => absurd c (by decide), fun _ => ?_⟩
          refine a_iconst (pc := 4) (dk dt_X11_bit 2 rfl) (ik rfl) ?_
          refine a_goto (pc := 5) (dk dt_X11_bit 3 rfl) (tgt := 9) rfl ?_
          refine a_iret (pc := 9) (dk dt_X11_bit 5 rfl) rfl rfl ?_
          show ATW _ _ _ _ _ _ _ _ _ _
          exact a_iret (pc := 74) (dk dt_X0_judge 29 rfl) rfl rfl H
      · replace H := H.2 c
        refine a_iload_n (pc := 90) (dk dt_X0_judge 38 rfl) rfl ?_
        refine a_iload (pc := 91) (dk dt_X0_judge 39 rfl) rfl ?_
        refine a_icmp_le (pc := 93) (dk dt_X0_judge 40 rfl) (tgt := 100) rfl ⟨fun c => ?_, fun c => ?_⟩
        · replace H := H.1 c
          refine a_iconst (pc := 100) (dk dt_X0_judge 43 rfl) (ik rfl) ?_
          refine a_callNi (as := [iv 0]) (st := []) (pc := 101) (dk dt_X0_judge 44 rfl) cl_RX0_191 ⟨Nat.le_of_ble_eq_true rfl, Nat.le_of_ble_eq_true rfl⟩ ⟨Nat.le_of_ble_eq_true rfl, Nat.le_of_ble_eq_true rfl⟩ rfl rfl rfl (Nat.le_of_ble_eq_true rfl) (Call.of rfl (Nat.le_of_ble_eq_true rfl) rfl ?_)
          refine a_iload_n (pc := 0) (dk dt_X11_bit 0 rfl) rfl ?_
          refine a_if_eq (pc := 1) (dk dt_X11_bit 1 rfl) (tgt := 8) rfl ⟨fun _ => ?_, fun c => absurd c (by decide)⟩
          refine a_iconst (pc := 8) (dk dt_X11_bit 4 rfl) (ik rfl) ?_
          refine a_iret (pc := 9) (dk dt_X11_bit 5 rfl) rfl rfl ?_
          show ATW _ _ _ _ _ _ _ _ _ _
          exact a_iret (pc := 104) (dk dt_X0_judge 45 rfl) rfl rfl H
        · replace H := H.2 c
          refine a_iconst (pc := 96) (dk dt_X0_judge 41 rfl) (ik rfl) ?_
          refine a_goto (pc := 97) (dk dt_X0_judge 42 rfl) (tgt := 101) rfl ?_
          refine a_callNi (as := [iv 1]) (st := []) (pc := 101) (dk dt_X0_judge 44 rfl) cl_RX0_191 ⟨Nat.le_of_ble_eq_true rfl, Nat.le_of_ble_eq_true rfl⟩ ⟨Nat.le_of_ble_eq_true rfl, Nat.le_of_ble_eq_true rfl⟩ rfl rfl rfl (Nat.le_of_ble_eq_true rfl) (Call.of rfl (Nat.le_of_ble_eq_true rfl) rfl ?_)
          refine a_iload_n (pc := 0) (dk dt_X11_bit 0 rfl) rfl ?_
          refine a_if_eq (pc := 1) (dk dt_X11_bit 1 rfl) (tgt := 8) rfl ⟨fun c => absurd c (by decide), fun _ => ?_⟩
          refine a_iconst (pc := 4) (dk dt_X11_bit 2 rfl) (ik rfl) ?_
          refine a_goto (pc := 5) (dk dt_X11_bit 3 rfl) (tgt := 9) rfl ?_
          refine a_iret (pc := 9) (dk dt_X11_bit 5 rfl) rfl rfl ?_
          show ATW _ _ _ _ _ _ _ _ _ _
          exact a_iret (pc := 104) (dk dt_X0_judge 45 rfl) rfl rfl H
  · replace H := H.2 c
    refine a_bipush (pc := 25) (dk dt_X0_judge 15 rfl) (ik rfl) (bpk rfl) ?_
    exact a_iret (pc := 27) (dk dt_X0_judge 16 rfl) rfl rfl H
set_option maxHeartbeats 40000000 in
theorem U_X0_perform_34_36_0 {G : GG} {Φ : Int → Hp → Prop} {h : Hp} {x2 : Int} (H : (0 ≤ x2 ∧ x2 < 240) ∧ (0 ≤ x2 ∧ x2 < 240) ∧ ((((h 37 x2) = 6 ∨ (h 37 x2) = 7) → (0 ≤ x2 ∧ x2 < 240) ∧ (((h 37 x2) ≠ 6 → (0 ≤ (h 40 x2) ∧ (h 40 x2) < 8) ∧ Φ 1 (up h 21 (h 40 x2) 0)) ∧ ((h 37 x2) = 6 → (0 ≤ (h 40 x2) ∧ (h 40 x2) < 8) ∧ Φ 1 (up h 21 (h 40 x2) 1)))) ∧ (((h 37 x2) = 8) → (0 ≤ x2 ∧ x2 < 240) ∧ Call G m_X5_write [rv 24, iv (w32 ((h 38 x2) - 25)), iv (h 40 x2)] h (fun _ h2 => Φ 1 h2)) ∧ (((h 37 x2) = 9) → (0 ≤ x2 ∧ x2 < 240) ∧ Call G m_X0_add [rv 34, iv (w32 ((h 38 x2) - 25)), iv (h 40 x2)] h (fun r3 h4 => (r3 = 0 ∨ r3 = 1) ∧ Φ r3 h4)) ∧ (((h 37 x2) = 10) → Call G m_X0_record [rv 34, iv (h 40 x2)] h (fun r5 h6 => (r5 = 0 ∨ r5 = 1) ∧ Φ r5 h6)) ∧ (((h 37 x2) = 11) → Call G m_X0_goTo [rv 34, iv (h 40 x2)] h (fun _ h8 => Φ 1 h8)) ∧ (((h 37 x2) = 12) → (0 ≤ (h 40 x2) ∧ (h 40 x2) < 8) ∧ (0 ≤ (h 40 x2) ∧ (h 40 x2) < 8) ∧ Φ 1 (up (up h 50 (h 40 x2) 0) 51 (h 40 x2) 0)) ∧ (((h 37 x2) = 13) → (0 ≤ (h 40 x2) ∧ (h 40 x2) < 8) ∧ (0 ≤ (h 40 x2) ∧ (h 40 x2) < 8) ∧ Φ 1 (up (up h 50 (h 40 x2) (-1)) 51 (h 40 x2) 0)) ∧ ((((h 37 x2) < 6 ∨ 13 < (h 37 x2))) → Φ 1 h))) : AT G m_X0_perform 0 [(0, rv 34), (1, rv 36), (2, iv x2)] [] h Φ := by
  refine a_aload_n (pc := 0) (dk dt_X0_perform 0 rfl) rfl ?_
  refine a_getr (r := 39) (pc := 1) (dk dt_X0_perform 1 rfl) cls_3 fl_RX0_161 cf_36_4 ?_
  refine a_iload_n (pc := 4) (dk dt_X0_perform 2 rfl) rfl ?_
  refine a_iald (pc := 5) (dk dt_X0_perform 3 rfl) ar_40 ⟨H.1, ?_⟩
  replace H := H.2
  refine a_istore_n (pc := 6) (dk dt_X0_perform 4 rfl) (by decide) rfl rfl ?_
  refine a_aload_n (pc := 7) (dk dt_X0_perform 5 rfl) rfl ?_
  refine a_getr (r := 36) (pc := 8) (dk dt_X0_perform 6 rfl) cls_3 fl_RX0_158 cf_36_1 ?_
  refine a_iload_n (pc := 11) (dk dt_X0_perform 7 rfl) rfl ?_
  refine a_iald (pc := 12) (dk dt_X0_perform 8 rfl) ar_37 ⟨H.1, ?_⟩
  replace H := H.2
  have B0 : ((h 37 x2) = 6 ∨ (h 37 x2) = 7) → AT G m_X0_perform 60 [(0, rv 34), (1, rv 36), (2, iv x2), (3, iv (h 40 x2))] [] h Φ := by
    intro c
    replace H := H.1 c
    refine a_aload_n (pc := 60) (dk dt_X0_perform 10 rfl) rfl ?_
    refine a_getr (r := 17) (pc := 61) (dk dt_X0_perform 11 rfl) cls_0 fl_RX0_58 cf_34_1 ?_
    refine a_getr (r := 20) (pc := 64) (dk dt_X0_perform 12 rfl) cls_8 fl_RX0_215 cf_18_7 ?_
    refine a_iload_n (pc := 67) (dk dt_X0_perform 13 rfl) rfl ?_
    refine a_aload_n (pc := 68) (dk dt_X0_perform 14 rfl) rfl ?_
    refine a_getr (r := 36) (pc := 69) (dk dt_X0_perform 15 rfl) cls_3 fl_RX0_158 cf_36_1 ?_
    refine a_iload_n (pc := 72) (dk dt_X0_perform 16 rfl) rfl ?_
    refine a_iald (pc := 73) (dk dt_X0_perform 17 rfl) ar_37 ⟨H.1, ?_⟩
    replace H := H.2
    refine a_bipush (pc := 74) (dk dt_X0_perform 18 rfl) (ik rfl) (bpk rfl) ?_
    refine a_icmp_ne (pc := 76) (dk dt_X0_perform 19 rfl) (tgt := 83) rfl ⟨fun c => ?_, fun c => ?_⟩
    · replace H := H.1 c
      refine a_iconst (pc := 83) (dk dt_X0_perform 22 rfl) (ik rfl) ?_
      refine a_zast (pc := 84) (dk dt_X0_perform 23 rfl) ar_21 ⟨H.1, by decide, ?_⟩
      replace H := H.2
      refine a_iconst (pc := 85) (dk dt_X0_perform 24 rfl) (ik rfl) ?_
      exact a_zret (pc := 86) (dk dt_X0_perform 25 rfl) rfl rfl ⟨by decide, H⟩
    · replace H := H.2 c
      refine a_iconst (pc := 79) (dk dt_X0_perform 20 rfl) (ik rfl) ?_
      refine a_goto (pc := 80) (dk dt_X0_perform 21 rfl) (tgt := 84) rfl ?_
      refine a_zast (pc := 84) (dk dt_X0_perform 23 rfl) ar_21 ⟨H.1, by decide, ?_⟩
      replace H := H.2
      refine a_iconst (pc := 85) (dk dt_X0_perform 24 rfl) (ik rfl) ?_
      exact a_zret (pc := 86) (dk dt_X0_perform 25 rfl) rfl rfl ⟨by decide, H⟩
  have B1 : ((h 37 x2) = 8) → AT G m_X0_perform 87 [(0, rv 34), (1, rv 36), (2, iv x2), (3, iv (h 40 x2))] [] h Φ := by
    intro c
    replace H := H.2.1 c
    refine a_aload_n (pc := 87) (dk dt_X0_perform 26 rfl) rfl ?_
    refine a_getr (r := 23) (pc := 88) (dk dt_X0_perform 27 rfl) cls_0 fl_RX0_62 cf_34_2 ?_
    refine a_aload_n (pc := 91) (dk dt_X0_perform 28 rfl) rfl ?_
    refine a_getr (r := 37) (pc := 92) (dk dt_X0_perform 29 rfl) cls_3 fl_RX0_182 cf_36_2 ?_
    refine a_iload_n (pc := 95) (dk dt_X0_perform 30 rfl) rfl ?_
    refine a_iald (pc := 96) (dk dt_X0_perform 31 rfl) ar_38 ⟨H.1, ?_⟩
    replace H := H.2
    refine a_bipush (pc := 97) (dk dt_X0_perform 32 rfl) (ik rfl) (bpk rfl) ?_
    refine a_isub (pc := 99) (dk dt_X0_perform 33 rfl) ?_
    refine a_iload_n (pc := 100) (dk dt_X0_perform 34 rfl) rfl ?_
    refine a_callVv (as := [iv (w32 ((h 38 x2) - 25)), iv (h 40 x2)]) (st := []) (pc := 101) (dk dt_X0_perform 35 rfl) cl_RX0_218 ⟨Nat.le_of_ble_eq_true rfl, Nat.le_of_ble_eq_true rfl⟩ ⟨Nat.le_of_ble_eq_true rfl, Nat.le_of_ble_eq_true rfl⟩ cls_5 rfl cc_24 rfl rfl rfl (Nat.le_of_ble_eq_true rfl) (Call.mono H fun _ h2 H => ?_)
    refine a_iconst (pc := 104) (dk dt_X0_perform 36 rfl) (ik rfl) ?_
    exact a_zret (pc := 105) (dk dt_X0_perform 37 rfl) rfl rfl ⟨by decide, H⟩
  have B2 : ((h 37 x2) = 9) → AT G m_X0_perform 106 [(0, rv 34), (1, rv 36), (2, iv x2), (3, iv (h 40 x2))] [] h Φ := by
    intro c
    replace H := H.2.2.1 c
    refine a_aload_n (pc := 106) (dk dt_X0_perform 38 rfl) rfl ?_
    refine a_aload_n (pc := 107) (dk dt_X0_perform 39 rfl) rfl ?_
    refine a_getr (r := 37) (pc := 108) (dk dt_X0_perform 40 rfl) cls_3 fl_RX0_182 cf_36_2 ?_
    refine a_iload_n (pc := 111) (dk dt_X0_perform 41 rfl) rfl ?_
    refine a_iald (pc := 112) (dk dt_X0_perform 42 rfl) ar_38 ⟨H.1, ?_⟩
    replace H := H.2
    refine a_bipush (pc := 113) (dk dt_X0_perform 43 rfl) (ik rfl) (bpk rfl) ?_
    refine a_isub (pc := 115) (dk dt_X0_perform 44 rfl) ?_
    refine a_iload_n (pc := 116) (dk dt_X0_perform 45 rfl) rfl ?_
    refine a_callVi (as := [iv (w32 ((h 38 x2) - 25)), iv (h 40 x2)]) (st := []) (pc := 117) (dk dt_X0_perform 46 rfl) cl_RX0_221 ⟨Nat.le_of_ble_eq_true rfl, Nat.le_of_ble_eq_true rfl⟩ ⟨Nat.le_of_ble_eq_true rfl, Nat.le_of_ble_eq_true rfl⟩ cls_0 rfl cc_34 rfl rfl rfl (Nat.le_of_ble_eq_true rfl) (Call.mono H fun r3 h4 H => ?_)
    exact a_zret (pc := 120) (dk dt_X0_perform 47 rfl) rfl rfl H
  have B3 : ((h 37 x2) = 10) → AT G m_X0_perform 121 [(0, rv 34), (1, rv 36), (2, iv x2), (3, iv (h 40 x2))] [] h Φ := by
    intro c
    replace H := H.2.2.2.1 c
    refine a_aload_n (pc := 121) (dk dt_X0_perform 48 rfl) rfl ?_
    refine a_iload_n (pc := 122) (dk dt_X0_perform 49 rfl) rfl ?_
    refine a_callVi (as := [iv (h 40 x2)]) (st := []) (pc := 123) (dk dt_X0_perform 50 rfl) cl_RX0_225 ⟨Nat.le_of_ble_eq_true rfl, Nat.le_of_ble_eq_true rfl⟩ ⟨Nat.le_of_ble_eq_true rfl, Nat.le_of_ble_eq_true rfl⟩ cls_0 rfl cc_34 rfl rfl rfl (Nat.le_of_ble_eq_true rfl) (Call.mono H fun r5 h6 H => ?_)
    exact a_zret (pc := 126) (dk dt_X0_perform 51 rfl) rfl rfl H
  have B4 : ((h 37 x2) = 11) → AT G m_X0_perform 127 [(0, rv 34), (1, rv 36), (2, iv x2), (3, iv (h 40 x2))] [] h Φ := by
    intro c
    replace H := H.2.2.2.2.1 c
    refine a_aload_n (pc := 127) (dk dt_X0_perform 52 rfl) rfl ?_
    refine a_iload_n (pc := 128) (dk dt_X0_perform 53 rfl) rfl ?_
    refine a_callVv (as := [iv (h 40 x2)]) (st := []) (pc := 129) (dk dt_X0_perform 54 rfl) cl_RX0_228 ⟨Nat.le_of_ble_eq_true rfl, Nat.le_of_ble_eq_true rfl⟩ ⟨Nat.le_of_ble_eq_true rfl, Nat.le_of_ble_eq_true rfl⟩ cls_0 rfl cc_34 rfl rfl rfl (Nat.le_of_ble_eq_true rfl) (Call.mono H fun _ h8 H => ?_)
    refine a_iconst (pc := 132) (dk dt_X0_perform 55 rfl) (ik rfl) ?_
    exact a_zret (pc := 133) (dk dt_X0_perform 56 rfl) rfl rfl ⟨by decide, H⟩
  have B5 : ((h 37 x2) = 12) → AT G m_X0_perform 134 [(0, rv 34), (1, rv 36), (2, iv x2), (3, iv (h 40 x2))] [] h Φ := by
    intro c
    replace H := H.2.2.2.2.2.1 c
    refine a_aload_n (pc := 134) (dk dt_X0_perform 57 rfl) rfl ?_
    refine a_iload_n (pc := 135) (dk dt_X0_perform 58 rfl) rfl ?_
    refine a_callVv (as := [iv (h 40 x2)]) (st := []) (pc := 136) (dk dt_X0_perform 59 rfl) cl_RX0_128 ⟨Nat.le_of_ble_eq_true rfl, Nat.le_of_ble_eq_true rfl⟩ ⟨Nat.le_of_ble_eq_true rfl, Nat.le_of_ble_eq_true rfl⟩ cls_0 rfl cc_34 rfl rfl rfl (Nat.le_of_ble_eq_true rfl) (Call.of rfl (Nat.le_of_ble_eq_true rfl) rfl ?_)
    refine a_aload_n (pc := 0) (dk dt_X0_begin 0 rfl) rfl ?_
    refine a_getr (r := 49) (pc := 1) (dk dt_X0_begin 1 rfl) cls_0 fl_RX0_27 cf_34_10 ?_
    refine a_iload_n (pc := 4) (dk dt_X0_begin 2 rfl) rfl ?_
    refine a_iconst (pc := 5) (dk dt_X0_begin 3 rfl) (ik rfl) ?_
    refine a_iast (pc := 6) (dk dt_X0_begin 4 rfl) ar_50 ⟨H.1, ?_⟩
    replace H := H.2
    refine a_aload_n (pc := 7) (dk dt_X0_begin 5 rfl) rfl ?_
    refine a_getr (r := 50) (pc := 8) (dk dt_X0_begin 6 rfl) cls_0 fl_RX0_30 cf_34_11 ?_
    refine a_iload_n (pc := 11) (dk dt_X0_begin 7 rfl) rfl ?_
    refine a_iconst (pc := 12) (dk dt_X0_begin 8 rfl) (ik rfl) ?_
    refine a_iast (pc := 13) (dk dt_X0_begin 9 rfl) ar_51 ⟨H.1, ?_⟩
    replace H := H.2
    refine a_vret (pc := 14) (dk dt_X0_begin 10 rfl) rfl rfl ?_
    show ATW _ _ _ _ _ _ _ _ _ _
    refine a_iconst (pc := 139) (dk dt_X0_perform 60 rfl) (ik rfl) ?_
    exact a_zret (pc := 140) (dk dt_X0_perform 61 rfl) rfl rfl ⟨by decide, H⟩
  have B6 : ((h 37 x2) = 13) → AT G m_X0_perform 141 [(0, rv 34), (1, rv 36), (2, iv x2), (3, iv (h 40 x2))] [] h Φ := by
    intro c
    replace H := H.2.2.2.2.2.2.1 c
    refine a_aload_n (pc := 141) (dk dt_X0_perform 62 rfl) rfl ?_
    refine a_iload_n (pc := 142) (dk dt_X0_perform 63 rfl) rfl ?_
    refine a_callVv (as := [iv (h 40 x2)]) (st := []) (pc := 143) (dk dt_X0_perform 64 rfl) cl_RX0_143 ⟨Nat.le_of_ble_eq_true rfl, Nat.le_of_ble_eq_true rfl⟩ ⟨Nat.le_of_ble_eq_true rfl, Nat.le_of_ble_eq_true rfl⟩ cls_0 rfl cc_34 rfl rfl rfl (Nat.le_of_ble_eq_true rfl) (Call.of rfl (Nat.le_of_ble_eq_true rfl) rfl ?_)
    refine a_aload_n (pc := 0) (dk dt_X0_stop 0 rfl) rfl ?_
    refine a_getr (r := 49) (pc := 1) (dk dt_X0_stop 1 rfl) cls_0 fl_RX0_27 cf_34_10 ?_
    refine a_iload_n (pc := 4) (dk dt_X0_stop 2 rfl) rfl ?_
    refine a_iconst (pc := 5) (dk dt_X0_stop 3 rfl) (ik rfl) ?_
    refine a_iast (pc := 6) (dk dt_X0_stop 4 rfl) ar_50 ⟨H.1, ?_⟩
    replace H := H.2
    refine a_aload_n (pc := 7) (dk dt_X0_stop 5 rfl) rfl ?_
    refine a_getr (r := 50) (pc := 8) (dk dt_X0_stop 6 rfl) cls_0 fl_RX0_30 cf_34_11 ?_
    refine a_iload_n (pc := 11) (dk dt_X0_stop 7 rfl) rfl ?_
    refine a_iconst (pc := 12) (dk dt_X0_stop 8 rfl) (ik rfl) ?_
    refine a_iast (pc := 13) (dk dt_X0_stop 9 rfl) ar_51 ⟨H.1, ?_⟩
    replace H := H.2
    refine a_vret (pc := 14) (dk dt_X0_stop 10 rfl) rfl rfl ?_
    show ATW _ _ _ _ _ _ _ _ _ _
    refine a_iconst (pc := 146) (dk dt_X0_perform 65 rfl) (ik rfl) ?_
    exact a_zret (pc := 147) (dk dt_X0_perform 66 rfl) rfl rfl ⟨by decide, H⟩
  have BD : (((h 37 x2) < 6 ∨ 13 < (h 37 x2))) → AT G m_X0_perform 148 [(0, rv 34), (1, rv 36), (2, iv x2), (3, iv (h 40 x2))] [] h Φ := by
    intro c
    replace H := H.2.2.2.2.2.2.2 c
    refine a_iconst (pc := 148) (dk dt_X0_perform 67 rfl) (ik rfl) ?_
    exact a_zret (pc := 149) (dk dt_X0_perform 68 rfl) rfl rfl ⟨by decide, H⟩
  exact a_tsw [60, 60, 87, 106, 121, 127, 134, 141] (pc := 13) (dk dt_X0_perform 9 rfl) (by decide) (dt := 148) rfl (by decide) ⟨⟨fun c => B0 (Or.inl c), fun c => B0 (Or.inr (c)), fun c => B1 (c), fun c => B2 (c), fun c => B3 (c), fun c => B4 (c), fun c => B5 (c), fun c => B6 (c), trivial⟩, fun c => BD (c)⟩
set_option maxHeartbeats 40000000 in
theorem U_X0_decide_34_0 {G : GG} {Φ : Int → Hp → Prop} {h : Hp} {x1 : Int} {x2 : Int} {x3 : Int} (H : ((x3 ≠ (-3) → (0 ≤ x2 ∧ x2 < 240) ∧ (((h 37 x2) ≠ 3 → (0 ≤ x1 ∧ x1 < 8) ∧ (0 ≤ x1 ∧ x1 < 8) ∧ ((x3 ≠ 1 → Φ 0 (up h 50 x1 (w32 ((h 50 x1) + x3)))) ∧ (x3 = 1 → Φ 1 (up h 50 x1 (w32 ((h 50 x1) + x3)))))) ∧ ((h 37 x2) = 3 → ((x3 ≠ 1 → (0 ≤ x1 ∧ x1 < 8) ∧ (0 ≤ x1 ∧ x1 < 8) ∧ Φ 1 (up h 50 x1 (w32 ((h 50 x1) + 1)))) ∧ (x3 = 1 → (0 ≤ x2 ∧ x2 < 240) ∧ (0 ≤ x1 ∧ x1 < 8) ∧ Φ 1 (up h 50 x1 (h 41 x2))))))) ∧ (x3 = (-3) → Call G m_X0_failOf [rv 34, iv x1] h (fun _ h2 => Φ 0 h2)))) : AT G m_X0_decide 0 [(0, rv 34), (1, iv x1), (2, iv x2), (3, iv x3)] [] h Φ := by
  refine a_iload_n (pc := 0) (dk dt_X0_decide 0 rfl) rfl ?_
  refine a_bipush (pc := 1) (dk dt_X0_decide 1 rfl) (ik rfl) (bpk rfl) ?_
  refine a_icmp_ne (pc := 3) (dk dt_X0_decide 2 rfl) (tgt := 13) rfl ⟨fun c => ?_, fun c => ?_⟩
  · replace H := H.1 c
    refine a_aload_n (pc := 13) (dk dt_X0_decide 8 rfl) rfl ?_
    refine a_getr (r := 35) (pc := 14) (dk dt_X0_decide 9 rfl) cls_0 fl_RX0_20 cf_34_8 ?_
    refine a_getr (r := 36) (pc := 17) (dk dt_X0_decide 10 rfl) cls_3 fl_RX0_158 cf_36_1 ?_
    refine a_iload_n (pc := 20) (dk dt_X0_decide 11 rfl) rfl ?_
    refine a_iald (pc := 21) (dk dt_X0_decide 12 rfl) ar_37 ⟨H.1, ?_⟩
    replace H := H.2
    refine a_iconst (pc := 22) (dk dt_X0_decide 13 rfl) (ik rfl) ?_
    refine a_icmp_ne (pc := 23) (dk dt_X0_decide 14 rfl) (tgt := 59) rfl ⟨fun c => ?_, fun c => ?_⟩
    · replace H := H.1 c
      refine a_aload_n (pc := 59) (dk dt_X0_decide 36 rfl) rfl ?_
      refine a_getr (r := 49) (pc := 60) (dk dt_X0_decide 37 rfl) cls_0 fl_RX0_27 cf_34_10 ?_
      refine a_iload_n (pc := 63) (dk dt_X0_decide 38 rfl) rfl ?_
      refine a_dup2 (pc := 64) (dk dt_X0_decide 39 rfl) rfl rfl ?_
      refine a_iald (pc := 65) (dk dt_X0_decide 40 rfl) ar_50 ⟨H.1, ?_⟩
      replace H := H.2
      refine a_iload_n (pc := 66) (dk dt_X0_decide 41 rfl) rfl ?_
      refine a_iadd (pc := 67) (dk dt_X0_decide 42 rfl) ?_
      refine a_iast (pc := 68) (dk dt_X0_decide 43 rfl) ar_50 ⟨H.1, ?_⟩
      replace H := H.2
      refine a_iload_n (pc := 69) (dk dt_X0_decide 44 rfl) rfl ?_
      refine a_iconst (pc := 70) (dk dt_X0_decide 45 rfl) (ik rfl) ?_
      refine a_icmp_ne (pc := 71) (dk dt_X0_decide 46 rfl) (tgt := 78) rfl ⟨fun c => ?_, fun c => ?_⟩
      · replace H := H.1 c
        refine a_iconst (pc := 78) (dk dt_X0_decide 49 rfl) (ik rfl) ?_
        exact a_zret (pc := 79) (dk dt_X0_decide 50 rfl) rfl rfl ⟨by decide, H⟩
      · replace H := H.2 c
        refine a_iconst (pc := 74) (dk dt_X0_decide 47 rfl) (ik rfl) ?_
        refine a_goto (pc := 75) (dk dt_X0_decide 48 rfl) (tgt := 79) rfl ?_
        exact a_zret (pc := 79) (dk dt_X0_decide 50 rfl) rfl rfl ⟨by decide, H⟩
    · replace H := H.2 c
      refine a_aload_n (pc := 26) (dk dt_X0_decide 15 rfl) rfl ?_
      refine a_getr (r := 49) (pc := 27) (dk dt_X0_decide 16 rfl) cls_0 fl_RX0_27 cf_34_10 ?_
      refine a_iload_n (pc := 30) (dk dt_X0_decide 17 rfl) rfl ?_
      refine a_iload_n (pc := 31) (dk dt_X0_decide 18 rfl) rfl ?_
      refine a_iconst (pc := 32) (dk dt_X0_decide 19 rfl) (ik rfl) ?_
      refine a_icmp_ne (pc := 33) (dk dt_X0_decide 20 rfl) (tgt := 48) rfl ⟨fun c => ?_, fun c => ?_⟩
      · replace H := H.1 c
        refine a_aload_n (pc := 48) (dk dt_X0_decide 27 rfl) rfl ?_
        refine a_getr (r := 49) (pc := 49) (dk dt_X0_decide 28 rfl) cls_0 fl_RX0_27 cf_34_10 ?_
        refine a_iload_n (pc := 52) (dk dt_X0_decide 29 rfl) rfl ?_
        refine a_iald (pc := 53) (dk dt_X0_decide 30 rfl) ar_50 ⟨H.1, ?_⟩
        replace H := H.2
        refine a_iconst (pc := 54) (dk dt_X0_decide 31 rfl) (ik rfl) ?_
        refine a_iadd (pc := 55) (dk dt_X0_decide 32 rfl) ?_
        refine a_iast (pc := 56) (dk dt_X0_decide 33 rfl) ar_50 ⟨H.1, ?_⟩
        replace H := H.2
        refine a_iconst (pc := 57) (dk dt_X0_decide 34 rfl) (ik rfl) ?_
        exact a_zret (pc := 58) (dk dt_X0_decide 35 rfl) rfl rfl ⟨by decide, H⟩
      · replace H := H.2 c
        refine a_aload_n (pc := 36) (dk dt_X0_decide 21 rfl) rfl ?_
        refine a_getr (r := 35) (pc := 37) (dk dt_X0_decide 22 rfl) cls_0 fl_RX0_20 cf_34_8 ?_
        refine a_getr (r := 40) (pc := 40) (dk dt_X0_decide 23 rfl) cls_3 fl_RX0_172 cf_36_5 ?_
        refine a_iload_n (pc := 43) (dk dt_X0_decide 24 rfl) rfl ?_
        refine a_iald (pc := 44) (dk dt_X0_decide 25 rfl) ar_41 ⟨H.1, ?_⟩
        replace H := H.2
        refine a_goto (pc := 45) (dk dt_X0_decide 26 rfl) (tgt := 56) rfl ?_
        refine a_iast (pc := 56) (dk dt_X0_decide 33 rfl) ar_50 ⟨H.1, ?_⟩
        replace H := H.2
        refine a_iconst (pc := 57) (dk dt_X0_decide 34 rfl) (ik rfl) ?_
        exact a_zret (pc := 58) (dk dt_X0_decide 35 rfl) rfl rfl ⟨by decide, H⟩
  · replace H := H.2 c
    refine a_aload_n (pc := 6) (dk dt_X0_decide 3 rfl) rfl ?_
    refine a_iload_n (pc := 7) (dk dt_X0_decide 4 rfl) rfl ?_
    refine a_callVv (as := [iv x1]) (st := []) (pc := 8) (dk dt_X0_decide 5 rfl) cl_RX0_179 ⟨Nat.le_of_ble_eq_true rfl, Nat.le_of_ble_eq_true rfl⟩ ⟨Nat.le_of_ble_eq_true rfl, Nat.le_of_ble_eq_true rfl⟩ cls_0 rfl cc_34 rfl rfl rfl (Nat.le_of_ble_eq_true rfl) (Call.mono H fun _ h2 H => ?_)
    refine a_iconst (pc := 11) (dk dt_X0_decide 6 rfl) (ik rfl) ?_
    exact a_zret (pc := 12) (dk dt_X0_decide 7 rfl) rfl rfl ⟨by decide, H⟩
set_option maxHeartbeats 40000000 in
theorem U_X0_failOf_34_0 {G : GG} {Φ : Int → Hp → Prop} {h : Hp} {x1 : Int} (H : (0 ≤ x1 ∧ x1 < 8) ∧ (0 ≤ x1 ∧ x1 < 8) ∧ Φ 0 (up (up (up h 34 5 (w32 ((h 34 5) + 1))) 50 x1 (-1)) 51 x1 0)) : AT G m_X0_failOf 0 [(0, rv 34), (1, iv x1)] [] h Φ := by
  refine a_aload_n (pc := 0) (dk dt_X0_failOf 0 rfl) rfl ?_
  refine a_dup (pc := 1) (dk dt_X0_failOf 1 rfl) rfl ?_
  refine a_geti (pc := 2) (dk dt_X0_failOf 2 rfl) cls_0 fl_RX0_85 cf_34_5 ?_
  refine a_iconst (pc := 5) (dk dt_X0_failOf 3 rfl) (ik rfl) ?_
  refine a_iadd (pc := 6) (dk dt_X0_failOf 4 rfl) ?_
  refine a_puti (pc := 7) (dk dt_X0_failOf 5 rfl) cls_0 fl_RX0_85 cf_34_5 rfl rfl ?_
  refine a_aload_n (pc := 10) (dk dt_X0_failOf 6 rfl) rfl ?_
  refine a_iload_n (pc := 11) (dk dt_X0_failOf 7 rfl) rfl ?_
  refine a_callVv (as := [iv x1]) (st := []) (pc := 12) (dk dt_X0_failOf 8 rfl) cl_RX0_143 ⟨Nat.le_of_ble_eq_true rfl, Nat.le_of_ble_eq_true rfl⟩ ⟨Nat.le_of_ble_eq_true rfl, Nat.le_of_ble_eq_true rfl⟩ cls_0 rfl cc_34 rfl rfl rfl (Nat.le_of_ble_eq_true rfl) (Call.of rfl (Nat.le_of_ble_eq_true rfl) rfl ?_)
  refine a_aload_n (pc := 0) (dk dt_X0_stop 0 rfl) rfl ?_
  refine a_getr (r := 49) (pc := 1) (dk dt_X0_stop 1 rfl) cls_0 fl_RX0_27 cf_34_10 ?_
  refine a_iload_n (pc := 4) (dk dt_X0_stop 2 rfl) rfl ?_
  refine a_iconst (pc := 5) (dk dt_X0_stop 3 rfl) (ik rfl) ?_
  refine a_iast (pc := 6) (dk dt_X0_stop 4 rfl) ar_50 ⟨H.1, ?_⟩
  replace H := H.2
  refine a_aload_n (pc := 7) (dk dt_X0_stop 5 rfl) rfl ?_
  refine a_getr (r := 50) (pc := 8) (dk dt_X0_stop 6 rfl) cls_0 fl_RX0_30 cf_34_11 ?_
  refine a_iload_n (pc := 11) (dk dt_X0_stop 7 rfl) rfl ?_
  refine a_iconst (pc := 12) (dk dt_X0_stop 8 rfl) (ik rfl) ?_
  refine a_iast (pc := 13) (dk dt_X0_stop 9 rfl) ar_51 ⟨H.1, ?_⟩
  replace H := H.2
  refine a_vret (pc := 14) (dk dt_X0_stop 10 rfl) rfl rfl ?_
  show ATW _ _ _ _ _ _ _ _ _ _
  exact a_vret (pc := 15) (dk dt_X0_failOf 9 rfl) rfl rfl H
