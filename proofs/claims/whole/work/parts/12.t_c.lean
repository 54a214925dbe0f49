set_option maxHeartbeats 40000000 in
theorem T_X4_recordedPackets_26_0 {G : GG} {Φ : Int → Hp → Prop} {h : Hp} (H : Φ (w32 ((w32 ((w32 ((h 29 0) + (h 29 1))) + (h 29 2))) + (h 29 3))) h) : AT G m_X4_recordedPackets 0 [(0, rv 26)] [] h Φ := by
  have D := dt_X4_recordedPackets
  refine a_aload_n (pc := 0) (dk D 0 rfl) rfl ?_
  refine a_getr (r := 28) (pc := 1) (dk D 1 rfl) cls_4 fl_RX4_18 cf_26_2 ?_
  refine a_iconst (pc := 4) (dk D 2 rfl) (ik rfl) ?_
  refine a_iald (pc := 5) (dk D 3 rfl) ar_29 ⟨⟨by decide, by decide⟩, ?_⟩
  refine a_aload_n (pc := 6) (dk D 4 rfl) rfl ?_
  refine a_getr (r := 28) (pc := 7) (dk D 5 rfl) cls_4 fl_RX4_18 cf_26_2 ?_
  refine a_iconst (pc := 10) (dk D 6 rfl) (ik rfl) ?_
  refine a_iald (pc := 11) (dk D 7 rfl) ar_29 ⟨⟨by decide, by decide⟩, ?_⟩
  refine a_iadd (pc := 12) (dk D 8 rfl) ?_
  refine a_aload_n (pc := 13) (dk D 9 rfl) rfl ?_
  refine a_getr (r := 28) (pc := 14) (dk D 10 rfl) cls_4 fl_RX4_18 cf_26_2 ?_
  refine a_iconst (pc := 17) (dk D 11 rfl) (ik rfl) ?_
  refine a_iald (pc := 18) (dk D 12 rfl) ar_29 ⟨⟨by decide, by decide⟩, ?_⟩
  refine a_iadd (pc := 19) (dk D 13 rfl) ?_
  refine a_aload_n (pc := 20) (dk D 14 rfl) rfl ?_
  refine a_getr (r := 28) (pc := 21) (dk D 15 rfl) cls_4 fl_RX4_18 cf_26_2 ?_
  refine a_iconst (pc := 24) (dk D 16 rfl) (ik rfl) ?_
  refine a_iald (pc := 25) (dk D 17 rfl) ar_29 ⟨⟨by decide, by decide⟩, ?_⟩
  refine a_iadd (pc := 26) (dk D 18 rfl) ?_
  exact a_iret (pc := 27) (dk D 19 rfl) rfl rfl H
set_option maxHeartbeats 40000000 in
theorem T_X4_oldestFrame_26_0 {G : GG} {Φ : Int → Hp → Prop} {h : Hp} (H : Φ (w32 ((h 26 10) * 24)) h) : AT G m_X4_oldestFrame 0 [(0, rv 26)] [] h Φ := by
  have D := dt_X4_oldestFrame
  refine a_aload_n (pc := 0) (dk D 0 rfl) rfl ?_
  refine a_geti (pc := 1) (dk D 1 rfl) cls_4 fl_RX4_58 cf_26_10 ?_
  refine a_bipush (pc := 4) (dk D 2 rfl) (ik rfl) (bpk rfl) ?_
  refine a_imul (pc := 6) (dk D 3 rfl) ?_
  exact a_iret (pc := 7) (dk D 4 rfl) rfl rfl H
set_option maxHeartbeats 40000000 in
theorem T_X4_dropFrame_26_0 {G : GG} {Φ : Int → Hp → Prop} {h : Hp} (H : Φ 0 (up (up h 26 10 ((w32 ((h 26 10) + 1)).tmod 30)) 26 11 (w32 ((h 26 11) - 1)))) : AT G m_X4_dropFrame 0 [(0, rv 26)] [] h Φ := by
  have D := dt_X4_dropFrame
  refine a_aload_n (pc := 0) (dk D 0 rfl) rfl ?_
  refine a_aload_n (pc := 1) (dk D 1 rfl) rfl ?_
  refine a_geti (pc := 2) (dk D 2 rfl) cls_4 fl_RX4_58 cf_26_10 ?_
  refine a_iconst (pc := 5) (dk D 3 rfl) (ik rfl) ?_
  refine a_iadd (pc := 6) (dk D 4 rfl) ?_
  refine a_bipush (pc := 7) (dk D 5 rfl) (ik rfl) (bpk rfl) ?_
  refine a_irem (pc := 9) (dk D 6 rfl) ⟨by decide, ?_⟩
  refine a_puti (pc := 10) (dk D 7 rfl) cls_4 fl_RX4_58 cf_26_10 rfl rfl ?_
  refine a_aload_n (pc := 13) (dk D 8 rfl) rfl ?_
  refine a_dup (pc := 14) (dk D 9 rfl) rfl ?_
  refine a_geti (pc := 15) (dk D 10 rfl) cls_4 fl_RX4_55 cf_26_11 ?_
  refine a_top (y := (h 26 11)) (by simp [up, cpy]) ?_
  refine a_iconst (pc := 18) (dk D 11 rfl) (ik rfl) ?_
  refine a_isub (pc := 19) (dk D 12 rfl) ?_
  refine a_puti (pc := 20) (dk D 13 rfl) cls_4 fl_RX4_55 cf_26_11 rfl rfl ?_
  exact a_vret (pc := 23) (dk D 14 rfl) rfl rfl H
set_option maxHeartbeats 40000000 in
theorem T_X4_sendFrame_26_0 {G : GG} {Φ : Int → Hp → Prop} {h : Hp} (H : ((30 ≤ (h 26 11) → (0 ≤ (w32 (30 * 24)) ∧ (w32 (30 * 24)) < 744) ∧ (0 ≤ (w32 ((w32 (30 * 24)) + 1)) ∧ (w32 ((w32 (30 * 24)) + 1)) < 744) ∧ (0 ≤ (w32 ((w32 (30 * 24)) + 2)) ∧ (w32 ((w32 (30 * 24)) + 2)) < 744) ∧ Call G m_X4_fillData [rv 26, iv (w32 ((w32 (30 * 24)) + 4))] (up (up (up h 33 (w32 (30 * 24)) (h 26 12)) 33 (w32 ((w32 (30 * 24)) + 1)) (h 26 13)) 33 (w32 ((w32 (30 * 24)) + 2)) (h 26 14)) (fun r1 h2 => (0 ≤ (w32 ((w32 (30 * 24)) + 3)) ∧ (w32 ((w32 (30 * 24)) + 3)) < 744) ∧ Φ 0 (up (up h2 33 (w32 ((w32 (30 * 24)) + 3)) r1) 26 12 (band (w32 ((h2 26 12) + 1)) 255)))) ∧ ((h 26 11) < 30 → (0 ≤ (w32 (((w32 ((h 26 10) + (h 26 11))).tmod 30) * 24)) ∧ (w32 (((w32 ((h 26 10) + (h 26 11))).tmod 30) * 24)) < 744) ∧ (0 ≤ (w32 ((w32 (((w32 ((h 26 10) + (h 26 11))).tmod 30) * 24)) + 1)) ∧ (w32 ((w32 (((w32 ((h 26 10) + (h 26 11))).tmod 30) * 24)) + 1)) < 744) ∧ (0 ≤ (w32 ((w32 (((w32 ((h 26 10) + (h 26 11))).tmod 30) * 24)) + 2)) ∧ (w32 ((w32 (((w32 ((h 26 10) + (h 26 11))).tmod 30) * 24)) + 2)) < 744) ∧ Call G m_X4_fillData [rv 26, iv (w32 ((w32 (((w32 ((h 26 10) + (h 26 11))).tmod 30) * 24)) + 4))] (up (up (up h 33 (w32 (((w32 ((h 26 10) + (h 26 11))).tmod 30) * 24)) (h 26 12)) 33 (w32 ((w32 (((w32 ((h 26 10) + (h 26 11))).tmod 30) * 24)) + 1)) (h 26 13)) 33 (w32 ((w32 (((w32 ((h 26 10) + (h 26 11))).tmod 30) * 24)) + 2)) (h 26 14)) (fun r3 h4 => (0 ≤ (w32 ((w32 (((w32 ((h 26 10) + (h 26 11))).tmod 30) * 24)) + 3)) ∧ (w32 ((w32 (((w32 ((h 26 10) + (h 26 11))).tmod 30) * 24)) + 3)) < 744) ∧ Call G m_X4_checkOf [rv 33, iv (w32 (((w32 ((h 26 10) + (h 26 11))).tmod 30) * 24))] (up (up h4 33 (w32 ((w32 (((w32 ((h 26 10) + (h 26 11))).tmod 30) * 24)) + 3)) r3) 26 12 (band (w32 ((h4 26 12) + 1)) 255)) (fun r5 h6 => (0 ≤ (w32 ((w32 ((w32 (((w32 ((h 26 10) + (h 26 11))).tmod 30) * 24)) + 24)) - 2)) ∧ (w32 ((w32 ((w32 (((w32 ((h 26 10) + (h 26 11))).tmod 30) * 24)) + 24)) - 2)) < 744) ∧ (0 ≤ (w32 ((w32 ((w32 (((w32 ((h 26 10) + (h 26 11))).tmod 30) * 24)) + 24)) - 1)) ∧ (w32 ((w32 ((w32 (((w32 ((h 26 10) + (h 26 11))).tmod 30) * 24)) + 24)) - 1)) < 744) ∧ Φ 0 (up (up (up h6 33 (w32 ((w32 ((w32 (((w32 ((h 26 10) + (h 26 11))).tmod 30) * 24)) + 24)) - 2)) (bshr r5 8)) 33 (w32 ((w32 ((w32 (((w32 ((h 26 10) + (h 26 11))).tmod 30) * 24)) + 24)) - 1)) (band r5 255)) 26 11 (w32 ((h6 26 11) + 1)))))))) : AT G m_X4_sendFrame 0 [(0, rv 26)] [] h Φ := by
  have D := dt_X4_sendFrame
  refine a_aload_n (pc := 0) (dk D 0 rfl) rfl ?_
  refine a_geti (pc := 1) (dk D 1 rfl) cls_4 fl_RX4_55 cf_26_11 ?_
  refine a_bipush (pc := 4) (dk D 2 rfl) (ik rfl) (bpk rfl) ?_
  refine a_icmp_ge (pc := 6) (dk D 3 rfl) (tgt := 13) rfl ⟨fun c => ?_, fun c => ?_⟩
  · replace H := H.1 c
    refine a_iconst (pc := 13) (dk D 6 rfl) (ik rfl) ?_
    refine a_istore_n (pc := 14) (dk D 7 rfl) (by decide) rfl rfl ?_
    refine a_iload_n (pc := 15) (dk D 8 rfl) rfl ?_
    refine a_if_eq (pc := 16) (dk D 9 rfl) (tgt := 34) rfl ⟨fun _ => ?_, fun c => absurd c (by decide)⟩
    refine a_bipush (pc := 34) (dk D 18 rfl) (ik rfl) (bpk rfl) ?_
    refine a_bipush (pc := 36) (dk D 19 rfl) (ik rfl) (bpk rfl) ?_
    refine a_imul (pc := 38) (dk D 20 rfl) ?_
    refine a_istore_n (pc := 39) (dk D 21 rfl) (by decide) rfl rfl ?_
    refine a_aload_n (pc := 40) (dk D 22 rfl) rfl ?_
    refine a_getr (r := 32) (pc := 41) (dk D 23 rfl) cls_4 fl_RX4_30 cf_26_9 ?_
    refine a_iload_n (pc := 44) (dk D 24 rfl) rfl ?_
    refine a_aload_n (pc := 45) (dk D 25 rfl) rfl ?_
    refine a_geti (pc := 46) (dk D 26 rfl) cls_4 fl_RX4_61 cf_26_12 ?_
    refine a_iast (pc := 49) (dk D 27 rfl) ar_33 ⟨H.1, ?_⟩
    replace H := H.2
    refine a_aload_n (pc := 50) (dk D 28 rfl) rfl ?_
    refine a_getr (r := 32) (pc := 51) (dk D 29 rfl) cls_4 fl_RX4_30 cf_26_9 ?_
    refine a_iload_n (pc := 54) (dk D 30 rfl) rfl ?_
    refine a_iconst (pc := 55) (dk D 31 rfl) (ik rfl) ?_
    refine a_iadd (pc := 56) (dk D 32 rfl) ?_
    refine a_aload_n (pc := 57) (dk D 33 rfl) rfl ?_
    refine a_geti (pc := 58) (dk D 34 rfl) cls_4 fl_RX4_64 cf_26_13 ?_
    refine a_top (y := (h 26 13)) (by simp [up, cpy]) ?_
    refine a_iast (pc := 61) (dk D 35 rfl) ar_33 ⟨H.1, ?_⟩
    replace H := H.2
    refine a_aload_n (pc := 62) (dk D 36 rfl) rfl ?_
    refine a_getr (r := 32) (pc := 63) (dk D 37 rfl) cls_4 fl_RX4_30 cf_26_9 ?_
    refine a_iload_n (pc := 66) (dk D 38 rfl) rfl ?_
    refine a_iconst (pc := 67) (dk D 39 rfl) (ik rfl) ?_
    refine a_iadd (pc := 68) (dk D 40 rfl) ?_
    refine a_aload_n (pc := 69) (dk D 41 rfl) rfl ?_
    refine a_geti (pc := 70) (dk D 42 rfl) cls_4 fl_RX4_67 cf_26_14 ?_
    refine a_top (y := (h 26 14)) (by simp [up, cpy]) ?_
    refine a_iast (pc := 73) (dk D 43 rfl) ar_33 ⟨H.1, ?_⟩
    replace H := H.2
    refine a_aload_n (pc := 74) (dk D 44 rfl) rfl ?_
    refine a_getr (r := 32) (pc := 75) (dk D 45 rfl) cls_4 fl_RX4_30 cf_26_9 ?_
    refine a_iload_n (pc := 78) (dk D 46 rfl) rfl ?_
    refine a_iconst (pc := 79) (dk D 47 rfl) (ik rfl) ?_
    refine a_iadd (pc := 80) (dk D 48 rfl) ?_
    refine a_aload_n (pc := 81) (dk D 49 rfl) rfl ?_
    refine a_iload_n (pc := 82) (dk D 50 rfl) rfl ?_
    refine a_iconst (pc := 83) (dk D 51 rfl) (ik rfl) ?_
    refine a_iadd (pc := 84) (dk D 52 rfl) ?_
    refine a_callVi (as := [iv (w32 ((w32 (30 * 24)) + 4))]) (st := [iv (w32 ((w32 (30 * 24)) + 3)), rv 33]) (pc := 85) (dk D 53 rfl) cl_RX4_70 ⟨Nat.le_of_ble_eq_true rfl, Nat.le_of_ble_eq_true rfl⟩ ⟨Nat.le_of_ble_eq_true rfl, Nat.le_of_ble_eq_true rfl⟩ cls_4 rfl cc_26 rfl rfl rfl (Nat.le_of_ble_eq_true rfl) (Call.mono H fun r1 h2 H => ?_)
    refine a_iast (pc := 88) (dk D 54 rfl) ar_33 ⟨H.1, ?_⟩
    replace H := H.2
    refine a_aload_n (pc := 89) (dk D 55 rfl) rfl ?_
    refine a_aload_n (pc := 90) (dk D 56 rfl) rfl ?_
    refine a_geti (pc := 91) (dk D 57 rfl) cls_4 fl_RX4_61 cf_26_12 ?_
    refine a_top (y := (h2 26 12)) (by simp [up, cpy]) ?_
    refine a_iconst (pc := 94) (dk D 58 rfl) (ik rfl) ?_
    refine a_iadd (pc := 95) (dk D 59 rfl) ?_
    refine a_sipush (pc := 96) (dk D 60 rfl) (ik rfl) (spk rfl) ?_
    refine a_iand (pc := 99) (dk D 61 rfl) ?_
    refine a_puti (pc := 100) (dk D 62 rfl) cls_4 fl_RX4_61 cf_26_12 rfl rfl ?_
    refine a_iload_n (pc := 103) (dk D 63 rfl) rfl ?_
    refine a_if_eq (pc := 104) (dk D 64 rfl) (tgt := 157) rfl ⟨fun _ => ?_, fun c => absurd c (by decide)⟩
    exact a_vret (pc := 157) (dk D 98 rfl) rfl rfl H
  · replace H := H.2 c
    refine a_iconst (pc := 9) (dk D 4 rfl) (ik rfl) ?_
    refine a_goto (pc := 10) (dk D 5 rfl) (tgt := 14) rfl ?_
    refine a_istore_n (pc := 14) (dk D 7 rfl) (by decide) rfl rfl ?_
    refine a_iload_n (pc := 15) (dk D 8 rfl) rfl ?_
    refine a_if_eq (pc := 16) (dk D 9 rfl) (tgt := 34) rfl ⟨fun c => absurd c (by decide), fun _ => ?_⟩
    refine a_aload_n (pc := 19) (dk D 10 rfl) rfl ?_
    refine a_geti (pc := 20) (dk D 11 rfl) cls_4 fl_RX4_58 cf_26_10 ?_
    refine a_aload_n (pc := 23) (dk D 12 rfl) rfl ?_
    refine a_geti (pc := 24) (dk D 13 rfl) cls_4 fl_RX4_55 cf_26_11 ?_
    refine a_iadd (pc := 27) (dk D 14 rfl) ?_
    refine a_bipush (pc := 28) (dk D 15 rfl) (ik rfl) (bpk rfl) ?_
    refine a_irem (pc := 30) (dk D 16 rfl) ⟨by decide, ?_⟩
    refine a_goto (pc := 31) (dk D 17 rfl) (tgt := 36) rfl ?_
    refine a_bipush (pc := 36) (dk D 19 rfl) (ik rfl) (bpk rfl) ?_
    refine a_imul (pc := 38) (dk D 20 rfl) ?_
    refine a_istore_n (pc := 39) (dk D 21 rfl) (by decide) rfl rfl ?_
    refine a_aload_n (pc := 40) (dk D 22 rfl) rfl ?_
    refine a_getr (r := 32) (pc := 41) (dk D 23 rfl) cls_4 fl_RX4_30 cf_26_9 ?_
    refine a_iload_n (pc := 44) (dk D 24 rfl) rfl ?_
    refine a_aload_n (pc := 45) (dk D 25 rfl) rfl ?_
    refine a_geti (pc := 46) (dk D 26 rfl) cls_4 fl_RX4_61 cf_26_12 ?_
    refine a_iast (pc := 49) (dk D 27 rfl) ar_33 ⟨H.1, ?_⟩
    replace H := H.2
    refine a_aload_n (pc := 50) (dk D 28 rfl) rfl ?_
    refine a_getr (r := 32) (pc := 51) (dk D 29 rfl) cls_4 fl_RX4_30 cf_26_9 ?_
    refine a_iload_n (pc := 54) (dk D 30 rfl) rfl ?_
    refine a_iconst (pc := 55) (dk D 31 rfl) (ik rfl) ?_
    refine a_iadd (pc := 56) (dk D 32 rfl) ?_
    refine a_aload_n (pc := 57) (dk D 33 rfl) rfl ?_
    refine a_geti (pc := 58) (dk D 34 rfl) cls_4 fl_RX4_64 cf_26_13 ?_
    refine a_top (y := (h 26 13)) (by simp [up, cpy]) ?_
    refine a_iast (pc := 61) (dk D 35 rfl) ar_33 ⟨H.1, ?_⟩
    replace H := H.2
    refine a_aload_n (pc := 62) (dk D 36 rfl) rfl ?_
    refine a_getr (r := 32) (pc := 63) (dk D 37 rfl) cls_4 fl_RX4_30 cf_26_9 ?_
    refine a_iload_n (pc := 66) (dk D 38 rfl) rfl ?_
    refine a_iconst (pc := 67) (dk D 39 rfl) (ik rfl) ?_
    refine a_iadd (pc := 68) (dk D 40 rfl) ?_
    refine a_aload_n (pc := 69) (dk D 41 rfl) rfl ?_
    refine a_geti (pc := 70) (dk D 42 rfl) cls_4 fl_RX4_67 cf_26_14 ?_
    refine a_top (y := (h 26 14)) (by simp [up, cpy]) ?_
    refine a_iast (pc := 73) (dk D 43 rfl) ar_33 ⟨H.1, ?_⟩
    replace H := H.2
    refine a_aload_n (pc := 74) (dk D 44 rfl) rfl ?_
    refine a_getr (r := 32) (pc := 75) (dk D 45 rfl) cls_4 fl_RX4_30 cf_26_9 ?_
    refine a_iload_n (pc := 78) (dk D 46 rfl) rfl ?_
    refine a_iconst (pc := 79) (dk D 47 rfl) (ik rfl) ?_
    refine a_iadd (pc := 80) (dk D 48 rfl) ?_
    refine a_aload_n (pc := 81) (dk D 49 rfl) rfl ?_
    refine a_iload_n (pc := 82) (dk D 50 rfl) rfl ?_
    refine a_iconst (pc := 83) (dk D 51 rfl) (ik rfl) ?_
    refine a_iadd (pc := 84) (dk D 52 rfl) ?_
    refine a_callVi (as := [iv (w32 ((w32 (((w32 ((h 26 10) + (h 26 11))).tmod 30) * 24)) + 4))]) (st := [iv (w32 ((w32 (((w32 ((h 26 10) + (h 26 11))).tmod 30) * 24)) + 3)), rv 33]) (pc := 85) (dk D 53 rfl) cl_RX4_70 ⟨Nat.le_of_ble_eq_true rfl, Nat.le_of_ble_eq_true rfl⟩ ⟨Nat.le_of_ble_eq_true rfl, Nat.le_of_ble_eq_true rfl⟩ cls_4 rfl cc_26 rfl rfl rfl (Nat.le_of_ble_eq_true rfl) (Call.mono H fun r3 h4 H => ?_)
    refine a_iast (pc := 88) (dk D 54 rfl) ar_33 ⟨H.1, ?_⟩
    replace H := H.2
    refine a_aload_n (pc := 89) (dk D 55 rfl) rfl ?_
    refine a_aload_n (pc := 90) (dk D 56 rfl) rfl ?_
    refine a_geti (pc := 91) (dk D 57 rfl) cls_4 fl_RX4_61 cf_26_12 ?_
    refine a_top (y := (h4 26 12)) (by simp [up, cpy]) ?_
    refine a_iconst (pc := 94) (dk D 58 rfl) (ik rfl) ?_
    refine a_iadd (pc := 95) (dk D 59 rfl) ?_
    refine a_sipush (pc := 96) (dk D 60 rfl) (ik rfl) (spk rfl) ?_
    refine a_iand (pc := 99) (dk D 61 rfl) ?_
    refine a_puti (pc := 100) (dk D 62 rfl) cls_4 fl_RX4_61 cf_26_12 rfl rfl ?_
    refine a_iload_n (pc := 103) (dk D 63 rfl) rfl ?_
    refine a_if_eq (pc := 104) (dk D 64 rfl) (tgt := 157) rfl ⟨fun c => absurd c (by decide), fun _ => ?_⟩
    refine a_aload_n (pc := 107) (dk D 65 rfl) rfl ?_
    refine a_getr (r := 32) (pc := 108) (dk D 66 rfl) cls_4 fl_RX4_30 cf_26_9 ?_
    refine a_iload_n (pc := 111) (dk D 67 rfl) rfl ?_
    refine a_callSi (as := [rv 33, iv (w32 (((w32 ((h 26 10) + (h 26 11))).tmod 30) * 24))]) (st := []) (pc := 112) (dk D 68 rfl) cl_RX4_74 ⟨Nat.le_of_ble_eq_true rfl, Nat.le_of_ble_eq_true rfl⟩ ⟨Nat.le_of_ble_eq_true rfl, Nat.le_of_ble_eq_true rfl⟩ rfl rfl rfl (Nat.le_of_ble_eq_true rfl) (Call.mono H fun r5 h6 H => ?_)
    refine a_istore_n (pc := 115) (dk D 69 rfl) (by decide) rfl rfl ?_
    refine a_aload_n (pc := 116) (dk D 70 rfl) rfl ?_
    refine a_getr (r := 32) (pc := 117) (dk D 71 rfl) cls_4 fl_RX4_30 cf_26_9 ?_
    refine a_iload_n (pc := 120) (dk D 72 rfl) rfl ?_
    refine a_bipush (pc := 121) (dk D 73 rfl) (ik rfl) (bpk rfl) ?_
    refine a_iadd (pc := 123) (dk D 74 rfl) ?_
    refine a_iconst (pc := 124) (dk D 75 rfl) (ik rfl) ?_
    refine a_isub (pc := 125) (dk D 76 rfl) ?_
    refine a_iload_n (pc := 126) (dk D 77 rfl) rfl ?_
    refine a_bipush (pc := 127) (dk D 78 rfl) (ik rfl) (bpk rfl) ?_
    refine a_ishr (pc := 129) (dk D 79 rfl) ?_
    refine a_iast (pc := 130) (dk D 80 rfl) ar_33 ⟨H.1, ?_⟩
    replace H := H.2
    refine a_aload_n (pc := 131) (dk D 81 rfl) rfl ?_
    refine a_getr (r := 32) (pc := 132) (dk D 82 rfl) cls_4 fl_RX4_30 cf_26_9 ?_
    refine a_iload_n (pc := 135) (dk D 83 rfl) rfl ?_
    refine a_bipush (pc := 136) (dk D 84 rfl) (ik rfl) (bpk rfl) ?_
    refine a_iadd (pc := 138) (dk D 85 rfl) ?_
    refine a_iconst (pc := 139) (dk D 86 rfl) (ik rfl) ?_
    refine a_isub (pc := 140) (dk D 87 rfl) ?_
    refine a_iload_n (pc := 141) (dk D 88 rfl) rfl ?_
    refine a_sipush (pc := 142) (dk D 89 rfl) (ik rfl) (spk rfl) ?_
    refine a_iand (pc := 145) (dk D 90 rfl) ?_
    refine a_iast (pc := 146) (dk D 91 rfl) ar_33 ⟨H.1, ?_⟩
    replace H := H.2
    refine a_aload_n (pc := 147) (dk D 92 rfl) rfl ?_
    refine a_dup (pc := 148) (dk D 93 rfl) rfl ?_
    refine a_geti (pc := 149) (dk D 94 rfl) cls_4 fl_RX4_55 cf_26_11 ?_
    refine a_top (y := (h6 26 11)) (by simp [up, cpy]) ?_
    refine a_iconst (pc := 152) (dk D 95 rfl) (ik rfl) ?_
    refine a_iadd (pc := 153) (dk D 96 rfl) ?_
    refine a_puti (pc := 154) (dk D 97 rfl) cls_4 fl_RX4_55 cf_26_11 rfl rfl ?_
    exact a_vret (pc := 157) (dk D 98 rfl) rfl rfl H
set_option maxHeartbeats 40000000 in
theorem T_X4_checkOf_33_0 {G : GG} {Φ : Int → Hp → Prop} {h : Hp} {x1 : Int} (H : AT G m_X4_checkOf 5 [(0, rv 33), (1, iv x1), (2, iv 65535), (3, iv 0)] [] h Φ) : AT G m_X4_checkOf 0 [(0, rv 33), (1, iv x1)] [] h Φ := by
  have D := dt_X4_checkOf
  refine a_ldc (n := 65535) (pc := 0) (dk D 0 rfl) (ik rfl) co_RX4_100 ?_
  refine a_istore_n (pc := 2) (dk D 1 rfl) (by decide) rfl rfl ?_
  refine a_iconst (pc := 3) (dk D 2 rfl) (ik rfl) ?_
  refine a_istore_n (pc := 4) (dk D 3 rfl) (by decide) rfl rfl ?_
  exact a_pick [0, 1, 2, 3] rfl H
set_option maxHeartbeats 40000000 in
theorem T_X4_checkOf_33_5 {G : GG} {Φ : Int → Hp → Prop} {h : Hp} {x1 : Int} {x2 : Int} {x3 : Int} (H : ((22 ≤ x3 → Φ x2 h) ∧ (x3 < 22 → (0 ≤ (w32 (x1 + x3)) ∧ (w32 (x1 + x3)) < 744) ∧ AT G m_X4_checkOf 25 [(0, rv 33), (1, iv x1), (2, iv (bxor x2 (bshl (h 33 (w32 (x1 + x3))) 8))), (3, iv x3), (4, iv 0)] [] h Φ))) : AT G m_X4_checkOf 5 [(0, rv 33), (1, iv x1), (2, iv x2), (3, iv x3)] [] h Φ := by
  have D := dt_X4_checkOf
  refine a_iload_n (pc := 5) (dk D 4 rfl) rfl ?_
  refine a_bipush (pc := 6) (dk D 5 rfl) (ik rfl) (bpk rfl) ?_
  refine a_icmp_ge (pc := 8) (dk D 6 rfl) (tgt := 62) rfl ⟨fun c => ?_, fun c => ?_⟩
  · replace H := H.1 c
    refine a_iload_n (pc := 62) (dk D 37 rfl) rfl ?_
    exact a_iret (pc := 63) (dk D 38 rfl) rfl rfl H
  · replace H := H.2 c
    refine a_iload_n (pc := 11) (dk D 7 rfl) rfl ?_
    refine a_aload_n (pc := 12) (dk D 8 rfl) rfl ?_
    refine a_iload_n (pc := 13) (dk D 9 rfl) rfl ?_
    refine a_iload_n (pc := 14) (dk D 10 rfl) rfl ?_
    refine a_iadd (pc := 15) (dk D 11 rfl) ?_
    refine a_iald (pc := 16) (dk D 12 rfl) ar_33 ⟨H.1, ?_⟩
    replace H := H.2
    refine a_bipush (pc := 17) (dk D 13 rfl) (ik rfl) (bpk rfl) ?_
    refine a_ishl (pc := 19) (dk D 14 rfl) ?_
    refine a_ixor (pc := 20) (dk D 15 rfl) ?_
    refine a_istore_n (pc := 21) (dk D 16 rfl) (by decide) rfl rfl ?_
    refine a_iconst (pc := 22) (dk D 17 rfl) (ik rfl) ?_
    refine a_istore (pc := 23) (dk D 18 rfl) (by decide) rfl rfl ?_
    exact a_pick [0, 1, 2, 3, 4] rfl H
set_option maxHeartbeats 40000000 in
theorem T_X4_checkOf_33_25 {G : GG} {Φ : Int → Hp → Prop} {h : Hp} {x1 : Int} {x2 : Int} {x3 : Int} {x4 : Int} (H : ((8 ≤ x4 → AT G m_X4_checkOf 5 [(0, rv 33), (1, iv x1), (2, iv x2), (3, iv (w32 (x3 + 1)))] [] h Φ) ∧ (x4 < 8 → ((x2 ≤ 32767 → AT G m_X4_checkOf 25 [(0, rv 33), (1, iv x1), (2, iv (bxor (bshl x2 1) 0)), (3, iv x3), (4, iv (w32 (x4 + 1)))] [] h Φ) ∧ (32767 < x2 → AT G m_X4_checkOf 25 [(0, rv 33), (1, iv x1), (2, iv (bxor (bshl x2 1) 69665)), (3, iv x3), (4, iv (w32 (x4 + 1)))] [] h Φ))))) : AT G m_X4_checkOf 25 [(0, rv 33), (1, iv x1), (2, iv x2), (3, iv x3), (4, iv x4)] [] h Φ := by
  have D := dt_X4_checkOf
  refine a_iload (pc := 25) (dk D 19 rfl) rfl ?_
  refine a_bipush (pc := 27) (dk D 20 rfl) (ik rfl) (bpk rfl) ?_
  refine a_icmp_ge (pc := 29) (dk D 21 rfl) (tgt := 56) rfl ⟨fun c => ?_, fun c => ?_⟩
  · replace H := H.1 c
    refine a_iinc (pc := 56) (dk D 35 rfl) (by decide) rfl rfl rfl ?_
    refine a_goto (pc := 59) (dk D 36 rfl) (tgt := 5) rfl ?_
    exact a_pick [0, 1, 2, 3] rfl H
  · replace H := H.2 c
    refine a_iload_n (pc := 32) (dk D 22 rfl) rfl ?_
    refine a_iconst (pc := 33) (dk D 23 rfl) (ik rfl) ?_
    refine a_ishl (pc := 34) (dk D 24 rfl) ?_
    refine a_iload_n (pc := 35) (dk D 25 rfl) rfl ?_
    refine a_sipush (pc := 36) (dk D 26 rfl) (ik rfl) (spk rfl) ?_
    refine a_icmp_le (pc := 39) (dk D 27 rfl) (tgt := 47) rfl ⟨fun c => ?_, fun c => ?_⟩
    · replace H := H.1 c
      refine a_iconst (pc := 47) (dk D 30 rfl) (ik rfl) ?_
      refine a_ixor (pc := 48) (dk D 31 rfl) ?_
      refine a_istore_n (pc := 49) (dk D 32 rfl) (by decide) rfl rfl ?_
      refine a_iinc (pc := 50) (dk D 33 rfl) (by decide) rfl rfl rfl ?_
      refine a_goto (pc := 53) (dk D 34 rfl) (tgt := 25) rfl ?_
      exact a_pick [0, 1, 2, 3, 4] rfl H
    · replace H := H.2 c
      refine a_ldc (n := 69665) (pc := 42) (dk D 28 rfl) (ik rfl) co_RX4_101 ?_
      refine a_goto (pc := 44) (dk D 29 rfl) (tgt := 48) rfl ?_
      refine a_ixor (pc := 48) (dk D 31 rfl) ?_
      refine a_istore_n (pc := 49) (dk D 32 rfl) (by decide) rfl rfl ?_
      refine a_iinc (pc := 50) (dk D 33 rfl) (by decide) rfl rfl rfl ?_
      refine a_goto (pc := 53) (dk D 34 rfl) (tgt := 25) rfl ?_
      exact a_pick [0, 1, 2, 3, 4] rfl H
set_option maxHeartbeats 40000000 in
theorem T_X4_fillData_26_0 {G : GG} {Φ : Int → Hp → Prop} {h : Hp} {x1 : Int} (H : AT G m_X4_fillData 6 [(0, rv 26), (1, iv x1), (2, iv 255), (3, iv 0)] [] h Φ) : AT G m_X4_fillData 0 [(0, rv 26), (1, iv x1)] [] h Φ := by
  have D := dt_X4_fillData
  refine a_sipush (pc := 0) (dk D 0 rfl) (ik rfl) (spk rfl) ?_
  refine a_istore_n (pc := 3) (dk D 1 rfl) (by decide) rfl rfl ?_
  refine a_iconst (pc := 4) (dk D 2 rfl) (ik rfl) ?_
  refine a_istore_n (pc := 5) (dk D 3 rfl) (by decide) rfl rfl ?_
  exact a_pick [0, 1, 2, 3] rfl H
set_option maxHeartbeats 40000000 in
theorem T_X4_fillData_26_6 {G : GG} {Φ : Int → Hp → Prop} {h : Hp} {x1 : Int} {x2 : Int} {x3 : Int} (H : ((18 ≤ x3 → Φ x2 h) ∧ (x3 < 18 → (((h 26 8) ≠ (h 26 7) → (((h 26 7) ≤ (h 26 8) → (0 ≤ (w32 (x1 + x3)) ∧ (w32 (x1 + x3)) < 744) ∧ Call G m_X11_bit [iv 0] (up h 33 (w32 (x1 + x3)) 0) (fun r1 h2 => AT G m_X4_fillData 6 [(0, rv 26), (1, iv x1), (2, iv x2), (3, iv (w32 (x3 + 1)))] [] (up h2 26 8 (w32 ((h 26 8) + r1))) Φ)) ∧ ((h 26 8) < (h 26 7) → (0 ≤ (h 26 8) ∧ (h 26 8) < 9) ∧ (0 ≤ (w32 (x1 + x3)) ∧ (w32 (x1 + x3)) < 744) ∧ Call G m_X11_bit [iv 1] (up h 33 (w32 (x1 + x3)) (h 32 (h 26 8))) (fun r3 h4 => AT G m_X4_fillData 6 [(0, rv 26), (1, iv x1), (2, iv x2), (3, iv (w32 (x3 + 1)))] [] (up h4 26 8 (w32 ((h 26 8) + r3))) Φ)))) ∧ ((h 26 8) = (h 26 7) → Call G m_X4_firstClass [rv 26] h (fun r5 h6 => ((4 ≤ r5 → (((h6 26 7) ≤ (h6 26 8) → (0 ≤ (w32 (x1 + x3)) ∧ (w32 (x1 + x3)) < 744) ∧ Call G m_X11_bit [iv 0] (up h6 33 (w32 (x1 + x3)) 0) (fun r7 h8 => AT G m_X4_fillData 6 [(0, rv 26), (1, iv x1), (2, iv x2), (3, iv (w32 (x3 + 1)))] [] (up h8 26 8 (w32 ((h6 26 8) + r7))) Φ)) ∧ ((h6 26 8) < (h6 26 7) → (0 ≤ (h6 26 8) ∧ (h6 26 8) < 9) ∧ (0 ≤ (w32 (x1 + x3)) ∧ (w32 (x1 + x3)) < 744) ∧ Call G m_X11_bit [iv 1] (up h6 33 (w32 (x1 + x3)) (h6 32 (h6 26 8))) (fun r9 h10 => AT G m_X4_fillData 6 [(0, rv 26), (1, iv x1), (2, iv x2), (3, iv (w32 (x3 + 1)))] [] (up h10 26 8 (w32 ((h6 26 8) + r9))) Φ)))) ∧ (r5 < 4 → Call G m_X4_firstClass [rv 26] h6 (fun r11 h12 => Call G m_X4_startPacket [rv 26, iv r11] h12 (fun _ h14 => Call G m_J9_min_7cf53 [iv x2, iv x3] h14 (fun r15 h16 => (((h16 26 7) ≤ (h16 26 8) → (0 ≤ (w32 (x1 + x3)) ∧ (w32 (x1 + x3)) < 744) ∧ Call G m_X11_bit [iv 0] (up h16 33 (w32 (x1 + x3)) 0) (fun r17 h18 => AT G m_X4_fillData 6 [(0, rv 26), (1, iv x1), (2, iv r15), (3, iv (w32 (x3 + 1)))] [] (up h18 26 8 (w32 ((h16 26 8) + r17))) Φ)) ∧ ((h16 26 8) < (h16 26 7) → (0 ≤ (h16 26 8) ∧ (h16 26 8) < 9) ∧ (0 ≤ (w32 (x1 + x3)) ∧ (w32 (x1 + x3)) < 744) ∧ Call G m_X11_bit [iv 1] (up h16 33 (w32 (x1 + x3)) (h16 32 (h16 26 8))) (fun r19 h20 => AT G m_X4_fillData 6 [(0, rv 26), (1, iv x1), (2, iv r15), (3, iv (w32 (x3 + 1)))] [] (up h20 26 8 (w32 ((h16 26 8) + r19))) Φ)))))))))))))) : AT G m_X4_fillData 6 [(0, rv 26), (1, iv x1), (2, iv x2), (3, iv x3)] [] h Φ := by
  have D := dt_X4_fillData
  refine a_iload_n (pc := 6) (dk D 4 rfl) rfl ?_
  refine a_bipush (pc := 7) (dk D 5 rfl) (ik rfl) (bpk rfl) ?_
  refine a_icmp_ge (pc := 9) (dk D 6 rfl) (tgt := 109) rfl ⟨fun c => ?_, fun c => ?_⟩
  · replace H := H.1 c
    refine a_iload_n (pc := 109) (dk D 57 rfl) rfl ?_
    exact a_iret (pc := 110) (dk D 58 rfl) rfl rfl H
  · replace H := H.2 c
    refine a_aload_n (pc := 12) (dk D 7 rfl) rfl ?_
    refine a_geti (pc := 13) (dk D 8 rfl) cls_4 fl_RX4_78 cf_26_8 ?_
    refine a_aload_n (pc := 16) (dk D 9 rfl) rfl ?_
    refine a_geti (pc := 17) (dk D 10 rfl) cls_4 fl_RX4_81 cf_26_7 ?_
    refine a_icmp_ne (pc := 20) (dk D 11 rfl) (tgt := 45) rfl ⟨fun c => ?_, fun c => ?_⟩
    · replace H := H.1 c
      refine a_aload_n (pc := 45) (dk D 24 rfl) rfl ?_
      refine a_geti (pc := 46) (dk D 25 rfl) cls_4 fl_RX4_78 cf_26_8 ?_
      refine a_aload_n (pc := 49) (dk D 26 rfl) rfl ?_
      refine a_geti (pc := 50) (dk D 27 rfl) cls_4 fl_RX4_81 cf_26_7 ?_
      refine a_icmp_ge (pc := 53) (dk D 28 rfl) (tgt := 60) rfl ⟨fun c => ?_, fun c => ?_⟩
      · replace H := H.1 c
        refine a_iconst (pc := 60) (dk D 31 rfl) (ik rfl) ?_
        refine a_istore (pc := 61) (dk D 32 rfl) (by decide) rfl rfl ?_
        refine a_aload_n (pc := 63) (dk D 33 rfl) rfl ?_
        refine a_getr (r := 32) (pc := 64) (dk D 34 rfl) cls_4 fl_RX4_30 cf_26_9 ?_
        refine a_iload_n (pc := 67) (dk D 35 rfl) rfl ?_
        refine a_iload_n (pc := 68) (dk D 36 rfl) rfl ?_
        refine a_iadd (pc := 69) (dk D 37 rfl) ?_
        refine a_iload (pc := 70) (dk D 38 rfl) rfl ?_
        refine a_if_eq (pc := 72) (dk D 39 rfl) (tgt := 87) rfl ⟨fun _ => ?_, fun c => absurd c (by decide)⟩
        refine a_iconst (pc := 87) (dk D 46 rfl) (ik rfl) ?_
        refine a_iast (pc := 88) (dk D 47 rfl) ar_33 ⟨H.1, ?_⟩
        replace H := H.2
        refine a_aload_n (pc := 89) (dk D 48 rfl) rfl ?_
        refine a_dup (pc := 90) (dk D 49 rfl) rfl ?_
        refine a_geti (pc := 91) (dk D 50 rfl) cls_4 fl_RX4_78 cf_26_8 ?_
        refine a_top (y := (h 26 8)) (by simp [up, cpy]) ?_
        refine a_iload (pc := 94) (dk D 51 rfl) rfl ?_
        refine a_callNi (as := [iv 0]) (st := [iv (h 26 8), rv 26]) (pc := 96) (dk D 52 rfl) cl_RX4_96 ⟨Nat.le_of_ble_eq_true rfl, Nat.le_of_ble_eq_true rfl⟩ ⟨Nat.le_of_ble_eq_true rfl, Nat.le_of_ble_eq_true rfl⟩ rfl rfl rfl (Nat.le_of_ble_eq_true rfl) (Call.mono H fun r1 h2 H => ?_)
        refine a_iadd (pc := 99) (dk D 53 rfl) ?_
        refine a_puti (pc := 100) (dk D 54 rfl) cls_4 fl_RX4_78 cf_26_8 rfl rfl ?_
        refine a_iinc (pc := 103) (dk D 55 rfl) (by decide) rfl rfl rfl ?_
        refine a_goto (pc := 106) (dk D 56 rfl) (tgt := 6) rfl ?_
        exact a_pick [0, 1, 2, 3] rfl H
      · replace H := H.2 c
        refine a_iconst (pc := 56) (dk D 29 rfl) (ik rfl) ?_
        refine a_goto (pc := 57) (dk D 30 rfl) (tgt := 61) rfl ?_
        refine a_istore (pc := 61) (dk D 32 rfl) (by decide) rfl rfl ?_
        refine a_aload_n (pc := 63) (dk D 33 rfl) rfl ?_
        refine a_getr (r := 32) (pc := 64) (dk D 34 rfl) cls_4 fl_RX4_30 cf_26_9 ?_
        refine a_iload_n (pc := 67) (dk D 35 rfl) rfl ?_
        refine a_iload_n (pc := 68) (dk D 36 rfl) rfl ?_
        refine a_iadd (pc := 69) (dk D 37 rfl) ?_
        refine a_iload (pc := 70) (dk D 38 rfl) rfl ?_
        refine a_if_eq (pc := 72) (dk D 39 rfl) (tgt := 87) rfl ⟨fun c => absurd c (by decide), fun _ => ?_⟩
        refine a_aload_n (pc := 75) (dk D 40 rfl) rfl ?_
        refine a_getr (r := 31) (pc := 76) (dk D 41 rfl) cls_4 fl_RX4_27 cf_26_6 ?_
        refine a_aload_n (pc := 79) (dk D 42 rfl) rfl ?_
        refine a_geti (pc := 80) (dk D 43 rfl) cls_4 fl_RX4_78 cf_26_8 ?_
        refine a_iald (pc := 83) (dk D 44 rfl) ar_32 ⟨H.1, ?_⟩
        replace H := H.2
        refine a_goto (pc := 84) (dk D 45 rfl) (tgt := 88) rfl ?_
        refine a_iast (pc := 88) (dk D 47 rfl) ar_33 ⟨H.1, ?_⟩
        replace H := H.2
        refine a_aload_n (pc := 89) (dk D 48 rfl) rfl ?_
        refine a_dup (pc := 90) (dk D 49 rfl) rfl ?_
        refine a_geti (pc := 91) (dk D 50 rfl) cls_4 fl_RX4_78 cf_26_8 ?_
        refine a_top (y := (h 26 8)) (by simp [up, cpy]) ?_
        refine a_iload (pc := 94) (dk D 51 rfl) rfl ?_
        refine a_callNi (as := [iv 1]) (st := [iv (h 26 8), rv 26]) (pc := 96) (dk D 52 rfl) cl_RX4_96 ⟨Nat.le_of_ble_eq_true rfl, Nat.le_of_ble_eq_true rfl⟩ ⟨Nat.le_of_ble_eq_true rfl, Nat.le_of_ble_eq_true rfl⟩ rfl rfl rfl (Nat.le_of_ble_eq_true rfl) (Call.mono H fun r3 h4 H => ?_)
        refine a_iadd (pc := 99) (dk D 53 rfl) ?_
        refine a_puti (pc := 100) (dk D 54 rfl) cls_4 fl_RX4_78 cf_26_8 rfl rfl ?_
        refine a_iinc (pc := 103) (dk D 55 rfl) (by decide) rfl rfl rfl ?_
        refine a_goto (pc := 106) (dk D 56 rfl) (tgt := 6) rfl ?_
        exact a_pick [0, 1, 2, 3] rfl H
    · replace H := H.2 c
      refine a_aload_n (pc := 23) (dk D 12 rfl) rfl ?_
      refine a_callVi (as := []) (st := []) (pc := 24) (dk D 13 rfl) cl_RX4_84 ⟨Nat.le_of_ble_eq_true rfl, Nat.le_of_ble_eq_true rfl⟩ ⟨Nat.le_of_ble_eq_true rfl, Nat.le_of_ble_eq_true rfl⟩ cls_4 rfl cc_26 rfl rfl rfl (Nat.le_of_ble_eq_true rfl) (Call.mono H fun r5 h6 H => ?_)
      refine a_iconst (pc := 27) (dk D 14 rfl) (ik rfl) ?_
      refine a_icmp_ge (pc := 28) (dk D 15 rfl) (tgt := 45) rfl ⟨fun c => ?_, fun c => ?_⟩
      · replace H := H.1 c
        refine a_aload_n (pc := 45) (dk D 24 rfl) rfl ?_
        refine a_geti (pc := 46) (dk D 25 rfl) cls_4 fl_RX4_78 cf_26_8 ?_
        refine a_aload_n (pc := 49) (dk D 26 rfl) rfl ?_
        refine a_geti (pc := 50) (dk D 27 rfl) cls_4 fl_RX4_81 cf_26_7 ?_
        refine a_icmp_ge (pc := 53) (dk D 28 rfl) (tgt := 60) rfl ⟨fun c => ?_, fun c => ?_⟩
        · replace H := H.1 c
          refine a_iconst (pc := 60) (dk D 31 rfl) (ik rfl) ?_
          refine a_istore (pc := 61) (dk D 32 rfl) (by decide) rfl rfl ?_
          refine a_aload_n (pc := 63) (dk D 33 rfl) rfl ?_
          refine a_getr (r := 32) (pc := 64) (dk D 34 rfl) cls_4 fl_RX4_30 cf_26_9 ?_
          refine a_iload_n (pc := 67) (dk D 35 rfl) rfl ?_
          refine a_iload_n (pc := 68) (dk D 36 rfl) rfl ?_
          refine a_iadd (pc := 69) (dk D 37 rfl) ?_
          refine a_iload (pc := 70) (dk D 38 rfl) rfl ?_
          refine a_if_eq (pc := 72) (dk D 39 rfl) (tgt := 87) rfl ⟨fun _ => ?_, fun c => absurd c (by decide)⟩
          refine a_iconst (pc := 87) (dk D 46 rfl) (ik rfl) ?_
          refine a_iast (pc := 88) (dk D 47 rfl) ar_33 ⟨H.1, ?_⟩
          replace H := H.2
          refine a_aload_n (pc := 89) (dk D 48 rfl) rfl ?_
          refine a_dup (pc := 90) (dk D 49 rfl) rfl ?_
          refine a_geti (pc := 91) (dk D 50 rfl) cls_4 fl_RX4_78 cf_26_8 ?_
          refine a_top (y := (h6 26 8)) (by simp [up, cpy]) ?_
          refine a_iload (pc := 94) (dk D 51 rfl) rfl ?_
          refine a_callNi (as := [iv 0]) (st := [iv (h6 26 8), rv 26]) (pc := 96) (dk D 52 rfl) cl_RX4_96 ⟨Nat.le_of_ble_eq_true rfl, Nat.le_of_ble_eq_true rfl⟩ ⟨Nat.le_of_ble_eq_true rfl, Nat.le_of_ble_eq_true rfl⟩ rfl rfl rfl (Nat.le_of_ble_eq_true rfl) (Call.mono H fun r7 h8 H => ?_)
          refine a_iadd (pc := 99) (dk D 53 rfl) ?_
          refine a_puti (pc := 100) (dk D 54 rfl) cls_4 fl_RX4_78 cf_26_8 rfl rfl ?_
          refine a_iinc (pc := 103) (dk D 55 rfl) (by decide) rfl rfl rfl ?_
          refine a_goto (pc := 106) (dk D 56 rfl) (tgt := 6) rfl ?_
          exact a_pick [0, 1, 2, 3] rfl H
        · replace H := H.2 c
          refine a_iconst (pc := 56) (dk D 29 rfl) (ik rfl) ?_
          refine a_goto (pc := 57) (dk D 30 rfl) (tgt := 61) rfl ?_
          refine a_istore (pc := 61) (dk D 32 rfl) (by decide) rfl rfl ?_
          refine a_aload_n (pc := 63) (dk D 33 rfl) rfl ?_
          refine a_getr (r := 32) (pc := 64) (dk D 34 rfl) cls_4 fl_RX4_30 cf_26_9 ?_
          refine a_iload_n (pc := 67) (dk D 35 rfl) rfl ?_
          refine a_iload_n (pc := 68) (dk D 36 rfl) rfl ?_
          refine a_iadd (pc := 69) (dk D 37 rfl) ?_
          refine a_iload (pc := 70) (dk D 38 rfl) rfl ?_
          refine a_if_eq (pc := 72) (dk D 39 rfl) (tgt := 87) rfl ⟨fun c => absurd c (by decide), fun _ => ?_⟩
          refine a_aload_n (pc := 75) (dk D 40 rfl) rfl ?_
          refine a_getr (r := 31) (pc := 76) (dk D 41 rfl) cls_4 fl_RX4_27 cf_26_6 ?_
          refine a_aload_n (pc := 79) (dk D 42 rfl) rfl ?_
          refine a_geti (pc := 80) (dk D 43 rfl) cls_4 fl_RX4_78 cf_26_8 ?_
          refine a_iald (pc := 83) (dk D 44 rfl) ar_32 ⟨H.1, ?_⟩
          replace H := H.2
          refine a_goto (pc := 84) (dk D 45 rfl) (tgt := 88) rfl ?_
          refine a_iast (pc := 88) (dk D 47 rfl) ar_33 ⟨H.1, ?_⟩
          replace H := H.2
          refine a_aload_n (pc := 89) (dk D 48 rfl) rfl ?_
          refine a_dup (pc := 90) (dk D 49 rfl) rfl ?_
          refine a_geti (pc := 91) (dk D 50 rfl) cls_4 fl_RX4_78 cf_26_8 ?_
          refine a_top (y := (h6 26 8)) (by simp [up, cpy]) ?_
          refine a_iload (pc := 94) (dk D 51 rfl) rfl ?_
          refine a_callNi (as := [iv 1]) (st := [iv (h6 26 8), rv 26]) (pc := 96) (dk D 52 rfl) cl_RX4_96 ⟨Nat.le_of_ble_eq_true rfl, Nat.le_of_ble_eq_true rfl⟩ ⟨Nat.le_of_ble_eq_true rfl, Nat.le_of_ble_eq_true rfl⟩ rfl rfl rfl (Nat.le_of_ble_eq_true rfl) (Call.mono H fun r9 h10 H => ?_)
          refine a_iadd (pc := 99) (dk D 53 rfl) ?_
          refine a_puti (pc := 100) (dk D 54 rfl) cls_4 fl_RX4_78 cf_26_8 rfl rfl ?_
          refine a_iinc (pc := 103) (dk D 55 rfl) (by decide) rfl rfl rfl ?_
          refine a_goto (pc := 106) (dk D 56 rfl) (tgt := 6) rfl ?_
          exact a_pick [0, 1, 2, 3] rfl H
      · replace H := H.2 c
        refine a_aload_n (pc := 31) (dk D 16 rfl) rfl ?_
        refine a_aload_n (pc := 32) (dk D 17 rfl) rfl ?_
        refine a_callVi (as := []) (st := [rv 26]) (pc := 33) (dk D 18 rfl) cl_RX4_84 ⟨Nat.le_of_ble_eq_true rfl, Nat.le_of_ble_eq_true rfl⟩ ⟨Nat.le_of_ble_eq_true rfl, Nat.le_of_ble_eq_true rfl⟩ cls_4 rfl cc_26 rfl rfl rfl (Nat.le_of_ble_eq_true rfl) (Call.mono H fun r11 h12 H => ?_)
        refine a_callVv (as := [iv r11]) (st := []) (pc := 36) (dk D 19 rfl) cl_RX4_87 ⟨Nat.le_of_ble_eq_true rfl, Nat.le_of_ble_eq_true rfl⟩ ⟨Nat.le_of_ble_eq_true rfl, Nat.le_of_ble_eq_true rfl⟩ cls_4 rfl cc_26 rfl rfl rfl (Nat.le_of_ble_eq_true rfl) (Call.mono H fun _ h14 H => ?_)
        refine a_iload_n (pc := 39) (dk D 20 rfl) rfl ?_
        refine a_iload_n (pc := 40) (dk D 21 rfl) rfl ?_
        refine a_callSi (as := [iv x2, iv x3]) (st := []) (pc := 41) (dk D 22 rfl) cl_RX4_91 ⟨Nat.le_of_ble_eq_true rfl, Nat.le_of_ble_eq_true rfl⟩ ⟨Nat.le_of_ble_eq_true rfl, Nat.le_of_ble_eq_true rfl⟩ rfl rfl rfl (Nat.le_of_ble_eq_true rfl) (Call.mono H fun r15 h16 H => ?_)
        refine a_istore_n (pc := 44) (dk D 23 rfl) (by decide) rfl rfl ?_
        refine a_aload_n (pc := 45) (dk D 24 rfl) rfl ?_
        refine a_geti (pc := 46) (dk D 25 rfl) cls_4 fl_RX4_78 cf_26_8 ?_
        refine a_aload_n (pc := 49) (dk D 26 rfl) rfl ?_
        refine a_geti (pc := 50) (dk D 27 rfl) cls_4 fl_RX4_81 cf_26_7 ?_
        refine a_icmp_ge (pc := 53) (dk D 28 rfl) (tgt := 60) rfl ⟨fun c => ?_, fun c => ?_⟩
        · replace H := H.1 c
          refine a_iconst (pc := 60) (dk D 31 rfl) (ik rfl) ?_
          refine a_istore (pc := 61) (dk D 32 rfl) (by decide) rfl rfl ?_
          refine a_aload_n (pc := 63) (dk D 33 rfl) rfl ?_
          refine a_getr (r := 32) (pc := 64) (dk D 34 rfl) cls_4 fl_RX4_30 cf_26_9 ?_
          refine a_iload_n (pc := 67) (dk D 35 rfl) rfl ?_
          refine a_iload_n (pc := 68) (dk D 36 rfl) rfl ?_
          refine a_iadd (pc := 69) (dk D 37 rfl) ?_
          refine a_iload (pc := 70) (dk D 38 rfl) rfl ?_
          refine a_if_eq (pc := 72) (dk D 39 rfl) (tgt := 87) rfl ⟨fun _ => ?_, fun c => absurd c (by decide)⟩
          refine a_iconst (pc := 87) (dk D 46 rfl) (ik rfl) ?_
          refine a_iast (pc := 88) (dk D 47 rfl) ar_33 ⟨H.1, ?_⟩
          replace H := H.2
          refine a_aload_n (pc := 89) (dk D 48 rfl) rfl ?_
          refine a_dup (pc := 90) (dk D 49 rfl) rfl ?_
          refine a_geti (pc := 91) (dk D 50 rfl) cls_4 fl_RX4_78 cf_26_8 ?_
          refine a_top (y := (h16 26 8)) (by simp [up, cpy]) ?_
          refine a_iload (pc := 94) (dk D 51 rfl) rfl ?_
          refine a_callNi (as := [iv 0]) (st := [iv (h16 26 8), rv 26]) (pc := 96) (dk D 52 rfl) cl_RX4_96 ⟨Nat.le_of_ble_eq_true rfl, Nat.le_of_ble_eq_true rfl⟩ ⟨Nat.le_of_ble_eq_true rfl, Nat.le_of_ble_eq_true rfl⟩ rfl rfl rfl (Nat.le_of_ble_eq_true rfl) (Call.mono H fun r17 h18 H => ?_)
          refine a_iadd (pc := 99) (dk D 53 rfl) ?_
          refine a_puti (pc := 100) (dk D 54 rfl) cls_4 fl_RX4_78 cf_26_8 rfl rfl ?_
          refine a_iinc (pc := 103) (dk D 55 rfl) (by decide) rfl rfl rfl ?_
          refine a_goto (pc := 106) (dk D 56 rfl) (tgt := 6) rfl ?_
          exact a_pick [0, 1, 2, 3] rfl H
        · replace H := H.2 c
          refine a_iconst (pc := 56) (dk D 29 rfl) (ik rfl) ?_
          refine a_goto (pc := 57) (dk D 30 rfl) (tgt := 61) rfl ?_
          refine a_istore (pc := 61) (dk D 32 rfl) (by decide) rfl rfl ?_
          refine a_aload_n (pc := 63) (dk D 33 rfl) rfl ?_
          refine a_getr (r := 32) (pc := 64) (dk D 34 rfl) cls_4 fl_RX4_30 cf_26_9 ?_
          refine a_iload_n (pc := 67) (dk D 35 rfl) rfl ?_
          refine a_iload_n (pc := 68) (dk D 36 rfl) rfl ?_
          refine a_iadd (pc := 69) (dk D 37 rfl) ?_
          refine a_iload (pc := 70) (dk D 38 rfl) rfl ?_
          refine a_if_eq (pc := 72) (dk D 39 rfl) (tgt := 87) rfl ⟨fun c => absurd c (by decide), fun _ => ?_⟩
          refine a_aload_n (pc := 75) (dk D 40 rfl) rfl ?_
          refine a_getr (r := 31) (pc := 76) (dk D 41 rfl) cls_4 fl_RX4_27 cf_26_6 ?_
          refine a_aload_n (pc := 79) (dk D 42 rfl) rfl ?_
          refine a_geti (pc := 80) (dk D 43 rfl) cls_4 fl_RX4_78 cf_26_8 ?_
          refine a_iald (pc := 83) (dk D 44 rfl) ar_32 ⟨H.1, ?_⟩
          replace H := H.2
          refine a_goto (pc := 84) (dk D 45 rfl) (tgt := 88) rfl ?_
          refine a_iast (pc := 88) (dk D 47 rfl) ar_33 ⟨H.1, ?_⟩
          replace H := H.2
          refine a_aload_n (pc := 89) (dk D 48 rfl) rfl ?_
          refine a_dup (pc := 90) (dk D 49 rfl) rfl ?_
          refine a_geti (pc := 91) (dk D 50 rfl) cls_4 fl_RX4_78 cf_26_8 ?_
          refine a_top (y := (h16 26 8)) (by simp [up, cpy]) ?_
          refine a_iload (pc := 94) (dk D 51 rfl) rfl ?_
          refine a_callNi (as := [iv 1]) (st := [iv (h16 26 8), rv 26]) (pc := 96) (dk D 52 rfl) cl_RX4_96 ⟨Nat.le_of_ble_eq_true rfl, Nat.le_of_ble_eq_true rfl⟩ ⟨Nat.le_of_ble_eq_true rfl, Nat.le_of_ble_eq_true rfl⟩ rfl rfl rfl (Nat.le_of_ble_eq_true rfl) (Call.mono H fun r19 h20 H => ?_)
          refine a_iadd (pc := 99) (dk D 53 rfl) ?_
          refine a_puti (pc := 100) (dk D 54 rfl) cls_4 fl_RX4_78 cf_26_8 rfl rfl ?_
          refine a_iinc (pc := 103) (dk D 55 rfl) (by decide) rfl rfl rfl ?_
          refine a_goto (pc := 106) (dk D 56 rfl) (tgt := 6) rfl ?_
          exact a_pick [0, 1, 2, 3] rfl H
set_option maxHeartbeats 40000000 in
theorem T_X4_firstClass_26_0 {G : GG} {Φ : Int → Hp → Prop} {h : Hp} (H : AT G m_X4_firstClass 2 [(0, rv 26), (1, iv 0)] [] h Φ) : AT G m_X4_firstClass 0 [(0, rv 26)] [] h Φ := by
  have D := dt_X4_firstClass
  refine a_iconst (pc := 0) (dk D 0 rfl) (ik rfl) ?_
  refine a_istore_n (pc := 1) (dk D 1 rfl) (by decide) rfl rfl ?_
  exact a_pick [0, 1] rfl H
set_option maxHeartbeats 40000000 in
theorem T_X4_firstClass_26_2 {G : GG} {Φ : Int → Hp → Prop} {h : Hp} {x1 : Int} (H : ((4 ≤ x1 → Φ x1 h) ∧ (x1 < 4 → (0 ≤ x1 ∧ x1 < 4) ∧ (((h 29 x1) ≠ 0 → Φ x1 h) ∧ ((h 29 x1) = 0 → AT G m_X4_firstClass 2 [(0, rv 26), (1, iv (w32 (x1 + 1)))] [] h Φ))))) : AT G m_X4_firstClass 2 [(0, rv 26), (1, iv x1)] [] h Φ := by
  have D := dt_X4_firstClass
  refine a_iload_n (pc := 2) (dk D 2 rfl) rfl ?_
  refine a_iconst (pc := 3) (dk D 3 rfl) (ik rfl) ?_
  refine a_icmp_ge (pc := 4) (dk D 4 rfl) (tgt := 22) rfl ⟨fun c => ?_, fun c => ?_⟩
  · replace H := H.1 c
    refine a_iload_n (pc := 22) (dk D 12 rfl) rfl ?_
    exact a_iret (pc := 23) (dk D 13 rfl) rfl rfl H
  · replace H := H.2 c
    refine a_aload_n (pc := 7) (dk D 5 rfl) rfl ?_
    refine a_getr (r := 28) (pc := 8) (dk D 6 rfl) cls_4 fl_RX4_18 cf_26_2 ?_
    refine a_iload_n (pc := 11) (dk D 7 rfl) rfl ?_
    refine a_iald (pc := 12) (dk D 8 rfl) ar_29 ⟨H.1, ?_⟩
    replace H := H.2
    refine a_if_ne (pc := 13) (dk D 9 rfl) (tgt := 22) rfl ⟨fun c => ?_, fun c => ?_⟩
    · replace H := H.1 c
      refine a_iload_n (pc := 22) (dk D 12 rfl) rfl ?_
      exact a_iret (pc := 23) (dk D 13 rfl) rfl rfl H
    · replace H := H.2 c
      refine a_iinc (pc := 16) (dk D 10 rfl) (by decide) rfl rfl rfl ?_
      refine a_goto (pc := 19) (dk D 11 rfl) (tgt := 2) rfl ?_
      exact a_pick [0, 1] rfl H
set_option maxHeartbeats 40000000 in
theorem T_X4_startPacket_26_0 {G : GG} {Φ : Int → Hp → Prop} {h : Hp} {x1 : Int} (H : Call G m_X4_slot [rv 26, iv x1, iv 0] h (fun r1 h2 => ((0 : Int) ≤ r1 ∧ (0 : Int) ≤ 0 ∧ (0 : Int) ≤ 9 ∧ ((r1 : Int) + 9) ≤ 1800 ∧ ((0 : Int) + 9) ≤ 9) ∧ Call G m_X4_takeOldest [rv 26, iv x1, iv r1] (up (up (cpy h2 27 r1 32 0 9) 26 7 (w32 (5 + ((cpy h2 27 r1 32 0 9) 32 4)))) 26 8 0) (fun _ h4 => Φ 0 h4))) : AT G m_X4_startPacket 0 [(0, rv 26), (1, iv x1)] [] h Φ := by
  have D := dt_X4_startPacket
  refine a_aload_n (pc := 0) (dk D 0 rfl) rfl ?_
  refine a_iload_n (pc := 1) (dk D 1 rfl) rfl ?_
  refine a_iconst (pc := 2) (dk D 2 rfl) (ik rfl) ?_
  refine a_callVi (as := [iv x1, iv 0]) (st := []) (pc := 3) (dk D 3 rfl) cl_RX4_41 ⟨Nat.le_of_ble_eq_true rfl, Nat.le_of_ble_eq_true rfl⟩ ⟨Nat.le_of_ble_eq_true rfl, Nat.le_of_ble_eq_true rfl⟩ cls_4 rfl cc_26 rfl rfl rfl (Nat.le_of_ble_eq_true rfl) (Call.mono H fun r1 h2 H => ?_)
  refine a_istore_n (pc := 6) (dk D 4 rfl) (by decide) rfl rfl ?_
  refine a_aload_n (pc := 7) (dk D 5 rfl) rfl ?_
  refine a_getr (r := 26) (pc := 8) (dk D 6 rfl) cls_4 fl_RX4_11 cf_26_0 ?_
  refine a_iload_n (pc := 11) (dk D 7 rfl) rfl ?_
  refine a_aload_n (pc := 12) (dk D 8 rfl) rfl ?_
  refine a_getr (r := 31) (pc := 13) (dk D 9 rfl) cls_4 fl_RX4_27 cf_26_6 ?_
  refine a_iconst (pc := 16) (dk D 10 rfl) (ik rfl) ?_
  refine a_bipush (pc := 17) (dk D 11 rfl) (ik rfl) (bpk rfl) ?_
  refine a_copy (pc := 19) (dk D 12 rfl) acw_RX4_49 ar_27 ar_32 ⟨Nat.le_of_ble_eq_true rfl, Nat.le_of_ble_eq_true rfl⟩ ⟨H.1, ?_⟩
  replace H := H.2
  refine a_aload_n (pc := 22) (dk D 13 rfl) rfl ?_
  refine a_iconst (pc := 23) (dk D 14 rfl) (ik rfl) ?_
  refine a_aload_n (pc := 24) (dk D 15 rfl) rfl ?_
  refine a_getr (r := 31) (pc := 25) (dk D 16 rfl) cls_4 fl_RX4_27 cf_26_6 ?_
  refine a_iconst (pc := 28) (dk D 17 rfl) (ik rfl) ?_
  refine a_iald (pc := 29) (dk D 18 rfl) ar_32 ⟨⟨by decide, by decide⟩, ?_⟩
  refine a_iadd (pc := 30) (dk D 19 rfl) ?_
  refine a_puti (pc := 31) (dk D 20 rfl) cls_4 fl_RX4_81 cf_26_7 rfl rfl ?_
  refine a_aload_n (pc := 34) (dk D 21 rfl) rfl ?_
  refine a_iconst (pc := 35) (dk D 22 rfl) (ik rfl) ?_
  refine a_puti (pc := 36) (dk D 23 rfl) cls_4 fl_RX4_78 cf_26_8 rfl rfl ?_
  refine a_aload_n (pc := 39) (dk D 24 rfl) rfl ?_
  refine a_iload_n (pc := 40) (dk D 25 rfl) rfl ?_
  refine a_iload_n (pc := 41) (dk D 26 rfl) rfl ?_
  refine a_callVv (as := [iv x1, iv r1]) (st := []) (pc := 42) (dk D 27 rfl) cl_RX4_45 ⟨Nat.le_of_ble_eq_true rfl, Nat.le_of_ble_eq_true rfl⟩ ⟨Nat.le_of_ble_eq_true rfl, Nat.le_of_ble_eq_true rfl⟩ cls_4 rfl cc_26 rfl rfl rfl (Nat.le_of_ble_eq_true rfl) (Call.mono H fun _ h4 H => ?_)
  exact a_vret (pc := 45) (dk D 28 rfl) rfl rfl H
set_option maxHeartbeats 40000000 in
theorem T_X4_label_26_0 {G : GG} {Φ : Int → Hp → Prop} {h : Hp} {x1 : Int} {x2 : Int} (H : (0 ≤ x1 ∧ x1 < 16) ∧ (0 ≤ x1 ∧ x1 < 16) ∧ (0 ≤ x1 ∧ x1 < 16) ∧ Φ 0 (up (up (up (up (up (up h 31 0 (w32 (10 + x1))) 31 1 (h 30 x1)) 31 2 (band (bshr x2 8) 255)) 31 3 (band x2 255)) 31 4 (w32 ((x1.tmod 4) + 1))) 30 x1 (band (w32 ((h 30 x1) + 1)) 255))) : AT G m_X4_label 0 [(0, rv 26), (1, iv x1), (2, iv x2)] [] h Φ := by
  have D := dt_X4_label
  refine a_aload_n (pc := 0) (dk D 0 rfl) rfl ?_
  refine a_getr (r := 30) (pc := 1) (dk D 1 rfl) cls_4 fl_RX4_24 cf_26_5 ?_
  refine a_iconst (pc := 4) (dk D 2 rfl) (ik rfl) ?_
  refine a_bipush (pc := 5) (dk D 3 rfl) (ik rfl) (bpk rfl) ?_
  refine a_iload_n (pc := 7) (dk D 4 rfl) rfl ?_
  refine a_iadd (pc := 8) (dk D 5 rfl) ?_
  refine a_iast (pc := 9) (dk D 6 rfl) ar_31 ⟨⟨by decide, by decide⟩, ?_⟩
  refine a_aload_n (pc := 10) (dk D 7 rfl) rfl ?_
  refine a_getr (r := 30) (pc := 11) (dk D 8 rfl) cls_4 fl_RX4_24 cf_26_5 ?_
  refine a_iconst (pc := 14) (dk D 9 rfl) (ik rfl) ?_
  refine a_aload_n (pc := 15) (dk D 10 rfl) rfl ?_
  refine a_getr (r := 29) (pc := 16) (dk D 11 rfl) cls_4 fl_RX4_21 cf_26_4 ?_
  refine a_iload_n (pc := 19) (dk D 12 rfl) rfl ?_
  refine a_iald (pc := 20) (dk D 13 rfl) ar_30 ⟨H.1, ?_⟩
  replace H := H.2
  refine a_top (y := (h 30 x1)) (by simp [up, cpy]) ?_
  refine a_iast (pc := 21) (dk D 14 rfl) ar_31 ⟨⟨by decide, by decide⟩, ?_⟩
  refine a_aload_n (pc := 22) (dk D 15 rfl) rfl ?_
  refine a_getr (r := 30) (pc := 23) (dk D 16 rfl) cls_4 fl_RX4_24 cf_26_5 ?_
  refine a_iconst (pc := 26) (dk D 17 rfl) (ik rfl) ?_
  refine a_iload_n (pc := 27) (dk D 18 rfl) rfl ?_
  refine a_bipush (pc := 28) (dk D 19 rfl) (ik rfl) (bpk rfl) ?_
  refine a_ishr (pc := 30) (dk D 20 rfl) ?_
  refine a_sipush (pc := 31) (dk D 21 rfl) (ik rfl) (spk rfl) ?_
  refine a_iand (pc := 34) (dk D 22 rfl) ?_
  refine a_iast (pc := 35) (dk D 23 rfl) ar_31 ⟨⟨by decide, by decide⟩, ?_⟩
  refine a_aload_n (pc := 36) (dk D 24 rfl) rfl ?_
  refine a_getr (r := 30) (pc := 37) (dk D 25 rfl) cls_4 fl_RX4_24 cf_26_5 ?_
  refine a_iconst (pc := 40) (dk D 26 rfl) (ik rfl) ?_
  refine a_iload_n (pc := 41) (dk D 27 rfl) rfl ?_
  refine a_sipush (pc := 42) (dk D 28 rfl) (ik rfl) (spk rfl) ?_
  refine a_iand (pc := 45) (dk D 29 rfl) ?_
  refine a_iast (pc := 46) (dk D 30 rfl) ar_31 ⟨⟨by decide, by decide⟩, ?_⟩
  refine a_aload_n (pc := 47) (dk D 31 rfl) rfl ?_
  refine a_getr (r := 30) (pc := 48) (dk D 32 rfl) cls_4 fl_RX4_24 cf_26_5 ?_
  refine a_iconst (pc := 51) (dk D 33 rfl) (ik rfl) ?_
  refine a_iload_n (pc := 52) (dk D 34 rfl) rfl ?_
  refine a_iconst (pc := 53) (dk D 35 rfl) (ik rfl) ?_
  refine a_irem (pc := 54) (dk D 36 rfl) ⟨by decide, ?_⟩
  refine a_iconst (pc := 55) (dk D 37 rfl) (ik rfl) ?_
  refine a_iadd (pc := 56) (dk D 38 rfl) ?_
  refine a_iast (pc := 57) (dk D 39 rfl) ar_31 ⟨⟨by decide, by decide⟩, ?_⟩
  refine a_aload_n (pc := 58) (dk D 40 rfl) rfl ?_
  refine a_getr (r := 29) (pc := 59) (dk D 41 rfl) cls_4 fl_RX4_21 cf_26_4 ?_
  refine a_iload_n (pc := 62) (dk D 42 rfl) rfl ?_
  refine a_aload_n (pc := 63) (dk D 43 rfl) rfl ?_
  refine a_getr (r := 29) (pc := 64) (dk D 44 rfl) cls_4 fl_RX4_21 cf_26_4 ?_
  refine a_iload_n (pc := 67) (dk D 45 rfl) rfl ?_
  refine a_iald (pc := 68) (dk D 46 rfl) ar_30 ⟨H.1, ?_⟩
  replace H := H.2
  refine a_top (y := (h 30 x1)) (by simp [up, cpy]) ?_
  refine a_iconst (pc := 69) (dk D 47 rfl) (ik rfl) ?_
  refine a_iadd (pc := 70) (dk D 48 rfl) ?_
  refine a_sipush (pc := 71) (dk D 49 rfl) (ik rfl) (spk rfl) ?_
  refine a_iand (pc := 74) (dk D 50 rfl) ?_
  refine a_iast (pc := 75) (dk D 51 rfl) ar_30 ⟨H.1, ?_⟩
  replace H := H.2
  exact a_vret (pc := 76) (dk D 52 rfl) rfl rfl H
set_option maxHeartbeats 40000000 in
theorem T_X4_record_26_0 {G : GG} {Φ : Int → Hp → Prop} {h : Hp} (H : AT G m_X4_record 26 [(0, rv 26), (1, iv (w32 (5 + (h 31 4)))), (2, iv (w32 ((w32 ((h 31 0) - 10)).tdiv 4))), (3, iv 0), (4, iv 0)] [] h Φ) : AT G m_X4_record 0 [(0, rv 26)] [] h Φ := by
  have D := dt_X4_record
  refine a_iconst (pc := 0) (dk D 0 rfl) (ik rfl) ?_
  refine a_aload_n (pc := 1) (dk D 1 rfl) rfl ?_
  refine a_getr (r := 30) (pc := 2) (dk D 2 rfl) cls_4 fl_RX4_24 cf_26_5 ?_
  refine a_iconst (pc := 5) (dk D 3 rfl) (ik rfl) ?_
  refine a_iald (pc := 6) (dk D 4 rfl) ar_31 ⟨⟨by decide, by decide⟩, ?_⟩
  refine a_iadd (pc := 7) (dk D 5 rfl) ?_
  refine a_istore_n (pc := 8) (dk D 6 rfl) (by decide) rfl rfl ?_
  refine a_aload_n (pc := 9) (dk D 7 rfl) rfl ?_
  refine a_getr (r := 30) (pc := 10) (dk D 8 rfl) cls_4 fl_RX4_24 cf_26_5 ?_
  refine a_iconst (pc := 13) (dk D 9 rfl) (ik rfl) ?_
  refine a_iald (pc := 14) (dk D 10 rfl) ar_31 ⟨⟨by decide, by decide⟩, ?_⟩
  refine a_bipush (pc := 15) (dk D 11 rfl) (ik rfl) (bpk rfl) ?_
  refine a_isub (pc := 17) (dk D 12 rfl) ?_
  refine a_iconst (pc := 18) (dk D 13 rfl) (ik rfl) ?_
  refine a_idiv (pc := 19) (dk D 14 rfl) ⟨by decide, ?_⟩
  refine a_istore_n (pc := 20) (dk D 15 rfl) (by decide) rfl rfl ?_
  refine a_iconst (pc := 21) (dk D 16 rfl) (ik rfl) ?_
  refine a_istore_n (pc := 22) (dk D 17 rfl) (by decide) rfl rfl ?_
  refine a_iconst (pc := 23) (dk D 18 rfl) (ik rfl) ?_
  refine a_istore (pc := 24) (dk D 19 rfl) (by decide) rfl rfl ?_
  exact a_pick [0, 1, 2, 3, 4] rfl H
set_option maxHeartbeats 40000000 in
theorem T_X4_record_26_26 {G : GG} {Φ : Int → Hp → Prop} {h : Hp} {x1 : Int} {x2 : Int} {x3 : Int} {x4 : Int} (H : ((200 ≤ x4 → (0 ≤ x2 ∧ x2 < 4) ∧ Call G m_X4_slot [rv 26, iv x2, iv (h 29 x2)] h (fun r1 h2 => ((0 : Int) ≤ 0 ∧ (0 : Int) ≤ r1 ∧ (0 : Int) ≤ x1 ∧ ((0 : Int) + x1) ≤ 9 ∧ ((r1 : Int) + x1) ≤ 1800) ∧ (0 ≤ x2 ∧ x2 < 4) ∧ (0 ≤ x2 ∧ x2 < 4) ∧ Φ x3 (up (up (cpy h2 31 0 27 r1 x1) 29 x2 (w32 ((h2 29 x2) + 1))) 26 3 (w32 ((h2 26 3) + x1))))) ∧ (x4 < 200 → (((w32 ((h 26 3) + x1)) ≤ 300 → (0 ≤ x2 ∧ x2 < 4) ∧ Call G m_X4_slot [rv 26, iv x2, iv (h 29 x2)] h (fun r3 h4 => ((0 : Int) ≤ 0 ∧ (0 : Int) ≤ r3 ∧ (0 : Int) ≤ x1 ∧ ((0 : Int) + x1) ≤ 9 ∧ ((r3 : Int) + x1) ≤ 1800) ∧ (0 ≤ x2 ∧ x2 < 4) ∧ (0 ≤ x2 ∧ x2 < 4) ∧ Φ x3 (up (up (cpy h4 31 0 27 r3 x1) 29 x2 (w32 ((h4 29 x2) + 1))) 26 3 (w32 ((h4 26 3) + x1))))) ∧ (300 < (w32 ((h 26 3) + x1)) → Call G m_X4_lastClass [rv 26] h (fun r5 h6 => ((x2 ≤ r5 → Call G m_X4_slot [rv 26, iv r5, iv 0] h6 (fun r7 h8 => Call G m_X4_takeOldest [rv 26, iv r5, iv r7] h8 (fun _ h10 => AT G m_X4_record 26 [(0, rv 26), (1, iv x1), (2, iv x2), (3, iv (w32 (x3 + 1))), (4, iv (w32 (x4 + 1)))] [] h10 Φ))) ∧ (r5 < x2 → Φ (w32 (x3 + 1)) h6)))))))) : AT G m_X4_record 26 [(0, rv 26), (1, iv x1), (2, iv x2), (3, iv x3), (4, iv x4)] [] h Φ := by
  have D := dt_X4_record
  refine a_iload (pc := 26) (dk D 20 rfl) rfl ?_
  refine a_sipush (pc := 28) (dk D 21 rfl) (ik rfl) (spk rfl) ?_
  refine a_icmp_ge (pc := 31) (dk D 22 rfl) (tgt := 84) rfl ⟨fun c => ?_, fun c => ?_⟩
  · replace H := H.1 c
    refine a_aload_n (pc := 84) (dk D 49 rfl) rfl ?_
    refine a_iload_n (pc := 85) (dk D 50 rfl) rfl ?_
    refine a_aload_n (pc := 86) (dk D 51 rfl) rfl ?_
    refine a_getr (r := 28) (pc := 87) (dk D 52 rfl) cls_4 fl_RX4_18 cf_26_2 ?_
    refine a_iload_n (pc := 90) (dk D 53 rfl) rfl ?_
    refine a_iald (pc := 91) (dk D 54 rfl) ar_29 ⟨H.1, ?_⟩
    replace H := H.2
    refine a_callVi (as := [iv x2, iv (h 29 x2)]) (st := []) (pc := 92) (dk D 55 rfl) cl_RX4_41 ⟨Nat.le_of_ble_eq_true rfl, Nat.le_of_ble_eq_true rfl⟩ ⟨Nat.le_of_ble_eq_true rfl, Nat.le_of_ble_eq_true rfl⟩ cls_4 rfl cc_26 rfl rfl rfl (Nat.le_of_ble_eq_true rfl) (Call.mono H fun r1 h2 H => ?_)
    refine a_istore (pc := 95) (dk D 56 rfl) (by decide) rfl rfl ?_
    refine a_aload_n (pc := 97) (dk D 57 rfl) rfl ?_
    refine a_getr (r := 30) (pc := 98) (dk D 58 rfl) cls_4 fl_RX4_24 cf_26_5 ?_
    refine a_iconst (pc := 101) (dk D 59 rfl) (ik rfl) ?_
    refine a_aload_n (pc := 102) (dk D 60 rfl) rfl ?_
    refine a_getr (r := 26) (pc := 103) (dk D 61 rfl) cls_4 fl_RX4_11 cf_26_0 ?_
    refine a_iload (pc := 106) (dk D 62 rfl) rfl ?_
    refine a_iload_n (pc := 108) (dk D 63 rfl) rfl ?_
    refine a_copy (pc := 109) (dk D 64 rfl) acw_RX4_49 ar_31 ar_27 ⟨Nat.le_of_ble_eq_true rfl, Nat.le_of_ble_eq_true rfl⟩ ⟨H.1, ?_⟩
    replace H := H.2
    refine a_aload_n (pc := 112) (dk D 65 rfl) rfl ?_
    refine a_getr (r := 28) (pc := 113) (dk D 66 rfl) cls_4 fl_RX4_18 cf_26_2 ?_
    refine a_iload_n (pc := 116) (dk D 67 rfl) rfl ?_
    refine a_dup2 (pc := 117) (dk D 68 rfl) rfl rfl ?_
    refine a_iald (pc := 118) (dk D 69 rfl) ar_29 ⟨H.1, ?_⟩
    replace H := H.2
    refine a_top (y := (h2 29 x2)) (by simp [up, cpy]) ?_
    refine a_iconst (pc := 119) (dk D 70 rfl) (ik rfl) ?_
    refine a_iadd (pc := 120) (dk D 71 rfl) ?_
    refine a_iast (pc := 121) (dk D 72 rfl) ar_29 ⟨H.1, ?_⟩
    replace H := H.2
    refine a_aload_n (pc := 122) (dk D 73 rfl) rfl ?_
    refine a_dup (pc := 123) (dk D 74 rfl) rfl ?_
    refine a_geti (pc := 124) (dk D 75 rfl) cls_4 fl_RX4_33 cf_26_3 ?_
    refine a_top (y := (h2 26 3)) (by simp [up, cpy]) ?_
    refine a_iload_n (pc := 127) (dk D 76 rfl) rfl ?_
    refine a_iadd (pc := 128) (dk D 77 rfl) ?_
    refine a_puti (pc := 129) (dk D 78 rfl) cls_4 fl_RX4_33 cf_26_3 rfl rfl ?_
    refine a_iload_n (pc := 132) (dk D 79 rfl) rfl ?_
    exact a_iret (pc := 133) (dk D 80 rfl) rfl rfl H
  · replace H := H.2 c
    refine a_aload_n (pc := 34) (dk D 23 rfl) rfl ?_
    refine a_geti (pc := 35) (dk D 24 rfl) cls_4 fl_RX4_33 cf_26_3 ?_
    refine a_iload_n (pc := 38) (dk D 25 rfl) rfl ?_
    refine a_iadd (pc := 39) (dk D 26 rfl) ?_
    refine a_sipush (pc := 40) (dk D 27 rfl) (ik rfl) (spk rfl) ?_
    refine a_icmp_le (pc := 43) (dk D 28 rfl) (tgt := 84) rfl ⟨fun c => ?_, fun c => ?_⟩
    · replace H := H.1 c
      refine a_aload_n (pc := 84) (dk D 49 rfl) rfl ?_
      refine a_iload_n (pc := 85) (dk D 50 rfl) rfl ?_
      refine a_aload_n (pc := 86) (dk D 51 rfl) rfl ?_
      refine a_getr (r := 28) (pc := 87) (dk D 52 rfl) cls_4 fl_RX4_18 cf_26_2 ?_
      refine a_iload_n (pc := 90) (dk D 53 rfl) rfl ?_
      refine a_iald (pc := 91) (dk D 54 rfl) ar_29 ⟨H.1, ?_⟩
      replace H := H.2
      refine a_callVi (as := [iv x2, iv (h 29 x2)]) (st := []) (pc := 92) (dk D 55 rfl) cl_RX4_41 ⟨Nat.le_of_ble_eq_true rfl, Nat.le_of_ble_eq_true rfl⟩ ⟨Nat.le_of_ble_eq_true rfl, Nat.le_of_ble_eq_true rfl⟩ cls_4 rfl cc_26 rfl rfl rfl (Nat.le_of_ble_eq_true rfl) (Call.mono H fun r3 h4 H => ?_)
      refine a_istore (pc := 95) (dk D 56 rfl) (by decide) rfl rfl ?_
      refine a_aload_n (pc := 97) (dk D 57 rfl) rfl ?_
      refine a_getr (r := 30) (pc := 98) (dk D 58 rfl) cls_4 fl_RX4_24 cf_26_5 ?_
      refine a_iconst (pc := 101) (dk D 59 rfl) (ik rfl) ?_
      refine a_aload_n (pc := 102) (dk D 60 rfl) rfl ?_
      refine a_getr (r := 26) (pc := 103) (dk D 61 rfl) cls_4 fl_RX4_11 cf_26_0 ?_
      refine a_iload (pc := 106) (dk D 62 rfl) rfl ?_
      refine a_iload_n (pc := 108) (dk D 63 rfl) rfl ?_
      refine a_copy (pc := 109) (dk D 64 rfl) acw_RX4_49 ar_31 ar_27 ⟨Nat.le_of_ble_eq_true rfl, Nat.le_of_ble_eq_true rfl⟩ ⟨H.1, ?_⟩
      replace H := H.2
      refine a_aload_n (pc := 112) (dk D 65 rfl) rfl ?_
      refine a_getr (r := 28) (pc := 113) (dk D 66 rfl) cls_4 fl_RX4_18 cf_26_2 ?_
      refine a_iload_n (pc := 116) (dk D 67 rfl) rfl ?_
      refine a_dup2 (pc := 117) (dk D 68 rfl) rfl rfl ?_
      refine a_iald (pc := 118) (dk D 69 rfl) ar_29 ⟨H.1, ?_⟩
      replace H := H.2
      refine a_top (y := (h4 29 x2)) (by simp [up, cpy]) ?_
      refine a_iconst (pc := 119) (dk D 70 rfl) (ik rfl) ?_
      refine a_iadd (pc := 120) (dk D 71 rfl) ?_
      refine a_iast (pc := 121) (dk D 72 rfl) ar_29 ⟨H.1, ?_⟩
      replace H := H.2
      refine a_aload_n (pc := 122) (dk D 73 rfl) rfl ?_
      refine a_dup (pc := 123) (dk D 74 rfl) rfl ?_
      refine a_geti (pc := 124) (dk D 75 rfl) cls_4 fl_RX4_33 cf_26_3 ?_
      refine a_top (y := (h4 26 3)) (by simp [up, cpy]) ?_
      refine a_iload_n (pc := 127) (dk D 76 rfl) rfl ?_
      refine a_iadd (pc := 128) (dk D 77 rfl) ?_
      refine a_puti (pc := 129) (dk D 78 rfl) cls_4 fl_RX4_33 cf_26_3 rfl rfl ?_
      refine a_iload_n (pc := 132) (dk D 79 rfl) rfl ?_
      exact a_iret (pc := 133) (dk D 80 rfl) rfl rfl H
    · replace H := H.2 c
      refine a_aload_n (pc := 46) (dk D 29 rfl) rfl ?_
      refine a_callVi (as := []) (st := []) (pc := 47) (dk D 30 rfl) cl_RX4_37 ⟨Nat.le_of_ble_eq_true rfl, Nat.le_of_ble_eq_true rfl⟩ ⟨Nat.le_of_ble_eq_true rfl, Nat.le_of_ble_eq_true rfl⟩ cls_4 rfl cc_26 rfl rfl rfl (Nat.le_of_ble_eq_true rfl) (Call.mono H fun r5 h6 H => ?_)
      refine a_istore (pc := 50) (dk D 31 rfl) (by decide) rfl rfl ?_
      refine a_iload (pc := 52) (dk D 32 rfl) rfl ?_
      refine a_iload_n (pc := 54) (dk D 33 rfl) rfl ?_
      refine a_icmp_ge (pc := 55) (dk D 34 rfl) (tgt := 62) rfl ⟨fun c => ?_, fun c => ?_⟩
      · replace H := H.1 c
        refine a_aload_n (pc := 62) (dk D 39 rfl) rfl ?_
        refine a_iload (pc := 63) (dk D 40 rfl) rfl ?_
        refine a_aload_n (pc := 65) (dk D 41 rfl) rfl ?_
        refine a_iload (pc := 66) (dk D 42 rfl) rfl ?_
        refine a_iconst (pc := 68) (dk D 43 rfl) (ik rfl) ?_
        refine a_callVi (as := [iv r5, iv 0]) (st := [iv r5, rv 26]) (pc := 69) (dk D 44 rfl) cl_RX4_41 ⟨Nat.le_of_ble_eq_true rfl, Nat.le_of_ble_eq_true rfl⟩ ⟨Nat.le_of_ble_eq_true rfl, Nat.le_of_ble_eq_true rfl⟩ cls_4 rfl cc_26 rfl rfl rfl (Nat.le_of_ble_eq_true rfl) (Call.mono H fun r7 h8 H => ?_)
        refine a_callVv (as := [iv r5, iv r7]) (st := []) (pc := 72) (dk D 45 rfl) cl_RX4_45 ⟨Nat.le_of_ble_eq_true rfl, Nat.le_of_ble_eq_true rfl⟩ ⟨Nat.le_of_ble_eq_true rfl, Nat.le_of_ble_eq_true rfl⟩ cls_4 rfl cc_26 rfl rfl rfl (Nat.le_of_ble_eq_true rfl) (Call.mono H fun _ h10 H => ?_)
        refine a_iinc (pc := 75) (dk D 46 rfl) (by decide) rfl rfl rfl ?_
        refine a_iinc (pc := 78) (dk D 47 rfl) (by decide) rfl rfl rfl ?_
        refine a_goto (pc := 81) (dk D 48 rfl) (tgt := 26) rfl ?_
        exact a_pick [0, 1, 2, 3, 4] rfl H
      · replace H := H.2 c
        refine a_iload_n (pc := 58) (dk D 35 rfl) rfl ?_
        refine a_iconst (pc := 59) (dk D 36 rfl) (ik rfl) ?_
        refine a_iadd (pc := 60) (dk D 37 rfl) ?_
        exact a_iret (pc := 61) (dk D 38 rfl) rfl rfl H
set_option maxHeartbeats 40000000 in
theorem T_X4_slot_26_0 {G : GG} {Φ : Int → Hp → Prop} {h : Hp} {x1 : Int} {x2 : Int} (H : (0 ≤ x1 ∧ x1 < 4) ∧ Φ (w32 ((w32 ((w32 (x1 * 50)) + ((w32 ((h 28 x1) + x2)).tmod 50))) * 9)) h) : AT G m_X4_slot 0 [(0, rv 26), (1, iv x1), (2, iv x2)] [] h Φ := by
  have D := dt_X4_slot
  refine a_iload_n (pc := 0) (dk D 0 rfl) rfl ?_
  refine a_bipush (pc := 1) (dk D 1 rfl) (ik rfl) (bpk rfl) ?_
  refine a_imul (pc := 3) (dk D 2 rfl) ?_
  refine a_aload_n (pc := 4) (dk D 3 rfl) rfl ?_
  refine a_getr (r := 27) (pc := 5) (dk D 4 rfl) cls_4 fl_RX4_15 cf_26_1 ?_
  refine a_iload_n (pc := 8) (dk D 5 rfl) rfl ?_
  refine a_iald (pc := 9) (dk D 6 rfl) ar_28 ⟨H.1, ?_⟩
  replace H := H.2
  refine a_iload_n (pc := 10) (dk D 7 rfl) rfl ?_
  refine a_iadd (pc := 11) (dk D 8 rfl) ?_
  refine a_bipush (pc := 12) (dk D 9 rfl) (ik rfl) (bpk rfl) ?_
  refine a_irem (pc := 14) (dk D 10 rfl) ⟨by decide, ?_⟩
  refine a_iadd (pc := 15) (dk D 11 rfl) ?_
  refine a_bipush (pc := 16) (dk D 12 rfl) (ik rfl) (bpk rfl) ?_
  refine a_imul (pc := 18) (dk D 13 rfl) ?_
  exact a_iret (pc := 19) (dk D 14 rfl) rfl rfl H
set_option maxHeartbeats 40000000 in
theorem T_X4_takeOldest_26_0 {G : GG} {Φ : Int → Hp → Prop} {h : Hp} {x1 : Int} {x2 : Int} (H : (0 ≤ (w32 ((w32 (x2 + 5)) - 1)) ∧ (w32 ((w32 (x2 + 5)) - 1)) < 1800) ∧ (0 ≤ x1 ∧ x1 < 4) ∧ (0 ≤ x1 ∧ x1 < 4) ∧ (0 ≤ x1 ∧ x1 < 4) ∧ (0 ≤ x1 ∧ x1 < 4) ∧ Φ 0 (up (up (up h 26 3 (w32 ((h 26 3) - (w32 (5 + (h 27 (w32 ((w32 (x2 + 5)) - 1)))))))) 28 x1 ((w32 ((h 28 x1) + 1)).tmod 50)) 29 x1 (w32 ((h 29 x1) - 1)))) : AT G m_X4_takeOldest 0 [(0, rv 26), (1, iv x1), (2, iv x2)] [] h Φ := by
  have D := dt_X4_takeOldest
  refine a_aload_n (pc := 0) (dk D 0 rfl) rfl ?_
  refine a_dup (pc := 1) (dk D 1 rfl) rfl ?_
  refine a_geti (pc := 2) (dk D 2 rfl) cls_4 fl_RX4_33 cf_26_3 ?_
  refine a_iconst (pc := 5) (dk D 3 rfl) (ik rfl) ?_
  refine a_aload_n (pc := 6) (dk D 4 rfl) rfl ?_
  refine a_getr (r := 26) (pc := 7) (dk D 5 rfl) cls_4 fl_RX4_11 cf_26_0 ?_
  refine a_iload_n (pc := 10) (dk D 6 rfl) rfl ?_
  refine a_iconst (pc := 11) (dk D 7 rfl) (ik rfl) ?_
  refine a_iadd (pc := 12) (dk D 8 rfl) ?_
  refine a_iconst (pc := 13) (dk D 9 rfl) (ik rfl) ?_
  refine a_isub (pc := 14) (dk D 10 rfl) ?_
  refine a_iald (pc := 15) (dk D 11 rfl) ar_27 ⟨H.1, ?_⟩
  replace H := H.2
  refine a_iadd (pc := 16) (dk D 12 rfl) ?_
  refine a_isub (pc := 17) (dk D 13 rfl) ?_
  refine a_puti (pc := 18) (dk D 14 rfl) cls_4 fl_RX4_33 cf_26_3 rfl rfl ?_
  refine a_aload_n (pc := 21) (dk D 15 rfl) rfl ?_
  refine a_getr (r := 27) (pc := 22) (dk D 16 rfl) cls_4 fl_RX4_15 cf_26_1 ?_
  refine a_iload_n (pc := 25) (dk D 17 rfl) rfl ?_
  refine a_aload_n (pc := 26) (dk D 18 rfl) rfl ?_
  refine a_getr (r := 27) (pc := 27) (dk D 19 rfl) cls_4 fl_RX4_15 cf_26_1 ?_
  refine a_iload_n (pc := 30) (dk D 20 rfl) rfl ?_
  refine a_iald (pc := 31) (dk D 21 rfl) ar_28 ⟨H.1, ?_⟩
  replace H := H.2
  refine a_top (y := (h 28 x1)) (by simp [up, cpy]) ?_
  refine a_iconst (pc := 32) (dk D 22 rfl) (ik rfl) ?_
  refine a_iadd (pc := 33) (dk D 23 rfl) ?_
  refine a_bipush (pc := 34) (dk D 24 rfl) (ik rfl) (bpk rfl) ?_
  refine a_irem (pc := 36) (dk D 25 rfl) ⟨by decide, ?_⟩
  refine a_iast (pc := 37) (dk D 26 rfl) ar_28 ⟨H.1, ?_⟩
  replace H := H.2
  refine a_aload_n (pc := 38) (dk D 27 rfl) rfl ?_
  refine a_getr (r := 28) (pc := 39) (dk D 28 rfl) cls_4 fl_RX4_18 cf_26_2 ?_
  refine a_iload_n (pc := 42) (dk D 29 rfl) rfl ?_
  refine a_dup2 (pc := 43) (dk D 30 rfl) rfl rfl ?_
  refine a_iald (pc := 44) (dk D 31 rfl) ar_29 ⟨H.1, ?_⟩
  replace H := H.2
  refine a_top (y := (h 29 x1)) (by simp [up, cpy]) ?_
  refine a_iconst (pc := 45) (dk D 32 rfl) (ik rfl) ?_
  refine a_isub (pc := 46) (dk D 33 rfl) ?_
  refine a_iast (pc := 47) (dk D 34 rfl) ar_29 ⟨H.1, ?_⟩
  replace H := H.2
  exact a_vret (pc := 48) (dk D 35 rfl) rfl rfl H
set_option maxHeartbeats 40000000 in
theorem T_X4_lastClass_26_0 {G : GG} {Φ : Int → Hp → Prop} {h : Hp} (H : AT G m_X4_lastClass 2 [(0, rv 26), (1, iv 3)] [] h Φ) : AT G m_X4_lastClass 0 [(0, rv 26)] [] h Φ := by
  have D := dt_X4_lastClass
  refine a_iconst (pc := 0) (dk D 0 rfl) (ik rfl) ?_
  refine a_istore_n (pc := 1) (dk D 1 rfl) (by decide) rfl rfl ?_
  exact a_pick [0, 1] rfl H
set_option maxHeartbeats 40000000 in
theorem T_X4_lastClass_26_2 {G : GG} {Φ : Int → Hp → Prop} {h : Hp} {x1 : Int} (H : ((x1 < 0 → Φ x1 h) ∧ (0 ≤ x1 → (0 ≤ x1 ∧ x1 < 4) ∧ (((h 29 x1) ≠ 0 → Φ x1 h) ∧ ((h 29 x1) = 0 → AT G m_X4_lastClass 2 [(0, rv 26), (1, iv (w32 (x1 + (-1))))] [] h Φ))))) : AT G m_X4_lastClass 2 [(0, rv 26), (1, iv x1)] [] h Φ := by
  have D := dt_X4_lastClass
  refine a_iload_n (pc := 2) (dk D 2 rfl) rfl ?_
  refine a_if_lt (pc := 3) (dk D 3 rfl) (tgt := 21) rfl ⟨fun c => ?_, fun c => ?_⟩
  · replace H := H.1 c
    refine a_iload_n (pc := 21) (dk D 11 rfl) rfl ?_
    exact a_iret (pc := 22) (dk D 12 rfl) rfl rfl H
  · replace H := H.2 c
    refine a_aload_n (pc := 6) (dk D 4 rfl) rfl ?_
    refine a_getr (r := 28) (pc := 7) (dk D 5 rfl) cls_4 fl_RX4_18 cf_26_2 ?_
    refine a_iload_n (pc := 10) (dk D 6 rfl) rfl ?_
    refine a_iald (pc := 11) (dk D 7 rfl) ar_29 ⟨H.1, ?_⟩
    replace H := H.2
    refine a_if_ne (pc := 12) (dk D 8 rfl) (tgt := 21) rfl ⟨fun c => ?_, fun c => ?_⟩
    · replace H := H.1 c
      refine a_iload_n (pc := 21) (dk D 11 rfl) rfl ?_
      exact a_iret (pc := 22) (dk D 12 rfl) rfl rfl H
    · replace H := H.2 c
      refine a_iinc (pc := 15) (dk D 9 rfl) (by decide) rfl rfl rfl ?_
      refine a_goto (pc := 18) (dk D 10 rfl) (tgt := 2) rfl ?_
      exact a_pick [0, 1] rfl H
set_option maxHeartbeats 40000000 in
theorem T_X2_takeFrame_65_33_0 {G : GG} {Φ : Int → Hp → Prop} {h : Hp} {x2 : Int} (H : (0 ≤ (w32 ((w32 (x2 + 24)) - 2)) ∧ (w32 ((w32 (x2 + 24)) - 2)) < 744) ∧ (0 ≤ (w32 ((w32 (x2 + 24)) - 1)) ∧ (w32 ((w32 (x2 + 24)) - 1)) < 744) ∧ Call G m_X4_checkOf [rv 33, iv x2] h (fun r1 h2 => (((bor (bshl (h 33 (w32 ((w32 (x2 + 24)) - 2))) 8) (h 33 (w32 ((w32 (x2 + 24)) - 1)))) = r1 → (0 ≤ x2 ∧ x2 < 744) ∧ (0 ≤ (w32 (x2 + 3)) ∧ (w32 (x2 + 3)) < 744) ∧ Call G m_X2_begin [rv 65, iv (h2 33 x2), iv (h2 33 (w32 (x2 + 3)))] h2 (fun r3 h4 => (0 ≤ (w32 (x2 + 1)) ∧ (w32 (x2 + 1)) < 744) ∧ (0 ≤ (w32 (x2 + 2)) ∧ (w32 (x2 + 2)) < 744) ∧ Call G m_X2_acknowledge [rv 65, iv (h4 33 (w32 (x2 + 1))), iv (h4 33 (w32 (x2 + 2)))] h4 (fun _ h6 => Call G m_X2_pieceTogether [rv 65, rv 33, iv (w32 (x2 + 4)), iv r3] h6 (fun r7 h8 => Φ r7 h8)))) ∧ ((bor (bshl (h 33 (w32 ((w32 (x2 + 24)) - 2))) 8) (h 33 (w32 ((w32 (x2 + 24)) - 1)))) ≠ r1 → Φ (-2) (up h2 65 1 (w32 ((h2 65 1) + 1))))))) : AT G m_X2_takeFrame 0 [(0, rv 65), (1, rv 33), (2, iv x2)] [] h Φ := by
  have D := dt_X2_takeFrame
  refine a_aload_n (pc := 0) (dk D 0 rfl) rfl ?_
  refine a_iload_n (pc := 1) (dk D 1 rfl) rfl ?_
  refine a_bipush (pc := 2) (dk D 2 rfl) (ik rfl) (bpk rfl) ?_
  refine a_iadd (pc := 4) (dk D 3 rfl) ?_
  refine a_iconst (pc := 5) (dk D 4 rfl) (ik rfl) ?_
  refine a_isub (pc := 6) (dk D 5 rfl) ?_
  refine a_iald (pc := 7) (dk D 6 rfl) ar_33 ⟨H.1, ?_⟩
  replace H := H.2
  refine a_bipush (pc := 8) (dk D 7 rfl) (ik rfl) (bpk rfl) ?_
  refine a_ishl (pc := 10) (dk D 8 rfl) ?_
  refine a_aload_n (pc := 11) (dk D 9 rfl) rfl ?_
  refine a_iload_n (pc := 12) (dk D 10 rfl) rfl ?_
  refine a_bipush (pc := 13) (dk D 11 rfl) (ik rfl) (bpk rfl) ?_
  refine a_iadd (pc := 15) (dk D 12 rfl) ?_
  refine a_iconst (pc := 16) (dk D 13 rfl) (ik rfl) ?_
  refine a_isub (pc := 17) (dk D 14 rfl) ?_
  refine a_iald (pc := 18) (dk D 15 rfl) ar_33 ⟨H.1, ?_⟩
  replace H := H.2
  refine a_ior (pc := 19) (dk D 16 rfl) ?_
  refine a_istore_n (pc := 20) (dk D 17 rfl) (by decide) rfl rfl ?_
  refine a_iload_n (pc := 21) (dk D 18 rfl) rfl ?_
  refine a_aload_n (pc := 22) (dk D 19 rfl) rfl ?_
  refine a_iload_n (pc := 23) (dk D 20 rfl) rfl ?_
  refine a_callSi (as := [rv 33, iv x2]) (st := [iv (bor (bshl (h 33 (w32 ((w32 (x2 + 24)) - 2))) 8) (h 33 (w32 ((w32 (x2 + 24)) - 1))))]) (pc := 24) (dk D 21 rfl) cl_RX2_27 ⟨Nat.le_of_ble_eq_true rfl, Nat.le_of_ble_eq_true rfl⟩ ⟨Nat.le_of_ble_eq_true rfl, Nat.le_of_ble_eq_true rfl⟩ rfl rfl rfl (Nat.le_of_ble_eq_true rfl) (Call.mono H fun r1 h2 H => ?_)
  refine a_icmp_eq (pc := 27) (dk D 22 rfl) (tgt := 43) rfl ⟨fun c => ?_, fun c => ?_⟩
  · replace H := H.1 c
    refine a_aload_n (pc := 43) (dk D 31 rfl) rfl ?_
    refine a_aload_n (pc := 44) (dk D 32 rfl) rfl ?_
    refine a_iload_n (pc := 45) (dk D 33 rfl) rfl ?_
    refine a_iald (pc := 46) (dk D 34 rfl) ar_33 ⟨H.1, ?_⟩
    replace H := H.2
    refine a_aload_n (pc := 47) (dk D 35 rfl) rfl ?_
    refine a_iload_n (pc := 48) (dk D 36 rfl) rfl ?_
    refine a_iconst (pc := 49) (dk D 37 rfl) (ik rfl) ?_
    refine a_iadd (pc := 50) (dk D 38 rfl) ?_
    refine a_iald (pc := 51) (dk D 39 rfl) ar_33 ⟨H.1, ?_⟩
    replace H := H.2
    refine a_callVi (as := [iv (h2 33 x2), iv (h2 33 (w32 (x2 + 3)))]) (st := []) (pc := 52) (dk D 40 rfl) cl_RX2_37 ⟨Nat.le_of_ble_eq_true rfl, Nat.le_of_ble_eq_true rfl⟩ ⟨Nat.le_of_ble_eq_true rfl, Nat.le_of_ble_eq_true rfl⟩ cls_2 rfl cc_65 rfl rfl rfl (Nat.le_of_ble_eq_true rfl) (Call.mono H fun r3 h4 H => ?_)
    refine a_istore (pc := 55) (dk D 41 rfl) (by decide) rfl rfl ?_
    refine a_aload_n (pc := 57) (dk D 42 rfl) rfl ?_
    refine a_aload_n (pc := 58) (dk D 43 rfl) rfl ?_
    refine a_iload_n (pc := 59) (dk D 44 rfl) rfl ?_
    refine a_iconst (pc := 60) (dk D 45 rfl) (ik rfl) ?_
    refine a_iadd (pc := 61) (dk D 46 rfl) ?_
    refine a_iald (pc := 62) (dk D 47 rfl) ar_33 ⟨H.1, ?_⟩
    replace H := H.2
    refine a_aload_n (pc := 63) (dk D 48 rfl) rfl ?_
    refine a_iload_n (pc := 64) (dk D 49 rfl) rfl ?_
    refine a_iconst (pc := 65) (dk D 50 rfl) (ik rfl) ?_
    refine a_iadd (pc := 66) (dk D 51 rfl) ?_
    refine a_iald (pc := 67) (dk D 52 rfl) ar_33 ⟨H.1, ?_⟩
    replace H := H.2
    refine a_callVv (as := [iv (h4 33 (w32 (x2 + 1))), iv (h4 33 (w32 (x2 + 2)))]) (st := []) (pc := 68) (dk D 53 rfl) cl_RX2_41 ⟨Nat.le_of_ble_eq_true rfl, Nat.le_of_ble_eq_true rfl⟩ ⟨Nat.le_of_ble_eq_true rfl, Nat.le_of_ble_eq_true rfl⟩ cls_2 rfl cc_65 rfl rfl rfl (Nat.le_of_ble_eq_true rfl) (Call.mono H fun _ h6 H => ?_)
    refine a_aload_n (pc := 71) (dk D 54 rfl) rfl ?_
    refine a_aload_n (pc := 72) (dk D 55 rfl) rfl ?_
    refine a_iload_n (pc := 73) (dk D 56 rfl) rfl ?_
    refine a_iconst (pc := 74) (dk D 57 rfl) (ik rfl) ?_
    refine a_iadd (pc := 75) (dk D 58 rfl) ?_
    refine a_iload (pc := 76) (dk D 59 rfl) rfl ?_
    refine a_callVi (as := [rv 33, iv (w32 (x2 + 4)), iv r3]) (st := []) (pc := 78) (dk D 60 rfl) cl_RX2_45 ⟨Nat.le_of_ble_eq_true rfl, Nat.le_of_ble_eq_true rfl⟩ ⟨Nat.le_of_ble_eq_true rfl, Nat.le_of_ble_eq_true rfl⟩ cls_2 rfl cc_65 rfl rfl rfl (Nat.le_of_ble_eq_true rfl) (Call.mono H fun r7 h8 H => ?_)
    exact a_iret (pc := 81) (dk D 61 rfl) rfl rfl H
  · replace H := H.2 c
    refine a_aload_n (pc := 30) (dk D 23 rfl) rfl ?_
    refine a_dup (pc := 31) (dk D 24 rfl) rfl ?_
    refine a_geti (pc := 32) (dk D 25 rfl) cls_2 fl_RX2_33 cf_65_1 ?_
    refine a_iconst (pc := 35) (dk D 26 rfl) (ik rfl) ?_
    refine a_iadd (pc := 36) (dk D 27 rfl) ?_
    refine a_puti (pc := 37) (dk D 28 rfl) cls_2 fl_RX2_33 cf_65_1 rfl rfl ?_
    refine a_bipush (pc := 40) (dk D 29 rfl) (ik rfl) (bpk rfl) ?_
    exact a_iret (pc := 42) (dk D 30 rfl) rfl rfl H
set_option maxHeartbeats 40000000 in
theorem T_X2_writePacket_65_11_0 {G : GG} {Φ : Int → Hp → Prop} {h : Hp} {x1 : Int} (H : (0 ≤ (w32 ((w32 ((w32 (x1 * 9)) + 5)) - 1)) ∧ (w32 ((w32 ((w32 (x1 * 9)) + 5)) - 1)) < 540) ∧ ((0 : Int) ≤ (w32 (x1 * 9)) ∧ (0 : Int) ≤ 0 ∧ (0 : Int) ≤ (w32 (5 + (h 67 (w32 ((w32 ((w32 (x1 * 9)) + 5)) - 1))))) ∧ (((w32 (x1 * 9)) : Int) + (w32 (5 + (h 67 (w32 ((w32 ((w32 (x1 * 9)) + 5)) - 1)))))) ≤ 540 ∧ ((0 : Int) + (w32 (5 + (h 67 (w32 ((w32 ((w32 (x1 * 9)) + 5)) - 1)))))) ≤ 288) ∧ Φ (w32 (5 + (h 67 (w32 ((w32 ((w32 (x1 * 9)) + 5)) - 1))))) (cpy h 67 (w32 (x1 * 9)) 11 0 (w32 (5 + (h 67 (w32 ((w32 ((w32 (x1 * 9)) + 5)) - 1))))))) : AT G m_X2_writePacket 0 [(0, rv 65), (1, iv x1), (2, rv 11)] [] h Φ := by
  have D := dt_X2_writePacket
  refine a_iload_n (pc := 0) (dk D 0 rfl) rfl ?_
  refine a_bipush (pc := 1) (dk D 1 rfl) (ik rfl) (bpk rfl) ?_
  refine a_imul (pc := 3) (dk D 2 rfl) ?_
  refine a_istore_n (pc := 4) (dk D 3 rfl) (by decide) rfl rfl ?_
  refine a_iconst (pc := 5) (dk D 4 rfl) (ik rfl) ?_
  refine a_aload_n (pc := 6) (dk D 5 rfl) rfl ?_
  refine a_getr (r := 66) (pc := 7) (dk D 6 rfl) cls_2 fl_RX2_15 cf_65_6 ?_
  refine a_iload_n (pc := 10) (dk D 7 rfl) rfl ?_
  refine a_iconst (pc := 11) (dk D 8 rfl) (ik rfl) ?_
  refine a_iadd (pc := 12) (dk D 9 rfl) ?_
  refine a_iconst (pc := 13) (dk D 10 rfl) (ik rfl) ?_
  refine a_isub (pc := 14) (dk D 11 rfl) ?_
  refine a_iald (pc := 15) (dk D 12 rfl) ar_67 ⟨H.1, ?_⟩
  replace H := H.2
  refine a_iadd (pc := 16) (dk D 13 rfl) ?_
  refine a_istore (pc := 17) (dk D 14 rfl) (by decide) rfl rfl ?_
  refine a_aload_n (pc := 19) (dk D 15 rfl) rfl ?_
  refine a_getr (r := 66) (pc := 20) (dk D 16 rfl) cls_2 fl_RX2_15 cf_65_6 ?_
  refine a_iload_n (pc := 23) (dk D 17 rfl) rfl ?_
  refine a_aload_n (pc := 24) (dk D 18 rfl) rfl ?_
  refine a_iconst (pc := 25) (dk D 19 rfl) (ik rfl) ?_
  refine a_iload (pc := 26) (dk D 20 rfl) rfl ?_
  refine a_copy (pc := 28) (dk D 21 rfl) acw_RX2_72 ar_67 ar_11 ⟨Nat.le_of_ble_eq_true rfl, Nat.le_of_ble_eq_true rfl⟩ ⟨H.1, ?_⟩
  replace H := H.2
  refine a_iload (pc := 31) (dk D 22 rfl) rfl ?_
  exact a_iret (pc := 33) (dk D 23 rfl) rfl rfl H
set_option maxHeartbeats 40000000 in
theorem T_X2_isFull_65_0 {G : GG} {Φ : Int → Hp → Prop} {h : Hp} (H : (((h 65 9) ≠ 8 → Φ 0 h) ∧ ((h 65 9) = 8 → Φ 1 h))) : AT G m_X2_isFull 0 [(0, rv 65)] [] h Φ := by
  have D := dt_X2_isFull
  refine a_aload_n (pc := 0) (dk D 0 rfl) rfl ?_
  refine a_geti (pc := 1) (dk D 1 rfl) cls_2 fl_RX2_78 cf_65_9 ?_
  refine a_bipush (pc := 4) (dk D 2 rfl) (ik rfl) (bpk rfl) ?_
  refine a_icmp_ne (pc := 6) (dk D 3 rfl) (tgt := 13) rfl ⟨fun c => ?_, fun c => ?_⟩
  · replace H := H.1 c
    refine a_iconst (pc := 13) (dk D 6 rfl) (ik rfl) ?_
    exact a_zret (pc := 14) (dk D 7 rfl) rfl rfl ⟨by decide, H⟩
  · replace H := H.2 c
    refine a_iconst (pc := 9) (dk D 4 rfl) (ik rfl) ?_
    refine a_goto (pc := 10) (dk D 5 rfl) (tgt := 14) rfl ?_
    exact a_zret (pc := 14) (dk D 7 rfl) rfl rfl ⟨by decide, H⟩
set_option maxHeartbeats 40000000 in
theorem T_X2_keep_65_4_0 {G : GG} {Φ : Int → Hp → Prop} {h : Hp} (H : Call G m_X3_copy [rv 68, iv (h 65 9), rv 4, iv 0] h (fun _ h2 => Φ (h 65 11) (up (up h2 65 9 (w32 ((h2 65 9) + 1))) 65 11 (band (w32 ((h 65 11) + 1)) 255)))) : AT G m_X2_keep 0 [(0, rv 65), (1, rv 4)] [] h Φ := by
  have D := dt_X2_keep
  refine a_aload_n (pc := 0) (dk D 0 rfl) rfl ?_
  refine a_geti (pc := 1) (dk D 1 rfl) cls_2 fl_RX2_81 cf_65_11 ?_
  refine a_istore_n (pc := 4) (dk D 2 rfl) (by decide) rfl rfl ?_
  refine a_aload_n (pc := 5) (dk D 3 rfl) rfl ?_
  refine a_getr (r := 67) (pc := 6) (dk D 4 rfl) cls_2 fl_RX2_23 cf_65_8 ?_
  refine a_aload_n (pc := 9) (dk D 5 rfl) rfl ?_
  refine a_geti (pc := 10) (dk D 6 rfl) cls_2 fl_RX2_78 cf_65_9 ?_
  refine a_aload_n (pc := 13) (dk D 7 rfl) rfl ?_
  refine a_iconst (pc := 14) (dk D 8 rfl) (ik rfl) ?_
  refine a_callVv (as := [iv (h 65 9), rv 4, iv 0]) (st := []) (pc := 15) (dk D 9 rfl) cl_RX2_84 ⟨Nat.le_of_ble_eq_true rfl, Nat.le_of_ble_eq_true rfl⟩ ⟨Nat.le_of_ble_eq_true rfl, Nat.le_of_ble_eq_true rfl⟩ cls_3 rfl cc_68 rfl rfl rfl (Nat.le_of_ble_eq_true rfl) (Call.mono H fun _ h2 H => ?_)
  refine a_aload_n (pc := 18) (dk D 10 rfl) rfl ?_
  refine a_dup (pc := 19) (dk D 11 rfl) rfl ?_
  refine a_geti (pc := 20) (dk D 12 rfl) cls_2 fl_RX2_78 cf_65_9 ?_
  refine a_iconst (pc := 23) (dk D 13 rfl) (ik rfl) ?_
  refine a_iadd (pc := 24) (dk D 14 rfl) ?_
  refine a_puti (pc := 25) (dk D 15 rfl) cls_2 fl_RX2_78 cf_65_9 rfl rfl ?_
  refine a_aload_n (pc := 28) (dk D 16 rfl) rfl ?_
  refine a_iload_n (pc := 29) (dk D 17 rfl) rfl ?_
  refine a_iconst (pc := 30) (dk D 18 rfl) (ik rfl) ?_
  refine a_iadd (pc := 31) (dk D 19 rfl) ?_
  refine a_sipush (pc := 32) (dk D 20 rfl) (ik rfl) (spk rfl) ?_
  refine a_iand (pc := 35) (dk D 21 rfl) ?_
  refine a_puti (pc := 36) (dk D 22 rfl) cls_2 fl_RX2_81 cf_65_11 rfl rfl ?_
  refine a_iload_n (pc := 39) (dk D 23 rfl) rfl ?_
  exact a_iret (pc := 40) (dk D 24 rfl) rfl rfl H
set_option maxHeartbeats 40000000 in
theorem T_X2_nextToSend_65_0 {G : GG} {Φ : Int → Hp → Prop} {h : Hp} (H : Call G m_X2_toSend [rv 65] h (fun r1 h2 => Φ (band (w32 ((h 65 11) - r1)) 255) h2)) : AT G m_X2_nextToSend 0 [(0, rv 65)] [] h Φ := by
  have D := dt_X2_nextToSend
  refine a_aload_n (pc := 0) (dk D 0 rfl) rfl ?_
  refine a_geti (pc := 1) (dk D 1 rfl) cls_2 fl_RX2_81 cf_65_11 ?_
  refine a_aload_n (pc := 4) (dk D 2 rfl) rfl ?_
  refine a_callVi (as := []) (st := [iv (h 65 11)]) (pc := 5) (dk D 3 rfl) cl_RX2_91 ⟨Nat.le_of_ble_eq_true rfl, Nat.le_of_ble_eq_true rfl⟩ ⟨Nat.le_of_ble_eq_true rfl, Nat.le_of_ble_eq_true rfl⟩ cls_2 rfl cc_65 rfl rfl rfl (Nat.le_of_ble_eq_true rfl) (Call.mono H fun r1 h2 H => ?_)
  refine a_isub (pc := 8) (dk D 4 rfl) ?_
  refine a_sipush (pc := 9) (dk D 5 rfl) (ik rfl) (spk rfl) ?_
  refine a_iand (pc := 12) (dk D 6 rfl) ?_
  exact a_iret (pc := 13) (dk D 7 rfl) rfl rfl H
set_option maxHeartbeats 40000000 in
theorem T_X2_toSend_65_0 {G : GG} {Φ : Int → Hp → Prop} {h : Hp} (H : Φ (w32 ((h 65 9) - (h 65 10))) h) : AT G m_X2_toSend 0 [(0, rv 65)] [] h Φ := by
  have D := dt_X2_toSend
  refine a_aload_n (pc := 0) (dk D 0 rfl) rfl ?_
  refine a_geti (pc := 1) (dk D 1 rfl) cls_2 fl_RX2_78 cf_65_9 ?_
  refine a_aload_n (pc := 4) (dk D 2 rfl) rfl ?_
  refine a_geti (pc := 5) (dk D 3 rfl) cls_2 fl_RX2_88 cf_65_10 ?_
  refine a_isub (pc := 8) (dk D 4 rfl) ?_
  exact a_iret (pc := 9) (dk D 5 rfl) rfl rfl H
set_option maxHeartbeats 40000000 in
theorem T_X2_acknowledge_65_0 {G : GG} {Φ : Int → Hp → Prop} {h : Hp} {x1 : Int} {x2 : Int} (H : (((h 65 9) < (band (w32 (x1 - (w32 ((h 65 11) - (h 65 9))))) 255) → ((x2 ≠ 1 → Φ 0 h) ∧ (x2 = 1 → Φ 0 (up h 65 10 0)))) ∧ ((band (w32 (x1 - (w32 ((h 65 11) - (h 65 9))))) 255) ≤ (h 65 9) → AT G m_X2_acknowledge 27 [(0, rv 65), (2, iv x2), (3, iv (band (w32 (x1 - (w32 ((h 65 11) - (h 65 9))))) 255)), (4, iv (band (w32 (x1 - (w32 ((h 65 11) - (h 65 9))))) 255))] [] h Φ))) : AT G m_X2_acknowledge 0 [(0, rv 65), (1, iv x1), (2, iv x2)] [] h Φ := by
  have D := dt_X2_acknowledge
  refine a_iload_n (pc := 0) (dk D 0 rfl) rfl ?_
  refine a_aload_n (pc := 1) (dk D 1 rfl) rfl ?_
  refine a_geti (pc := 2) (dk D 2 rfl) cls_2 fl_RX2_81 cf_65_11 ?_
  refine a_aload_n (pc := 5) (dk D 3 rfl) rfl ?_
  refine a_geti (pc := 6) (dk D 4 rfl) cls_2 fl_RX2_78 cf_65_9 ?_
  refine a_isub (pc := 9) (dk D 5 rfl) ?_
  refine a_isub (pc := 10) (dk D 6 rfl) ?_
  refine a_sipush (pc := 11) (dk D 7 rfl) (ik rfl) (spk rfl) ?_
  refine a_iand (pc := 14) (dk D 8 rfl) ?_
  refine a_istore_n (pc := 15) (dk D 9 rfl) (by decide) rfl rfl ?_
  refine a_iload_n (pc := 16) (dk D 10 rfl) rfl ?_
  refine a_aload_n (pc := 17) (dk D 11 rfl) rfl ?_
  refine a_geti (pc := 18) (dk D 12 rfl) cls_2 fl_RX2_78 cf_65_9 ?_
  refine a_icmp_gt (pc := 21) (dk D 13 rfl) (tgt := 83) rfl ⟨fun c => ?_, fun c => ?_⟩
  · replace H := H.1 c
    refine a_iload_n (pc := 83) (dk D 45 rfl) rfl ?_
    refine a_iconst (pc := 84) (dk D 46 rfl) (ik rfl) ?_
    refine a_icmp_ne (pc := 85) (dk D 47 rfl) (tgt := 93) rfl ⟨fun c => ?_, fun c => ?_⟩
    · replace H := H.1 c
      exact a_vret (pc := 93) (dk D 51 rfl) rfl rfl H
    · replace H := H.2 c
      refine a_aload_n (pc := 88) (dk D 48 rfl) rfl ?_
      refine a_iconst (pc := 89) (dk D 49 rfl) (ik rfl) ?_
      refine a_puti (pc := 90) (dk D 50 rfl) cls_2 fl_RX2_88 cf_65_10 rfl rfl ?_
      exact a_vret (pc := 93) (dk D 51 rfl) rfl rfl H
  · replace H := H.2 c
    refine a_iload_n (pc := 24) (dk D 14 rfl) rfl ?_
    refine a_istore (pc := 25) (dk D 15 rfl) (by decide) rfl rfl ?_
    exact a_pick [0, 2, 3, 4] rfl H
set_option maxHeartbeats 40000000 in
theorem T_X2_acknowledge_65_27 {G : GG} {Φ : Int → Hp → Prop} {h : Hp} {x2 : Int} {x3 : Int} {x4 : Int} (H : (((h 65 9) ≤ x4 → Call G m_J9_max_7cf53 [iv 0, iv (w32 ((h 65 10) - x3))] (up h 65 9 (w32 ((h 65 9) - x3))) (fun r1 h2 => ((x2 ≠ 1 → Φ 0 (up h2 65 10 r1)) ∧ (x2 = 1 → Φ 0 (up (up h2 65 10 r1) 65 10 0))))) ∧ (x4 < (h 65 9) → Call G m_X3_copy [rv 68, iv (w32 (x4 - x3)), rv 68, iv x4] h (fun _ h4 => AT G m_X2_acknowledge 27 [(0, rv 65), (2, iv x2), (3, iv x3), (4, iv (w32 (x4 + 1)))] [] h4 Φ)))) : AT G m_X2_acknowledge 27 [(0, rv 65), (2, iv x2), (3, iv x3), (4, iv x4)] [] h Φ := by
  have D := dt_X2_acknowledge
  refine a_iload (pc := 27) (dk D 16 rfl) rfl ?_
  refine a_aload_n (pc := 29) (dk D 17 rfl) rfl ?_
  refine a_geti (pc := 30) (dk D 18 rfl) cls_2 fl_RX2_78 cf_65_9 ?_
  refine a_icmp_ge (pc := 33) (dk D 19 rfl) (tgt := 59) rfl ⟨fun c => ?_, fun c => ?_⟩
  · replace H := H.1 c
    refine a_aload_n (pc := 59) (dk D 31 rfl) rfl ?_
    refine a_dup (pc := 60) (dk D 32 rfl) rfl ?_
    refine a_geti (pc := 61) (dk D 33 rfl) cls_2 fl_RX2_78 cf_65_9 ?_
    refine a_iload_n (pc := 64) (dk D 34 rfl) rfl ?_
    refine a_isub (pc := 65) (dk D 35 rfl) ?_
    refine a_puti (pc := 66) (dk D 36 rfl) cls_2 fl_RX2_78 cf_65_9 rfl rfl ?_
    refine a_aload_n (pc := 69) (dk D 37 rfl) rfl ?_
    refine a_iconst (pc := 70) (dk D 38 rfl) (ik rfl) ?_
    refine a_aload_n (pc := 71) (dk D 39 rfl) rfl ?_
    refine a_geti (pc := 72) (dk D 40 rfl) cls_2 fl_RX2_88 cf_65_10 ?_
    refine a_top (y := (h 65 10)) (by simp [up, cpy]) ?_
    refine a_iload_n (pc := 75) (dk D 41 rfl) rfl ?_
    refine a_isub (pc := 76) (dk D 42 rfl) ?_
    refine a_callSi (as := [iv 0, iv (w32 ((h 65 10) - x3))]) (st := [rv 65]) (pc := 77) (dk D 43 rfl) cl_RX2_95 ⟨Nat.le_of_ble_eq_true rfl, Nat.le_of_ble_eq_true rfl⟩ ⟨Nat.le_of_ble_eq_true rfl, Nat.le_of_ble_eq_true rfl⟩ rfl rfl rfl (Nat.le_of_ble_eq_true rfl) (Call.mono H fun r1 h2 H => ?_)
    refine a_puti (pc := 80) (dk D 44 rfl) cls_2 fl_RX2_88 cf_65_10 rfl rfl ?_
    refine a_iload_n (pc := 83) (dk D 45 rfl) rfl ?_
    refine a_iconst (pc := 84) (dk D 46 rfl) (ik rfl) ?_
    refine a_icmp_ne (pc := 85) (dk D 47 rfl) (tgt := 93) rfl ⟨fun c => ?_, fun c => ?_⟩
    · replace H := H.1 c
      exact a_vret (pc := 93) (dk D 51 rfl) rfl rfl H
    · replace H := H.2 c
      refine a_aload_n (pc := 88) (dk D 48 rfl) rfl ?_
      refine a_iconst (pc := 89) (dk D 49 rfl) (ik rfl) ?_
      refine a_puti (pc := 90) (dk D 50 rfl) cls_2 fl_RX2_88 cf_65_10 rfl rfl ?_
      exact a_vret (pc := 93) (dk D 51 rfl) rfl rfl H
  · replace H := H.2 c
    refine a_aload_n (pc := 36) (dk D 20 rfl) rfl ?_
    refine a_getr (r := 67) (pc := 37) (dk D 21 rfl) cls_2 fl_RX2_23 cf_65_8 ?_
    refine a_iload (pc := 40) (dk D 22 rfl) rfl ?_
    refine a_iload_n (pc := 42) (dk D 23 rfl) rfl ?_
    refine a_isub (pc := 43) (dk D 24 rfl) ?_
    refine a_aload_n (pc := 44) (dk D 25 rfl) rfl ?_
    refine a_getr (r := 67) (pc := 45) (dk D 26 rfl) cls_2 fl_RX2_23 cf_65_8 ?_
    refine a_iload (pc := 48) (dk D 27 rfl) rfl ?_
    refine a_callVv (as := [iv (w32 (x4 - x3)), rv 68, iv x4]) (st := []) (pc := 50) (dk D 28 rfl) cl_RX2_84 ⟨Nat.le_of_ble_eq_true rfl, Nat.le_of_ble_eq_true rfl⟩ ⟨Nat.le_of_ble_eq_true rfl, Nat.le_of_ble_eq_true rfl⟩ cls_3 rfl cc_68 rfl rfl rfl (Nat.le_of_ble_eq_true rfl) (Call.mono H fun _ h4 H => ?_)
    refine a_iinc (pc := 53) (dk D 29 rfl) (by decide) rfl rfl rfl ?_
    refine a_goto (pc := 56) (dk D 30 rfl) (tgt := 27) rfl ?_
    exact a_pick [0, 1, 2, 3] rfl H
set_option maxHeartbeats 40000000 in
theorem T_X2_pieceTogether_65_33_0 {G : GG} {Φ : Int → Hp → Prop} {h : Hp} {x2 : Int} {x3 : Int} (H : AT G m_X2_pieceTogether 6 [(0, rv 65), (1, rv 33), (2, iv x2), (4, iv 0), (5, iv x3)] [] h Φ) : AT G m_X2_pieceTogether 0 [(0, rv 65), (1, rv 33), (2, iv x2), (3, iv x3)] [] h Φ := by
  have D := dt_X2_pieceTogether
  refine a_iconst (pc := 0) (dk D 0 rfl) (ik rfl) ?_
  refine a_istore (pc := 1) (dk D 1 rfl) (by decide) rfl rfl ?_
  refine a_iload_n (pc := 3) (dk D 2 rfl) rfl ?_
  refine a_istore (pc := 4) (dk D 3 rfl) (by decide) rfl rfl ?_
  exact a_pick [0, 1, 2, 4, 5] rfl H
set_option maxHeartbeats 40000000 in
theorem T_X2_pieceTogether_65_33_6 {G : GG} {Φ : Int → Hp → Prop} {h : Hp} {x2 : Int} {x4 : Int} {x5 : Int} (H : ((18 ≤ x5 → Φ x4 h) ∧ (x5 < 18 → (0 ≤ (w32 (x2 + x5)) ∧ (w32 (x2 + x5)) < 744) ∧ (((h 65 5) ≠ 0 → (((h 65 5) ≠ 4 → (0 ≤ (h 65 5) ∧ (h 65 5) < 9) ∧ (((w32 ((h 65 5) + 1)) < 5 → AT G m_X2_pieceTogether 6 [(0, rv 65), (1, rv 33), (2, iv x2), (4, iv x4), (5, iv (w32 (x5 + 1)))] [] (up (up h 66 (h 65 5) (h 33 (w32 (x2 + x5)))) 65 5 (w32 ((h 65 5) + 1))) Φ) ∧ (5 ≤ (w32 ((h 65 5) + 1)) → (((w32 ((h 65 5) + 1)) ≠ (w32 (5 + ((up h 66 (h 65 5) (h 33 (w32 (x2 + x5)))) 66 4))) → AT G m_X2_pieceTogether 6 [(0, rv 65), (1, rv 33), (2, iv x2), (4, iv x4), (5, iv (w32 (x5 + 1)))] [] (up (up h 66 (h 65 5) (h 33 (w32 (x2 + x5)))) 65 5 (w32 ((h 65 5) + 1))) Φ) ∧ ((w32 ((h 65 5) + 1)) = (w32 (5 + ((up h 66 (h 65 5) (h 33 (w32 (x2 + x5)))) 66 4))) → Call G m_X2_putInArchive [rv 65] (up (up h 66 (h 65 5) (h 33 (w32 (x2 + x5)))) 65 5 (w32 ((h 65 5) + 1))) (fun _ h2 => AT G m_X2_pieceTogether 6 [(0, rv 65), (1, rv 33), (2, iv x2), (4, iv (w32 (x4 + 1))), (5, iv (w32 (x5 + 1)))] [] h2 Φ)))))) ∧ ((h 65 5) = 4 → Call G m_X11_within [iv (h 33 (w32 (x2 + x5))), iv 1, iv 4] h (fun r3 h4 => ((r3 ≠ 0 → (0 ≤ (h4 65 5) ∧ (h4 65 5) < 9) ∧ (((w32 ((h4 65 5) + 1)) < 5 → AT G m_X2_pieceTogether 6 [(0, rv 65), (1, rv 33), (2, iv x2), (4, iv x4), (5, iv (w32 (x5 + 1)))] [] (up (up h4 66 (h4 65 5) (h 33 (w32 (x2 + x5)))) 65 5 (w32 ((h4 65 5) + 1))) Φ) ∧ (5 ≤ (w32 ((h4 65 5) + 1)) → (((w32 ((h4 65 5) + 1)) ≠ (w32 (5 + ((up h4 66 (h4 65 5) (h 33 (w32 (x2 + x5)))) 66 4))) → AT G m_X2_pieceTogether 6 [(0, rv 65), (1, rv 33), (2, iv x2), (4, iv x4), (5, iv (w32 (x5 + 1)))] [] (up (up h4 66 (h4 65 5) (h 33 (w32 (x2 + x5)))) 65 5 (w32 ((h4 65 5) + 1))) Φ) ∧ ((w32 ((h4 65 5) + 1)) = (w32 (5 + ((up h4 66 (h4 65 5) (h 33 (w32 (x2 + x5)))) 66 4))) → Call G m_X2_putInArchive [rv 65] (up (up h4 66 (h4 65 5) (h 33 (w32 (x2 + x5)))) 65 5 (w32 ((h4 65 5) + 1))) (fun _ h6 => AT G m_X2_pieceTogether 6 [(0, rv 65), (1, rv 33), (2, iv x2), (4, iv (w32 (x4 + 1))), (5, iv (w32 (x5 + 1)))] [] h6 Φ)))))) ∧ (r3 = 0 → Φ x4 (up h4 65 5 0))))))) ∧ ((h 65 5) = 0 → Call G m_X11_within [iv (h 33 (w32 (x2 + x5))), iv 10, iv 25] h (fun r7 h8 => ((r7 = 0 → Φ x4 (up h8 65 5 0)) ∧ (r7 ≠ 0 → (((h8 65 5) ≠ 4 → (0 ≤ (h8 65 5) ∧ (h8 65 5) < 9) ∧ (((w32 ((h8 65 5) + 1)) < 5 → AT G m_X2_pieceTogether 6 [(0, rv 65), (1, rv 33), (2, iv x2), (4, iv x4), (5, iv (w32 (x5 + 1)))] [] (up (up h8 66 (h8 65 5) (h 33 (w32 (x2 + x5)))) 65 5 (w32 ((h8 65 5) + 1))) Φ) ∧ (5 ≤ (w32 ((h8 65 5) + 1)) → (((w32 ((h8 65 5) + 1)) ≠ (w32 (5 + ((up h8 66 (h8 65 5) (h 33 (w32 (x2 + x5)))) 66 4))) → AT G m_X2_pieceTogether 6 [(0, rv 65), (1, rv 33), (2, iv x2), (4, iv x4), (5, iv (w32 (x5 + 1)))] [] (up (up h8 66 (h8 65 5) (h 33 (w32 (x2 + x5)))) 65 5 (w32 ((h8 65 5) + 1))) Φ) ∧ ((w32 ((h8 65 5) + 1)) = (w32 (5 + ((up h8 66 (h8 65 5) (h 33 (w32 (x2 + x5)))) 66 4))) → Call G m_X2_putInArchive [rv 65] (up (up h8 66 (h8 65 5) (h 33 (w32 (x2 + x5)))) 65 5 (w32 ((h8 65 5) + 1))) (fun _ h10 => AT G m_X2_pieceTogether 6 [(0, rv 65), (1, rv 33), (2, iv x2), (4, iv (w32 (x4 + 1))), (5, iv (w32 (x5 + 1)))] [] h10 Φ)))))) ∧ ((h8 65 5) = 4 → Call G m_X11_within [iv (h 33 (w32 (x2 + x5))), iv 1, iv 4] h8 (fun r11 h12 => ((r11 ≠ 0 → (0 ≤ (h12 65 5) ∧ (h12 65 5) < 9) ∧ (((w32 ((h12 65 5) + 1)) < 5 → AT G m_X2_pieceTogether 6 [(0, rv 65), (1, rv 33), (2, iv x2), (4, iv x4), (5, iv (w32 (x5 + 1)))] [] (up (up h12 66 (h12 65 5) (h 33 (w32 (x2 + x5)))) 65 5 (w32 ((h12 65 5) + 1))) Φ) ∧ (5 ≤ (w32 ((h12 65 5) + 1)) → (((w32 ((h12 65 5) + 1)) ≠ (w32 (5 + ((up h12 66 (h12 65 5) (h 33 (w32 (x2 + x5)))) 66 4))) → AT G m_X2_pieceTogether 6 [(0, rv 65), (1, rv 33), (2, iv x2), (4, iv x4), (5, iv (w32 (x5 + 1)))] [] (up (up h12 66 (h12 65 5) (h 33 (w32 (x2 + x5)))) 65 5 (w32 ((h12 65 5) + 1))) Φ) ∧ ((w32 ((h12 65 5) + 1)) = (w32 (5 + ((up h12 66 (h12 65 5) (h 33 (w32 (x2 + x5)))) 66 4))) → Call G m_X2_putInArchive [rv 65] (up (up h12 66 (h12 65 5) (h 33 (w32 (x2 + x5)))) 65 5 (w32 ((h12 65 5) + 1))) (fun _ h14 => AT G m_X2_pieceTogether 6 [(0, rv 65), (1, rv 33), (2, iv x2), (4, iv (w32 (x4 + 1))), (5, iv (w32 (x5 + 1)))] [] h14 Φ)))))) ∧ (r11 = 0 → Φ x4 (up h12 65 5 0)))))))))))))) : AT G m_X2_pieceTogether 6 [(0, rv 65), (1, rv 33), (2, iv x2), (4, iv x4), (5, iv x5)] [] h Φ := by
  have D := dt_X2_pieceTogether
  refine a_iload (pc := 6) (dk D 4 rfl) rfl ?_
  refine a_bipush (pc := 8) (dk D 5 rfl) (ik rfl) (bpk rfl) ?_
  refine a_icmp_ge (pc := 10) (dk D 6 rfl) (tgt := 135) rfl ⟨fun c => ?_, fun c => ?_⟩
  · replace H := H.1 c
    refine a_iload (pc := 135) (dk D 71 rfl) rfl ?_
    exact a_iret (pc := 137) (dk D 72 rfl) rfl rfl H
  · replace H := H.2 c
    refine a_aload_n (pc := 13) (dk D 7 rfl) rfl ?_
    refine a_iload_n (pc := 14) (dk D 8 rfl) rfl ?_
    refine a_iload (pc := 15) (dk D 9 rfl) rfl ?_
    refine a_iadd (pc := 17) (dk D 10 rfl) ?_
    refine a_iald (pc := 18) (dk D 11 rfl) ar_33 ⟨H.1, ?_⟩
    replace H := H.2
    refine a_istore (pc := 19) (dk D 12 rfl) (by decide) rfl rfl ?_
    refine a_aload_n (pc := 21) (dk D 13 rfl) rfl ?_
    refine a_geti (pc := 22) (dk D 14 rfl) cls_2 fl_RX2_59 cf_65_5 ?_
    refine a_if_ne (pc := 25) (dk D 15 rfl) (tgt := 40) rfl ⟨fun c => ?_, fun c => ?_⟩
    · replace H := H.1 c
      refine a_aload_n (pc := 40) (dk D 21 rfl) rfl ?_
      refine a_geti (pc := 41) (dk D 22 rfl) cls_2 fl_RX2_59 cf_65_5 ?_
      refine a_iconst (pc := 44) (dk D 23 rfl) (ik rfl) ?_
      refine a_icmp_ne (pc := 45) (dk D 24 rfl) (tgt := 62) rfl ⟨fun c => ?_, fun c => ?_⟩
      · replace H := H.1 c
        refine a_iconst (pc := 62) (dk D 32 rfl) (ik rfl) ?_
        refine a_istore (pc := 63) (dk D 33 rfl) (by decide) rfl rfl ?_
        refine a_iload (pc := 65) (dk D 34 rfl) rfl ?_
        refine a_if_eq (pc := 67) (dk D 35 rfl) (tgt := 78) rfl ⟨fun _ => ?_, fun c => absurd c (by decide)⟩
        refine a_aload_n (pc := 78) (dk D 41 rfl) rfl ?_
        refine a_getr (r := 65) (pc := 79) (dk D 42 rfl) cls_2 fl_RX2_9 cf_65_4 ?_
        refine a_aload_n (pc := 82) (dk D 43 rfl) rfl ?_
        refine a_geti (pc := 83) (dk D 44 rfl) cls_2 fl_RX2_59 cf_65_5 ?_
        refine a_iload (pc := 86) (dk D 45 rfl) rfl ?_
        refine a_iast (pc := 88) (dk D 46 rfl) ar_66 ⟨H.1, ?_⟩
        replace H := H.2
        refine a_aload_n (pc := 89) (dk D 47 rfl) rfl ?_
        refine a_dup (pc := 90) (dk D 48 rfl) rfl ?_
        refine a_geti (pc := 91) (dk D 49 rfl) cls_2 fl_RX2_59 cf_65_5 ?_
        refine a_top (y := (h 65 5)) (by simp [up, cpy]) ?_
        refine a_iconst (pc := 94) (dk D 50 rfl) (ik rfl) ?_
        refine a_iadd (pc := 95) (dk D 51 rfl) ?_
        refine a_puti (pc := 96) (dk D 52 rfl) cls_2 fl_RX2_59 cf_65_5 rfl rfl ?_
        refine a_aload_n (pc := 99) (dk D 53 rfl) rfl ?_
        refine a_geti (pc := 100) (dk D 54 rfl) cls_2 fl_RX2_59 cf_65_5 ?_
        refine a_top (y := (w32 ((h 65 5) + 1))) (by simp [up, cpy]) ?_
        refine a_iconst (pc := 103) (dk D 55 rfl) (ik rfl) ?_
        refine a_icmp_lt (pc := 104) (dk D 56 rfl) (tgt := 129) rfl ⟨fun c => ?_, fun c => ?_⟩
        · replace H := H.1 c
          refine a_iinc (pc := 129) (dk D 69 rfl) (by decide) rfl rfl rfl ?_
          refine a_goto (pc := 132) (dk D 70 rfl) (tgt := 6) rfl ?_
          exact a_pick [0, 1, 2, 3, 4] rfl H
        · replace H := H.2 c
          refine a_aload_n (pc := 107) (dk D 57 rfl) rfl ?_
          refine a_geti (pc := 108) (dk D 58 rfl) cls_2 fl_RX2_59 cf_65_5 ?_
          refine a_top (y := (w32 ((h 65 5) + 1))) (by simp [up, cpy]) ?_
          refine a_iconst (pc := 111) (dk D 59 rfl) (ik rfl) ?_
          refine a_aload_n (pc := 112) (dk D 60 rfl) rfl ?_
          refine a_getr (r := 65) (pc := 113) (dk D 61 rfl) cls_2 fl_RX2_9 cf_65_4 ?_
          refine a_iconst (pc := 116) (dk D 62 rfl) (ik rfl) ?_
          refine a_iald (pc := 117) (dk D 63 rfl) ar_66 ⟨⟨by decide, by decide⟩, ?_⟩
          refine a_top (y := ((up h 66 (h 65 5) (h 33 (w32 (x2 + x5)))) 66 4)) (by simp [up, cpy]) ?_
          refine a_iadd (pc := 118) (dk D 64 rfl) ?_
          refine a_icmp_ne (pc := 119) (dk D 65 rfl) (tgt := 129) rfl ⟨fun c => ?_, fun c => ?_⟩
          · replace H := H.1 c
            refine a_iinc (pc := 129) (dk D 69 rfl) (by decide) rfl rfl rfl ?_
            refine a_goto (pc := 132) (dk D 70 rfl) (tgt := 6) rfl ?_
            exact a_pick [0, 1, 2, 3, 4] rfl H
          · replace H := H.2 c
            refine a_aload_n (pc := 122) (dk D 66 rfl) rfl ?_
            refine a_callVv (as := []) (st := []) (pc := 123) (dk D 67 rfl) cl_RX2_66 ⟨Nat.le_of_ble_eq_true rfl, Nat.le_of_ble_eq_true rfl⟩ ⟨Nat.le_of_ble_eq_true rfl, Nat.le_of_ble_eq_true rfl⟩ cls_2 rfl cc_65 rfl rfl rfl (Nat.le_of_ble_eq_true rfl) (Call.mono H fun _ h2 H => ?_)
            refine a_iinc (pc := 126) (dk D 68 rfl) (by decide) rfl rfl rfl ?_
            refine a_iinc (pc := 129) (dk D 69 rfl) (by decide) rfl rfl rfl ?_
            refine a_goto (pc := 132) (dk D 70 rfl) (tgt := 6) rfl ?_
            exact a_pick [0, 1, 2, 3, 4] rfl H
      · replace H := H.2 c
        refine a_iload (pc := 48) (dk D 25 rfl) rfl ?_
        refine a_iconst (pc := 50) (dk D 26 rfl) (ik rfl) ?_
        refine a_iconst (pc := 51) (dk D 27 rfl) (ik rfl) ?_
        refine a_callNi (as := [iv (h 33 (w32 (x2 + x5))), iv 1, iv 4]) (st := []) (pc := 52) (dk D 28 rfl) cl_RX2_62 ⟨Nat.le_of_ble_eq_true rfl, Nat.le_of_ble_eq_true rfl⟩ ⟨Nat.le_of_ble_eq_true rfl, Nat.le_of_ble_eq_true rfl⟩ rfl rfl rfl (Nat.le_of_ble_eq_true rfl) (Call.mono H fun r3 h4 H => ?_)
        refine a_if_ne (pc := 55) (dk D 29 rfl) (tgt := 62) rfl ⟨fun c => ?_, fun c => ?_⟩
        · replace H := H.1 c
          refine a_iconst (pc := 62) (dk D 32 rfl) (ik rfl) ?_
          refine a_istore (pc := 63) (dk D 33 rfl) (by decide) rfl rfl ?_
          refine a_iload (pc := 65) (dk D 34 rfl) rfl ?_
          refine a_if_eq (pc := 67) (dk D 35 rfl) (tgt := 78) rfl ⟨fun _ => ?_, fun c => absurd c (by decide)⟩
          refine a_aload_n (pc := 78) (dk D 41 rfl) rfl ?_
          refine a_getr (r := 65) (pc := 79) (dk D 42 rfl) cls_2 fl_RX2_9 cf_65_4 ?_
          refine a_aload_n (pc := 82) (dk D 43 rfl) rfl ?_
          refine a_geti (pc := 83) (dk D 44 rfl) cls_2 fl_RX2_59 cf_65_5 ?_
          refine a_iload (pc := 86) (dk D 45 rfl) rfl ?_
          refine a_iast (pc := 88) (dk D 46 rfl) ar_66 ⟨H.1, ?_⟩
          replace H := H.2
          refine a_aload_n (pc := 89) (dk D 47 rfl) rfl ?_
          refine a_dup (pc := 90) (dk D 48 rfl) rfl ?_
          refine a_geti (pc := 91) (dk D 49 rfl) cls_2 fl_RX2_59 cf_65_5 ?_
          refine a_top (y := (h4 65 5)) (by simp [up, cpy]) ?_
          refine a_iconst (pc := 94) (dk D 50 rfl) (ik rfl) ?_
          refine a_iadd (pc := 95) (dk D 51 rfl) ?_
          refine a_puti (pc := 96) (dk D 52 rfl) cls_2 fl_RX2_59 cf_65_5 rfl rfl ?_
          refine a_aload_n (pc := 99) (dk D 53 rfl) rfl ?_
          refine a_geti (pc := 100) (dk D 54 rfl) cls_2 fl_RX2_59 cf_65_5 ?_
          refine a_top (y := (w32 ((h4 65 5) + 1))) (by simp [up, cpy]) ?_
          refine a_iconst (pc := 103) (dk D 55 rfl) (ik rfl) ?_
          refine a_icmp_lt (pc := 104) (dk D 56 rfl) (tgt := 129) rfl ⟨fun c => ?_, fun c => ?_⟩
          · replace H := H.1 c
            refine a_iinc (pc := 129) (dk D 69 rfl) (by decide) rfl rfl rfl ?_
            refine a_goto (pc := 132) (dk D 70 rfl) (tgt := 6) rfl ?_
            exact a_pick [0, 1, 2, 3, 4] rfl H
          · replace H := H.2 c
            refine a_aload_n (pc := 107) (dk D 57 rfl) rfl ?_
            refine a_geti (pc := 108) (dk D 58 rfl) cls_2 fl_RX2_59 cf_65_5 ?_
            refine a_top (y := (w32 ((h4 65 5) + 1))) (by simp [up, cpy]) ?_
            refine a_iconst (pc := 111) (dk D 59 rfl) (ik rfl) ?_
            refine a_aload_n (pc := 112) (dk D 60 rfl) rfl ?_
            refine a_getr (r := 65) (pc := 113) (dk D 61 rfl) cls_2 fl_RX2_9 cf_65_4 ?_
            refine a_iconst (pc := 116) (dk D 62 rfl) (ik rfl) ?_
            refine a_iald (pc := 117) (dk D 63 rfl) ar_66 ⟨⟨by decide, by decide⟩, ?_⟩
            refine a_top (y := ((up h4 66 (h4 65 5) (h 33 (w32 (x2 + x5)))) 66 4)) (by simp [up, cpy]) ?_
            refine a_iadd (pc := 118) (dk D 64 rfl) ?_
            refine a_icmp_ne (pc := 119) (dk D 65 rfl) (tgt := 129) rfl ⟨fun c => ?_, fun c => ?_⟩
            · replace H := H.1 c
              refine a_iinc (pc := 129) (dk D 69 rfl) (by decide) rfl rfl rfl ?_
              refine a_goto (pc := 132) (dk D 70 rfl) (tgt := 6) rfl ?_
              exact a_pick [0, 1, 2, 3, 4] rfl H
            · replace H := H.2 c
              refine a_aload_n (pc := 122) (dk D 66 rfl) rfl ?_
              refine a_callVv (as := []) (st := []) (pc := 123) (dk D 67 rfl) cl_RX2_66 ⟨Nat.le_of_ble_eq_true rfl, Nat.le_of_ble_eq_true rfl⟩ ⟨Nat.le_of_ble_eq_true rfl, Nat.le_of_ble_eq_true rfl⟩ cls_2 rfl cc_65 rfl rfl rfl (Nat.le_of_ble_eq_true rfl) (Call.mono H fun _ h6 H => ?_)
              refine a_iinc (pc := 126) (dk D 68 rfl) (by decide) rfl rfl rfl ?_
              refine a_iinc (pc := 129) (dk D 69 rfl) (by decide) rfl rfl rfl ?_
              refine a_goto (pc := 132) (dk D 70 rfl) (tgt := 6) rfl ?_
              exact a_pick [0, 1, 2, 3, 4] rfl H
        · replace H := H.2 c
          refine a_iconst (pc := 58) (dk D 30 rfl) (ik rfl) ?_
          refine a_goto (pc := 59) (dk D 31 rfl) (tgt := 63) rfl ?_
          refine a_istore (pc := 63) (dk D 33 rfl) (by decide) rfl rfl ?_
          refine a_iload (pc := 65) (dk D 34 rfl) rfl ?_
          refine a_if_eq (pc := 67) (dk D 35 rfl) (tgt := 78) rfl ⟨fun c => absurd c (by decide), fun _ => ?_⟩
          refine a_aload_n (pc := 70) (dk D 36 rfl) rfl ?_
          refine a_iconst (pc := 71) (dk D 37 rfl) (ik rfl) ?_
          refine a_puti (pc := 72) (dk D 38 rfl) cls_2 fl_RX2_59 cf_65_5 rfl rfl ?_
          refine a_iload (pc := 75) (dk D 39 rfl) rfl ?_
          exact a_iret (pc := 77) (dk D 40 rfl) rfl rfl H
    · replace H := H.2 c
      refine a_iload (pc := 28) (dk D 16 rfl) rfl ?_
      refine a_bipush (pc := 30) (dk D 17 rfl) (ik rfl) (bpk rfl) ?_
      refine a_bipush (pc := 32) (dk D 18 rfl) (ik rfl) (bpk rfl) ?_
      refine a_callNi (as := [iv (h 33 (w32 (x2 + x5))), iv 10, iv 25]) (st := []) (pc := 34) (dk D 19 rfl) cl_RX2_62 ⟨Nat.le_of_ble_eq_true rfl, Nat.le_of_ble_eq_true rfl⟩ ⟨Nat.le_of_ble_eq_true rfl, Nat.le_of_ble_eq_true rfl⟩ rfl rfl rfl (Nat.le_of_ble_eq_true rfl) (Call.mono H fun r7 h8 H => ?_)
      refine a_if_eq (pc := 37) (dk D 20 rfl) (tgt := 58) rfl ⟨fun c => ?_, fun c => ?_⟩
      · replace H := H.1 c
        refine a_iconst (pc := 58) (dk D 30 rfl) (ik rfl) ?_
        refine a_goto (pc := 59) (dk D 31 rfl) (tgt := 63) rfl ?_
        refine a_istore (pc := 63) (dk D 33 rfl) (by decide) rfl rfl ?_
        refine a_iload (pc := 65) (dk D 34 rfl) rfl ?_
        refine a_if_eq (pc := 67) (dk D 35 rfl) (tgt := 78) rfl ⟨fun c => absurd c (by decide), fun _ => ?_⟩
        refine a_aload_n (pc := 70) (dk D 36 rfl) rfl ?_
        refine a_iconst (pc := 71) (dk D 37 rfl) (ik rfl) ?_
        refine a_puti (pc := 72) (dk D 38 rfl) cls_2 fl_RX2_59 cf_65_5 rfl rfl ?_
        refine a_iload (pc := 75) (dk D 39 rfl) rfl ?_
        exact a_iret (pc := 77) (dk D 40 rfl) rfl rfl H
      · replace H := H.2 c
        refine a_aload_n (pc := 40) (dk D 21 rfl) rfl ?_
        refine a_geti (pc := 41) (dk D 22 rfl) cls_2 fl_RX2_59 cf_65_5 ?_
        refine a_iconst (pc := 44) (dk D 23 rfl) (ik rfl) ?_
        refine a_icmp_ne (pc := 45) (dk D 24 rfl) (tgt := 62) rfl ⟨fun c => ?_, fun c => ?_⟩
        · replace H := H.1 c
          refine a_iconst (pc := 62) (dk D 32 rfl) (ik rfl) ?_
          refine a_istore (pc := 63) (dk D 33 rfl) (by decide) rfl rfl ?_
          refine a_iload (pc := 65) (dk D 34 rfl) rfl ?_
          refine a_if_eq (pc := 67) (dk D 35 rfl) (tgt := 78) rfl ⟨fun _ => ?_, fun c => absurd c (by decide)⟩
          refine a_aload_n (pc := 78) (dk D 41 rfl) rfl ?_
          refine a_getr (r := 65) (pc := 79) (dk D 42 rfl) cls_2 fl_RX2_9 cf_65_4 ?_
          refine a_aload_n (pc := 82) (dk D 43 rfl) rfl ?_
          refine a_geti (pc := 83) (dk D 44 rfl) cls_2 fl_RX2_59 cf_65_5 ?_
          refine a_iload (pc := 86) (dk D 45 rfl) rfl ?_
          refine a_iast (pc := 88) (dk D 46 rfl) ar_66 ⟨H.1, ?_⟩
          replace H := H.2
          refine a_aload_n (pc := 89) (dk D 47 rfl) rfl ?_
          refine a_dup (pc := 90) (dk D 48 rfl) rfl ?_
          refine a_geti (pc := 91) (dk D 49 rfl) cls_2 fl_RX2_59 cf_65_5 ?_
          refine a_top (y := (h8 65 5)) (by simp [up, cpy]) ?_
          refine a_iconst (pc := 94) (dk D 50 rfl) (ik rfl) ?_
          refine a_iadd (pc := 95) (dk D 51 rfl) ?_
          refine a_puti (pc := 96) (dk D 52 rfl) cls_2 fl_RX2_59 cf_65_5 rfl rfl ?_
          refine a_aload_n (pc := 99) (dk D 53 rfl) rfl ?_
          refine a_geti (pc := 100) (dk D 54 rfl) cls_2 fl_RX2_59 cf_65_5 ?_
          refine a_top (y := (w32 ((h8 65 5) + 1))) (by simp [up, cpy]) ?_
          refine a_iconst (pc := 103) (dk D 55 rfl) (ik rfl) ?_
          refine a_icmp_lt (pc := 104) (dk D 56 rfl) (tgt := 129) rfl ⟨fun c => ?_, fun c => ?_⟩
          · replace H := H.1 c
            refine a_iinc (pc := 129) (dk D 69 rfl) (by decide) rfl rfl rfl ?_
            refine a_goto (pc := 132) (dk D 70 rfl) (tgt := 6) rfl ?_
            exact a_pick [0, 1, 2, 3, 4] rfl H
          · replace H := H.2 c
            refine a_aload_n (pc := 107) (dk D 57 rfl) rfl ?_
            refine a_geti (pc := 108) (dk D 58 rfl) cls_2 fl_RX2_59 cf_65_5 ?_
            refine a_top (y := (w32 ((h8 65 5) + 1))) (by simp [up, cpy]) ?_
            refine a_iconst (pc := 111) (dk D 59 rfl) (ik rfl) ?_
            refine a_aload_n (pc := 112) (dk D 60 rfl) rfl ?_
            refine a_getr (r := 65) (pc := 113) (dk D 61 rfl) cls_2 fl_RX2_9 cf_65_4 ?_
            refine a_iconst (pc := 116) (dk D 62 rfl) (ik rfl) ?_
            refine a_iald (pc := 117) (dk D 63 rfl) ar_66 ⟨⟨by decide, by decide⟩, ?_⟩
            refine a_top (y := ((up h8 66 (h8 65 5) (h 33 (w32 (x2 + x5)))) 66 4)) (by simp [up, cpy]) ?_
            refine a_iadd (pc := 118) (dk D 64 rfl) ?_
            refine a_icmp_ne (pc := 119) (dk D 65 rfl) (tgt := 129) rfl ⟨fun c => ?_, fun c => ?_⟩
            · replace H := H.1 c
              refine a_iinc (pc := 129) (dk D 69 rfl) (by decide) rfl rfl rfl ?_
              refine a_goto (pc := 132) (dk D 70 rfl) (tgt := 6) rfl ?_
              exact a_pick [0, 1, 2, 3, 4] rfl H
            · replace H := H.2 c
              refine a_aload_n (pc := 122) (dk D 66 rfl) rfl ?_
              refine a_callVv (as := []) (st := []) (pc := 123) (dk D 67 rfl) cl_RX2_66 ⟨Nat.le_of_ble_eq_true rfl, Nat.le_of_ble_eq_true rfl⟩ ⟨Nat.le_of_ble_eq_true rfl, Nat.le_of_ble_eq_true rfl⟩ cls_2 rfl cc_65 rfl rfl rfl (Nat.le_of_ble_eq_true rfl) (Call.mono H fun _ h10 H => ?_)
              refine a_iinc (pc := 126) (dk D 68 rfl) (by decide) rfl rfl rfl ?_
              refine a_iinc (pc := 129) (dk D 69 rfl) (by decide) rfl rfl rfl ?_
              refine a_goto (pc := 132) (dk D 70 rfl) (tgt := 6) rfl ?_
              exact a_pick [0, 1, 2, 3, 4] rfl H
        · replace H := H.2 c
          refine a_iload (pc := 48) (dk D 25 rfl) rfl ?_
          refine a_iconst (pc := 50) (dk D 26 rfl) (ik rfl) ?_
          refine a_iconst (pc := 51) (dk D 27 rfl) (ik rfl) ?_
          refine a_callNi (as := [iv (h 33 (w32 (x2 + x5))), iv 1, iv 4]) (st := []) (pc := 52) (dk D 28 rfl) cl_RX2_62 ⟨Nat.le_of_ble_eq_true rfl, Nat.le_of_ble_eq_true rfl⟩ ⟨Nat.le_of_ble_eq_true rfl, Nat.le_of_ble_eq_true rfl⟩ rfl rfl rfl (Nat.le_of_ble_eq_true rfl) (Call.mono H fun r11 h12 H => ?_)
          refine a_if_ne (pc := 55) (dk D 29 rfl) (tgt := 62) rfl ⟨fun c => ?_, fun c => ?_⟩
          · replace H := H.1 c
            refine a_iconst (pc := 62) (dk D 32 rfl) (ik rfl) ?_
            refine a_istore (pc := 63) (dk D 33 rfl) (by decide) rfl rfl ?_
            refine a_iload (pc := 65) (dk D 34 rfl) rfl ?_
            refine a_if_eq (pc := 67) (dk D 35 rfl) (tgt := 78) rfl ⟨fun _ => ?_, fun c => absurd c (by decide)⟩
            refine a_aload_n (pc := 78) (dk D 41 rfl) rfl ?_
            refine a_getr (r := 65) (pc := 79) (dk D 42 rfl) cls_2 fl_RX2_9 cf_65_4 ?_
            refine a_aload_n (pc := 82) (dk D 43 rfl) rfl ?_
            refine a_geti (pc := 83) (dk D 44 rfl) cls_2 fl_RX2_59 cf_65_5 ?_
            refine a_iload (pc := 86) (dk D 45 rfl) rfl ?_
            refine a_iast (pc := 88) (dk D 46 rfl) ar_66 ⟨H.1, ?_⟩
            replace H := H.2
            refine a_aload_n (pc := 89) (dk D 47 rfl) rfl ?_
            refine a_dup (pc := 90) (dk D 48 rfl) rfl ?_
            refine a_geti (pc := 91) (dk D 49 rfl) cls_2 fl_RX2_59 cf_65_5 ?_
            refine a_top (y := (h12 65 5)) (by simp [up, cpy]) ?_
            refine a_iconst (pc := 94) (dk D 50 rfl) (ik rfl) ?_
            refine a_iadd (pc := 95) (dk D 51 rfl) ?_
            refine a_puti (pc := 96) (dk D 52 rfl) cls_2 fl_RX2_59 cf_65_5 rfl rfl ?_
            refine a_aload_n (pc := 99) (dk D 53 rfl) rfl ?_
            refine a_geti (pc := 100) (dk D 54 rfl) cls_2 fl_RX2_59 cf_65_5 ?_
            refine a_top (y := (w32 ((h12 65 5) + 1))) (by simp [up, cpy]) ?_
            refine a_iconst (pc := 103) (dk D 55 rfl) (ik rfl) ?_
            refine a_icmp_lt (pc := 104) (dk D 56 rfl) (tgt := 129) rfl ⟨fun c => ?_, fun c => ?_⟩
            · replace H := H.1 c
              refine a_iinc (pc := 129) (dk D 69 rfl) (by decide) rfl rfl rfl ?_
              refine a_goto (pc := 132) (dk D 70 rfl) (tgt := 6) rfl ?_
              exact a_pick [0, 1, 2, 3, 4] rfl H
            · replace H := H.2 c
              refine a_aload_n (pc := 107) (dk D 57 rfl) rfl ?_
              refine a_geti (pc := 108) (dk D 58 rfl) cls_2 fl_RX2_59 cf_65_5 ?_
              refine a_top (y := (w32 ((h12 65 5) + 1))) (by simp [up, cpy]) ?_
              refine a_iconst (pc := 111) (dk D 59 rfl) (ik rfl) ?_
              refine a_aload_n (pc := 112) (dk D 60 rfl) rfl ?_
              refine a_getr (r := 65) (pc := 113) (dk D 61 rfl) cls_2 fl_RX2_9 cf_65_4 ?_
              refine a_iconst (pc := 116) (dk D 62 rfl) (ik rfl) ?_
              refine a_iald (pc := 117) (dk D 63 rfl) ar_66 ⟨⟨by decide, by decide⟩, ?_⟩
              refine a_top (y := ((up h12 66 (h12 65 5) (h 33 (w32 (x2 + x5)))) 66 4)) (by simp [up, cpy]) ?_
              refine a_iadd (pc := 118) (dk D 64 rfl) ?_
              refine a_icmp_ne (pc := 119) (dk D 65 rfl) (tgt := 129) rfl ⟨fun c => ?_, fun c => ?_⟩
              · replace H := H.1 c
                refine a_iinc (pc := 129) (dk D 69 rfl) (by decide) rfl rfl rfl ?_
                refine a_goto (pc := 132) (dk D 70 rfl) (tgt := 6) rfl ?_
                exact a_pick [0, 1, 2, 3, 4] rfl H
              · replace H := H.2 c
                refine a_aload_n (pc := 122) (dk D 66 rfl) rfl ?_
                refine a_callVv (as := []) (st := []) (pc := 123) (dk D 67 rfl) cl_RX2_66 ⟨Nat.le_of_ble_eq_true rfl, Nat.le_of_ble_eq_true rfl⟩ ⟨Nat.le_of_ble_eq_true rfl, Nat.le_of_ble_eq_true rfl⟩ cls_2 rfl cc_65 rfl rfl rfl (Nat.le_of_ble_eq_true rfl) (Call.mono H fun _ h14 H => ?_)
                refine a_iinc (pc := 126) (dk D 68 rfl) (by decide) rfl rfl rfl ?_
                refine a_iinc (pc := 129) (dk D 69 rfl) (by decide) rfl rfl rfl ?_
                refine a_goto (pc := 132) (dk D 70 rfl) (tgt := 6) rfl ?_
                exact a_pick [0, 1, 2, 3, 4] rfl H
          · replace H := H.2 c
            refine a_iconst (pc := 58) (dk D 30 rfl) (ik rfl) ?_
            refine a_goto (pc := 59) (dk D 31 rfl) (tgt := 63) rfl ?_
            refine a_istore (pc := 63) (dk D 33 rfl) (by decide) rfl rfl ?_
            refine a_iload (pc := 65) (dk D 34 rfl) rfl ?_
            refine a_if_eq (pc := 67) (dk D 35 rfl) (tgt := 78) rfl ⟨fun c => absurd c (by decide), fun _ => ?_⟩
            refine a_aload_n (pc := 70) (dk D 36 rfl) rfl ?_
            refine a_iconst (pc := 71) (dk D 37 rfl) (ik rfl) ?_
            refine a_puti (pc := 72) (dk D 38 rfl) cls_2 fl_RX2_59 cf_65_5 rfl rfl ?_
            refine a_iload (pc := 75) (dk D 39 rfl) rfl ?_
            exact a_iret (pc := 77) (dk D 40 rfl) rfl rfl H
set_option maxHeartbeats 40000000 in
theorem T_X2_begin_65_0 {G : GG} {Φ : Int → Hp → Prop} {h : Hp} {x1 : Int} {x2 : Int} (H : (((h 65 2) = 0 → (((h 65 2) = 0 → Φ x2 (up (up (up h 65 2 1) 65 3 x1) 65 5 0)) ∧ ((h 65 2) ≠ 0 → Φ x2 (up (up (up (up h 65 0 (w32 ((h 65 0) + 1))) 65 2 1) 65 3 x1) 65 5 0)))) ∧ ((h 65 2) ≠ 0 → ((x1 ≠ (band (w32 ((h 65 3) + 1)) 255) → (((h 65 2) = 0 → Φ x2 (up (up (up h 65 2 1) 65 3 x1) 65 5 0)) ∧ ((h 65 2) ≠ 0 → Φ x2 (up (up (up (up h 65 0 (w32 ((h 65 0) + 1))) 65 2 1) 65 3 x1) 65 5 0)))) ∧ (x1 = (band (w32 ((h 65 3) + 1)) 255) → (((h 65 2) = 0 → Φ 0 (up (up h 65 2 1) 65 3 x1)) ∧ ((h 65 2) ≠ 0 → Φ 0 (up (up h 65 2 1) 65 3 x1)))))))) : AT G m_X2_begin 0 [(0, rv 65), (1, iv x1), (2, iv x2)] [] h Φ := by
  have D := dt_X2_begin
  refine a_aload_n (pc := 0) (dk D 0 rfl) rfl ?_
  refine a_geti (pc := 1) (dk D 1 rfl) cls_2 fl_RX2_49 cf_65_2 ?_
  refine a_if_eq (pc := 4) (dk D 2 rfl) (tgt := 25) rfl ⟨fun c => ?_, fun c => ?_⟩
  · replace H := H.1 c
    refine a_iconst (pc := 25) (dk D 13 rfl) (ik rfl) ?_
    refine a_istore_n (pc := 26) (dk D 14 rfl) (by decide) rfl rfl ?_
    refine a_aload_n (pc := 27) (dk D 15 rfl) rfl ?_
    refine a_geti (pc := 28) (dk D 16 rfl) cls_2 fl_RX2_49 cf_65_2 ?_
    refine a_if_eq (pc := 31) (dk D 17 rfl) (tgt := 48) rfl ⟨fun c => ?_, fun c => ?_⟩
    · replace H := H.1 c
      refine a_aload_n (pc := 48) (dk D 26 rfl) rfl ?_
      refine a_iconst (pc := 49) (dk D 27 rfl) (ik rfl) ?_
      refine a_putz (pc := 50) (dk D 28 rfl) cls_2 fl_RX2_49 cf_65_2 rfl rfl ⟨by decide, ?_⟩
      refine a_aload_n (pc := 53) (dk D 29 rfl) rfl ?_
      refine a_iload_n (pc := 54) (dk D 30 rfl) rfl ?_
      refine a_puti (pc := 55) (dk D 31 rfl) cls_2 fl_RX2_53 cf_65_3 rfl rfl ?_
      refine a_iload_n (pc := 58) (dk D 32 rfl) rfl ?_
      refine a_if_eq (pc := 59) (dk D 33 rfl) (tgt := 64) rfl ⟨fun _ => ?_, fun c => absurd c (by decide)⟩
      refine a_aload_n (pc := 64) (dk D 36 rfl) rfl ?_
      refine a_iconst (pc := 65) (dk D 37 rfl) (ik rfl) ?_
      refine a_puti (pc := 66) (dk D 38 rfl) cls_2 fl_RX2_59 cf_65_5 rfl rfl ?_
      refine a_iload_n (pc := 69) (dk D 39 rfl) rfl ?_
      exact a_iret (pc := 70) (dk D 40 rfl) rfl rfl H
    · replace H := H.2 c
      refine a_iload_n (pc := 34) (dk D 18 rfl) rfl ?_
      refine a_if_ne (pc := 35) (dk D 19 rfl) (tgt := 48) rfl ⟨fun c => absurd c (by decide), fun _ => ?_⟩
      refine a_aload_n (pc := 38) (dk D 20 rfl) rfl ?_
      refine a_dup (pc := 39) (dk D 21 rfl) rfl ?_
      refine a_geti (pc := 40) (dk D 22 rfl) cls_2 fl_RX2_56 cf_65_0 ?_
      refine a_iconst (pc := 43) (dk D 23 rfl) (ik rfl) ?_
      refine a_iadd (pc := 44) (dk D 24 rfl) ?_
      refine a_puti (pc := 45) (dk D 25 rfl) cls_2 fl_RX2_56 cf_65_0 rfl rfl ?_
      refine a_aload_n (pc := 48) (dk D 26 rfl) rfl ?_
      refine a_iconst (pc := 49) (dk D 27 rfl) (ik rfl) ?_
      refine a_putz (pc := 50) (dk D 28 rfl) cls_2 fl_RX2_49 cf_65_2 rfl rfl ⟨by decide, ?_⟩
      refine a_aload_n (pc := 53) (dk D 29 rfl) rfl ?_
      refine a_iload_n (pc := 54) (dk D 30 rfl) rfl ?_
      refine a_puti (pc := 55) (dk D 31 rfl) cls_2 fl_RX2_53 cf_65_3 rfl rfl ?_
      refine a_iload_n (pc := 58) (dk D 32 rfl) rfl ?_
      refine a_if_eq (pc := 59) (dk D 33 rfl) (tgt := 64) rfl ⟨fun _ => ?_, fun c => absurd c (by decide)⟩
      refine a_aload_n (pc := 64) (dk D 36 rfl) rfl ?_
      refine a_iconst (pc := 65) (dk D 37 rfl) (ik rfl) ?_
      refine a_puti (pc := 66) (dk D 38 rfl) cls_2 fl_RX2_59 cf_65_5 rfl rfl ?_
      refine a_iload_n (pc := 69) (dk D 39 rfl) rfl ?_
      exact a_iret (pc := 70) (dk D 40 rfl) rfl rfl H
  · replace H := H.2 c
    refine a_iload_n (pc := 7) (dk D 3 rfl) rfl ?_
    refine a_aload_n (pc := 8) (dk D 4 rfl) rfl ?_
    refine a_geti (pc := 9) (dk D 5 rfl) cls_2 fl_RX2_53 cf_65_3 ?_
    refine a_iconst (pc := 12) (dk D 6 rfl) (ik rfl) ?_
    refine a_iadd (pc := 13) (dk D 7 rfl) ?_
    refine a_sipush (pc := 14) (dk D 8 rfl) (ik rfl) (spk rfl) ?_
    refine a_iand (pc := 17) (dk D 9 rfl) ?_
    refine a_icmp_ne (pc := 18) (dk D 10 rfl) (tgt := 25) rfl ⟨fun c => ?_, fun c => ?_⟩
    · replace H := H.1 c
      refine a_iconst (pc := 25) (dk D 13 rfl) (ik rfl) ?_
      refine a_istore_n (pc := 26) (dk D 14 rfl) (by decide) rfl rfl ?_
      refine a_aload_n (pc := 27) (dk D 15 rfl) rfl ?_
      refine a_geti (pc := 28) (dk D 16 rfl) cls_2 fl_RX2_49 cf_65_2 ?_
      refine a_if_eq (pc := 31) (dk D 17 rfl) (tgt := 48) rfl ⟨fun c => ?_, fun c => ?_⟩
      · replace H := H.1 c
        refine a_aload_n (pc := 48) (dk D 26 rfl) rfl ?_
        refine a_iconst (pc := 49) (dk D 27 rfl) (ik rfl) ?_
        refine a_putz (pc := 50) (dk D 28 rfl) cls_2 fl_RX2_49 cf_65_2 rfl rfl ⟨by decide, ?_⟩
        refine a_aload_n (pc := 53) (dk D 29 rfl) rfl ?_
        refine a_iload_n (pc := 54) (dk D 30 rfl) rfl ?_
        refine a_puti (pc := 55) (dk D 31 rfl) cls_2 fl_RX2_53 cf_65_3 rfl rfl ?_
        refine a_iload_n (pc := 58) (dk D 32 rfl) rfl ?_
        refine a_if_eq (pc := 59) (dk D 33 rfl) (tgt := 64) rfl ⟨fun _ => ?_, fun c => absurd c (by decide)⟩
        refine a_aload_n (pc := 64) (dk D 36 rfl) rfl ?_
        refine a_iconst (pc := 65) (dk D 37 rfl) (ik rfl) ?_
        refine a_puti (pc := 66) (dk D 38 rfl) cls_2 fl_RX2_59 cf_65_5 rfl rfl ?_
        refine a_iload_n (pc := 69) (dk D 39 rfl) rfl ?_
        exact a_iret (pc := 70) (dk D 40 rfl) rfl rfl H
      · replace H := H.2 c
        refine a_iload_n (pc := 34) (dk D 18 rfl) rfl ?_
        refine a_if_ne (pc := 35) (dk D 19 rfl) (tgt := 48) rfl ⟨fun c => absurd c (by decide), fun _ => ?_⟩
        refine a_aload_n (pc := 38) (dk D 20 rfl) rfl ?_
        refine a_dup (pc := 39) (dk D 21 rfl) rfl ?_
        refine a_geti (pc := 40) (dk D 22 rfl) cls_2 fl_RX2_56 cf_65_0 ?_
        refine a_iconst (pc := 43) (dk D 23 rfl) (ik rfl) ?_
        refine a_iadd (pc := 44) (dk D 24 rfl) ?_
        refine a_puti (pc := 45) (dk D 25 rfl) cls_2 fl_RX2_56 cf_65_0 rfl rfl ?_
        refine a_aload_n (pc := 48) (dk D 26 rfl) rfl ?_
        refine a_iconst (pc := 49) (dk D 27 rfl) (ik rfl) ?_
        refine a_putz (pc := 50) (dk D 28 rfl) cls_2 fl_RX2_49 cf_65_2 rfl rfl ⟨by decide, ?_⟩
        refine a_aload_n (pc := 53) (dk D 29 rfl) rfl ?_
        refine a_iload_n (pc := 54) (dk D 30 rfl) rfl ?_
        refine a_puti (pc := 55) (dk D 31 rfl) cls_2 fl_RX2_53 cf_65_3 rfl rfl ?_
        refine a_iload_n (pc := 58) (dk D 32 rfl) rfl ?_
        refine a_if_eq (pc := 59) (dk D 33 rfl) (tgt := 64) rfl ⟨fun _ => ?_, fun c => absurd c (by decide)⟩
        refine a_aload_n (pc := 64) (dk D 36 rfl) rfl ?_
        refine a_iconst (pc := 65) (dk D 37 rfl) (ik rfl) ?_
        refine a_puti (pc := 66) (dk D 38 rfl) cls_2 fl_RX2_59 cf_65_5 rfl rfl ?_
        refine a_iload_n (pc := 69) (dk D 39 rfl) rfl ?_
        exact a_iret (pc := 70) (dk D 40 rfl) rfl rfl H
    · replace H := H.2 c
      refine a_iconst (pc := 21) (dk D 11 rfl) (ik rfl) ?_
      refine a_goto (pc := 22) (dk D 12 rfl) (tgt := 26) rfl ?_
      refine a_istore_n (pc := 26) (dk D 14 rfl) (by decide) rfl rfl ?_
      refine a_aload_n (pc := 27) (dk D 15 rfl) rfl ?_
      refine a_geti (pc := 28) (dk D 16 rfl) cls_2 fl_RX2_49 cf_65_2 ?_
      refine a_if_eq (pc := 31) (dk D 17 rfl) (tgt := 48) rfl ⟨fun c => ?_, fun c => ?_⟩
      · replace H := H.1 c
        refine a_aload_n (pc := 48) (dk D 26 rfl) rfl ?_
        refine a_iconst (pc := 49) (dk D 27 rfl) (ik rfl) ?_
        refine a_putz (pc := 50) (dk D 28 rfl) cls_2 fl_RX2_49 cf_65_2 rfl rfl ⟨by decide, ?_⟩
        refine a_aload_n (pc := 53) (dk D 29 rfl) rfl ?_
        refine a_iload_n (pc := 54) (dk D 30 rfl) rfl ?_
        refine a_puti (pc := 55) (dk D 31 rfl) cls_2 fl_RX2_53 cf_65_3 rfl rfl ?_
        refine a_iload_n (pc := 58) (dk D 32 rfl) rfl ?_
        refine a_if_eq (pc := 59) (dk D 33 rfl) (tgt := 64) rfl ⟨fun c => absurd c (by decide), fun _ => ?_⟩
        refine a_iconst (pc := 62) (dk D 34 rfl) (ik rfl) ?_
        exact a_iret (pc := 63) (dk D 35 rfl) rfl rfl H
      · replace H := H.2 c
        refine a_iload_n (pc := 34) (dk D 18 rfl) rfl ?_
        refine a_if_ne (pc := 35) (dk D 19 rfl) (tgt := 48) rfl ⟨fun _ => ?_, fun c => absurd c (by decide)⟩
        refine a_aload_n (pc := 48) (dk D 26 rfl) rfl ?_
        refine a_iconst (pc := 49) (dk D 27 rfl) (ik rfl) ?_
        refine a_putz (pc := 50) (dk D 28 rfl) cls_2 fl_RX2_49 cf_65_2 rfl rfl ⟨by decide, ?_⟩
        refine a_aload_n (pc := 53) (dk D 29 rfl) rfl ?_
        refine a_iload_n (pc := 54) (dk D 30 rfl) rfl ?_
        refine a_puti (pc := 55) (dk D 31 rfl) cls_2 fl_RX2_53 cf_65_3 rfl rfl ?_
        refine a_iload_n (pc := 58) (dk D 32 rfl) rfl ?_
        refine a_if_eq (pc := 59) (dk D 33 rfl) (tgt := 64) rfl ⟨fun c => absurd c (by decide), fun _ => ?_⟩
        refine a_iconst (pc := 62) (dk D 34 rfl) (ik rfl) ?_
        exact a_iret (pc := 63) (dk D 35 rfl) rfl rfl H
set_option maxHeartbeats 40000000 in
theorem T_X2_putInArchive_65_0 {G : GG} {Φ : Int → Hp → Prop} {h : Hp} (H : ((60 ≤ (h 65 7) → Φ 0 (up h 65 5 0)) ∧ ((h 65 7) < 60 → ((0 : Int) ≤ 0 ∧ (0 : Int) ≤ (w32 ((h 65 7) * 9)) ∧ (0 : Int) ≤ (h 65 5) ∧ ((0 : Int) + (h 65 5)) ≤ 9 ∧ (((w32 ((h 65 7) * 9)) : Int) + (h 65 5)) ≤ 540) ∧ Φ 0 (up (up (cpy h 66 0 67 (w32 ((h 65 7) * 9)) (h 65 5)) 65 7 (w32 ((h 65 7) + 1))) 65 5 0)))) : AT G m_X2_putInArchive 0 [(0, rv 65)] [] h Φ := by
  have D := dt_X2_putInArchive
  refine a_aload_n (pc := 0) (dk D 0 rfl) rfl ?_
  refine a_geti (pc := 1) (dk D 1 rfl) cls_2 fl_RX2_69 cf_65_7 ?_
  refine a_bipush (pc := 4) (dk D 2 rfl) (ik rfl) (bpk rfl) ?_
  refine a_icmp_ge (pc := 6) (dk D 3 rfl) (tgt := 42) rfl ⟨fun c => ?_, fun c => ?_⟩
  · replace H := H.1 c
    refine a_aload_n (pc := 42) (dk D 22 rfl) rfl ?_
    refine a_iconst (pc := 43) (dk D 23 rfl) (ik rfl) ?_
    refine a_puti (pc := 44) (dk D 24 rfl) cls_2 fl_RX2_59 cf_65_5 rfl rfl ?_
    exact a_vret (pc := 47) (dk D 25 rfl) rfl rfl H
  · replace H := H.2 c
    refine a_aload_n (pc := 9) (dk D 4 rfl) rfl ?_
    refine a_getr (r := 65) (pc := 10) (dk D 5 rfl) cls_2 fl_RX2_9 cf_65_4 ?_
    refine a_iconst (pc := 13) (dk D 6 rfl) (ik rfl) ?_
    refine a_aload_n (pc := 14) (dk D 7 rfl) rfl ?_
    refine a_getr (r := 66) (pc := 15) (dk D 8 rfl) cls_2 fl_RX2_15 cf_65_6 ?_
    refine a_aload_n (pc := 18) (dk D 9 rfl) rfl ?_
    refine a_geti (pc := 19) (dk D 10 rfl) cls_2 fl_RX2_69 cf_65_7 ?_
    refine a_bipush (pc := 22) (dk D 11 rfl) (ik rfl) (bpk rfl) ?_
    refine a_imul (pc := 24) (dk D 12 rfl) ?_
    refine a_aload_n (pc := 25) (dk D 13 rfl) rfl ?_
    refine a_geti (pc := 26) (dk D 14 rfl) cls_2 fl_RX2_59 cf_65_5 ?_
    refine a_copy (pc := 29) (dk D 15 rfl) acw_RX2_72 ar_66 ar_67 ⟨Nat.le_of_ble_eq_true rfl, Nat.le_of_ble_eq_true rfl⟩ ⟨H.1, ?_⟩
    replace H := H.2
    refine a_aload_n (pc := 32) (dk D 16 rfl) rfl ?_
    refine a_dup (pc := 33) (dk D 17 rfl) rfl ?_
    refine a_geti (pc := 34) (dk D 18 rfl) cls_2 fl_RX2_69 cf_65_7 ?_
    refine a_top (y := (h 65 7)) (by simp [up, cpy]) ?_
    refine a_iconst (pc := 37) (dk D 19 rfl) (ik rfl) ?_
    refine a_iadd (pc := 38) (dk D 20 rfl) ?_
    refine a_puti (pc := 39) (dk D 21 rfl) cls_2 fl_RX2_69 cf_65_7 rfl rfl ?_
    refine a_aload_n (pc := 42) (dk D 22 rfl) rfl ?_
    refine a_iconst (pc := 43) (dk D 23 rfl) (ik rfl) ?_
    refine a_puti (pc := 44) (dk D 24 rfl) cls_2 fl_RX2_59 cf_65_5 rfl rfl ?_
    exact a_vret (pc := 47) (dk D 25 rfl) rfl rfl H
set_option maxHeartbeats 40000000 in
theorem T_X7_add_75_0 {G : GG} {Φ : Int → Hp → Prop} {h : Hp} {x1 : Int} {x2 : Int} {x3 : Int} {x4 : Int} (H : (((h 75 5) ≠ 12 → (0 ≤ (h 75 5) ∧ (h 75 5) < 12) ∧ (0 ≤ (h 75 5) ∧ (h 75 5) < 12) ∧ (0 ≤ (h 75 5) ∧ (h 75 5) < 12) ∧ (0 ≤ (h 75 5) ∧ (h 75 5) < 12) ∧ Φ (w32 ((w32 ((h 75 5) + 1)) - 1)) (up (up (up (up (up (up h 76 (h 75 5) x1) 77 (h 75 5) x2) 78 (h 75 5) x3) 79 (h 75 5) x4) 75 5 (w32 ((h 75 5) + 1))) 75 7 0)) ∧ ((h 75 5) = 12 → Φ (-4) h))) : AT G m_X7_add 0 [(0, rv 75), (1, iv x1), (2, iv x2), (3, iv x3), (4, iv x4)] [] h Φ := by
  have D := dt_X7_add
  refine a_aload_n (pc := 0) (dk D 0 rfl) rfl ?_
  refine a_geti (pc := 1) (dk D 1 rfl) cls_7 fl_RX7_31 cf_75_5 ?_
  refine a_bipush (pc := 4) (dk D 2 rfl) (ik rfl) (bpk rfl) ?_
  refine a_icmp_ne (pc := 6) (dk D 3 rfl) (tgt := 12) rfl ⟨fun c => ?_, fun c => ?_⟩
  · replace H := H.1 c
    refine a_aload_n (pc := 12) (dk D 6 rfl) rfl ?_
    refine a_getr (r := 75) (pc := 13) (dk D 7 rfl) cls_7 fl_RX7_11 cf_75_0 ?_
    refine a_aload_n (pc := 16) (dk D 8 rfl) rfl ?_
    refine a_geti (pc := 17) (dk D 9 rfl) cls_7 fl_RX7_31 cf_75_5 ?_
    refine a_iload_n (pc := 20) (dk D 10 rfl) rfl ?_
    refine a_iast (pc := 21) (dk D 11 rfl) ar_76 ⟨H.1, ?_⟩
    replace H := H.2
    refine a_aload_n (pc := 22) (dk D 12 rfl) rfl ?_
    refine a_getr (r := 76) (pc := 23) (dk D 13 rfl) cls_7 fl_RX7_15 cf_75_1 ?_
    refine a_aload_n (pc := 26) (dk D 14 rfl) rfl ?_
    refine a_geti (pc := 27) (dk D 15 rfl) cls_7 fl_RX7_31 cf_75_5 ?_
    refine a_top (y := (h 75 5)) (by simp [up, cpy]) ?_
    refine a_iload_n (pc := 30) (dk D 16 rfl) rfl ?_
    refine a_iast (pc := 31) (dk D 17 rfl) ar_77 ⟨H.1, ?_⟩
    replace H := H.2
    refine a_aload_n (pc := 32) (dk D 18 rfl) rfl ?_
    refine a_getr (r := 77) (pc := 33) (dk D 19 rfl) cls_7 fl_RX7_18 cf_75_2 ?_
    refine a_aload_n (pc := 36) (dk D 20 rfl) rfl ?_
    refine a_geti (pc := 37) (dk D 21 rfl) cls_7 fl_RX7_31 cf_75_5 ?_
    refine a_top (y := (h 75 5)) (by simp [up, cpy]) ?_
    refine a_iload_n (pc := 40) (dk D 22 rfl) rfl ?_
    refine a_iast (pc := 41) (dk D 23 rfl) ar_78 ⟨H.1, ?_⟩
    replace H := H.2
    refine a_aload_n (pc := 42) (dk D 24 rfl) rfl ?_
    refine a_getr (r := 78) (pc := 43) (dk D 25 rfl) cls_7 fl_RX7_21 cf_75_3 ?_
    refine a_aload_n (pc := 46) (dk D 26 rfl) rfl ?_
    refine a_geti (pc := 47) (dk D 27 rfl) cls_7 fl_RX7_31 cf_75_5 ?_
    refine a_top (y := (h 75 5)) (by simp [up, cpy]) ?_
    refine a_iload (pc := 50) (dk D 28 rfl) rfl ?_
    refine a_iast (pc := 52) (dk D 29 rfl) ar_79 ⟨H.1, ?_⟩
    replace H := H.2
    refine a_aload_n (pc := 53) (dk D 30 rfl) rfl ?_
    refine a_dup (pc := 54) (dk D 31 rfl) rfl ?_
    refine a_geti (pc := 55) (dk D 32 rfl) cls_7 fl_RX7_31 cf_75_5 ?_
    refine a_top (y := (h 75 5)) (by simp [up, cpy]) ?_
    refine a_iconst (pc := 58) (dk D 33 rfl) (ik rfl) ?_
    refine a_iadd (pc := 59) (dk D 34 rfl) ?_
    refine a_puti (pc := 60) (dk D 35 rfl) cls_7 fl_RX7_31 cf_75_5 rfl rfl ?_
    refine a_aload_n (pc := 63) (dk D 36 rfl) rfl ?_
    refine a_iconst (pc := 64) (dk D 37 rfl) (ik rfl) ?_
    refine a_putz (pc := 65) (dk D 38 rfl) cls_7 fl_RX7_34 cf_75_7 rfl rfl ⟨by decide, ?_⟩
    refine a_aload_n (pc := 68) (dk D 39 rfl) rfl ?_
    refine a_geti (pc := 69) (dk D 40 rfl) cls_7 fl_RX7_31 cf_75_5 ?_
    refine a_top (y := (w32 ((h 75 5) + 1))) (by simp [up, cpy]) ?_
    refine a_iconst (pc := 72) (dk D 41 rfl) (ik rfl) ?_
    refine a_isub (pc := 73) (dk D 42 rfl) ?_
    exact a_iret (pc := 74) (dk D 43 rfl) rfl rfl H
  · replace H := H.2 c
    refine a_bipush (pc := 9) (dk D 4 rfl) (ik rfl) (bpk rfl) ?_
    exact a_iret (pc := 11) (dk D 5 rfl) rfl rfl H
set_option maxHeartbeats 40000000 in
theorem T_X7_choose_75_0 {G : GG} {Φ : Int → Hp → Prop} {h : Hp} (H : (((h 75 7) = 0 → Call G m_X7_findClashes [rv 75] h (fun _ h2 => AT G m_X7_choose 24 [(0, rv 75), (1, iv 1)] [] (up (up h2 75 8 0) 75 9 0) Φ)) ∧ ((h 75 7) ≠ 0 → Φ 0 h))) : AT G m_X7_choose 0 [(0, rv 75)] [] h Φ := by
  have D := dt_X7_choose
  refine a_aload_n (pc := 0) (dk D 0 rfl) rfl ?_
  refine a_geti (pc := 1) (dk D 1 rfl) cls_7 fl_RX7_34 cf_75_7 ?_
  refine a_if_eq (pc := 4) (dk D 2 rfl) (tgt := 8) rfl ⟨fun c => ?_, fun c => ?_⟩
  · replace H := H.1 c
    refine a_aload_n (pc := 8) (dk D 4 rfl) rfl ?_
    refine a_callVv (as := []) (st := []) (pc := 9) (dk D 5 rfl) cl_RX7_38 ⟨Nat.le_of_ble_eq_true rfl, Nat.le_of_ble_eq_true rfl⟩ ⟨Nat.le_of_ble_eq_true rfl, Nat.le_of_ble_eq_true rfl⟩ cls_7 rfl cc_75 rfl rfl rfl (Nat.le_of_ble_eq_true rfl) (Call.mono H fun _ h2 H => ?_)
    refine a_aload_n (pc := 12) (dk D 6 rfl) rfl ?_
    refine a_iconst (pc := 13) (dk D 7 rfl) (ik rfl) ?_
    refine a_puti (pc := 14) (dk D 8 rfl) cls_7 fl_RX7_41 cf_75_8 rfl rfl ?_
    refine a_aload_n (pc := 17) (dk D 9 rfl) rfl ?_
    refine a_iconst (pc := 18) (dk D 10 rfl) (ik rfl) ?_
    refine a_puti (pc := 19) (dk D 11 rfl) cls_7 fl_RX7_44 cf_75_9 rfl rfl ?_
    refine a_iconst (pc := 22) (dk D 12 rfl) (ik rfl) ?_
    refine a_istore_n (pc := 23) (dk D 13 rfl) (by decide) rfl rfl ?_
    exact a_pick [0, 1] rfl H
  · replace H := H.2 c
    exact a_vret (pc := 7) (dk D 3 rfl) rfl rfl H
set_option maxHeartbeats 40000000 in
theorem T_X7_choose_75_24 {G : GG} {Φ : Int → Hp → Prop} {h : Hp} {x1 : Int} (H : (((bshl 1 (h 75 5)) ≤ x1 → Φ 0 (up h 75 7 1)) ∧ (x1 < (bshl 1 (h 75 5)) → Call G m_X7_worthOf [rv 75, iv x1] h (fun r1 h2 => (((h2 75 9) < r1 → AT G m_X7_choose 24 [(0, rv 75), (1, iv (w32 (x1 + 1)))] [] (up (up h2 75 8 x1) 75 9 r1) Φ) ∧ (r1 ≤ (h2 75 9) → ((r1 ≠ (h2 75 9) → AT G m_X7_choose 24 [(0, rv 75), (1, iv (w32 (x1 + 1)))] [] h2 Φ) ∧ (r1 = (h2 75 9) → Call G m_X7_isAhead [rv 75, iv x1] h2 (fun r3 h4 => ((r3 = 0 → AT G m_X7_choose 24 [(0, rv 75), (1, iv (w32 (x1 + 1)))] [] h4 Φ) ∧ (r3 ≠ 0 → AT G m_X7_choose 24 [(0, rv 75), (1, iv (w32 (x1 + 1)))] [] (up (up h4 75 8 x1) 75 9 r1) Φ))))))))))) : AT G m_X7_choose 24 [(0, rv 75), (1, iv x1)] [] h Φ := by
  have D := dt_X7_choose
  refine a_iload_n (pc := 24) (dk D 14 rfl) rfl ?_
  refine a_iconst (pc := 25) (dk D 15 rfl) (ik rfl) ?_
  refine a_aload_n (pc := 26) (dk D 16 rfl) rfl ?_
  refine a_geti (pc := 27) (dk D 17 rfl) cls_7 fl_RX7_31 cf_75_5 ?_
  refine a_ishl (pc := 30) (dk D 18 rfl) ?_
  refine a_icmp_ge (pc := 31) (dk D 19 rfl) (tgt := 80) rfl ⟨fun c => ?_, fun c => ?_⟩
  · replace H := H.1 c
    refine a_aload_n (pc := 80) (dk D 44 rfl) rfl ?_
    refine a_iconst (pc := 81) (dk D 45 rfl) (ik rfl) ?_
    refine a_putz (pc := 82) (dk D 46 rfl) cls_7 fl_RX7_34 cf_75_7 rfl rfl ⟨by decide, ?_⟩
    exact a_vret (pc := 85) (dk D 47 rfl) rfl rfl H
  · replace H := H.2 c
    refine a_aload_n (pc := 34) (dk D 20 rfl) rfl ?_
    refine a_iload_n (pc := 35) (dk D 21 rfl) rfl ?_
    refine a_callVi (as := [iv x1]) (st := []) (pc := 36) (dk D 22 rfl) cl_RX7_47 ⟨Nat.le_of_ble_eq_true rfl, Nat.le_of_ble_eq_true rfl⟩ ⟨Nat.le_of_ble_eq_true rfl, Nat.le_of_ble_eq_true rfl⟩ cls_7 rfl cc_75 rfl rfl rfl (Nat.le_of_ble_eq_true rfl) (Call.mono H fun r1 h2 H => ?_)
    refine a_istore_n (pc := 39) (dk D 23 rfl) (by decide) rfl rfl ?_
    refine a_iload_n (pc := 40) (dk D 24 rfl) rfl ?_
    refine a_aload_n (pc := 41) (dk D 25 rfl) rfl ?_
    refine a_geti (pc := 42) (dk D 26 rfl) cls_7 fl_RX7_44 cf_75_9 ?_
    refine a_icmp_gt (pc := 45) (dk D 27 rfl) (tgt := 64) rfl ⟨fun c => ?_, fun c => ?_⟩
    · replace H := H.1 c
      refine a_aload_n (pc := 64) (dk D 36 rfl) rfl ?_
      refine a_iload_n (pc := 65) (dk D 37 rfl) rfl ?_
      refine a_puti (pc := 66) (dk D 38 rfl) cls_7 fl_RX7_41 cf_75_8 rfl rfl ?_
      refine a_aload_n (pc := 69) (dk D 39 rfl) rfl ?_
      refine a_iload_n (pc := 70) (dk D 40 rfl) rfl ?_
      refine a_puti (pc := 71) (dk D 41 rfl) cls_7 fl_RX7_44 cf_75_9 rfl rfl ?_
      refine a_iinc (pc := 74) (dk D 42 rfl) (by decide) rfl rfl rfl ?_
      refine a_goto (pc := 77) (dk D 43 rfl) (tgt := 24) rfl ?_
      exact a_pick [0, 1] rfl H
    · replace H := H.2 c
      refine a_iload_n (pc := 48) (dk D 28 rfl) rfl ?_
      refine a_aload_n (pc := 49) (dk D 29 rfl) rfl ?_
      refine a_geti (pc := 50) (dk D 30 rfl) cls_7 fl_RX7_44 cf_75_9 ?_
      refine a_icmp_ne (pc := 53) (dk D 31 rfl) (tgt := 74) rfl ⟨fun c => ?_, fun c => ?_⟩
      · replace H := H.1 c
        refine a_iinc (pc := 74) (dk D 42 rfl) (by decide) rfl rfl rfl ?_
        refine a_goto (pc := 77) (dk D 43 rfl) (tgt := 24) rfl ?_
        exact a_pick [0, 1] rfl H
      · replace H := H.2 c
        refine a_aload_n (pc := 56) (dk D 32 rfl) rfl ?_
        refine a_iload_n (pc := 57) (dk D 33 rfl) rfl ?_
        refine a_callVi (as := [iv x1]) (st := []) (pc := 58) (dk D 34 rfl) cl_RX7_51 ⟨Nat.le_of_ble_eq_true rfl, Nat.le_of_ble_eq_true rfl⟩ ⟨Nat.le_of_ble_eq_true rfl, Nat.le_of_ble_eq_true rfl⟩ cls_7 rfl cc_75 rfl rfl rfl (Nat.le_of_ble_eq_true rfl) (Call.mono H fun r3 h4 H => ?_)
        refine a_if_eq (pc := 61) (dk D 35 rfl) (tgt := 74) rfl ⟨fun c => ?_, fun c => ?_⟩
        · replace H := H.1 c
          refine a_iinc (pc := 74) (dk D 42 rfl) (by decide) rfl rfl rfl ?_
          refine a_goto (pc := 77) (dk D 43 rfl) (tgt := 24) rfl ?_
          exact a_pick [0, 1] rfl H
        · replace H := H.2 c
          refine a_aload_n (pc := 64) (dk D 36 rfl) rfl ?_
          refine a_iload_n (pc := 65) (dk D 37 rfl) rfl ?_
          refine a_puti (pc := 66) (dk D 38 rfl) cls_7 fl_RX7_41 cf_75_8 rfl rfl ?_
          refine a_aload_n (pc := 69) (dk D 39 rfl) rfl ?_
          refine a_iload_n (pc := 70) (dk D 40 rfl) rfl ?_
          refine a_puti (pc := 71) (dk D 41 rfl) cls_7 fl_RX7_44 cf_75_9 rfl rfl ?_
          refine a_iinc (pc := 74) (dk D 42 rfl) (by decide) rfl rfl rfl ?_
          refine a_goto (pc := 77) (dk D 43 rfl) (tgt := 24) rfl ?_
          exact a_pick [0, 1] rfl H
set_option maxHeartbeats 40000000 in
theorem T_X7_worthOf_75_0 {G : GG} {Φ : Int → Hp → Prop} {h : Hp} {x1 : Int} (H : AT G m_X7_worthOf 4 [(0, rv 75), (1, iv x1), (2, iv 0), (3, iv 0)] [] h Φ) : AT G m_X7_worthOf 0 [(0, rv 75), (1, iv x1)] [] h Φ := by
  have D := dt_X7_worthOf
  refine a_iconst (pc := 0) (dk D 0 rfl) (ik rfl) ?_
  refine a_istore_n (pc := 1) (dk D 1 rfl) (by decide) rfl rfl ?_
  refine a_iconst (pc := 2) (dk D 2 rfl) (ik rfl) ?_
  refine a_istore_n (pc := 3) (dk D 3 rfl) (by decide) rfl rfl ?_
  exact a_pick [0, 1, 2, 3] rfl H
set_option maxHeartbeats 40000000 in
theorem T_X7_worthOf_75_4 {G : GG} {Φ : Int → Hp → Prop} {h : Hp} {x1 : Int} {x2 : Int} {x3 : Int} (H : (((h 75 5) ≤ x3 → Φ x2 h) ∧ (x3 < (h 75 5) → (((band (bshr x1 x3) 1) ≠ 1 → AT G m_X7_worthOf 4 [(0, rv 75), (1, iv x1), (2, iv x2), (3, iv (w32 (x3 + 1)))] [] h Φ) ∧ ((band (bshr x1 x3) 1) = 1 → (0 ≤ x3 ∧ x3 < 12) ∧ (((band (h 80 x3) x1) = 0 → (0 ≤ x3 ∧ x3 < 12) ∧ AT G m_X7_worthOf 4 [(0, rv 75), (1, iv x1), (2, iv (w32 (x2 + (h 79 x3)))), (3, iv (w32 (x3 + 1)))] [] h Φ) ∧ ((band (h 80 x3) x1) ≠ 0 → Φ (-1) h))))))) : AT G m_X7_worthOf 4 [(0, rv 75), (1, iv x1), (2, iv x2), (3, iv x3)] [] h Φ := by
  have D := dt_X7_worthOf
  refine a_iload_n (pc := 4) (dk D 4 rfl) rfl ?_
  refine a_aload_n (pc := 5) (dk D 5 rfl) rfl ?_
  refine a_geti (pc := 6) (dk D 6 rfl) cls_7 fl_RX7_31 cf_75_5 ?_
  refine a_icmp_ge (pc := 9) (dk D 7 rfl) (tgt := 49) rfl ⟨fun c => ?_, fun c => ?_⟩
  · replace H := H.1 c
    refine a_iload_n (pc := 49) (dk D 33 rfl) rfl ?_
    exact a_iret (pc := 50) (dk D 34 rfl) rfl rfl H
  · replace H := H.2 c
    refine a_iload_n (pc := 12) (dk D 8 rfl) rfl ?_
    refine a_iload_n (pc := 13) (dk D 9 rfl) rfl ?_
    refine a_ishr (pc := 14) (dk D 10 rfl) ?_
    refine a_iconst (pc := 15) (dk D 11 rfl) (ik rfl) ?_
    refine a_iand (pc := 16) (dk D 12 rfl) ?_
    refine a_iconst (pc := 17) (dk D 13 rfl) (ik rfl) ?_
    refine a_icmp_ne (pc := 18) (dk D 14 rfl) (tgt := 43) rfl ⟨fun c => ?_, fun c => ?_⟩
    · replace H := H.1 c
      refine a_iinc (pc := 43) (dk D 31 rfl) (by decide) rfl rfl rfl ?_
      refine a_goto (pc := 46) (dk D 32 rfl) (tgt := 4) rfl ?_
      exact a_pick [0, 1, 2, 3] rfl H
    · replace H := H.2 c
      refine a_aload_n (pc := 21) (dk D 15 rfl) rfl ?_
      refine a_getr (r := 79) (pc := 22) (dk D 16 rfl) cls_7 fl_RX7_24 cf_75_4 ?_
      refine a_iload_n (pc := 25) (dk D 17 rfl) rfl ?_
      refine a_iald (pc := 26) (dk D 18 rfl) ar_80 ⟨H.1, ?_⟩
      replace H := H.2
      refine a_iload_n (pc := 27) (dk D 19 rfl) rfl ?_
      refine a_iand (pc := 28) (dk D 20 rfl) ?_
      refine a_if_eq (pc := 29) (dk D 21 rfl) (tgt := 34) rfl ⟨fun c => ?_, fun c => ?_⟩
      · replace H := H.1 c
        refine a_iload_n (pc := 34) (dk D 24 rfl) rfl ?_
        refine a_aload_n (pc := 35) (dk D 25 rfl) rfl ?_
        refine a_getr (r := 78) (pc := 36) (dk D 26 rfl) cls_7 fl_RX7_21 cf_75_3 ?_
        refine a_iload_n (pc := 39) (dk D 27 rfl) rfl ?_
        refine a_iald (pc := 40) (dk D 28 rfl) ar_79 ⟨H.1, ?_⟩
        replace H := H.2
        refine a_iadd (pc := 41) (dk D 29 rfl) ?_
        refine a_istore_n (pc := 42) (dk D 30 rfl) (by decide) rfl rfl ?_
        refine a_iinc (pc := 43) (dk D 31 rfl) (by decide) rfl rfl rfl ?_
        refine a_goto (pc := 46) (dk D 32 rfl) (tgt := 4) rfl ?_
        exact a_pick [0, 1, 2, 3] rfl H
      · replace H := H.2 c
        refine a_iconst (pc := 32) (dk D 22 rfl) (ik rfl) ?_
        exact a_iret (pc := 33) (dk D 23 rfl) rfl rfl H
set_option maxHeartbeats 40000000 in
theorem T_X7_isAhead_75_0 {G : GG} {Φ : Int → Hp → Prop} {h : Hp} {x1 : Int} (H : Call G m_J6_bitCount_0f7a4 [iv (h 75 8)] h (fun r1 h2 => Call G m_J6_bitCount_0f7a4 [iv x1] h2 (fun r3 h4 => ((0 < (w32 (r1 - r3)) → Φ 1 h4) ∧ ((w32 (r1 - r3)) ≤ 0 → (((w32 (r1 - r3)) ≠ 0 → Φ 0 h4) ∧ ((w32 (r1 - r3)) = 0 → (((band (band x1 (bxor x1 (h4 75 8))) (w32 (-(bxor x1 (h4 75 8))))) = 0 → Φ 0 h4) ∧ ((band (band x1 (bxor x1 (h4 75 8))) (w32 (-(bxor x1 (h4 75 8))))) ≠ 0 → Φ 1 h4))))))))) : AT G m_X7_isAhead 0 [(0, rv 75), (1, iv x1)] [] h Φ := by
  have D := dt_X7_isAhead
  refine a_aload_n (pc := 0) (dk D 0 rfl) rfl ?_
  refine a_geti (pc := 1) (dk D 1 rfl) cls_7 fl_RX7_41 cf_75_8 ?_
  refine a_callSi (as := [iv (h 75 8)]) (st := []) (pc := 4) (dk D 2 rfl) cl_RX7_59 ⟨Nat.le_of_ble_eq_true rfl, Nat.le_of_ble_eq_true rfl⟩ ⟨Nat.le_of_ble_eq_true rfl, Nat.le_of_ble_eq_true rfl⟩ rfl rfl rfl (Nat.le_of_ble_eq_true rfl) (Call.mono H fun r1 h2 H => ?_)
  refine a_iload_n (pc := 7) (dk D 3 rfl) rfl ?_
  refine a_callSi (as := [iv x1]) (st := [iv r1]) (pc := 8) (dk D 4 rfl) cl_RX7_59 ⟨Nat.le_of_ble_eq_true rfl, Nat.le_of_ble_eq_true rfl⟩ ⟨Nat.le_of_ble_eq_true rfl, Nat.le_of_ble_eq_true rfl⟩ rfl rfl rfl (Nat.le_of_ble_eq_true rfl) (Call.mono H fun r3 h4 H => ?_)
  refine a_isub (pc := 11) (dk D 5 rfl) ?_
  refine a_istore_n (pc := 12) (dk D 6 rfl) (by decide) rfl rfl ?_
  refine a_iload_n (pc := 13) (dk D 7 rfl) rfl ?_
  refine a_aload_n (pc := 14) (dk D 8 rfl) rfl ?_
  refine a_geti (pc := 15) (dk D 9 rfl) cls_7 fl_RX7_41 cf_75_8 ?_
  refine a_ixor (pc := 18) (dk D 10 rfl) ?_
  refine a_istore_n (pc := 19) (dk D 11 rfl) (by decide) rfl rfl ?_
  refine a_iload_n (pc := 20) (dk D 12 rfl) rfl ?_
  refine a_if_gt (pc := 21) (dk D 13 rfl) (tgt := 37) rfl ⟨fun c => ?_, fun c => ?_⟩
  · replace H := H.1 c
    refine a_iconst (pc := 37) (dk D 23 rfl) (ik rfl) ?_
    refine a_goto (pc := 38) (dk D 24 rfl) (tgt := 42) rfl ?_
    exact a_zret (pc := 42) (dk D 26 rfl) rfl rfl ⟨by decide, H⟩
  · replace H := H.2 c
    refine a_iload_n (pc := 24) (dk D 14 rfl) rfl ?_
    refine a_if_ne (pc := 25) (dk D 15 rfl) (tgt := 41) rfl ⟨fun c => ?_, fun c => ?_⟩
    · replace H := H.1 c
      refine a_iconst (pc := 41) (dk D 25 rfl) (ik rfl) ?_
      exact a_zret (pc := 42) (dk D 26 rfl) rfl rfl ⟨by decide, H⟩
    · replace H := H.2 c
      refine a_iload_n (pc := 28) (dk D 16 rfl) rfl ?_
      refine a_iload_n (pc := 29) (dk D 17 rfl) rfl ?_
      refine a_iand (pc := 30) (dk D 18 rfl) ?_
      refine a_iload_n (pc := 31) (dk D 19 rfl) rfl ?_
      refine a_ineg (pc := 32) (dk D 20 rfl) ?_
      refine a_iand (pc := 33) (dk D 21 rfl) ?_
      refine a_if_eq (pc := 34) (dk D 22 rfl) (tgt := 41) rfl ⟨fun c => ?_, fun c => ?_⟩
      · replace H := H.1 c
        refine a_iconst (pc := 41) (dk D 25 rfl) (ik rfl) ?_
        exact a_zret (pc := 42) (dk D 26 rfl) rfl rfl ⟨by decide, H⟩
      · replace H := H.2 c
        refine a_iconst (pc := 37) (dk D 23 rfl) (ik rfl) ?_
        refine a_goto (pc := 38) (dk D 24 rfl) (tgt := 42) rfl ?_
        exact a_zret (pc := 42) (dk D 26 rfl) rfl rfl ⟨by decide, H⟩
set_option maxHeartbeats 40000000 in
theorem T_X7_findClashes_75_0 {G : GG} {Φ : Int → Hp → Prop} {h : Hp} (H : AT G m_X7_findClashes 2 [(0, rv 75), (1, iv 0)] [] h Φ) : AT G m_X7_findClashes 0 [(0, rv 75)] [] h Φ := by
  have D := dt_X7_findClashes
  refine a_iconst (pc := 0) (dk D 0 rfl) (ik rfl) ?_
  refine a_istore_n (pc := 1) (dk D 1 rfl) (by decide) rfl rfl ?_
  exact a_pick [0, 1] rfl H
set_option maxHeartbeats 40000000 in
theorem T_X7_findClashes_75_2 {G : GG} {Φ : Int → Hp → Prop} {h : Hp} {x1 : Int} (H : (((h 75 5) ≤ x1 → Φ 0 h) ∧ (x1 < (h 75 5) → (0 ≤ x1 ∧ x1 < 12) ∧ AT G m_X7_findClashes 19 [(0, rv 75), (1, iv x1), (2, iv 0)] [] (up h 80 x1 0) Φ))) : AT G m_X7_findClashes 2 [(0, rv 75), (1, iv x1)] [] h Φ := by
  have D := dt_X7_findClashes
  refine a_iload_n (pc := 2) (dk D 2 rfl) rfl ?_
  refine a_aload_n (pc := 3) (dk D 3 rfl) rfl ?_
  refine a_geti (pc := 4) (dk D 4 rfl) cls_7 fl_RX7_31 cf_75_5 ?_
  refine a_icmp_ge (pc := 7) (dk D 5 rfl) (tgt := 65) rfl ⟨fun c => ?_, fun c => ?_⟩
  · replace H := H.1 c
    exact a_vret (pc := 65) (dk D 39 rfl) rfl rfl H
  · replace H := H.2 c
    refine a_aload_n (pc := 10) (dk D 6 rfl) rfl ?_
    refine a_getr (r := 79) (pc := 11) (dk D 7 rfl) cls_7 fl_RX7_24 cf_75_4 ?_
    refine a_iload_n (pc := 14) (dk D 8 rfl) rfl ?_
    refine a_iconst (pc := 15) (dk D 9 rfl) (ik rfl) ?_
    refine a_iast (pc := 16) (dk D 10 rfl) ar_80 ⟨H.1, ?_⟩
    replace H := H.2
    refine a_iconst (pc := 17) (dk D 11 rfl) (ik rfl) ?_
    refine a_istore_n (pc := 18) (dk D 12 rfl) (by decide) rfl rfl ?_
    exact a_pick [0, 1, 2] rfl H
set_option maxHeartbeats 40000000 in
theorem T_X7_findClashes_75_19 {G : GG} {Φ : Int → Hp → Prop} {h : Hp} {x1 : Int} {x2 : Int} (H : (((h 75 5) ≤ x2 → AT G m_X7_findClashes 2 [(0, rv 75), (1, iv (w32 (x1 + 1)))] [] h Φ) ∧ (x2 < (h 75 5) → ((x1 = x2 → AT G m_X7_findClashes 19 [(0, rv 75), (1, iv x1), (2, iv (w32 (x2 + 1)))] [] h Φ) ∧ (x1 ≠ x2 → Call G m_X7_goTogether [rv 75, iv x1, iv x2] h (fun r1 h2 => ((r1 ≠ 0 → AT G m_X7_findClashes 19 [(0, rv 75), (1, iv x1), (2, iv (w32 (x2 + 1)))] [] h2 Φ) ∧ (r1 = 0 → (0 ≤ x1 ∧ x1 < 12) ∧ (0 ≤ x1 ∧ x1 < 12) ∧ AT G m_X7_findClashes 19 [(0, rv 75), (1, iv x1), (2, iv (w32 (x2 + 1)))] [] (up h2 80 x1 (bor (h2 80 x1) (bshl 1 x2))) Φ)))))))) : AT G m_X7_findClashes 19 [(0, rv 75), (1, iv x1), (2, iv x2)] [] h Φ := by
  have D := dt_X7_findClashes
  refine a_iload_n (pc := 19) (dk D 13 rfl) rfl ?_
  refine a_aload_n (pc := 20) (dk D 14 rfl) rfl ?_
  refine a_geti (pc := 21) (dk D 15 rfl) cls_7 fl_RX7_31 cf_75_5 ?_
  refine a_icmp_ge (pc := 24) (dk D 16 rfl) (tgt := 59) rfl ⟨fun c => ?_, fun c => ?_⟩
  · replace H := H.1 c
    refine a_iinc (pc := 59) (dk D 37 rfl) (by decide) rfl rfl rfl ?_
    refine a_goto (pc := 62) (dk D 38 rfl) (tgt := 2) rfl ?_
    exact a_pick [0, 1] rfl H
  · replace H := H.2 c
    refine a_iload_n (pc := 27) (dk D 17 rfl) rfl ?_
    refine a_iload_n (pc := 28) (dk D 18 rfl) rfl ?_
    refine a_icmp_eq (pc := 29) (dk D 19 rfl) (tgt := 53) rfl ⟨fun c => ?_, fun c => ?_⟩
    · replace H := H.1 c
      refine a_iinc (pc := 53) (dk D 35 rfl) (by decide) rfl rfl rfl ?_
      refine a_goto (pc := 56) (dk D 36 rfl) (tgt := 19) rfl ?_
      exact a_pick [0, 1, 2] rfl H
    · replace H := H.2 c
      refine a_aload_n (pc := 32) (dk D 20 rfl) rfl ?_
      refine a_iload_n (pc := 33) (dk D 21 rfl) rfl ?_
      refine a_iload_n (pc := 34) (dk D 22 rfl) rfl ?_
      refine a_callVi (as := [iv x1, iv x2]) (st := []) (pc := 35) (dk D 23 rfl) cl_RX7_55 ⟨Nat.le_of_ble_eq_true rfl, Nat.le_of_ble_eq_true rfl⟩ ⟨Nat.le_of_ble_eq_true rfl, Nat.le_of_ble_eq_true rfl⟩ cls_7 rfl cc_75 rfl rfl rfl (Nat.le_of_ble_eq_true rfl) (Call.mono H fun r1 h2 H => ?_)
      refine a_if_ne (pc := 38) (dk D 24 rfl) (tgt := 53) rfl ⟨fun c => ?_, fun c => ?_⟩
      · replace H := H.1 c
        refine a_iinc (pc := 53) (dk D 35 rfl) (by decide) rfl rfl rfl ?_
        refine a_goto (pc := 56) (dk D 36 rfl) (tgt := 19) rfl ?_
        exact a_pick [0, 1, 2] rfl H
      · replace H := H.2 c
        refine a_aload_n (pc := 41) (dk D 25 rfl) rfl ?_
        refine a_getr (r := 79) (pc := 42) (dk D 26 rfl) cls_7 fl_RX7_24 cf_75_4 ?_
        refine a_iload_n (pc := 45) (dk D 27 rfl) rfl ?_
        refine a_dup2 (pc := 46) (dk D 28 rfl) rfl rfl ?_
        refine a_iald (pc := 47) (dk D 29 rfl) ar_80 ⟨H.1, ?_⟩
        replace H := H.2
        refine a_iconst (pc := 48) (dk D 30 rfl) (ik rfl) ?_
        refine a_iload_n (pc := 49) (dk D 31 rfl) rfl ?_
        refine a_ishl (pc := 50) (dk D 32 rfl) ?_
        refine a_ior (pc := 51) (dk D 33 rfl) ?_
        refine a_iast (pc := 52) (dk D 34 rfl) ar_80 ⟨H.1, ?_⟩
        replace H := H.2
        refine a_iinc (pc := 53) (dk D 35 rfl) (by decide) rfl rfl rfl ?_
        refine a_goto (pc := 56) (dk D 36 rfl) (tgt := 19) rfl ?_
        exact a_pick [0, 1, 2] rfl H
set_option maxHeartbeats 40000000 in
theorem T_X7_goTogether_75_0 {G : GG} {Φ : Int → Hp → Prop} {h : Hp} {x1 : Int} {x2 : Int} (H : (0 ≤ x1 ∧ x1 < 12) ∧ (0 ≤ x2 ∧ x2 < 12) ∧ (((h 76 x1) ≠ (h 76 x2) → (0 ≤ x1 ∧ x1 < 12) ∧ (0 ≤ x2 ∧ x2 < 12) ∧ (((w32 ((h 78 x1) + (h 75 6))) ≤ (h 77 x2) → Φ 1 h) ∧ ((h 77 x2) < (w32 ((h 78 x1) + (h 75 6))) → (0 ≤ x2 ∧ x2 < 12) ∧ (0 ≤ x1 ∧ x1 < 12) ∧ (((h 77 x1) < (w32 ((h 78 x2) + (h 75 6))) → Φ 0 h) ∧ ((w32 ((h 78 x2) + (h 75 6))) ≤ (h 77 x1) → Φ 1 h))))) ∧ ((h 76 x1) = (h 76 x2) → (0 ≤ x1 ∧ x1 < 12) ∧ (0 ≤ x2 ∧ x2 < 12) ∧ (((w32 ((h 78 x1) + 0)) ≤ (h 77 x2) → Φ 1 h) ∧ ((h 77 x2) < (w32 ((h 78 x1) + 0)) → (0 ≤ x2 ∧ x2 < 12) ∧ (0 ≤ x1 ∧ x1 < 12) ∧ (((h 77 x1) < (w32 ((h 78 x2) + 0)) → Φ 0 h) ∧ ((w32 ((h 78 x2) + 0)) ≤ (h 77 x1) → Φ 1 h))))))) : AT G m_X7_goTogether 0 [(0, rv 75), (1, iv x1), (2, iv x2)] [] h Φ := by
  have D := dt_X7_goTogether
  refine a_aload_n (pc := 0) (dk D 0 rfl) rfl ?_
  refine a_getr (r := 75) (pc := 1) (dk D 1 rfl) cls_7 fl_RX7_11 cf_75_0 ?_
  refine a_iload_n (pc := 4) (dk D 2 rfl) rfl ?_
  refine a_iald (pc := 5) (dk D 3 rfl) ar_76 ⟨H.1, ?_⟩
  replace H := H.2
  refine a_aload_n (pc := 6) (dk D 4 rfl) rfl ?_
  refine a_getr (r := 75) (pc := 7) (dk D 5 rfl) cls_7 fl_RX7_11 cf_75_0 ?_
  refine a_iload_n (pc := 10) (dk D 6 rfl) rfl ?_
  refine a_iald (pc := 11) (dk D 7 rfl) ar_76 ⟨H.1, ?_⟩
  replace H := H.2
  refine a_icmp_ne (pc := 12) (dk D 8 rfl) (tgt := 19) rfl ⟨fun c => ?_, fun c => ?_⟩
  · replace H := H.1 c
    refine a_aload_n (pc := 19) (dk D 11 rfl) rfl ?_
    refine a_geti (pc := 20) (dk D 12 rfl) cls_7 fl_RX7_27 cf_75_6 ?_
    refine a_istore_n (pc := 23) (dk D 13 rfl) (by decide) rfl rfl ?_
    refine a_aload_n (pc := 24) (dk D 14 rfl) rfl ?_
    refine a_getr (r := 77) (pc := 25) (dk D 15 rfl) cls_7 fl_RX7_18 cf_75_2 ?_
    refine a_iload_n (pc := 28) (dk D 16 rfl) rfl ?_
    refine a_iald (pc := 29) (dk D 17 rfl) ar_78 ⟨H.1, ?_⟩
    replace H := H.2
    refine a_iload_n (pc := 30) (dk D 18 rfl) rfl ?_
    refine a_iadd (pc := 31) (dk D 19 rfl) ?_
    refine a_aload_n (pc := 32) (dk D 20 rfl) rfl ?_
    refine a_getr (r := 76) (pc := 33) (dk D 21 rfl) cls_7 fl_RX7_15 cf_75_1 ?_
    refine a_iload_n (pc := 36) (dk D 22 rfl) rfl ?_
    refine a_iald (pc := 37) (dk D 23 rfl) ar_77 ⟨H.1, ?_⟩
    replace H := H.2
    refine a_icmp_le (pc := 38) (dk D 24 rfl) (tgt := 58) rfl ⟨fun c => ?_, fun c => ?_⟩
    · replace H := H.1 c
      refine a_iconst (pc := 58) (dk D 36 rfl) (ik rfl) ?_
      refine a_goto (pc := 59) (dk D 37 rfl) (tgt := 63) rfl ?_
      exact a_zret (pc := 63) (dk D 39 rfl) rfl rfl ⟨by decide, H⟩
    · replace H := H.2 c
      refine a_aload_n (pc := 41) (dk D 25 rfl) rfl ?_
      refine a_getr (r := 77) (pc := 42) (dk D 26 rfl) cls_7 fl_RX7_18 cf_75_2 ?_
      refine a_iload_n (pc := 45) (dk D 27 rfl) rfl ?_
      refine a_iald (pc := 46) (dk D 28 rfl) ar_78 ⟨H.1, ?_⟩
      replace H := H.2
      refine a_iload_n (pc := 47) (dk D 29 rfl) rfl ?_
      refine a_iadd (pc := 48) (dk D 30 rfl) ?_
      refine a_aload_n (pc := 49) (dk D 31 rfl) rfl ?_
      refine a_getr (r := 76) (pc := 50) (dk D 32 rfl) cls_7 fl_RX7_15 cf_75_1 ?_
      refine a_iload_n (pc := 53) (dk D 33 rfl) rfl ?_
      refine a_iald (pc := 54) (dk D 34 rfl) ar_77 ⟨H.1, ?_⟩
      replace H := H.2
      refine a_icmp_gt (pc := 55) (dk D 35 rfl) (tgt := 62) rfl ⟨fun c => ?_, fun c => ?_⟩
      · replace H := H.1 c
        refine a_iconst (pc := 62) (dk D 38 rfl) (ik rfl) ?_
        exact a_zret (pc := 63) (dk D 39 rfl) rfl rfl ⟨by decide, H⟩
      · replace H := H.2 c
        refine a_iconst (pc := 58) (dk D 36 rfl) (ik rfl) ?_
        refine a_goto (pc := 59) (dk D 37 rfl) (tgt := 63) rfl ?_
        exact a_zret (pc := 63) (dk D 39 rfl) rfl rfl ⟨by decide, H⟩
  · replace H := H.2 c
    refine a_iconst (pc := 15) (dk D 9 rfl) (ik rfl) ?_
    refine a_goto (pc := 16) (dk D 10 rfl) (tgt := 23) rfl ?_
    refine a_istore_n (pc := 23) (dk D 13 rfl) (by decide) rfl rfl ?_
    refine a_aload_n (pc := 24) (dk D 14 rfl) rfl ?_
    refine a_getr (r := 77) (pc := 25) (dk D 15 rfl) cls_7 fl_RX7_18 cf_75_2 ?_
    refine a_iload_n (pc := 28) (dk D 16 rfl) rfl ?_
    refine a_iald (pc := 29) (dk D 17 rfl) ar_78 ⟨H.1, ?_⟩
    replace H := H.2
    refine a_iload_n (pc := 30) (dk D 18 rfl) rfl ?_
    refine a_iadd (pc := 31) (dk D 19 rfl) ?_
    refine a_aload_n (pc := 32) (dk D 20 rfl) rfl ?_
    refine a_getr (r := 76) (pc := 33) (dk D 21 rfl) cls_7 fl_RX7_15 cf_75_1 ?_
    refine a_iload_n (pc := 36) (dk D 22 rfl) rfl ?_
    refine a_iald (pc := 37) (dk D 23 rfl) ar_77 ⟨H.1, ?_⟩
    replace H := H.2
    refine a_icmp_le (pc := 38) (dk D 24 rfl) (tgt := 58) rfl ⟨fun c => ?_, fun c => ?_⟩
    · replace H := H.1 c
      refine a_iconst (pc := 58) (dk D 36 rfl) (ik rfl) ?_
      refine a_goto (pc := 59) (dk D 37 rfl) (tgt := 63) rfl ?_
      exact a_zret (pc := 63) (dk D 39 rfl) rfl rfl ⟨by decide, H⟩
    · replace H := H.2 c
      refine a_aload_n (pc := 41) (dk D 25 rfl) rfl ?_
      refine a_getr (r := 77) (pc := 42) (dk D 26 rfl) cls_7 fl_RX7_18 cf_75_2 ?_
      refine a_iload_n (pc := 45) (dk D 27 rfl) rfl ?_
      refine a_iald (pc := 46) (dk D 28 rfl) ar_78 ⟨H.1, ?_⟩
      replace H := H.2
      refine a_iload_n (pc := 47) (dk D 29 rfl) rfl ?_
      refine a_iadd (pc := 48) (dk D 30 rfl) ?_
      refine a_aload_n (pc := 49) (dk D 31 rfl) rfl ?_
      refine a_getr (r := 76) (pc := 50) (dk D 32 rfl) cls_7 fl_RX7_15 cf_75_1 ?_
      refine a_iload_n (pc := 53) (dk D 33 rfl) rfl ?_
      refine a_iald (pc := 54) (dk D 34 rfl) ar_77 ⟨H.1, ?_⟩
      replace H := H.2
      refine a_icmp_gt (pc := 55) (dk D 35 rfl) (tgt := 62) rfl ⟨fun c => ?_, fun c => ?_⟩
      · replace H := H.1 c
        refine a_iconst (pc := 62) (dk D 38 rfl) (ik rfl) ?_
        exact a_zret (pc := 63) (dk D 39 rfl) rfl rfl ⟨by decide, H⟩
      · replace H := H.2 c
        refine a_iconst (pc := 58) (dk D 36 rfl) (ik rfl) ?_
        refine a_goto (pc := 59) (dk D 37 rfl) (tgt := 63) rfl ?_
        exact a_zret (pc := 63) (dk D 39 rfl) rfl rfl ⟨by decide, H⟩
set_option maxHeartbeats 40000000 in
theorem T_X9_turnsTo_81_0 {G : GG} {Φ : Int → Hp → Prop} {h : Hp} {x1 : Int} {x2 : Int} (H : Call G m_J7_fill_53178 [rv 83, iv (-1)] h (fun _ h2 => (0 ≤ x1 ∧ x1 < 288) ∧ (((h2 82 x1) ≠ 0 → Φ (-1) h2) ∧ ((h2 82 x1) = 0 → (0 ≤ x2 ∧ x2 < 288) ∧ (((h2 82 x2) = 0 → (0 ≤ x2 ∧ x2 < 288) ∧ AT G m_X9_turnsTo 47 [(0, rv 81), (1, iv x1), (3, iv 1), (4, iv 0)] [] (up (up h2 83 x2 0) 84 0 x2) Φ) ∧ ((h2 82 x2) ≠ 0 → Φ (-1) h2)))))) : AT G m_X9_turnsTo 0 [(0, rv 81), (1, iv x1), (2, iv x2)] [] h Φ := by
  have D := dt_X9_turnsTo
  refine a_aload_n (pc := 0) (dk D 0 rfl) rfl ?_
  refine a_getr (r := 82) (pc := 1) (dk D 1 rfl) cls_9 fl_RX9_15 cf_81_1 ?_
  refine a_iconst (pc := 4) (dk D 2 rfl) (ik rfl) ?_
  refine a_callSv (as := [rv 83, iv (-1)]) (st := []) (pc := 5) (dk D 3 rfl) cl_RX9_22 ⟨Nat.le_of_ble_eq_true rfl, Nat.le_of_ble_eq_true rfl⟩ ⟨Nat.le_of_ble_eq_true rfl, Nat.le_of_ble_eq_true rfl⟩ rfl rfl rfl (Nat.le_of_ble_eq_true rfl) (Call.mono H fun _ h2 H => ?_)
  refine a_aload_n (pc := 8) (dk D 4 rfl) rfl ?_
  refine a_getr (r := 81) (pc := 9) (dk D 5 rfl) cls_9 fl_RX9_11 cf_81_0 ?_
  refine a_iload_n (pc := 12) (dk D 6 rfl) rfl ?_
  refine a_zald (pc := 13) (dk D 7 rfl) ar_82 ⟨H.1, ?_⟩
  replace H := H.2
  refine a_if_ne (pc := 14) (dk D 8 rfl) (tgt := 26) rfl ⟨fun c => ?_, fun c => ?_⟩
  · replace H := H.1 c
    refine a_iconst (pc := 26) (dk D 14 rfl) (ik rfl) ?_
    exact a_iret (pc := 27) (dk D 15 rfl) rfl rfl H
  · replace H := H.2 c
    refine a_aload_n (pc := 17) (dk D 9 rfl) rfl ?_
    refine a_getr (r := 81) (pc := 18) (dk D 10 rfl) cls_9 fl_RX9_11 cf_81_0 ?_
    refine a_iload_n (pc := 21) (dk D 11 rfl) rfl ?_
    refine a_zald (pc := 22) (dk D 12 rfl) ar_82 ⟨H.1, ?_⟩
    replace H := H.2
    refine a_if_eq (pc := 23) (dk D 13 rfl) (tgt := 28) rfl ⟨fun c => ?_, fun c => ?_⟩
    · replace H := H.1 c
      refine a_aload_n (pc := 28) (dk D 16 rfl) rfl ?_
      refine a_getr (r := 82) (pc := 29) (dk D 17 rfl) cls_9 fl_RX9_15 cf_81_1 ?_
      refine a_iload_n (pc := 32) (dk D 18 rfl) rfl ?_
      refine a_iconst (pc := 33) (dk D 19 rfl) (ik rfl) ?_
      refine a_iast (pc := 34) (dk D 20 rfl) ar_83 ⟨H.1, ?_⟩
      replace H := H.2
      refine a_aload_n (pc := 35) (dk D 21 rfl) rfl ?_
      refine a_getr (r := 83) (pc := 36) (dk D 22 rfl) cls_9 fl_RX9_19 cf_81_2 ?_
      refine a_iconst (pc := 39) (dk D 23 rfl) (ik rfl) ?_
      refine a_iload_n (pc := 40) (dk D 24 rfl) rfl ?_
      refine a_iast (pc := 41) (dk D 25 rfl) ar_84 ⟨⟨by decide, by decide⟩, ?_⟩
      refine a_iconst (pc := 42) (dk D 26 rfl) (ik rfl) ?_
      refine a_istore_n (pc := 43) (dk D 27 rfl) (by decide) rfl rfl ?_
      refine a_iconst (pc := 44) (dk D 28 rfl) (ik rfl) ?_
      refine a_istore (pc := 45) (dk D 29 rfl) (by decide) rfl rfl ?_
      exact a_pick [0, 1, 3, 4] rfl H
    · replace H := H.2 c
      refine a_iconst (pc := 26) (dk D 14 rfl) (ik rfl) ?_
      exact a_iret (pc := 27) (dk D 15 rfl) rfl rfl H
set_option maxHeartbeats 40000000 in
theorem T_X9_turnsTo_81_47 {G : GG} {Φ : Int → Hp → Prop} {h : Hp} {x1 : Int} {x3 : Int} {x4 : Int} (H : ((x3 ≤ x4 → (0 ≤ x1 ∧ x1 < 288) ∧ Φ (h 83 x1) h) ∧ (x4 < x3 → ((288 ≤ x4 → (0 ≤ x1 ∧ x1 < 288) ∧ Φ (h 83 x1) h) ∧ (x4 < 288 → (0 ≤ x1 ∧ x1 < 288) ∧ (((h 83 x1) ≠ (-1) → (0 ≤ x1 ∧ x1 < 288) ∧ Φ (h 83 x1) h) ∧ ((h 83 x1) = (-1) → AT G m_X9_turnsTo 74 [(0, rv 81), (1, iv x1), (3, iv x3), (4, iv x4), (5, iv 0)] [] h Φ))))))) : AT G m_X9_turnsTo 47 [(0, rv 81), (1, iv x1), (3, iv x3), (4, iv x4)] [] h Φ := by
  have D := dt_X9_turnsTo
  refine a_iload (pc := 47) (dk D 30 rfl) rfl ?_
  refine a_iload_n (pc := 49) (dk D 31 rfl) rfl ?_
  refine a_icmp_ge (pc := 50) (dk D 32 rfl) (tgt := 172) rfl ⟨fun c => ?_, fun c => ?_⟩
  · replace H := H.1 c
    refine a_aload_n (pc := 172) (dk D 94 rfl) rfl ?_
    refine a_getr (r := 82) (pc := 173) (dk D 95 rfl) cls_9 fl_RX9_15 cf_81_1 ?_
    refine a_iload_n (pc := 176) (dk D 96 rfl) rfl ?_
    refine a_iald (pc := 177) (dk D 97 rfl) ar_83 ⟨H.1, ?_⟩
    replace H := H.2
    exact a_iret (pc := 178) (dk D 98 rfl) rfl rfl H
  · replace H := H.2 c
    refine a_iload (pc := 53) (dk D 33 rfl) rfl ?_
    refine a_sipush (pc := 55) (dk D 34 rfl) (ik rfl) (spk rfl) ?_
    refine a_icmp_ge (pc := 58) (dk D 35 rfl) (tgt := 172) rfl ⟨fun c => ?_, fun c => ?_⟩
    · replace H := H.1 c
      refine a_aload_n (pc := 172) (dk D 94 rfl) rfl ?_
      refine a_getr (r := 82) (pc := 173) (dk D 95 rfl) cls_9 fl_RX9_15 cf_81_1 ?_
      refine a_iload_n (pc := 176) (dk D 96 rfl) rfl ?_
      refine a_iald (pc := 177) (dk D 97 rfl) ar_83 ⟨H.1, ?_⟩
      replace H := H.2
      exact a_iret (pc := 178) (dk D 98 rfl) rfl rfl H
    · replace H := H.2 c
      refine a_aload_n (pc := 61) (dk D 36 rfl) rfl ?_
      refine a_getr (r := 82) (pc := 62) (dk D 37 rfl) cls_9 fl_RX9_15 cf_81_1 ?_
      refine a_iload_n (pc := 65) (dk D 38 rfl) rfl ?_
      refine a_iald (pc := 66) (dk D 39 rfl) ar_83 ⟨H.1, ?_⟩
      replace H := H.2
      refine a_iconst (pc := 67) (dk D 40 rfl) (ik rfl) ?_
      refine a_icmp_ne (pc := 68) (dk D 41 rfl) (tgt := 172) rfl ⟨fun c => ?_, fun c => ?_⟩
      · replace H := H.1 c
        refine a_aload_n (pc := 172) (dk D 94 rfl) rfl ?_
        refine a_getr (r := 82) (pc := 173) (dk D 95 rfl) cls_9 fl_RX9_15 cf_81_1 ?_
        refine a_iload_n (pc := 176) (dk D 96 rfl) rfl ?_
        refine a_iald (pc := 177) (dk D 97 rfl) ar_83 ⟨H.1, ?_⟩
        replace H := H.2
        exact a_iret (pc := 178) (dk D 98 rfl) rfl rfl H
      · replace H := H.2 c
        refine a_iconst (pc := 71) (dk D 42 rfl) (ik rfl) ?_
        refine a_istore (pc := 72) (dk D 43 rfl) (by decide) rfl rfl ?_
        exact a_pick [0, 1, 2, 3, 4] rfl H
set_option maxHeartbeats 40000000 in
theorem T_X9_turnsTo_81_74 {G : GG} {Φ : Int → Hp → Prop} {h : Hp} {x1 : Int} {x3 : Int} {x4 : Int} {x5 : Int} (H : ((4 ≤ x5 → AT G m_X9_turnsTo 47 [(0, rv 81), (1, iv x1), (3, iv x3), (4, iv (w32 (x4 + 1)))] [] h Φ) ∧ (x5 < 4 → (0 ≤ x4 ∧ x4 < 288) ∧ Call G m_X9_neighbour [iv (h 84 x4), iv x5] h (fun r1 h2 => ((r1 = (-1) → AT G m_X9_turnsTo 74 [(0, rv 81), (1, iv x1), (3, iv x3), (4, iv x4), (5, iv (w32 (x5 + 1)))] [] h2 Φ) ∧ (r1 ≠ (-1) → (0 ≤ r1 ∧ r1 < 288) ∧ (((h2 82 r1) ≠ 0 → AT G m_X9_turnsTo 74 [(0, rv 81), (1, iv x1), (3, iv x3), (4, iv x4), (5, iv (w32 (x5 + 1)))] [] h2 Φ) ∧ ((h2 82 r1) = 0 → (0 ≤ r1 ∧ r1 < 288) ∧ (((h2 83 r1) ≠ (-1) → AT G m_X9_turnsTo 74 [(0, rv 81), (1, iv x1), (3, iv x3), (4, iv x4), (5, iv (w32 (x5 + 1)))] [] h2 Φ) ∧ ((h2 83 r1) = (-1) → ((288 ≤ x3 → AT G m_X9_turnsTo 74 [(0, rv 81), (1, iv x1), (3, iv x3), (4, iv x4), (5, iv (w32 (x5 + 1)))] [] h2 Φ) ∧ (x3 < 288 → (0 ≤ x4 ∧ x4 < 288) ∧ (0 ≤ (h2 84 x4) ∧ (h2 84 x4) < 288) ∧ (0 ≤ r1 ∧ r1 < 288) ∧ (0 ≤ x3 ∧ x3 < 288) ∧ AT G m_X9_turnsTo 74 [(0, rv 81), (1, iv x1), (3, iv (w32 (x3 + 1))), (4, iv x4), (5, iv (w32 (x5 + 1)))] [] (up (up h2 83 r1 (w32 ((h2 83 (h2 84 x4)) + 1))) 84 x3 r1) Φ)))))))))))) : AT G m_X9_turnsTo 74 [(0, rv 81), (1, iv x1), (3, iv x3), (4, iv x4), (5, iv x5)] [] h Φ := by
  have D := dt_X9_turnsTo
  refine a_iload (pc := 74) (dk D 44 rfl) rfl ?_
  refine a_iconst (pc := 76) (dk D 45 rfl) (ik rfl) ?_
  refine a_icmp_ge (pc := 77) (dk D 46 rfl) (tgt := 166) rfl ⟨fun c => ?_, fun c => ?_⟩
  · replace H := H.1 c
    refine a_iinc (pc := 166) (dk D 92 rfl) (by decide) rfl rfl rfl ?_
    refine a_goto (pc := 169) (dk D 93 rfl) (tgt := 47) rfl ?_
    exact a_pick [0, 1, 2, 3] rfl H
  · replace H := H.2 c
    refine a_aload_n (pc := 80) (dk D 47 rfl) rfl ?_
    refine a_getr (r := 83) (pc := 81) (dk D 48 rfl) cls_9 fl_RX9_19 cf_81_2 ?_
    refine a_iload (pc := 84) (dk D 49 rfl) rfl ?_
    refine a_iald (pc := 86) (dk D 50 rfl) ar_84 ⟨H.1, ?_⟩
    replace H := H.2
    refine a_iload (pc := 87) (dk D 51 rfl) rfl ?_
    refine a_callSi (as := [iv (h 84 x4), iv x5]) (st := []) (pc := 89) (dk D 52 rfl) cl_RX9_28 ⟨Nat.le_of_ble_eq_true rfl, Nat.le_of_ble_eq_true rfl⟩ ⟨Nat.le_of_ble_eq_true rfl, Nat.le_of_ble_eq_true rfl⟩ rfl rfl rfl (Nat.le_of_ble_eq_true rfl) (Call.mono H fun r1 h2 H => ?_)
    refine a_istore (pc := 92) (dk D 53 rfl) (by decide) rfl rfl ?_
    refine a_iload (pc := 94) (dk D 54 rfl) rfl ?_
    refine a_iconst (pc := 96) (dk D 55 rfl) (ik rfl) ?_
    refine a_icmp_eq (pc := 97) (dk D 56 rfl) (tgt := 160) rfl ⟨fun c => ?_, fun c => ?_⟩
    · replace H := H.1 c
      refine a_iinc (pc := 160) (dk D 90 rfl) (by decide) rfl rfl rfl ?_
      refine a_goto (pc := 163) (dk D 91 rfl) (tgt := 74) rfl ?_
      exact a_pick [0, 1, 2, 3, 4] rfl H
    · replace H := H.2 c
      refine a_aload_n (pc := 100) (dk D 57 rfl) rfl ?_
      refine a_getr (r := 81) (pc := 101) (dk D 58 rfl) cls_9 fl_RX9_11 cf_81_0 ?_
      refine a_iload (pc := 104) (dk D 59 rfl) rfl ?_
      refine a_zald (pc := 106) (dk D 60 rfl) ar_82 ⟨H.1, ?_⟩
      replace H := H.2
      refine a_if_ne (pc := 107) (dk D 61 rfl) (tgt := 160) rfl ⟨fun c => ?_, fun c => ?_⟩
      · replace H := H.1 c
        refine a_iinc (pc := 160) (dk D 90 rfl) (by decide) rfl rfl rfl ?_
        refine a_goto (pc := 163) (dk D 91 rfl) (tgt := 74) rfl ?_
        exact a_pick [0, 1, 2, 3, 4] rfl H
      · replace H := H.2 c
        refine a_aload_n (pc := 110) (dk D 62 rfl) rfl ?_
        refine a_getr (r := 82) (pc := 111) (dk D 63 rfl) cls_9 fl_RX9_15 cf_81_1 ?_
        refine a_iload (pc := 114) (dk D 64 rfl) rfl ?_
        refine a_iald (pc := 116) (dk D 65 rfl) ar_83 ⟨H.1, ?_⟩
        replace H := H.2
        refine a_iconst (pc := 117) (dk D 66 rfl) (ik rfl) ?_
        refine a_icmp_ne (pc := 118) (dk D 67 rfl) (tgt := 160) rfl ⟨fun c => ?_, fun c => ?_⟩
        · replace H := H.1 c
          refine a_iinc (pc := 160) (dk D 90 rfl) (by decide) rfl rfl rfl ?_
          refine a_goto (pc := 163) (dk D 91 rfl) (tgt := 74) rfl ?_
          exact a_pick [0, 1, 2, 3, 4] rfl H
        · replace H := H.2 c
          refine a_iload_n (pc := 121) (dk D 68 rfl) rfl ?_
          refine a_sipush (pc := 122) (dk D 69 rfl) (ik rfl) (spk rfl) ?_
          refine a_icmp_ge (pc := 125) (dk D 70 rfl) (tgt := 160) rfl ⟨fun c => ?_, fun c => ?_⟩
          · replace H := H.1 c
            refine a_iinc (pc := 160) (dk D 90 rfl) (by decide) rfl rfl rfl ?_
            refine a_goto (pc := 163) (dk D 91 rfl) (tgt := 74) rfl ?_
            exact a_pick [0, 1, 2, 3, 4] rfl H
          · replace H := H.2 c
            refine a_aload_n (pc := 128) (dk D 71 rfl) rfl ?_
            refine a_getr (r := 82) (pc := 129) (dk D 72 rfl) cls_9 fl_RX9_15 cf_81_1 ?_
            refine a_iload (pc := 132) (dk D 73 rfl) rfl ?_
            refine a_aload_n (pc := 134) (dk D 74 rfl) rfl ?_
            refine a_getr (r := 82) (pc := 135) (dk D 75 rfl) cls_9 fl_RX9_15 cf_81_1 ?_
            refine a_aload_n (pc := 138) (dk D 76 rfl) rfl ?_
            refine a_getr (r := 83) (pc := 139) (dk D 77 rfl) cls_9 fl_RX9_19 cf_81_2 ?_
            refine a_iload (pc := 142) (dk D 78 rfl) rfl ?_
            refine a_iald (pc := 144) (dk D 79 rfl) ar_84 ⟨H.1, ?_⟩
            replace H := H.2
            refine a_iald (pc := 145) (dk D 80 rfl) ar_83 ⟨H.1, ?_⟩
            replace H := H.2
            refine a_iconst (pc := 146) (dk D 81 rfl) (ik rfl) ?_
            refine a_iadd (pc := 147) (dk D 82 rfl) ?_
            refine a_iast (pc := 148) (dk D 83 rfl) ar_83 ⟨H.1, ?_⟩
            replace H := H.2
            refine a_aload_n (pc := 149) (dk D 84 rfl) rfl ?_
            refine a_getr (r := 83) (pc := 150) (dk D 85 rfl) cls_9 fl_RX9_19 cf_81_2 ?_
            refine a_iload_n (pc := 153) (dk D 86 rfl) rfl ?_
            refine a_iload (pc := 154) (dk D 87 rfl) rfl ?_
            refine a_iast (pc := 156) (dk D 88 rfl) ar_84 ⟨H.1, ?_⟩
            replace H := H.2
            refine a_iinc (pc := 157) (dk D 89 rfl) (by decide) rfl rfl rfl ?_
            refine a_iinc (pc := 160) (dk D 90 rfl) (by decide) rfl rfl rfl ?_
            refine a_goto (pc := 163) (dk D 91 rfl) (tgt := 74) rfl ?_
            exact a_pick [0, 1, 2, 3, 4] rfl H
set_option maxHeartbeats 40000000 in
theorem T_X9_writeTurns_81_11_0 {G : GG} {Φ : Int → Hp → Prop} {h : Hp} {x1 : Int} {x2 : Int} (H : AT G m_X9_writeTurns 6 [(0, rv 81), (2, iv x2), (3, rv 11), (4, iv x1), (5, iv 0)] [] h Φ) : AT G m_X9_writeTurns 0 [(0, rv 81), (1, iv x1), (2, iv x2), (3, rv 11)] [] h Φ := by
  have D := dt_X9_writeTurns
  refine a_iload_n (pc := 0) (dk D 0 rfl) rfl ?_
  refine a_istore (pc := 1) (dk D 1 rfl) (by decide) rfl rfl ?_
  refine a_iconst (pc := 3) (dk D 2 rfl) (ik rfl) ?_
  refine a_istore (pc := 4) (dk D 3 rfl) (by decide) rfl rfl ?_
  exact a_pick [0, 2, 3, 4, 5] rfl H
set_option maxHeartbeats 40000000 in
theorem T_X9_writeTurns_81_11_6 {G : GG} {Φ : Int → Hp → Prop} {h : Hp} {x2 : Int} {x4 : Int} {x5 : Int} (H : ((x2 ≤ x5 → Φ 0 h) ∧ (x5 < x2 → AT G m_X9_writeTurns 15 [(0, rv 81), (2, iv x2), (3, rv 11), (4, iv x4), (5, iv x5), (6, iv 0)] [] h Φ))) : AT G m_X9_writeTurns 6 [(0, rv 81), (2, iv x2), (3, rv 11), (4, iv x4), (5, iv x5)] [] h Φ := by
  have D := dt_X9_writeTurns
  refine a_iload (pc := 6) (dk D 4 rfl) rfl ?_
  refine a_iload_n (pc := 8) (dk D 5 rfl) rfl ?_
  refine a_icmp_ge (pc := 9) (dk D 6 rfl) (tgt := 70) rfl ⟨fun c => ?_, fun c => ?_⟩
  · replace H := H.1 c
    exact a_vret (pc := 70) (dk D 35 rfl) rfl rfl H
  · replace H := H.2 c
    refine a_iconst (pc := 12) (dk D 7 rfl) (ik rfl) ?_
    refine a_istore (pc := 13) (dk D 8 rfl) (by decide) rfl rfl ?_
    exact a_pick [0, 1, 2, 3, 4, 5] rfl H
set_option maxHeartbeats 40000000 in
theorem T_X9_writeTurns_81_11_15 {G : GG} {Φ : Int → Hp → Prop} {h : Hp} {x2 : Int} {x4 : Int} {x5 : Int} {x6 : Int} (H : ((3 ≤ x6 → (0 ≤ x6 ∧ x6 < 4) ∧ (0 ≤ x5 ∧ x5 < 288) ∧ Call G m_X9_neighbour [iv x4, iv x6] (up h 11 x5 (xc 903 x6)) (fun r1 h2 => AT G m_X9_writeTurns 6 [(0, rv 81), (2, iv x2), (3, rv 11), (4, iv r1), (5, iv (w32 (x5 + 1)))] [] h2 Φ)) ∧ (x6 < 3 → Call G m_X9_neighbour [iv x4, iv x6] h (fun r3 h4 => Call G m_X9_isNearer [rv 81, iv r3, iv (w32 (x2 - x5))] h4 (fun r5 h6 => ((r5 ≠ 0 → (0 ≤ x6 ∧ x6 < 4) ∧ (0 ≤ x5 ∧ x5 < 288) ∧ Call G m_X9_neighbour [iv x4, iv x6] (up h6 11 x5 (xc 903 x6)) (fun r7 h8 => AT G m_X9_writeTurns 6 [(0, rv 81), (2, iv x2), (3, rv 11), (4, iv r7), (5, iv (w32 (x5 + 1)))] [] h8 Φ)) ∧ (r5 = 0 → AT G m_X9_writeTurns 15 [(0, rv 81), (2, iv x2), (3, rv 11), (4, iv x4), (5, iv x5), (6, iv (w32 (x6 + 1)))] [] h6 Φ))))))) : AT G m_X9_writeTurns 15 [(0, rv 81), (2, iv x2), (3, rv 11), (4, iv x4), (5, iv x5), (6, iv x6)] [] h Φ := by
  have D := dt_X9_writeTurns
  refine a_iload (pc := 15) (dk D 9 rfl) rfl ?_
  refine a_iconst (pc := 17) (dk D 10 rfl) (ik rfl) ?_
  refine a_icmp_ge (pc := 18) (dk D 11 rfl) (tgt := 45) rfl ⟨fun c => ?_, fun c => ?_⟩
  · replace H := H.1 c
    refine a_aload_n (pc := 45) (dk D 23 rfl) rfl ?_
    refine a_iload (pc := 46) (dk D 24 rfl) rfl ?_
    refine a_gst903 (pc := 48) (dk D 25 rfl) fs_RX9_36 ?_
    refine a_iload (pc := 51) (dk D 26 rfl) rfl ?_
    refine a_xcald (pc := 53) (dk D 27 rfl) ⟨H.1, ?_⟩
    replace H := H.2
    refine a_iast (pc := 54) (dk D 28 rfl) ar_11 ⟨H.1, ?_⟩
    replace H := H.2
    refine a_iload (pc := 55) (dk D 29 rfl) rfl ?_
    refine a_iload (pc := 57) (dk D 30 rfl) rfl ?_
    refine a_callSi (as := [iv x4, iv x6]) (st := []) (pc := 59) (dk D 31 rfl) cl_RX9_28 ⟨Nat.le_of_ble_eq_true rfl, Nat.le_of_ble_eq_true rfl⟩ ⟨Nat.le_of_ble_eq_true rfl, Nat.le_of_ble_eq_true rfl⟩ rfl rfl rfl (Nat.le_of_ble_eq_true rfl) (Call.mono H fun r1 h2 H => ?_)
    refine a_istore (pc := 62) (dk D 32 rfl) (by decide) rfl rfl ?_
    refine a_iinc (pc := 64) (dk D 33 rfl) (by decide) rfl rfl rfl ?_
    refine a_goto (pc := 67) (dk D 34 rfl) (tgt := 6) rfl ?_
    exact a_pick [0, 1, 2, 3, 4] rfl H
  · replace H := H.2 c
    refine a_aload_n (pc := 21) (dk D 12 rfl) rfl ?_
    refine a_iload (pc := 22) (dk D 13 rfl) rfl ?_
    refine a_iload (pc := 24) (dk D 14 rfl) rfl ?_
    refine a_callSi (as := [iv x4, iv x6]) (st := [rv 81]) (pc := 26) (dk D 15 rfl) cl_RX9_28 ⟨Nat.le_of_ble_eq_true rfl, Nat.le_of_ble_eq_true rfl⟩ ⟨Nat.le_of_ble_eq_true rfl, Nat.le_of_ble_eq_true rfl⟩ rfl rfl rfl (Nat.le_of_ble_eq_true rfl) (Call.mono H fun r3 h4 H => ?_)
    refine a_iload_n (pc := 29) (dk D 16 rfl) rfl ?_
    refine a_iload (pc := 30) (dk D 17 rfl) rfl ?_
    refine a_isub (pc := 32) (dk D 18 rfl) ?_
    refine a_callVi (as := [iv r3, iv (w32 (x2 - x5))]) (st := []) (pc := 33) (dk D 19 rfl) cl_RX9_32 ⟨Nat.le_of_ble_eq_true rfl, Nat.le_of_ble_eq_true rfl⟩ ⟨Nat.le_of_ble_eq_true rfl, Nat.le_of_ble_eq_true rfl⟩ cls_9 rfl cc_81 rfl rfl rfl (Nat.le_of_ble_eq_true rfl) (Call.mono H fun r5 h6 H => ?_)
    refine a_if_ne (pc := 36) (dk D 20 rfl) (tgt := 45) rfl ⟨fun c => ?_, fun c => ?_⟩
    · replace H := H.1 c
      refine a_aload_n (pc := 45) (dk D 23 rfl) rfl ?_
      refine a_iload (pc := 46) (dk D 24 rfl) rfl ?_
      refine a_gst903 (pc := 48) (dk D 25 rfl) fs_RX9_36 ?_
      refine a_iload (pc := 51) (dk D 26 rfl) rfl ?_
      refine a_xcald (pc := 53) (dk D 27 rfl) ⟨H.1, ?_⟩
      replace H := H.2
      refine a_iast (pc := 54) (dk D 28 rfl) ar_11 ⟨H.1, ?_⟩
      replace H := H.2
      refine a_iload (pc := 55) (dk D 29 rfl) rfl ?_
      refine a_iload (pc := 57) (dk D 30 rfl) rfl ?_
      refine a_callSi (as := [iv x4, iv x6]) (st := []) (pc := 59) (dk D 31 rfl) cl_RX9_28 ⟨Nat.le_of_ble_eq_true rfl, Nat.le_of_ble_eq_true rfl⟩ ⟨Nat.le_of_ble_eq_true rfl, Nat.le_of_ble_eq_true rfl⟩ rfl rfl rfl (Nat.le_of_ble_eq_true rfl) (Call.mono H fun r7 h8 H => ?_)
      refine a_istore (pc := 62) (dk D 32 rfl) (by decide) rfl rfl ?_
      refine a_iinc (pc := 64) (dk D 33 rfl) (by decide) rfl rfl rfl ?_
      refine a_goto (pc := 67) (dk D 34 rfl) (tgt := 6) rfl ?_
      exact a_pick [0, 1, 2, 3, 4] rfl H
    · replace H := H.2 c
      refine a_iinc (pc := 39) (dk D 21 rfl) (by decide) rfl rfl rfl ?_
      refine a_goto (pc := 42) (dk D 22 rfl) (tgt := 15) rfl ?_
      exact a_pick [0, 1, 2, 3, 4, 5] rfl H
set_option maxHeartbeats 40000000 in
theorem T_X9_neighbour_0 {G : GG} {Φ : Int → Hp → Prop} {h : Hp} {x0 : Int} {x1 : Int} (H : (((x1 = 0) → (((w32 (x0.tdiv 24)) ≤ 0 → Φ (-1) h) ∧ (0 < (w32 (x0.tdiv 24)) → Φ (w32 (x0 - 24)) h))) ∧ ((x1 = 1) → Φ (w32 ((w32 ((w32 (x0.tdiv 24)) * 24)) + ((w32 ((w32 ((x0.tmod 24) + 24)) - 1)).tmod 24))) h) ∧ ((x1 = 2) → Φ (w32 ((w32 ((w32 (x0.tdiv 24)) * 24)) + ((w32 ((x0.tmod 24) + 1)).tmod 24))) h) ∧ (((x1 < 0 ∨ 2 < x1)) → ((11 ≤ (w32 (x0.tdiv 24)) → Φ (-1) h) ∧ ((w32 (x0.tdiv 24)) < 11 → Φ (w32 (x0 + 24)) h))))) : AT G m_X9_neighbour 0 [(0, iv x0), (1, iv x1)] [] h Φ := by
  have D := dt_X9_neighbour
  refine a_iload_n (pc := 0) (dk D 0 rfl) rfl ?_
  refine a_bipush (pc := 1) (dk D 1 rfl) (ik rfl) (bpk rfl) ?_
  refine a_idiv (pc := 3) (dk D 2 rfl) ⟨by decide, ?_⟩
  refine a_istore_n (pc := 4) (dk D 3 rfl) (by decide) rfl rfl ?_
  refine a_iload_n (pc := 5) (dk D 4 rfl) rfl ?_
  refine a_bipush (pc := 6) (dk D 5 rfl) (ik rfl) (bpk rfl) ?_
  refine a_irem (pc := 8) (dk D 6 rfl) ⟨by decide, ?_⟩
  refine a_istore_n (pc := 9) (dk D 7 rfl) (by decide) rfl rfl ?_
  refine a_iload_n (pc := 10) (dk D 8 rfl) rfl ?_
  have B0 : (x1 = 0) → AT G m_X9_neighbour 36 [(0, iv x0), (1, iv x1), (2, iv (w32 (x0.tdiv 24))), (3, iv (x0.tmod 24))] [] h Φ := by
    intro c
    replace H := H.1 c
    refine a_iload_n (pc := 36) (dk D 10 rfl) rfl ?_
    refine a_if_le (pc := 37) (dk D 11 rfl) (tgt := 47) rfl ⟨fun c => ?_, fun c => ?_⟩
    · replace H := H.1 c
      refine a_iconst (pc := 47) (dk D 16 rfl) (ik rfl) ?_
      exact a_iret (pc := 48) (dk D 17 rfl) rfl rfl H
    · replace H := H.2 c
      refine a_iload_n (pc := 40) (dk D 12 rfl) rfl ?_
      refine a_bipush (pc := 41) (dk D 13 rfl) (ik rfl) (bpk rfl) ?_
      refine a_isub (pc := 43) (dk D 14 rfl) ?_
      refine a_goto (pc := 44) (dk D 15 rfl) (tgt := 48) rfl ?_
      exact a_iret (pc := 48) (dk D 17 rfl) rfl rfl H
  have B1 : (x1 = 1) → AT G m_X9_neighbour 49 [(0, iv x0), (1, iv x1), (2, iv (w32 (x0.tdiv 24))), (3, iv (x0.tmod 24))] [] h Φ := by
    intro c
    replace H := H.2.1 c
    refine a_iload_n (pc := 49) (dk D 18 rfl) rfl ?_
    refine a_bipush (pc := 50) (dk D 19 rfl) (ik rfl) (bpk rfl) ?_
    refine a_imul (pc := 52) (dk D 20 rfl) ?_
    refine a_iload_n (pc := 53) (dk D 21 rfl) rfl ?_
    refine a_bipush (pc := 54) (dk D 22 rfl) (ik rfl) (bpk rfl) ?_
    refine a_iadd (pc := 56) (dk D 23 rfl) ?_
    refine a_iconst (pc := 57) (dk D 24 rfl) (ik rfl) ?_
    refine a_isub (pc := 58) (dk D 25 rfl) ?_
    refine a_bipush (pc := 59) (dk D 26 rfl) (ik rfl) (bpk rfl) ?_
    refine a_irem (pc := 61) (dk D 27 rfl) ⟨by decide, ?_⟩
    refine a_iadd (pc := 62) (dk D 28 rfl) ?_
    exact a_iret (pc := 63) (dk D 29 rfl) rfl rfl H
  have B2 : (x1 = 2) → AT G m_X9_neighbour 64 [(0, iv x0), (1, iv x1), (2, iv (w32 (x0.tdiv 24))), (3, iv (x0.tmod 24))] [] h Φ := by
    intro c
    replace H := H.2.2.1 c
    refine a_iload_n (pc := 64) (dk D 30 rfl) rfl ?_
    refine a_bipush (pc := 65) (dk D 31 rfl) (ik rfl) (bpk rfl) ?_
    refine a_imul (pc := 67) (dk D 32 rfl) ?_
    refine a_iload_n (pc := 68) (dk D 33 rfl) rfl ?_
    refine a_iconst (pc := 69) (dk D 34 rfl) (ik rfl) ?_
    refine a_iadd (pc := 70) (dk D 35 rfl) ?_
    refine a_bipush (pc := 71) (dk D 36 rfl) (ik rfl) (bpk rfl) ?_
    refine a_irem (pc := 73) (dk D 37 rfl) ⟨by decide, ?_⟩
    refine a_iadd (pc := 74) (dk D 38 rfl) ?_
    exact a_iret (pc := 75) (dk D 39 rfl) rfl rfl H
  have BD : ((x1 < 0 ∨ 2 < x1)) → AT G m_X9_neighbour 76 [(0, iv x0), (1, iv x1), (2, iv (w32 (x0.tdiv 24))), (3, iv (x0.tmod 24))] [] h Φ := by
    intro c
    replace H := H.2.2.2 c
    refine a_iload_n (pc := 76) (dk D 40 rfl) rfl ?_
    refine a_bipush (pc := 77) (dk D 41 rfl) (ik rfl) (bpk rfl) ?_
    refine a_icmp_ge (pc := 79) (dk D 42 rfl) (tgt := 89) rfl ⟨fun c => ?_, fun c => ?_⟩
    · replace H := H.1 c
      refine a_iconst (pc := 89) (dk D 47 rfl) (ik rfl) ?_
      exact a_iret (pc := 90) (dk D 48 rfl) rfl rfl H
    · replace H := H.2 c
      refine a_iload_n (pc := 82) (dk D 43 rfl) rfl ?_
      refine a_bipush (pc := 83) (dk D 44 rfl) (ik rfl) (bpk rfl) ?_
      refine a_iadd (pc := 85) (dk D 45 rfl) ?_
      refine a_goto (pc := 86) (dk D 46 rfl) (tgt := 90) rfl ?_
      exact a_iret (pc := 90) (dk D 48 rfl) rfl rfl H
  exact a_tsw [36, 49, 64] (pc := 11) (dk D 9 rfl) (by decide) (dt := 76) rfl (by decide) ⟨⟨fun c => B0 (c), fun c => B1 (c), fun c => B2 (c), trivial⟩, fun c => BD (c)⟩
set_option maxHeartbeats 40000000 in
theorem T_X9_isNearer_81_0 {G : GG} {Φ : Int → Hp → Prop} {h : Hp} {x1 : Int} {x2 : Int} (H : ((x1 = (-1) → Φ 0 h) ∧ (x1 ≠ (-1) → (0 ≤ x1 ∧ x1 < 288) ∧ (((h 83 x1) ≠ (w32 (x2 - 1)) → Φ 0 h) ∧ ((h 83 x1) = (w32 (x2 - 1)) → Φ 1 h))))) : AT G m_X9_isNearer 0 [(0, rv 81), (1, iv x1), (2, iv x2)] [] h Φ := by
  have D := dt_X9_isNearer
  refine a_iload_n (pc := 0) (dk D 0 rfl) rfl ?_
  refine a_iconst (pc := 1) (dk D 1 rfl) (ik rfl) ?_
  refine a_icmp_eq (pc := 2) (dk D 2 rfl) (tgt := 21) rfl ⟨fun c => ?_, fun c => ?_⟩
  · replace H := H.1 c
    refine a_iconst (pc := 21) (dk D 13 rfl) (ik rfl) ?_
    exact a_zret (pc := 22) (dk D 14 rfl) rfl rfl ⟨by decide, H⟩
  · replace H := H.2 c
    refine a_aload_n (pc := 5) (dk D 3 rfl) rfl ?_
    refine a_getr (r := 82) (pc := 6) (dk D 4 rfl) cls_9 fl_RX9_15 cf_81_1 ?_
    refine a_iload_n (pc := 9) (dk D 5 rfl) rfl ?_
    refine a_iald (pc := 10) (dk D 6 rfl) ar_83 ⟨H.1, ?_⟩
    replace H := H.2
    refine a_iload_n (pc := 11) (dk D 7 rfl) rfl ?_
    refine a_iconst (pc := 12) (dk D 8 rfl) (ik rfl) ?_
    refine a_isub (pc := 13) (dk D 9 rfl) ?_
    refine a_icmp_ne (pc := 14) (dk D 10 rfl) (tgt := 21) rfl ⟨fun c => ?_, fun c => ?_⟩
    · replace H := H.1 c
      refine a_iconst (pc := 21) (dk D 13 rfl) (ik rfl) ?_
      exact a_zret (pc := 22) (dk D 14 rfl) rfl rfl ⟨by decide, H⟩
    · replace H := H.2 c
      refine a_iconst (pc := 17) (dk D 11 rfl) (ik rfl) ?_
      refine a_goto (pc := 18) (dk D 12 rfl) (tgt := 22) rfl ?_
      exact a_zret (pc := 22) (dk D 14 rfl) rfl rfl ⟨by decide, H⟩
set_option maxHeartbeats 40000000 in
theorem T_X11_feed_1_0 {G : GG} {Φ : Int → Hp → Prop} {h : Hp} {x1 : Int} {x2 : Int} {x3 : Int} {x4 : Int} {x5 : Int} (H : (((w32 ((h 2 1) + 20)) ≤ 1600 → Call G m_X10_append [rv 2, iv x1] h (fun _ h2 => Call G m_X10_append [rv 2, iv x2] h2 (fun _ h4 => Call G m_X10_append [rv 2, iv x3] h4 (fun _ h6 => Call G m_X10_append [rv 2, iv x4] h6 (fun _ h8 => Call G m_X10_append [rv 2, iv x5] h8 (fun _ h10 => Φ (h10 2 1) h10)))))) ∧ (1600 < (w32 ((h 2 1) + 20)) → Φ (-4) h))) : AT G m_X11_feed 0 [(0, rv 1), (1, iv x1), (2, iv x2), (3, iv x3), (4, iv x4), (5, iv x5)] [] h Φ := by
  have D := dt_X11_feed
  refine a_aload_n (pc := 0) (dk D 0 rfl) rfl ?_
  refine a_getr (r := 1) (pc := 1) (dk D 1 rfl) cls_11 fl_RX11_10 cf_1_0 ?_
  refine a_geti (pc := 4) (dk D 2 rfl) cls_10 fl_RX11_98 cf_2_1 ?_
  refine a_bipush (pc := 7) (dk D 3 rfl) (ik rfl) (bpk rfl) ?_
  refine a_iadd (pc := 9) (dk D 4 rfl) ?_
  refine a_sipush (pc := 10) (dk D 5 rfl) (ik rfl) (spk rfl) ?_
  refine a_icmp_le (pc := 13) (dk D 6 rfl) (tgt := 19) rfl ⟨fun c => ?_, fun c => ?_⟩
  · replace H := H.1 c
    refine a_aload_n (pc := 19) (dk D 9 rfl) rfl ?_
    refine a_getr (r := 1) (pc := 20) (dk D 10 rfl) cls_11 fl_RX11_10 cf_1_0 ?_
    refine a_iload_n (pc := 23) (dk D 11 rfl) rfl ?_
    refine a_callVv (as := [iv x1]) (st := []) (pc := 24) (dk D 12 rfl) cl_RX11_101 ⟨Nat.le_of_ble_eq_true rfl, Nat.le_of_ble_eq_true rfl⟩ ⟨Nat.le_of_ble_eq_true rfl, Nat.le_of_ble_eq_true rfl⟩ cls_10 rfl cc_2 rfl rfl rfl (Nat.le_of_ble_eq_true rfl) (Call.mono H fun _ h2 H => ?_)
    refine a_aload_n (pc := 27) (dk D 13 rfl) rfl ?_
    refine a_getr (r := 1) (pc := 28) (dk D 14 rfl) cls_11 fl_RX11_10 cf_1_0 ?_
    refine a_iload_n (pc := 31) (dk D 15 rfl) rfl ?_
    refine a_callVv (as := [iv x2]) (st := []) (pc := 32) (dk D 16 rfl) cl_RX11_101 ⟨Nat.le_of_ble_eq_true rfl, Nat.le_of_ble_eq_true rfl⟩ ⟨Nat.le_of_ble_eq_true rfl, Nat.le_of_ble_eq_true rfl⟩ cls_10 rfl cc_2 rfl rfl rfl (Nat.le_of_ble_eq_true rfl) (Call.mono H fun _ h4 H => ?_)
    refine a_aload_n (pc := 35) (dk D 17 rfl) rfl ?_
    refine a_getr (r := 1) (pc := 36) (dk D 18 rfl) cls_11 fl_RX11_10 cf_1_0 ?_
    refine a_iload_n (pc := 39) (dk D 19 rfl) rfl ?_
    refine a_callVv (as := [iv x3]) (st := []) (pc := 40) (dk D 20 rfl) cl_RX11_101 ⟨Nat.le_of_ble_eq_true rfl, Nat.le_of_ble_eq_true rfl⟩ ⟨Nat.le_of_ble_eq_true rfl, Nat.le_of_ble_eq_true rfl⟩ cls_10 rfl cc_2 rfl rfl rfl (Nat.le_of_ble_eq_true rfl) (Call.mono H fun _ h6 H => ?_)
    refine a_aload_n (pc := 43) (dk D 21 rfl) rfl ?_
    refine a_getr (r := 1) (pc := 44) (dk D 22 rfl) cls_11 fl_RX11_10 cf_1_0 ?_
    refine a_iload (pc := 47) (dk D 23 rfl) rfl ?_
    refine a_callVv (as := [iv x4]) (st := []) (pc := 49) (dk D 24 rfl) cl_RX11_101 ⟨Nat.le_of_ble_eq_true rfl, Nat.le_of_ble_eq_true rfl⟩ ⟨Nat.le_of_ble_eq_true rfl, Nat.le_of_ble_eq_true rfl⟩ cls_10 rfl cc_2 rfl rfl rfl (Nat.le_of_ble_eq_true rfl) (Call.mono H fun _ h8 H => ?_)
    refine a_aload_n (pc := 52) (dk D 25 rfl) rfl ?_
    refine a_getr (r := 1) (pc := 53) (dk D 26 rfl) cls_11 fl_RX11_10 cf_1_0 ?_
    refine a_iload (pc := 56) (dk D 27 rfl) rfl ?_
    refine a_callVv (as := [iv x5]) (st := []) (pc := 58) (dk D 28 rfl) cl_RX11_101 ⟨Nat.le_of_ble_eq_true rfl, Nat.le_of_ble_eq_true rfl⟩ ⟨Nat.le_of_ble_eq_true rfl, Nat.le_of_ble_eq_true rfl⟩ cls_10 rfl cc_2 rfl rfl rfl (Nat.le_of_ble_eq_true rfl) (Call.mono H fun _ h10 H => ?_)
    refine a_aload_n (pc := 61) (dk D 29 rfl) rfl ?_
    refine a_getr (r := 1) (pc := 62) (dk D 30 rfl) cls_11 fl_RX11_10 cf_1_0 ?_
    refine a_geti (pc := 65) (dk D 31 rfl) cls_10 fl_RX11_98 cf_2_1 ?_
    exact a_iret (pc := 68) (dk D 32 rfl) rfl rfl H
  · replace H := H.2 c
    refine a_bipush (pc := 16) (dk D 7 rfl) (ik rfl) (bpk rfl) ?_
    exact a_iret (pc := 18) (dk D 8 rfl) rfl rfl H
set_option maxHeartbeats 40000000 in
theorem T_X11_end_1_0 {G : GG} {Φ : Int → Hp → Prop} {h : Hp} {x1 : Int} (H : Call G m_X11_within [iv x1, iv 0, iv (h 2 1)] h (fun r1 h2 => ((r1 ≠ 0 → Φ x1 (up h2 2 1 x1)) ∧ (r1 = 0 → Φ (-1) h2)))) : AT G m_X11_end 0 [(0, rv 1), (1, iv x1)] [] h Φ := by
  have D := dt_X11_end
  refine a_iload_n (pc := 0) (dk D 0 rfl) rfl ?_
  refine a_iconst (pc := 1) (dk D 1 rfl) (ik rfl) ?_
  refine a_aload_n (pc := 2) (dk D 2 rfl) rfl ?_
  refine a_getr (r := 1) (pc := 3) (dk D 3 rfl) cls_11 fl_RX11_10 cf_1_0 ?_
  refine a_geti (pc := 6) (dk D 4 rfl) cls_10 fl_RX11_98 cf_2_1 ?_
  refine a_callSi (as := [iv x1, iv 0, iv (h 2 1)]) (st := []) (pc := 9) (dk D 5 rfl) cl_RX11_104 ⟨Nat.le_of_ble_eq_true rfl, Nat.le_of_ble_eq_true rfl⟩ ⟨Nat.le_of_ble_eq_true rfl, Nat.le_of_ble_eq_true rfl⟩ rfl rfl rfl (Nat.le_of_ble_eq_true rfl) (Call.mono H fun r1 h2 H => ?_)
  refine a_if_ne (pc := 12) (dk D 6 rfl) (tgt := 17) rfl ⟨fun c => ?_, fun c => ?_⟩
  · replace H := H.1 c
    refine a_aload_n (pc := 17) (dk D 9 rfl) rfl ?_
    refine a_getr (r := 1) (pc := 18) (dk D 10 rfl) cls_11 fl_RX11_10 cf_1_0 ?_
    refine a_iload_n (pc := 21) (dk D 11 rfl) rfl ?_
    refine a_puti (pc := 22) (dk D 12 rfl) cls_10 fl_RX11_98 cf_2_1 rfl rfl ?_
    refine a_iload_n (pc := 25) (dk D 13 rfl) rfl ?_
    exact a_iret (pc := 26) (dk D 14 rfl) rfl rfl H
  · replace H := H.2 c
    refine a_iconst (pc := 15) (dk D 7 rfl) (ik rfl) ?_
    exact a_iret (pc := 16) (dk D 8 rfl) rfl rfl H
set_option maxHeartbeats 40000000 in
theorem T_X11_out_1_0 {G : GG} {Φ : Int → Hp → Prop} {h : Hp} {x1 : Int} (H : Call G m_X11_within [iv x1, iv 0, iv (w32 ((h 1 3) - 1))] h (fun r1 h2 => ((r1 = 0 → Φ (-1) h2) ∧ (r1 ≠ 0 → (0 ≤ x1 ∧ x1 < 288) ∧ Φ (h2 11 x1) h2)))) : AT G m_X11_out 0 [(0, rv 1), (1, iv x1)] [] h Φ := by
  have D := dt_X11_out
  refine a_iload_n (pc := 0) (dk D 0 rfl) rfl ?_
  refine a_iconst (pc := 1) (dk D 1 rfl) (ik rfl) ?_
  refine a_aload_n (pc := 2) (dk D 2 rfl) rfl ?_
  refine a_geti (pc := 3) (dk D 3 rfl) cls_11 fl_RX11_31 cf_1_3 ?_
  refine a_iconst (pc := 6) (dk D 4 rfl) (ik rfl) ?_
  refine a_isub (pc := 7) (dk D 5 rfl) ?_
  refine a_callSi (as := [iv x1, iv 0, iv (w32 ((h 1 3) - 1))]) (st := []) (pc := 8) (dk D 6 rfl) cl_RX11_104 ⟨Nat.le_of_ble_eq_true rfl, Nat.le_of_ble_eq_true rfl⟩ ⟨Nat.le_of_ble_eq_true rfl, Nat.le_of_ble_eq_true rfl⟩ rfl rfl rfl (Nat.le_of_ble_eq_true rfl) (Call.mono H fun r1 h2 H => ?_)
  refine a_if_eq (pc := 11) (dk D 7 rfl) (tgt := 23) rfl ⟨fun c => ?_, fun c => ?_⟩
  · replace H := H.1 c
    refine a_iconst (pc := 23) (dk D 13 rfl) (ik rfl) ?_
    exact a_iret (pc := 24) (dk D 14 rfl) rfl rfl H
  · replace H := H.2 c
    refine a_aload_n (pc := 14) (dk D 8 rfl) rfl ?_
    refine a_getr (r := 10) (pc := 15) (dk D 9 rfl) cls_11 fl_RX11_27 cf_1_2 ?_
    refine a_iload_n (pc := 18) (dk D 10 rfl) rfl ?_
    refine a_iald (pc := 19) (dk D 11 rfl) ar_11 ⟨H.1, ?_⟩
    replace H := H.2
    refine a_goto (pc := 20) (dk D 12 rfl) (tgt := 24) rfl ?_
    exact a_iret (pc := 24) (dk D 14 rfl) rfl rfl H
set_option maxHeartbeats 40000000 in
theorem T_X11_leap_1_0 {G : GG} {Φ : Int → Hp → Prop} {h : Hp} {x1 : Int} {x2 : Int} (H : Call G m_X11_within [iv x1, iv 2000, iv 2059] h (fun r1 h2 => ((r1 = 0 → Φ (-1) h2) ∧ (r1 ≠ 0 → ((x2 = 6 → Call G m_X1_addLeap [rv 12, iv x1, iv x2] h2 (fun r3 h4 => Φ r3 h4)) ∧ (x2 ≠ 6 → ((x2 = 12 → Call G m_X1_addLeap [rv 12, iv x1, iv x2] h2 (fun r5 h6 => Φ r5 h6)) ∧ (x2 ≠ 12 → Φ (-1) h2)))))))) : AT G m_X11_leap 0 [(0, rv 1), (1, iv x1), (2, iv x2)] [] h Φ := by
  have D := dt_X11_leap
  refine a_iload_n (pc := 0) (dk D 0 rfl) rfl ?_
  refine a_sipush (pc := 1) (dk D 1 rfl) (ik rfl) (spk rfl) ?_
  refine a_sipush (pc := 4) (dk D 2 rfl) (ik rfl) (spk rfl) ?_
  refine a_callSi (as := [iv x1, iv 2000, iv 2059]) (st := []) (pc := 7) (dk D 3 rfl) cl_RX11_104 ⟨Nat.le_of_ble_eq_true rfl, Nat.le_of_ble_eq_true rfl⟩ ⟨Nat.le_of_ble_eq_true rfl, Nat.le_of_ble_eq_true rfl⟩ rfl rfl rfl (Nat.le_of_ble_eq_true rfl) (Call.mono H fun r1 h2 H => ?_)
  refine a_if_eq (pc := 10) (dk D 4 rfl) (tgt := 25) rfl ⟨fun c => ?_, fun c => ?_⟩
  · replace H := H.1 c
    refine a_iconst (pc := 25) (dk D 11 rfl) (ik rfl) ?_
    exact a_iret (pc := 26) (dk D 12 rfl) rfl rfl H
  · replace H := H.2 c
    refine a_iload_n (pc := 13) (dk D 5 rfl) rfl ?_
    refine a_bipush (pc := 14) (dk D 6 rfl) (ik rfl) (bpk rfl) ?_
    refine a_icmp_eq (pc := 16) (dk D 7 rfl) (tgt := 27) rfl ⟨fun c => ?_, fun c => ?_⟩
    · replace H := H.1 c
      refine a_aload_n (pc := 27) (dk D 13 rfl) rfl ?_
      refine a_getr (r := 11) (pc := 28) (dk D 14 rfl) cls_11 fl_RX11_38 cf_1_4 ?_
      refine a_iload_n (pc := 31) (dk D 15 rfl) rfl ?_
      refine a_iload_n (pc := 32) (dk D 16 rfl) rfl ?_
      refine a_callVi (as := [iv x1, iv x2]) (st := []) (pc := 33) (dk D 17 rfl) cl_RX11_108 ⟨Nat.le_of_ble_eq_true rfl, Nat.le_of_ble_eq_true rfl⟩ ⟨Nat.le_of_ble_eq_true rfl, Nat.le_of_ble_eq_true rfl⟩ cls_1 rfl cc_12 rfl rfl rfl (Nat.le_of_ble_eq_true rfl) (Call.mono H fun r3 h4 H => ?_)
      exact a_iret (pc := 36) (dk D 18 rfl) rfl rfl H
    · replace H := H.2 c
      refine a_iload_n (pc := 19) (dk D 8 rfl) rfl ?_
      refine a_bipush (pc := 20) (dk D 9 rfl) (ik rfl) (bpk rfl) ?_
      refine a_icmp_eq (pc := 22) (dk D 10 rfl) (tgt := 27) rfl ⟨fun c => ?_, fun c => ?_⟩
      · replace H := H.1 c
        refine a_aload_n (pc := 27) (dk D 13 rfl) rfl ?_
        refine a_getr (r := 11) (pc := 28) (dk D 14 rfl) cls_11 fl_RX11_38 cf_1_4 ?_
        refine a_iload_n (pc := 31) (dk D 15 rfl) rfl ?_
        refine a_iload_n (pc := 32) (dk D 16 rfl) rfl ?_
        refine a_callVi (as := [iv x1, iv x2]) (st := []) (pc := 33) (dk D 17 rfl) cl_RX11_108 ⟨Nat.le_of_ble_eq_true rfl, Nat.le_of_ble_eq_true rfl⟩ ⟨Nat.le_of_ble_eq_true rfl, Nat.le_of_ble_eq_true rfl⟩ cls_1 rfl cc_12 rfl rfl rfl (Nat.le_of_ble_eq_true rfl) (Call.mono H fun r5 h6 H => ?_)
        exact a_iret (pc := 36) (dk D 18 rfl) rfl rfl H
      · replace H := H.2 c
        refine a_iconst (pc := 25) (dk D 11 rfl) (ik rfl) ?_
        exact a_iret (pc := 26) (dk D 12 rfl) rfl rfl H
set_option maxHeartbeats 40000000 in
theorem T_X11_date_1_0 {G : GG} {Φ : Int → Hp → Prop} {h : Hp} (H : Call G m_X10_open [rv 2] h (fun _ h2 => Call G m_X1_readDate [rv 12, rv 2] h2 (fun r3 h4 => Call G m_X10_closes [rv 2] h4 (fun r5 h6 => ((r5 = 0 → Call G m_X10_wrong [rv 2] h6 (fun r7 h8 => Φ r7 h8)) ∧ (r5 ≠ 0 → Φ r3 h6)))))) : AT G m_X11_date 0 [(0, rv 1)] [] h Φ := by
  have D := dt_X11_date
  refine a_aload_n (pc := 0) (dk D 0 rfl) rfl ?_
  refine a_getr (r := 1) (pc := 1) (dk D 1 rfl) cls_11 fl_RX11_10 cf_1_0 ?_
  refine a_callVv (as := []) (st := []) (pc := 4) (dk D 2 rfl) cl_RX11_112 ⟨Nat.le_of_ble_eq_true rfl, Nat.le_of_ble_eq_true rfl⟩ ⟨Nat.le_of_ble_eq_true rfl, Nat.le_of_ble_eq_true rfl⟩ cls_10 rfl cc_2 rfl rfl rfl (Nat.le_of_ble_eq_true rfl) (Call.mono H fun _ h2 H => ?_)
  refine a_aload_n (pc := 7) (dk D 3 rfl) rfl ?_
  refine a_getr (r := 11) (pc := 8) (dk D 4 rfl) cls_11 fl_RX11_38 cf_1_4 ?_
  refine a_aload_n (pc := 11) (dk D 5 rfl) rfl ?_
  refine a_getr (r := 1) (pc := 12) (dk D 6 rfl) cls_11 fl_RX11_10 cf_1_0 ?_
  refine a_callVi (as := [rv 2]) (st := []) (pc := 15) (dk D 7 rfl) cl_RX11_115 ⟨Nat.le_of_ble_eq_true rfl, Nat.le_of_ble_eq_true rfl⟩ ⟨Nat.le_of_ble_eq_true rfl, Nat.le_of_ble_eq_true rfl⟩ cls_1 rfl cc_12 rfl rfl rfl (Nat.le_of_ble_eq_true rfl) (Call.mono H fun r3 h4 H => ?_)
  refine a_istore_n (pc := 18) (dk D 8 rfl) (by decide) rfl rfl ?_
  refine a_aload_n (pc := 19) (dk D 9 rfl) rfl ?_
  refine a_getr (r := 1) (pc := 20) (dk D 10 rfl) cls_11 fl_RX11_10 cf_1_0 ?_
  refine a_callVi (as := []) (st := []) (pc := 23) (dk D 11 rfl) cl_RX11_119 ⟨Nat.le_of_ble_eq_true rfl, Nat.le_of_ble_eq_true rfl⟩ ⟨Nat.le_of_ble_eq_true rfl, Nat.le_of_ble_eq_true rfl⟩ cls_10 rfl cc_2 rfl rfl rfl (Nat.le_of_ble_eq_true rfl) (Call.mono H fun r5 h6 H => ?_)
  refine a_if_eq (pc := 26) (dk D 12 rfl) (tgt := 33) rfl ⟨fun c => ?_, fun c => ?_⟩
  · replace H := H.1 c
    refine a_aload_n (pc := 33) (dk D 15 rfl) rfl ?_
    refine a_getr (r := 1) (pc := 34) (dk D 16 rfl) cls_11 fl_RX11_10 cf_1_0 ?_
    refine a_callVi (as := []) (st := []) (pc := 37) (dk D 17 rfl) cl_RX11_123 ⟨Nat.le_of_ble_eq_true rfl, Nat.le_of_ble_eq_true rfl⟩ ⟨Nat.le_of_ble_eq_true rfl, Nat.le_of_ble_eq_true rfl⟩ cls_10 rfl cc_2 rfl rfl rfl (Nat.le_of_ble_eq_true rfl) (Call.mono H fun r7 h8 H => ?_)
    exact a_iret (pc := 40) (dk D 18 rfl) rfl rfl H
  · replace H := H.2 c
    refine a_iload_n (pc := 29) (dk D 13 rfl) rfl ?_
    refine a_goto (pc := 30) (dk D 14 rfl) (tgt := 40) rfl ?_
    exact a_iret (pc := 40) (dk D 18 rfl) rfl rfl H
set_option maxHeartbeats 40000000 in
theorem T_X11_written_1_0 {G : GG} {Φ : Int → Hp → Prop} {h : Hp} {x1 : Int} (H : Call G m_X1_hasSecond [rv 12, iv x1] h (fun r1 h2 => ((r1 ≠ 0 → Call G m_X1_writeDate [rv 12, iv x1, rv 11] h2 (fun r3 h4 => Φ r3 (up h4 1 3 r3))) ∧ (r1 = 0 → Φ (-1) h2)))) : AT G m_X11_written 0 [(0, rv 1), (1, iv x1)] [] h Φ := by
  have D := dt_X11_written
  refine a_aload_n (pc := 0) (dk D 0 rfl) rfl ?_
  refine a_getr (r := 11) (pc := 1) (dk D 1 rfl) cls_11 fl_RX11_38 cf_1_4 ?_
  refine a_iload_n (pc := 4) (dk D 2 rfl) rfl ?_
  refine a_callVi (as := [iv x1]) (st := []) (pc := 5) (dk D 3 rfl) cl_RX11_127 ⟨Nat.le_of_ble_eq_true rfl, Nat.le_of_ble_eq_true rfl⟩ ⟨Nat.le_of_ble_eq_true rfl, Nat.le_of_ble_eq_true rfl⟩ cls_1 rfl cc_12 rfl rfl rfl (Nat.le_of_ble_eq_true rfl) (Call.mono H fun r1 h2 H => ?_)
  refine a_if_ne (pc := 8) (dk D 4 rfl) (tgt := 13) rfl ⟨fun c => ?_, fun c => ?_⟩
  · replace H := H.1 c
    refine a_aload_n (pc := 13) (dk D 7 rfl) rfl ?_
    refine a_aload_n (pc := 14) (dk D 8 rfl) rfl ?_
    refine a_getr (r := 11) (pc := 15) (dk D 9 rfl) cls_11 fl_RX11_38 cf_1_4 ?_
    refine a_iload_n (pc := 18) (dk D 10 rfl) rfl ?_
    refine a_aload_n (pc := 19) (dk D 11 rfl) rfl ?_
    refine a_getr (r := 10) (pc := 20) (dk D 12 rfl) cls_11 fl_RX11_27 cf_1_2 ?_
    refine a_callVi (as := [iv x1, rv 11]) (st := [rv 1]) (pc := 23) (dk D 13 rfl) cl_RX11_131 ⟨Nat.le_of_ble_eq_true rfl, Nat.le_of_ble_eq_true rfl⟩ ⟨Nat.le_of_ble_eq_true rfl, Nat.le_of_ble_eq_true rfl⟩ cls_1 rfl cc_12 rfl rfl rfl (Nat.le_of_ble_eq_true rfl) (Call.mono H fun r3 h4 H => ?_)
    refine a_puti (pc := 26) (dk D 14 rfl) cls_11 fl_RX11_31 cf_1_3 rfl rfl ?_
    refine a_aload_n (pc := 29) (dk D 15 rfl) rfl ?_
    refine a_geti (pc := 30) (dk D 16 rfl) cls_11 fl_RX11_31 cf_1_3 ?_
    refine a_top (y := r3) (by simp [up, cpy]) ?_
    exact a_iret (pc := 33) (dk D 17 rfl) rfl rfl H
  · replace H := H.2 c
    refine a_iconst (pc := 11) (dk D 5 rfl) (ik rfl) ?_
    exact a_iret (pc := 12) (dk D 6 rfl) rfl rfl H
set_option maxHeartbeats 40000000 in
theorem T_X11_orbit_1_0 {G : GG} {Φ : Int → Hp → Prop} {h : Hp} {x1 : Int} {x2 : Int} {x3 : Int} {x4 : Int} (H : Call G m_X11_within [iv x1, iv 60, iv 20000] h (fun r1 h2 => ((r1 = 0 → Φ (-1) h2) ∧ (r1 ≠ 0 → Call G m_X11_isDegree [iv x2] h2 (fun r3 h4 => ((r3 = 0 → Φ (-1) h4) ∧ (r3 ≠ 0 → Call G m_X11_isDegree [iv x3] h4 (fun r5 h6 => ((r5 = 0 → Φ (-1) h6) ∧ (r5 ≠ 0 → Call G m_X11_within [iv x4, iv 0, iv 3600] h6 (fun r7 h8 => ((r7 ≠ 0 → Φ 1 (up (up (up (up h8 14 0 x1) 14 1 x2) 14 2 x3) 14 3 x4)) ∧ (r7 = 0 → Φ (-1) h8))))))))))))) : AT G m_X11_orbit 0 [(0, rv 1), (1, iv x1), (2, iv x2), (3, iv x3), (4, iv x4)] [] h Φ := by
  have D := dt_X11_orbit
  refine a_iload_n (pc := 0) (dk D 0 rfl) rfl ?_
  refine a_bipush (pc := 1) (dk D 1 rfl) (ik rfl) (bpk rfl) ?_
  refine a_sipush (pc := 3) (dk D 2 rfl) (ik rfl) (spk rfl) ?_
  refine a_callSi (as := [iv x1, iv 60, iv 20000]) (st := []) (pc := 6) (dk D 3 rfl) cl_RX11_104 ⟨Nat.le_of_ble_eq_true rfl, Nat.le_of_ble_eq_true rfl⟩ ⟨Nat.le_of_ble_eq_true rfl, Nat.le_of_ble_eq_true rfl⟩ rfl rfl rfl (Nat.le_of_ble_eq_true rfl) (Call.mono H fun r1 h2 H => ?_)
  refine a_if_eq (pc := 9) (dk D 4 rfl) (tgt := 38) rfl ⟨fun c => ?_, fun c => ?_⟩
  · replace H := H.1 c
    refine a_iconst (pc := 38) (dk D 16 rfl) (ik rfl) ?_
    exact a_iret (pc := 39) (dk D 17 rfl) rfl rfl H
  · replace H := H.2 c
    refine a_iload_n (pc := 12) (dk D 5 rfl) rfl ?_
    refine a_callSi (as := [iv x2]) (st := []) (pc := 13) (dk D 6 rfl) cl_RX11_135 ⟨Nat.le_of_ble_eq_true rfl, Nat.le_of_ble_eq_true rfl⟩ ⟨Nat.le_of_ble_eq_true rfl, Nat.le_of_ble_eq_true rfl⟩ rfl rfl rfl (Nat.le_of_ble_eq_true rfl) (Call.mono H fun r3 h4 H => ?_)
    refine a_if_eq (pc := 16) (dk D 7 rfl) (tgt := 38) rfl ⟨fun c => ?_, fun c => ?_⟩
    · replace H := H.1 c
      refine a_iconst (pc := 38) (dk D 16 rfl) (ik rfl) ?_
      exact a_iret (pc := 39) (dk D 17 rfl) rfl rfl H
    · replace H := H.2 c
      refine a_iload_n (pc := 19) (dk D 8 rfl) rfl ?_
      refine a_callSi (as := [iv x3]) (st := []) (pc := 20) (dk D 9 rfl) cl_RX11_135 ⟨Nat.le_of_ble_eq_true rfl, Nat.le_of_ble_eq_true rfl⟩ ⟨Nat.le_of_ble_eq_true rfl, Nat.le_of_ble_eq_true rfl⟩ rfl rfl rfl (Nat.le_of_ble_eq_true rfl) (Call.mono H fun r5 h6 H => ?_)
      refine a_if_eq (pc := 23) (dk D 10 rfl) (tgt := 38) rfl ⟨fun c => ?_, fun c => ?_⟩
      · replace H := H.1 c
        refine a_iconst (pc := 38) (dk D 16 rfl) (ik rfl) ?_
        exact a_iret (pc := 39) (dk D 17 rfl) rfl rfl H
      · replace H := H.2 c
        refine a_iload (pc := 26) (dk D 11 rfl) rfl ?_
        refine a_iconst (pc := 28) (dk D 12 rfl) (ik rfl) ?_
        refine a_sipush (pc := 29) (dk D 13 rfl) (ik rfl) (spk rfl) ?_
        refine a_callSi (as := [iv x4, iv 0, iv 3600]) (st := []) (pc := 32) (dk D 14 rfl) cl_RX11_104 ⟨Nat.le_of_ble_eq_true rfl, Nat.le_of_ble_eq_true rfl⟩ ⟨Nat.le_of_ble_eq_true rfl, Nat.le_of_ble_eq_true rfl⟩ rfl rfl rfl (Nat.le_of_ble_eq_true rfl) (Call.mono H fun r7 h8 H => ?_)
        refine a_if_ne (pc := 35) (dk D 15 rfl) (tgt := 40) rfl ⟨fun c => ?_, fun c => ?_⟩
        · replace H := H.1 c
          refine a_aload_n (pc := 40) (dk D 18 rfl) rfl ?_
          refine a_getr (r := 13) (pc := 41) (dk D 19 rfl) cls_11 fl_RX11_45 cf_1_5 ?_
          refine a_iload_n (pc := 44) (dk D 20 rfl) rfl ?_
          refine a_puti (pc := 45) (dk D 21 rfl) cls_6 fl_RX11_138 cf_14_0 rfl rfl ?_
          refine a_aload_n (pc := 48) (dk D 22 rfl) rfl ?_
          refine a_getr (r := 13) (pc := 49) (dk D 23 rfl) cls_11 fl_RX11_45 cf_1_5 ?_
          refine a_iload_n (pc := 52) (dk D 24 rfl) rfl ?_
          refine a_puti (pc := 53) (dk D 25 rfl) cls_6 fl_RX11_141 cf_14_1 rfl rfl ?_
          refine a_aload_n (pc := 56) (dk D 26 rfl) rfl ?_
          refine a_getr (r := 13) (pc := 57) (dk D 27 rfl) cls_11 fl_RX11_45 cf_1_5 ?_
          refine a_iload_n (pc := 60) (dk D 28 rfl) rfl ?_
          refine a_puti (pc := 61) (dk D 29 rfl) cls_6 fl_RX11_144 cf_14_2 rfl rfl ?_
          refine a_aload_n (pc := 64) (dk D 30 rfl) rfl ?_
          refine a_getr (r := 13) (pc := 65) (dk D 31 rfl) cls_11 fl_RX11_45 cf_1_5 ?_
          refine a_iload (pc := 68) (dk D 32 rfl) rfl ?_
          refine a_puti (pc := 70) (dk D 33 rfl) cls_6 fl_RX11_147 cf_14_3 rfl rfl ?_
          refine a_iconst (pc := 73) (dk D 34 rfl) (ik rfl) ?_
          exact a_iret (pc := 74) (dk D 35 rfl) rfl rfl H
        · replace H := H.2 c
          refine a_iconst (pc := 38) (dk D 16 rfl) (ik rfl) ?_
          exact a_iret (pc := 39) (dk D 17 rfl) rfl rfl H
set_option maxHeartbeats 40000000 in
theorem T_X11_station_1_0 {G : GG} {Φ : Int → Hp → Prop} {h : Hp} {x1 : Int} {x2 : Int} {x3 : Int} {x4 : Int} (H : Call G m_X11_isStation [iv x1] h (fun r1 h2 => ((r1 = 0 → Φ (-1) h2) ∧ (r1 ≠ 0 → Call G m_X11_isDegree [iv x2] h2 (fun r3 h4 => ((r3 = 0 → Φ (-1) h4) ∧ (r3 ≠ 0 → Call G m_X11_within [iv x3, iv 0, iv 3600] h4 (fun r5 h6 => ((r5 = 0 → Φ (-1) h6) ∧ (r5 ≠ 0 → Call G m_X11_isDegree [iv x4] h6 (fun r7 h8 => ((r7 ≠ 0 → (0 ≤ x1 ∧ x1 < 4) ∧ (0 ≤ x1 ∧ x1 < 4) ∧ (0 ≤ x1 ∧ x1 < 4) ∧ Φ 1 (up (up (up h8 15 x1 x2) 16 x1 x3) 17 x1 x4)) ∧ (r7 = 0 → Φ (-1) h8))))))))))))) : AT G m_X11_station 0 [(0, rv 1), (1, iv x1), (2, iv x2), (3, iv x3), (4, iv x4)] [] h Φ := by
  have D := dt_X11_station
  refine a_iload_n (pc := 0) (dk D 0 rfl) rfl ?_
  refine a_callSi (as := [iv x1]) (st := []) (pc := 1) (dk D 1 rfl) cl_RX11_150 ⟨Nat.le_of_ble_eq_true rfl, Nat.le_of_ble_eq_true rfl⟩ ⟨Nat.le_of_ble_eq_true rfl, Nat.le_of_ble_eq_true rfl⟩ rfl rfl rfl (Nat.le_of_ble_eq_true rfl) (Call.mono H fun r1 h2 H => ?_)
  refine a_if_eq (pc := 4) (dk D 2 rfl) (tgt := 33) rfl ⟨fun c => ?_, fun c => ?_⟩
  · replace H := H.1 c
    refine a_iconst (pc := 33) (dk D 14 rfl) (ik rfl) ?_
    exact a_iret (pc := 34) (dk D 15 rfl) rfl rfl H
  · replace H := H.2 c
    refine a_iload_n (pc := 7) (dk D 3 rfl) rfl ?_
    refine a_callSi (as := [iv x2]) (st := []) (pc := 8) (dk D 4 rfl) cl_RX11_135 ⟨Nat.le_of_ble_eq_true rfl, Nat.le_of_ble_eq_true rfl⟩ ⟨Nat.le_of_ble_eq_true rfl, Nat.le_of_ble_eq_true rfl⟩ rfl rfl rfl (Nat.le_of_ble_eq_true rfl) (Call.mono H fun r3 h4 H => ?_)
    refine a_if_eq (pc := 11) (dk D 5 rfl) (tgt := 33) rfl ⟨fun c => ?_, fun c => ?_⟩
    · replace H := H.1 c
      refine a_iconst (pc := 33) (dk D 14 rfl) (ik rfl) ?_
      exact a_iret (pc := 34) (dk D 15 rfl) rfl rfl H
    · replace H := H.2 c
      refine a_iload_n (pc := 14) (dk D 6 rfl) rfl ?_
      refine a_iconst (pc := 15) (dk D 7 rfl) (ik rfl) ?_
      refine a_sipush (pc := 16) (dk D 8 rfl) (ik rfl) (spk rfl) ?_
      refine a_callSi (as := [iv x3, iv 0, iv 3600]) (st := []) (pc := 19) (dk D 9 rfl) cl_RX11_104 ⟨Nat.le_of_ble_eq_true rfl, Nat.le_of_ble_eq_true rfl⟩ ⟨Nat.le_of_ble_eq_true rfl, Nat.le_of_ble_eq_true rfl⟩ rfl rfl rfl (Nat.le_of_ble_eq_true rfl) (Call.mono H fun r5 h6 H => ?_)
      refine a_if_eq (pc := 22) (dk D 10 rfl) (tgt := 33) rfl ⟨fun c => ?_, fun c => ?_⟩
      · replace H := H.1 c
        refine a_iconst (pc := 33) (dk D 14 rfl) (ik rfl) ?_
        exact a_iret (pc := 34) (dk D 15 rfl) rfl rfl H
      · replace H := H.2 c
        refine a_iload (pc := 25) (dk D 11 rfl) rfl ?_
        refine a_callSi (as := [iv x4]) (st := []) (pc := 27) (dk D 12 rfl) cl_RX11_135 ⟨Nat.le_of_ble_eq_true rfl, Nat.le_of_ble_eq_true rfl⟩ ⟨Nat.le_of_ble_eq_true rfl, Nat.le_of_ble_eq_true rfl⟩ rfl rfl rfl (Nat.le_of_ble_eq_true rfl) (Call.mono H fun r7 h8 H => ?_)
        refine a_if_ne (pc := 30) (dk D 13 rfl) (tgt := 35) rfl ⟨fun c => ?_, fun c => ?_⟩
        · replace H := H.1 c
          refine a_aload_n (pc := 35) (dk D 16 rfl) rfl ?_
          refine a_getr (r := 13) (pc := 36) (dk D 17 rfl) cls_11 fl_RX11_45 cf_1_5 ?_
          refine a_getr (r := 14) (pc := 39) (dk D 18 rfl) cls_6 fl_RX11_153 cf_14_6 ?_
          refine a_iload_n (pc := 42) (dk D 19 rfl) rfl ?_
          refine a_iload_n (pc := 43) (dk D 20 rfl) rfl ?_
          refine a_iast (pc := 44) (dk D 21 rfl) ar_15 ⟨H.1, ?_⟩
          replace H := H.2
          refine a_aload_n (pc := 45) (dk D 22 rfl) rfl ?_
          refine a_getr (r := 13) (pc := 46) (dk D 23 rfl) cls_11 fl_RX11_45 cf_1_5 ?_
          refine a_getr (r := 15) (pc := 49) (dk D 24 rfl) cls_6 fl_RX11_156 cf_14_7 ?_
          refine a_iload_n (pc := 52) (dk D 25 rfl) rfl ?_
          refine a_iload_n (pc := 53) (dk D 26 rfl) rfl ?_
          refine a_iast (pc := 54) (dk D 27 rfl) ar_16 ⟨H.1, ?_⟩
          replace H := H.2
          refine a_aload_n (pc := 55) (dk D 28 rfl) rfl ?_
          refine a_getr (r := 13) (pc := 56) (dk D 29 rfl) cls_11 fl_RX11_45 cf_1_5 ?_
          refine a_getr (r := 16) (pc := 59) (dk D 30 rfl) cls_6 fl_RX11_159 cf_14_8 ?_
          refine a_iload_n (pc := 62) (dk D 31 rfl) rfl ?_
          refine a_iload (pc := 63) (dk D 32 rfl) rfl ?_
          refine a_iast (pc := 65) (dk D 33 rfl) ar_17 ⟨H.1, ?_⟩
          replace H := H.2
          refine a_iconst (pc := 66) (dk D 34 rfl) (ik rfl) ?_
          exact a_iret (pc := 67) (dk D 35 rfl) rfl rfl H
        · replace H := H.2 c
          refine a_iconst (pc := 33) (dk D 14 rfl) (ik rfl) ?_
          exact a_iret (pc := 34) (dk D 15 rfl) rfl rfl H
set_option maxHeartbeats 40000000 in
theorem T_X11_sight_1_0 {G : GG} {Φ : Int → Hp → Prop} {h : Hp} {x1 : Int} {x2 : Int} (H : Call G m_X11_isStation [iv x1] h (fun r1 h2 => ((r1 = 0 → Φ (-1) h2) ∧ (r1 ≠ 0 → ((x2 ≠ 0 → Call G m_X6_firstSight [rv 14, iv x1, iv (h2 34 4), iv 0] h2 (fun r3 h4 => Φ r3 h4)) ∧ (x2 = 0 → Call G m_X6_firstSight [rv 14, iv x1, iv (h2 34 4), iv 1] h2 (fun r5 h6 => Φ r5 h6))))))) : AT G m_X11_sight 0 [(0, rv 1), (1, iv x1), (2, iv x2)] [] h Φ := by
  have D := dt_X11_sight
  refine a_iload_n (pc := 0) (dk D 0 rfl) rfl ?_
  refine a_callSi (as := [iv x1]) (st := []) (pc := 1) (dk D 1 rfl) cl_RX11_150 ⟨Nat.le_of_ble_eq_true rfl, Nat.le_of_ble_eq_true rfl⟩ ⟨Nat.le_of_ble_eq_true rfl, Nat.le_of_ble_eq_true rfl⟩ rfl rfl rfl (Nat.le_of_ble_eq_true rfl) (Call.mono H fun r1 h2 H => ?_)
  refine a_if_eq (pc := 4) (dk D 2 rfl) (tgt := 34) rfl ⟨fun c => ?_, fun c => ?_⟩
  · replace H := H.1 c
    refine a_iconst (pc := 34) (dk D 16 rfl) (ik rfl) ?_
    exact a_iret (pc := 35) (dk D 17 rfl) rfl rfl H
  · replace H := H.2 c
    refine a_aload_n (pc := 7) (dk D 3 rfl) rfl ?_
    refine a_getr (r := 13) (pc := 8) (dk D 4 rfl) cls_11 fl_RX11_45 cf_1_5 ?_
    refine a_iload_n (pc := 11) (dk D 5 rfl) rfl ?_
    refine a_aload_n (pc := 12) (dk D 6 rfl) rfl ?_
    refine a_getr (r := 33) (pc := 13) (dk D 7 rfl) cls_11 fl_RX11_75 cf_1_9 ?_
    refine a_geti (pc := 16) (dk D 8 rfl) cls_0 fl_RX11_162 cf_34_4 ?_
    refine a_iload_n (pc := 19) (dk D 9 rfl) rfl ?_
    refine a_if_ne (pc := 20) (dk D 10 rfl) (tgt := 27) rfl ⟨fun c => ?_, fun c => ?_⟩
    · replace H := H.1 c
      refine a_iconst (pc := 27) (dk D 13 rfl) (ik rfl) ?_
      refine a_callVi (as := [iv x1, iv (h2 34 4), iv 0]) (st := []) (pc := 28) (dk D 14 rfl) cl_RX11_165 ⟨Nat.le_of_ble_eq_true rfl, Nat.le_of_ble_eq_true rfl⟩ ⟨Nat.le_of_ble_eq_true rfl, Nat.le_of_ble_eq_true rfl⟩ cls_6 rfl cc_14 rfl rfl rfl (Nat.le_of_ble_eq_true rfl) (Call.mono H fun r3 h4 H => ?_)
      refine a_goto (pc := 31) (dk D 15 rfl) (tgt := 35) rfl ?_
      exact a_iret (pc := 35) (dk D 17 rfl) rfl rfl H
    · replace H := H.2 c
      refine a_iconst (pc := 23) (dk D 11 rfl) (ik rfl) ?_
      refine a_goto (pc := 24) (dk D 12 rfl) (tgt := 28) rfl ?_
      refine a_callVi (as := [iv x1, iv (h2 34 4), iv 1]) (st := []) (pc := 28) (dk D 14 rfl) cl_RX11_165 ⟨Nat.le_of_ble_eq_true rfl, Nat.le_of_ble_eq_true rfl⟩ ⟨Nat.le_of_ble_eq_true rfl, Nat.le_of_ble_eq_true rfl⟩ cls_6 rfl cc_14 rfl rfl rfl (Nat.le_of_ble_eq_true rfl) (Call.mono H fun r5 h6 H => ?_)
      refine a_goto (pc := 31) (dk D 15 rfl) (tgt := 35) rfl ?_
      exact a_iret (pc := 35) (dk D 17 rfl) rfl rfl H
set_option maxHeartbeats 40000000 in
theorem T_X11_power_1_0 {G : GG} {Φ : Int → Hp → Prop} {h : Hp} {x1 : Int} {x2 : Int} (H : Call G m_X11_within [iv x1, iv 0, iv 1000000] h (fun r1 h2 => ((r1 = 0 → Φ (-1) h2) ∧ (r1 ≠ 0 → Call G m_X11_within [iv x2, iv 0, iv 10000] h2 (fun r3 h4 => ((r3 ≠ 0 → Call G m_J9_min_7cf53 [iv (h4 18 1), iv x1] (up h4 18 0 x1) (fun r5 h6 => Φ 1 (up (up h6 18 1 r5) 18 2 x2))) ∧ (r3 = 0 → Φ (-1) h4))))))) : AT G m_X11_power 0 [(0, rv 1), (1, iv x1), (2, iv x2)] [] h Φ := by
  have D := dt_X11_power
  refine a_iload_n (pc := 0) (dk D 0 rfl) rfl ?_
  refine a_iconst (pc := 1) (dk D 1 rfl) (ik rfl) ?_
  refine a_ldc (n := 1000000) (pc := 2) (dk D 2 rfl) (ik rfl) co_RX11_169 ?_
  refine a_callSi (as := [iv x1, iv 0, iv 1000000]) (st := []) (pc := 4) (dk D 3 rfl) cl_RX11_104 ⟨Nat.le_of_ble_eq_true rfl, Nat.le_of_ble_eq_true rfl⟩ ⟨Nat.le_of_ble_eq_true rfl, Nat.le_of_ble_eq_true rfl⟩ rfl rfl rfl (Nat.le_of_ble_eq_true rfl) (Call.mono H fun r1 h2 H => ?_)
  refine a_if_eq (pc := 7) (dk D 4 rfl) (tgt := 21) rfl ⟨fun c => ?_, fun c => ?_⟩
  · replace H := H.1 c
    refine a_iconst (pc := 21) (dk D 10 rfl) (ik rfl) ?_
    exact a_iret (pc := 22) (dk D 11 rfl) rfl rfl H
  · replace H := H.2 c
    refine a_iload_n (pc := 10) (dk D 5 rfl) rfl ?_
    refine a_iconst (pc := 11) (dk D 6 rfl) (ik rfl) ?_
    refine a_sipush (pc := 12) (dk D 7 rfl) (ik rfl) (spk rfl) ?_
    refine a_callSi (as := [iv x2, iv 0, iv 10000]) (st := []) (pc := 15) (dk D 8 rfl) cl_RX11_104 ⟨Nat.le_of_ble_eq_true rfl, Nat.le_of_ble_eq_true rfl⟩ ⟨Nat.le_of_ble_eq_true rfl, Nat.le_of_ble_eq_true rfl⟩ rfl rfl rfl (Nat.le_of_ble_eq_true rfl) (Call.mono H fun r3 h4 H => ?_)
    refine a_if_ne (pc := 18) (dk D 9 rfl) (tgt := 23) rfl ⟨fun c => ?_, fun c => ?_⟩
    · replace H := H.1 c
      refine a_aload_n (pc := 23) (dk D 12 rfl) rfl ?_
      refine a_getr (r := 17) (pc := 24) (dk D 13 rfl) cls_11 fl_RX11_52 cf_1_6 ?_
      refine a_iload_n (pc := 27) (dk D 14 rfl) rfl ?_
      refine a_puti (pc := 28) (dk D 15 rfl) cls_8 fl_RX11_170 cf_18_0 rfl rfl ?_
      refine a_aload_n (pc := 31) (dk D 16 rfl) rfl ?_
      refine a_getr (r := 17) (pc := 32) (dk D 17 rfl) cls_11 fl_RX11_52 cf_1_6 ?_
      refine a_aload_n (pc := 35) (dk D 18 rfl) rfl ?_
      refine a_getr (r := 17) (pc := 36) (dk D 19 rfl) cls_11 fl_RX11_52 cf_1_6 ?_
      refine a_geti (pc := 39) (dk D 20 rfl) cls_8 fl_RX11_173 cf_18_1 ?_
      refine a_top (y := (h4 18 1)) (by simp [up, cpy]) ?_
      refine a_iload_n (pc := 42) (dk D 21 rfl) rfl ?_
      refine a_callSi (as := [iv (h4 18 1), iv x1]) (st := [rv 18]) (pc := 43) (dk D 22 rfl) cl_RX11_176 ⟨Nat.le_of_ble_eq_true rfl, Nat.le_of_ble_eq_true rfl⟩ ⟨Nat.le_of_ble_eq_true rfl, Nat.le_of_ble_eq_true rfl⟩ rfl rfl rfl (Nat.le_of_ble_eq_true rfl) (Call.mono H fun r5 h6 H => ?_)
      refine a_puti (pc := 46) (dk D 23 rfl) cls_8 fl_RX11_173 cf_18_1 rfl rfl ?_
      refine a_aload_n (pc := 49) (dk D 24 rfl) rfl ?_
      refine a_getr (r := 17) (pc := 50) (dk D 25 rfl) cls_11 fl_RX11_52 cf_1_6 ?_
      refine a_iload_n (pc := 53) (dk D 26 rfl) rfl ?_
      refine a_puti (pc := 54) (dk D 27 rfl) cls_8 fl_RX11_181 cf_18_2 rfl rfl ?_
      refine a_iconst (pc := 57) (dk D 28 rfl) (ik rfl) ?_
      exact a_iret (pc := 58) (dk D 29 rfl) rfl rfl H
    · replace H := H.2 c
      refine a_iconst (pc := 21) (dk D 10 rfl) (ik rfl) ?_
      exact a_iret (pc := 22) (dk D 11 rfl) rfl rfl H
set_option maxHeartbeats 40000000 in
theorem T_X11_load_1_0 {G : GG} {Φ : Int → Hp → Prop} {h : Hp} {x1 : Int} {x2 : Int} {x3 : Int} (H : Call G m_X11_isLoad [iv x1] h (fun r1 h2 => ((r1 = 0 → Φ (-1) h2) ∧ (r1 ≠ 0 → Call G m_X11_within [iv x2, iv 0, iv 1000] h2 (fun r3 h4 => ((r3 = 0 → Φ (-1) h4) ∧ (r3 ≠ 0 → Call G m_X11_within [iv x3, iv 0, iv 9] h4 (fun r5 h6 => ((r5 ≠ 0 → (0 ≤ x1 ∧ x1 < 8) ∧ (0 ≤ x1 ∧ x1 < 8) ∧ Call G m_X8_putInOrder [rv 18] (up (up h6 19 x1 x2) 20 x1 x3) (fun _ h8 => Φ 1 h8)) ∧ (r5 = 0 → Φ (-1) h6)))))))))) : AT G m_X11_load 0 [(0, rv 1), (1, iv x1), (2, iv x2), (3, iv x3)] [] h Φ := by
  have D := dt_X11_load
  refine a_iload_n (pc := 0) (dk D 0 rfl) rfl ?_
  refine a_callSi (as := [iv x1]) (st := []) (pc := 1) (dk D 1 rfl) cl_RX11_184 ⟨Nat.le_of_ble_eq_true rfl, Nat.le_of_ble_eq_true rfl⟩ ⟨Nat.le_of_ble_eq_true rfl, Nat.le_of_ble_eq_true rfl⟩ rfl rfl rfl (Nat.le_of_ble_eq_true rfl) (Call.mono H fun r1 h2 H => ?_)
  refine a_if_eq (pc := 4) (dk D 2 rfl) (tgt := 28) rfl ⟨fun c => ?_, fun c => ?_⟩
  · replace H := H.1 c
    refine a_iconst (pc := 28) (dk D 13 rfl) (ik rfl) ?_
    exact a_iret (pc := 29) (dk D 14 rfl) rfl rfl H
  · replace H := H.2 c
    refine a_iload_n (pc := 7) (dk D 3 rfl) rfl ?_
    refine a_iconst (pc := 8) (dk D 4 rfl) (ik rfl) ?_
    refine a_sipush (pc := 9) (dk D 5 rfl) (ik rfl) (spk rfl) ?_
    refine a_callSi (as := [iv x2, iv 0, iv 1000]) (st := []) (pc := 12) (dk D 6 rfl) cl_RX11_104 ⟨Nat.le_of_ble_eq_true rfl, Nat.le_of_ble_eq_true rfl⟩ ⟨Nat.le_of_ble_eq_true rfl, Nat.le_of_ble_eq_true rfl⟩ rfl rfl rfl (Nat.le_of_ble_eq_true rfl) (Call.mono H fun r3 h4 H => ?_)
    refine a_if_eq (pc := 15) (dk D 7 rfl) (tgt := 28) rfl ⟨fun c => ?_, fun c => ?_⟩
    · replace H := H.1 c
      refine a_iconst (pc := 28) (dk D 13 rfl) (ik rfl) ?_
      exact a_iret (pc := 29) (dk D 14 rfl) rfl rfl H
    · replace H := H.2 c
      refine a_iload_n (pc := 18) (dk D 8 rfl) rfl ?_
      refine a_iconst (pc := 19) (dk D 9 rfl) (ik rfl) ?_
      refine a_bipush (pc := 20) (dk D 10 rfl) (ik rfl) (bpk rfl) ?_
      refine a_callSi (as := [iv x3, iv 0, iv 9]) (st := []) (pc := 22) (dk D 11 rfl) cl_RX11_104 ⟨Nat.le_of_ble_eq_true rfl, Nat.le_of_ble_eq_true rfl⟩ ⟨Nat.le_of_ble_eq_true rfl, Nat.le_of_ble_eq_true rfl⟩ rfl rfl rfl (Nat.le_of_ble_eq_true rfl) (Call.mono H fun r5 h6 H => ?_)
      refine a_if_ne (pc := 25) (dk D 12 rfl) (tgt := 30) rfl ⟨fun c => ?_, fun c => ?_⟩
      · replace H := H.1 c
        refine a_aload_n (pc := 30) (dk D 15 rfl) rfl ?_
        refine a_getr (r := 17) (pc := 31) (dk D 16 rfl) cls_11 fl_RX11_52 cf_1_6 ?_
        refine a_getr (r := 18) (pc := 34) (dk D 17 rfl) cls_8 fl_RX11_187 cf_18_5 ?_
        refine a_iload_n (pc := 37) (dk D 18 rfl) rfl ?_
        refine a_iload_n (pc := 38) (dk D 19 rfl) rfl ?_
        refine a_iast (pc := 39) (dk D 20 rfl) ar_19 ⟨H.1, ?_⟩
        replace H := H.2
        refine a_aload_n (pc := 40) (dk D 21 rfl) rfl ?_
        refine a_getr (r := 17) (pc := 41) (dk D 22 rfl) cls_11 fl_RX11_52 cf_1_6 ?_
        refine a_getr (r := 19) (pc := 44) (dk D 23 rfl) cls_8 fl_RX11_190 cf_18_6 ?_
        refine a_iload_n (pc := 47) (dk D 24 rfl) rfl ?_
        refine a_iload_n (pc := 48) (dk D 25 rfl) rfl ?_
        refine a_iast (pc := 49) (dk D 26 rfl) ar_20 ⟨H.1, ?_⟩
        replace H := H.2
        refine a_aload_n (pc := 50) (dk D 27 rfl) rfl ?_
        refine a_getr (r := 17) (pc := 51) (dk D 28 rfl) cls_11 fl_RX11_52 cf_1_6 ?_
        refine a_callVv (as := []) (st := []) (pc := 54) (dk D 29 rfl) cl_RX11_193 ⟨Nat.le_of_ble_eq_true rfl, Nat.le_of_ble_eq_true rfl⟩ ⟨Nat.le_of_ble_eq_true rfl, Nat.le_of_ble_eq_true rfl⟩ cls_8 rfl cc_18 rfl rfl rfl (Nat.le_of_ble_eq_true rfl) (Call.mono H fun _ h8 H => ?_)
        refine a_iconst (pc := 57) (dk D 30 rfl) (ik rfl) ?_
        exact a_iret (pc := 58) (dk D 31 rfl) rfl rfl H
      · replace H := H.2 c
        refine a_iconst (pc := 28) (dk D 13 rfl) (ik rfl) ?_
        exact a_iret (pc := 29) (dk D 14 rfl) rfl rfl H
set_option maxHeartbeats 40000000 in
theorem T_X11_program_1_0 {G : GG} {Φ : Int → Hp → Prop} {h : Hp} {x1 : Int} (H : Call G m_X11_isProgram [iv x1] h (fun r1 h2 => ((r1 ≠ 0 → Call G m_X3_readProgram [rv 4, rv 2] h2 (fun r3 h4 => Call G m_X10_closes [rv 2] h4 (fun r5 h6 => ((r5 ≠ 0 → Call G m_X0_install [rv 34, iv x1, rv 4, iv 0] h6 (fun _ h8 => Φ r3 h8)) ∧ (r5 = 0 → Call G m_X10_wrong [rv 2] h6 (fun r9 h10 => Φ r9 h10)))))) ∧ (r1 = 0 → Φ (-1) h2)))) : AT G m_X11_program 0 [(0, rv 1), (1, iv x1)] [] h Φ := by
  have D := dt_X11_program
  refine a_iload_n (pc := 0) (dk D 0 rfl) rfl ?_
  refine a_callSi (as := [iv x1]) (st := []) (pc := 1) (dk D 1 rfl) cl_RX11_196 ⟨Nat.le_of_ble_eq_true rfl, Nat.le_of_ble_eq_true rfl⟩ ⟨Nat.le_of_ble_eq_true rfl, Nat.le_of_ble_eq_true rfl⟩ rfl rfl rfl (Nat.le_of_ble_eq_true rfl) (Call.mono H fun r1 h2 H => ?_)
  refine a_if_ne (pc := 4) (dk D 2 rfl) (tgt := 9) rfl ⟨fun c => ?_, fun c => ?_⟩
  · replace H := H.1 c
    refine a_aload_n (pc := 9) (dk D 5 rfl) rfl ?_
    refine a_getr (r := 3) (pc := 10) (dk D 6 rfl) cls_11 fl_RX11_21 cf_1_1 ?_
    refine a_aload_n (pc := 13) (dk D 7 rfl) rfl ?_
    refine a_getr (r := 1) (pc := 14) (dk D 8 rfl) cls_11 fl_RX11_10 cf_1_0 ?_
    refine a_callVi (as := [rv 2]) (st := []) (pc := 17) (dk D 9 rfl) cl_RX11_199 ⟨Nat.le_of_ble_eq_true rfl, Nat.le_of_ble_eq_true rfl⟩ ⟨Nat.le_of_ble_eq_true rfl, Nat.le_of_ble_eq_true rfl⟩ cls_3 rfl cc_4 rfl rfl rfl (Nat.le_of_ble_eq_true rfl) (Call.mono H fun r3 h4 H => ?_)
    refine a_istore_n (pc := 20) (dk D 10 rfl) (by decide) rfl rfl ?_
    refine a_aload_n (pc := 21) (dk D 11 rfl) rfl ?_
    refine a_getr (r := 1) (pc := 22) (dk D 12 rfl) cls_11 fl_RX11_10 cf_1_0 ?_
    refine a_callVi (as := []) (st := []) (pc := 25) (dk D 13 rfl) cl_RX11_119 ⟨Nat.le_of_ble_eq_true rfl, Nat.le_of_ble_eq_true rfl⟩ ⟨Nat.le_of_ble_eq_true rfl, Nat.le_of_ble_eq_true rfl⟩ cls_10 rfl cc_2 rfl rfl rfl (Nat.le_of_ble_eq_true rfl) (Call.mono H fun r5 h6 H => ?_)
    refine a_if_ne (pc := 28) (dk D 14 rfl) (tgt := 39) rfl ⟨fun c => ?_, fun c => ?_⟩
    · replace H := H.1 c
      refine a_aload_n (pc := 39) (dk D 19 rfl) rfl ?_
      refine a_getr (r := 33) (pc := 40) (dk D 20 rfl) cls_11 fl_RX11_75 cf_1_9 ?_
      refine a_iload_n (pc := 43) (dk D 21 rfl) rfl ?_
      refine a_aload_n (pc := 44) (dk D 22 rfl) rfl ?_
      refine a_getr (r := 3) (pc := 45) (dk D 23 rfl) cls_11 fl_RX11_21 cf_1_1 ?_
      refine a_iconst (pc := 48) (dk D 24 rfl) (ik rfl) ?_
      refine a_callVv (as := [iv x1, rv 4, iv 0]) (st := []) (pc := 49) (dk D 25 rfl) cl_RX11_202 ⟨Nat.le_of_ble_eq_true rfl, Nat.le_of_ble_eq_true rfl⟩ ⟨Nat.le_of_ble_eq_true rfl, Nat.le_of_ble_eq_true rfl⟩ cls_0 rfl cc_34 rfl rfl rfl (Nat.le_of_ble_eq_true rfl) (Call.mono H fun _ h8 H => ?_)
      refine a_iload_n (pc := 52) (dk D 26 rfl) rfl ?_
      exact a_iret (pc := 53) (dk D 27 rfl) rfl rfl H
    · replace H := H.2 c
      refine a_aload_n (pc := 31) (dk D 15 rfl) rfl ?_
      refine a_getr (r := 1) (pc := 32) (dk D 16 rfl) cls_11 fl_RX11_10 cf_1_0 ?_
      refine a_callVi (as := []) (st := []) (pc := 35) (dk D 17 rfl) cl_RX11_123 ⟨Nat.le_of_ble_eq_true rfl, Nat.le_of_ble_eq_true rfl⟩ ⟨Nat.le_of_ble_eq_true rfl, Nat.le_of_ble_eq_true rfl⟩ cls_10 rfl cc_2 rfl rfl rfl (Nat.le_of_ble_eq_true rfl) (Call.mono H fun r9 h10 H => ?_)
      exact a_iret (pc := 38) (dk D 18 rfl) rfl rfl H
  · replace H := H.2 c
    refine a_iconst (pc := 7) (dk D 3 rfl) (ik rfl) ?_
    exact a_iret (pc := 8) (dk D 4 rfl) rfl rfl H
set_option maxHeartbeats 40000000 in
theorem T_X11_due_1_0 {G : GG} {Φ : Int → Hp → Prop} {h : Hp} {x1 : Int} {x2 : Int} (H : Call G m_X11_isProgram [iv x2] h (fun r1 h2 => ((r1 = 0 → Φ (-1) h2) ∧ (r1 ≠ 0 → (((h2 34 4) < x1 → Call G m_X0_addDue [rv 34, iv x1, iv x2] h2 (fun r3 h4 => Φ r3 h4)) ∧ (x1 ≤ (h2 34 4) → Φ (-1) h2)))))) : AT G m_X11_due 0 [(0, rv 1), (1, iv x1), (2, iv x2)] [] h Φ := by
  have D := dt_X11_due
  refine a_iload_n (pc := 0) (dk D 0 rfl) rfl ?_
  refine a_callSi (as := [iv x2]) (st := []) (pc := 1) (dk D 1 rfl) cl_RX11_196 ⟨Nat.le_of_ble_eq_true rfl, Nat.le_of_ble_eq_true rfl⟩ ⟨Nat.le_of_ble_eq_true rfl, Nat.le_of_ble_eq_true rfl⟩ rfl rfl rfl (Nat.le_of_ble_eq_true rfl) (Call.mono H fun r1 h2 H => ?_)
  refine a_if_eq (pc := 4) (dk D 2 rfl) (tgt := 18) rfl ⟨fun c => ?_, fun c => ?_⟩
  · replace H := H.1 c
    refine a_iconst (pc := 18) (dk D 8 rfl) (ik rfl) ?_
    exact a_iret (pc := 19) (dk D 9 rfl) rfl rfl H
  · replace H := H.2 c
    refine a_iload_n (pc := 7) (dk D 3 rfl) rfl ?_
    refine a_aload_n (pc := 8) (dk D 4 rfl) rfl ?_
    refine a_getr (r := 33) (pc := 9) (dk D 5 rfl) cls_11 fl_RX11_75 cf_1_9 ?_
    refine a_geti (pc := 12) (dk D 6 rfl) cls_0 fl_RX11_162 cf_34_4 ?_
    refine a_icmp_gt (pc := 15) (dk D 7 rfl) (tgt := 20) rfl ⟨fun c => ?_, fun c => ?_⟩
    · replace H := H.1 c
      refine a_aload_n (pc := 20) (dk D 10 rfl) rfl ?_
      refine a_getr (r := 33) (pc := 21) (dk D 11 rfl) cls_11 fl_RX11_75 cf_1_9 ?_
      refine a_iload_n (pc := 24) (dk D 12 rfl) rfl ?_
      refine a_iload_n (pc := 25) (dk D 13 rfl) rfl ?_
      refine a_callVi (as := [iv x1, iv x2]) (st := []) (pc := 26) (dk D 14 rfl) cl_RX11_206 ⟨Nat.le_of_ble_eq_true rfl, Nat.le_of_ble_eq_true rfl⟩ ⟨Nat.le_of_ble_eq_true rfl, Nat.le_of_ble_eq_true rfl⟩ cls_0 rfl cc_34 rfl rfl rfl (Nat.le_of_ble_eq_true rfl) (Call.mono H fun r3 h4 H => ?_)
      exact a_iret (pc := 29) (dk D 15 rfl) rfl rfl H
    · replace H := H.2 c
      refine a_iconst (pc := 18) (dk D 8 rfl) (ik rfl) ?_
      exact a_iret (pc := 19) (dk D 9 rfl) rfl rfl H
set_option maxHeartbeats 40000000 in
theorem T_X11_mode_1_0 {G : GG} {Φ : Int → Hp → Prop} {h : Hp} {x1 : Int} {x2 : Int} {x3 : Int} (H : Call G m_X11_within [iv x1, iv 0, iv 3] h (fun r1 h2 => ((r1 = 0 → Φ (-1) h2) ∧ (r1 ≠ 0 → Call G m_X11_within [iv x2, iv 0, iv 255] h2 (fun r3 h4 => ((r3 = 0 → Φ (-1) h4) ∧ (r3 ≠ 0 → Call G m_X11_within [iv x3, iv 0, iv 255] h4 (fun r5 h6 => ((r5 ≠ 0 → (0 ≤ x1 ∧ x1 < 8) ∧ (0 ≤ (w32 (4 + x1)) ∧ (w32 (4 + x1)) < 8) ∧ Φ 1 (up (up h6 35 x1 x2) 35 (w32 (4 + x1)) x3)) ∧ (r5 = 0 → Φ (-1) h6)))))))))) : AT G m_X11_mode 0 [(0, rv 1), (1, iv x1), (2, iv x2), (3, iv x3)] [] h Φ := by
  have D := dt_X11_mode
  refine a_iload_n (pc := 0) (dk D 0 rfl) rfl ?_
  refine a_iconst (pc := 1) (dk D 1 rfl) (ik rfl) ?_
  refine a_iconst (pc := 2) (dk D 2 rfl) (ik rfl) ?_
  refine a_callSi (as := [iv x1, iv 0, iv 3]) (st := []) (pc := 3) (dk D 3 rfl) cl_RX11_104 ⟨Nat.le_of_ble_eq_true rfl, Nat.le_of_ble_eq_true rfl⟩ ⟨Nat.le_of_ble_eq_true rfl, Nat.le_of_ble_eq_true rfl⟩ rfl rfl rfl (Nat.le_of_ble_eq_true rfl) (Call.mono H fun r1 h2 H => ?_)
  refine a_if_eq (pc := 6) (dk D 4 rfl) (tgt := 31) rfl ⟨fun c => ?_, fun c => ?_⟩
  · replace H := H.1 c
    refine a_iconst (pc := 31) (dk D 15 rfl) (ik rfl) ?_
    exact a_iret (pc := 32) (dk D 16 rfl) rfl rfl H
  · replace H := H.2 c
    refine a_iload_n (pc := 9) (dk D 5 rfl) rfl ?_
    refine a_iconst (pc := 10) (dk D 6 rfl) (ik rfl) ?_
    refine a_sipush (pc := 11) (dk D 7 rfl) (ik rfl) (spk rfl) ?_
    refine a_callSi (as := [iv x2, iv 0, iv 255]) (st := []) (pc := 14) (dk D 8 rfl) cl_RX11_104 ⟨Nat.le_of_ble_eq_true rfl, Nat.le_of_ble_eq_true rfl⟩ ⟨Nat.le_of_ble_eq_true rfl, Nat.le_of_ble_eq_true rfl⟩ rfl rfl rfl (Nat.le_of_ble_eq_true rfl) (Call.mono H fun r3 h4 H => ?_)
    refine a_if_eq (pc := 17) (dk D 9 rfl) (tgt := 31) rfl ⟨fun c => ?_, fun c => ?_⟩
    · replace H := H.1 c
      refine a_iconst (pc := 31) (dk D 15 rfl) (ik rfl) ?_
      exact a_iret (pc := 32) (dk D 16 rfl) rfl rfl H
    · replace H := H.2 c
      refine a_iload_n (pc := 20) (dk D 10 rfl) rfl ?_
      refine a_iconst (pc := 21) (dk D 11 rfl) (ik rfl) ?_
      refine a_sipush (pc := 22) (dk D 12 rfl) (ik rfl) (spk rfl) ?_
      refine a_callSi (as := [iv x3, iv 0, iv 255]) (st := []) (pc := 25) (dk D 13 rfl) cl_RX11_104 ⟨Nat.le_of_ble_eq_true rfl, Nat.le_of_ble_eq_true rfl⟩ ⟨Nat.le_of_ble_eq_true rfl, Nat.le_of_ble_eq_true rfl⟩ rfl rfl rfl (Nat.le_of_ble_eq_true rfl) (Call.mono H fun r5 h6 H => ?_)
      refine a_if_ne (pc := 28) (dk D 14 rfl) (tgt := 33) rfl ⟨fun c => ?_, fun c => ?_⟩
      · replace H := H.1 c
        refine a_aload_n (pc := 33) (dk D 17 rfl) rfl ?_
        refine a_getr (r := 33) (pc := 34) (dk D 18 rfl) cls_11 fl_RX11_75 cf_1_9 ?_
        refine a_getr (r := 34) (pc := 37) (dk D 19 rfl) cls_0 fl_RX11_209 cf_34_7 ?_
        refine a_iload_n (pc := 40) (dk D 20 rfl) rfl ?_
        refine a_iload_n (pc := 41) (dk D 21 rfl) rfl ?_
        refine a_iast (pc := 42) (dk D 22 rfl) ar_35 ⟨H.1, ?_⟩
        replace H := H.2
        refine a_aload_n (pc := 43) (dk D 23 rfl) rfl ?_
        refine a_getr (r := 33) (pc := 44) (dk D 24 rfl) cls_11 fl_RX11_75 cf_1_9 ?_
        refine a_getr (r := 34) (pc := 47) (dk D 25 rfl) cls_0 fl_RX11_209 cf_34_7 ?_
        refine a_iconst (pc := 50) (dk D 26 rfl) (ik rfl) ?_
        refine a_iload_n (pc := 51) (dk D 27 rfl) rfl ?_
        refine a_iadd (pc := 52) (dk D 28 rfl) ?_
        refine a_iload_n (pc := 53) (dk D 29 rfl) rfl ?_
        refine a_iast (pc := 54) (dk D 30 rfl) ar_35 ⟨H.1, ?_⟩
        replace H := H.2
        refine a_iconst (pc := 55) (dk D 31 rfl) (ik rfl) ?_
        exact a_iret (pc := 56) (dk D 32 rfl) rfl rfl H
      · replace H := H.2 c
        refine a_iconst (pc := 31) (dk D 15 rfl) (ik rfl) ?_
        exact a_iret (pc := 32) (dk D 16 rfl) rfl rfl H
set_option maxHeartbeats 40000000 in
theorem T_X11_monitor_1_0 {G : GG} {Φ : Int → Hp → Prop} {h : Hp} {x1 : Int} {x2 : Int} {x3 : Int} (H : Call G m_X11_within [iv x1, iv 0, iv 7] h (fun r1 h2 => ((r1 = 0 → Φ (-1) h2) ∧ (r1 ≠ 0 → Call G m_X11_within [iv x2, iv 1, iv 99] h2 (fun r3 h4 => ((r3 = 0 → Φ (-1) h4) ∧ (r3 ≠ 0 → Call G m_X11_within [iv x3, iv 0, iv 8] h4 (fun r5 h6 => ((r5 ≠ 0 → (((h6 2 1) ≤ 0 → Call G m_X3_readMonitor [rv 4, rv 2] h6 (fun _ h8 => Call G m_X10_closes [rv 2] h8 (fun r9 h10 => ((r9 ≠ 0 → Call G m_X0_setMonitor [rv 34, iv x1, iv x2, iv x3, rv 0] h10 (fun _ h12 => Φ 1 h12)) ∧ (r9 = 0 → Call G m_X10_wrong [rv 2] h10 (fun r13 h14 => Φ r13 h14)))))) ∧ (0 < (h6 2 1) → Call G m_X3_readMonitor [rv 4, rv 2] h6 (fun _ h16 => Call G m_X10_closes [rv 2] h16 (fun r17 h18 => ((r17 ≠ 0 → Call G m_X0_setMonitor [rv 34, iv x1, iv x2, iv x3, rv 4] h18 (fun _ h20 => Φ 1 h20)) ∧ (r17 = 0 → Call G m_X10_wrong [rv 2] h18 (fun r21 h22 => Φ r21 h22)))))))) ∧ (r5 = 0 → Φ (-1) h6)))))))))) : AT G m_X11_monitor 0 [(0, rv 1), (1, iv x1), (2, iv x2), (3, iv x3)] [] h Φ := by
  have D := dt_X11_monitor
  refine a_iload_n (pc := 0) (dk D 0 rfl) rfl ?_
  refine a_iconst (pc := 1) (dk D 1 rfl) (ik rfl) ?_
  refine a_bipush (pc := 2) (dk D 2 rfl) (ik rfl) (bpk rfl) ?_
  refine a_callSi (as := [iv x1, iv 0, iv 7]) (st := []) (pc := 4) (dk D 3 rfl) cl_RX11_104 ⟨Nat.le_of_ble_eq_true rfl, Nat.le_of_ble_eq_true rfl⟩ ⟨Nat.le_of_ble_eq_true rfl, Nat.le_of_ble_eq_true rfl⟩ rfl rfl rfl (Nat.le_of_ble_eq_true rfl) (Call.mono H fun r1 h2 H => ?_)
  refine a_if_eq (pc := 7) (dk D 4 rfl) (tgt := 30) rfl ⟨fun c => ?_, fun c => ?_⟩
  · replace H := H.1 c
    refine a_iconst (pc := 30) (dk D 15 rfl) (ik rfl) ?_
    exact a_iret (pc := 31) (dk D 16 rfl) rfl rfl H
  · replace H := H.2 c
    refine a_iload_n (pc := 10) (dk D 5 rfl) rfl ?_
    refine a_iconst (pc := 11) (dk D 6 rfl) (ik rfl) ?_
    refine a_bipush (pc := 12) (dk D 7 rfl) (ik rfl) (bpk rfl) ?_
    refine a_callSi (as := [iv x2, iv 1, iv 99]) (st := []) (pc := 14) (dk D 8 rfl) cl_RX11_104 ⟨Nat.le_of_ble_eq_true rfl, Nat.le_of_ble_eq_true rfl⟩ ⟨Nat.le_of_ble_eq_true rfl, Nat.le_of_ble_eq_true rfl⟩ rfl rfl rfl (Nat.le_of_ble_eq_true rfl) (Call.mono H fun r3 h4 H => ?_)
    refine a_if_eq (pc := 17) (dk D 9 rfl) (tgt := 30) rfl ⟨fun c => ?_, fun c => ?_⟩
    · replace H := H.1 c
      refine a_iconst (pc := 30) (dk D 15 rfl) (ik rfl) ?_
      exact a_iret (pc := 31) (dk D 16 rfl) rfl rfl H
    · replace H := H.2 c
      refine a_iload_n (pc := 20) (dk D 10 rfl) rfl ?_
      refine a_iconst (pc := 21) (dk D 11 rfl) (ik rfl) ?_
      refine a_bipush (pc := 22) (dk D 12 rfl) (ik rfl) (bpk rfl) ?_
      refine a_callSi (as := [iv x3, iv 0, iv 8]) (st := []) (pc := 24) (dk D 13 rfl) cl_RX11_104 ⟨Nat.le_of_ble_eq_true rfl, Nat.le_of_ble_eq_true rfl⟩ ⟨Nat.le_of_ble_eq_true rfl, Nat.le_of_ble_eq_true rfl⟩ rfl rfl rfl (Nat.le_of_ble_eq_true rfl) (Call.mono H fun r5 h6 H => ?_)
      refine a_if_ne (pc := 27) (dk D 14 rfl) (tgt := 32) rfl ⟨fun c => ?_, fun c => ?_⟩
      · replace H := H.1 c
        refine a_aload_n (pc := 32) (dk D 17 rfl) rfl ?_
        refine a_getr (r := 1) (pc := 33) (dk D 18 rfl) cls_11 fl_RX11_10 cf_1_0 ?_
        refine a_geti (pc := 36) (dk D 19 rfl) cls_10 fl_RX11_98 cf_2_1 ?_
        refine a_if_le (pc := 39) (dk D 20 rfl) (tgt := 46) rfl ⟨fun c => ?_, fun c => ?_⟩
        · replace H := H.1 c
          refine a_iconst (pc := 46) (dk D 23 rfl) (ik rfl) ?_
          refine a_istore (pc := 47) (dk D 24 rfl) (by decide) rfl rfl ?_
          refine a_aload_n (pc := 49) (dk D 25 rfl) rfl ?_
          refine a_getr (r := 3) (pc := 50) (dk D 26 rfl) cls_11 fl_RX11_21 cf_1_1 ?_
          refine a_aload_n (pc := 53) (dk D 27 rfl) rfl ?_
          refine a_getr (r := 1) (pc := 54) (dk D 28 rfl) cls_11 fl_RX11_10 cf_1_0 ?_
          refine a_callVv (as := [rv 2]) (st := []) (pc := 57) (dk D 29 rfl) cl_RX11_212 ⟨Nat.le_of_ble_eq_true rfl, Nat.le_of_ble_eq_true rfl⟩ ⟨Nat.le_of_ble_eq_true rfl, Nat.le_of_ble_eq_true rfl⟩ cls_3 rfl cc_4 rfl rfl rfl (Nat.le_of_ble_eq_true rfl) (Call.mono H fun _ h8 H => ?_)
          refine a_aload_n (pc := 60) (dk D 30 rfl) rfl ?_
          refine a_getr (r := 1) (pc := 61) (dk D 31 rfl) cls_11 fl_RX11_10 cf_1_0 ?_
          refine a_callVi (as := []) (st := []) (pc := 64) (dk D 32 rfl) cl_RX11_119 ⟨Nat.le_of_ble_eq_true rfl, Nat.le_of_ble_eq_true rfl⟩ ⟨Nat.le_of_ble_eq_true rfl, Nat.le_of_ble_eq_true rfl⟩ cls_10 rfl cc_2 rfl rfl rfl (Nat.le_of_ble_eq_true rfl) (Call.mono H fun r9 h10 H => ?_)
          refine a_if_ne (pc := 67) (dk D 33 rfl) (tgt := 78) rfl ⟨fun c => ?_, fun c => ?_⟩
          · replace H := H.1 c
            refine a_aload_n (pc := 78) (dk D 38 rfl) rfl ?_
            refine a_getr (r := 33) (pc := 79) (dk D 39 rfl) cls_11 fl_RX11_75 cf_1_9 ?_
            refine a_iload_n (pc := 82) (dk D 40 rfl) rfl ?_
            refine a_iload_n (pc := 83) (dk D 41 rfl) rfl ?_
            refine a_iload_n (pc := 84) (dk D 42 rfl) rfl ?_
            refine a_iload (pc := 85) (dk D 43 rfl) rfl ?_
            refine a_if_eq (pc := 87) (dk D 44 rfl) (tgt := 97) rfl ⟨fun _ => ?_, fun c => absurd c (by decide)⟩
            refine a_null (pc := 97) (dk D 48 rfl) ?_
            refine a_callVv (as := [iv x1, iv x2, iv x3, rv 0]) (st := []) (pc := 98) (dk D 49 rfl) cl_RX11_216 ⟨Nat.le_of_ble_eq_true rfl, Nat.le_of_ble_eq_true rfl⟩ ⟨Nat.le_of_ble_eq_true rfl, Nat.le_of_ble_eq_true rfl⟩ cls_0 rfl cc_34 rfl rfl rfl (Nat.le_of_ble_eq_true rfl) (Call.mono H fun _ h12 H => ?_)
            refine a_iconst (pc := 101) (dk D 50 rfl) (ik rfl) ?_
            exact a_iret (pc := 102) (dk D 51 rfl) rfl rfl H
          · replace H := H.2 c
            refine a_aload_n (pc := 70) (dk D 34 rfl) rfl ?_
            refine a_getr (r := 1) (pc := 71) (dk D 35 rfl) cls_11 fl_RX11_10 cf_1_0 ?_
            refine a_callVi (as := []) (st := []) (pc := 74) (dk D 36 rfl) cl_RX11_123 ⟨Nat.le_of_ble_eq_true rfl, Nat.le_of_ble_eq_true rfl⟩ ⟨Nat.le_of_ble_eq_true rfl, Nat.le_of_ble_eq_true rfl⟩ cls_10 rfl cc_2 rfl rfl rfl (Nat.le_of_ble_eq_true rfl) (Call.mono H fun r13 h14 H => ?_)
            exact a_iret (pc := 77) (dk D 37 rfl) rfl rfl H
        · replace H := H.2 c
          refine a_iconst (pc := 42) (dk D 21 rfl) (ik rfl) ?_
          refine a_goto (pc := 43) (dk D 22 rfl) (tgt := 47) rfl ?_
          refine a_istore (pc := 47) (dk D 24 rfl) (by decide) rfl rfl ?_
          refine a_aload_n (pc := 49) (dk D 25 rfl) rfl ?_
          refine a_getr (r := 3) (pc := 50) (dk D 26 rfl) cls_11 fl_RX11_21 cf_1_1 ?_
          refine a_aload_n (pc := 53) (dk D 27 rfl) rfl ?_
          refine a_getr (r := 1) (pc := 54) (dk D 28 rfl) cls_11 fl_RX11_10 cf_1_0 ?_
          refine a_callVv (as := [rv 2]) (st := []) (pc := 57) (dk D 29 rfl) cl_RX11_212 ⟨Nat.le_of_ble_eq_true rfl, Nat.le_of_ble_eq_true rfl⟩ ⟨Nat.le_of_ble_eq_true rfl, Nat.le_of_ble_eq_true rfl⟩ cls_3 rfl cc_4 rfl rfl rfl (Nat.le_of_ble_eq_true rfl) (Call.mono H fun _ h16 H => ?_)
          refine a_aload_n (pc := 60) (dk D 30 rfl) rfl ?_
          refine a_getr (r := 1) (pc := 61) (dk D 31 rfl) cls_11 fl_RX11_10 cf_1_0 ?_
          refine a_callVi (as := []) (st := []) (pc := 64) (dk D 32 rfl) cl_RX11_119 ⟨Nat.le_of_ble_eq_true rfl, Nat.le_of_ble_eq_true rfl⟩ ⟨Nat.le_of_ble_eq_true rfl, Nat.le_of_ble_eq_true rfl⟩ cls_10 rfl cc_2 rfl rfl rfl (Nat.le_of_ble_eq_true rfl) (Call.mono H fun r17 h18 H => ?_)
          refine a_if_ne (pc := 67) (dk D 33 rfl) (tgt := 78) rfl ⟨fun c => ?_, fun c => ?_⟩
          · replace H := H.1 c
            refine a_aload_n (pc := 78) (dk D 38 rfl) rfl ?_
            refine a_getr (r := 33) (pc := 79) (dk D 39 rfl) cls_11 fl_RX11_75 cf_1_9 ?_
            refine a_iload_n (pc := 82) (dk D 40 rfl) rfl ?_
            refine a_iload_n (pc := 83) (dk D 41 rfl) rfl ?_
            refine a_iload_n (pc := 84) (dk D 42 rfl) rfl ?_
            refine a_iload (pc := 85) (dk D 43 rfl) rfl ?_
            refine a_if_eq (pc := 87) (dk D 44 rfl) (tgt := 97) rfl ⟨fun c => absurd c (by decide), fun _ => ?_⟩
            refine a_aload_n (pc := 90) (dk D 45 rfl) rfl ?_
            refine a_getr (r := 3) (pc := 91) (dk D 46 rfl) cls_11 fl_RX11_21 cf_1_1 ?_
            refine a_goto (pc := 94) (dk D 47 rfl) (tgt := 98) rfl ?_
            refine a_callVv (as := [iv x1, iv x2, iv x3, rv 4]) (st := []) (pc := 98) (dk D 49 rfl) cl_RX11_216 ⟨Nat.le_of_ble_eq_true rfl, Nat.le_of_ble_eq_true rfl⟩ ⟨Nat.le_of_ble_eq_true rfl, Nat.le_of_ble_eq_true rfl⟩ cls_0 rfl cc_34 rfl rfl rfl (Nat.le_of_ble_eq_true rfl) (Call.mono H fun _ h20 H => ?_)
            refine a_iconst (pc := 101) (dk D 50 rfl) (ik rfl) ?_
            exact a_iret (pc := 102) (dk D 51 rfl) rfl rfl H
          · replace H := H.2 c
            refine a_aload_n (pc := 70) (dk D 34 rfl) rfl ?_
            refine a_getr (r := 1) (pc := 71) (dk D 35 rfl) cls_11 fl_RX11_10 cf_1_0 ?_
            refine a_callVi (as := []) (st := []) (pc := 74) (dk D 36 rfl) cl_RX11_123 ⟨Nat.le_of_ble_eq_true rfl, Nat.le_of_ble_eq_true rfl⟩ ⟨Nat.le_of_ble_eq_true rfl, Nat.le_of_ble_eq_true rfl⟩ cls_10 rfl cc_2 rfl rfl rfl (Nat.le_of_ble_eq_true rfl) (Call.mono H fun r21 h22 H => ?_)
            exact a_iret (pc := 77) (dk D 37 rfl) rfl rfl H
      · replace H := H.2 c
        refine a_iconst (pc := 30) (dk D 15 rfl) (ik rfl) ?_
        exact a_iret (pc := 31) (dk D 16 rfl) rfl rfl H
set_option maxHeartbeats 40000000 in
theorem T_X11_flip_1_0 {G : GG} {Φ : Int → Hp → Prop} {h : Hp} {x1 : Int} {x2 : Int} (H : Call G m_X11_isWord [iv x1] h (fun r1 h2 => ((r1 = 0 → Φ (-1) h2) ∧ (r1 ≠ 0 → Call G m_X11_within [iv x2, iv 0, iv 12] h2 (fun r3 h4 => ((r3 ≠ 0 → (0 ≤ x1 ∧ x1 < 64) ∧ (0 ≤ x1 ∧ x1 < 64) ∧ (0 ≤ x1 ∧ x1 < 64) ∧ Φ (bxor (h4 25 x1) (bshl 1 x2)) (up h4 25 x1 (bxor (h4 25 x1) (bshl 1 x2)))) ∧ (r3 = 0 → Φ (-1) h4))))))) : AT G m_X11_flip 0 [(0, rv 1), (1, iv x1), (2, iv x2)] [] h Φ := by
  have D := dt_X11_flip
  refine a_iload_n (pc := 0) (dk D 0 rfl) rfl ?_
  refine a_callSi (as := [iv x1]) (st := []) (pc := 1) (dk D 1 rfl) cl_RX11_220 ⟨Nat.le_of_ble_eq_true rfl, Nat.le_of_ble_eq_true rfl⟩ ⟨Nat.le_of_ble_eq_true rfl, Nat.le_of_ble_eq_true rfl⟩ rfl rfl rfl (Nat.le_of_ble_eq_true rfl) (Call.mono H fun r1 h2 H => ?_)
  refine a_if_eq (pc := 4) (dk D 2 rfl) (tgt := 17) rfl ⟨fun c => ?_, fun c => ?_⟩
  · replace H := H.1 c
    refine a_iconst (pc := 17) (dk D 8 rfl) (ik rfl) ?_
    exact a_iret (pc := 18) (dk D 9 rfl) rfl rfl H
  · replace H := H.2 c
    refine a_iload_n (pc := 7) (dk D 3 rfl) rfl ?_
    refine a_iconst (pc := 8) (dk D 4 rfl) (ik rfl) ?_
    refine a_bipush (pc := 9) (dk D 5 rfl) (ik rfl) (bpk rfl) ?_
    refine a_callSi (as := [iv x2, iv 0, iv 12]) (st := []) (pc := 11) (dk D 6 rfl) cl_RX11_104 ⟨Nat.le_of_ble_eq_true rfl, Nat.le_of_ble_eq_true rfl⟩ ⟨Nat.le_of_ble_eq_true rfl, Nat.le_of_ble_eq_true rfl⟩ rfl rfl rfl (Nat.le_of_ble_eq_true rfl) (Call.mono H fun r3 h4 H => ?_)
    refine a_if_ne (pc := 14) (dk D 7 rfl) (tgt := 19) rfl ⟨fun c => ?_, fun c => ?_⟩
    · replace H := H.1 c
      refine a_aload_n (pc := 19) (dk D 10 rfl) rfl ?_
      refine a_getr (r := 23) (pc := 20) (dk D 11 rfl) cls_11 fl_RX11_59 cf_1_7 ?_
      refine a_getr (r := 24) (pc := 23) (dk D 12 rfl) cls_5 fl_RX11_223 cf_24_0 ?_
      refine a_iload_n (pc := 26) (dk D 13 rfl) rfl ?_
      refine a_dup2 (pc := 27) (dk D 14 rfl) rfl rfl ?_
      refine a_iald (pc := 28) (dk D 15 rfl) ar_25 ⟨H.1, ?_⟩
      replace H := H.2
      refine a_iconst (pc := 29) (dk D 16 rfl) (ik rfl) ?_
      refine a_iload_n (pc := 30) (dk D 17 rfl) rfl ?_
      refine a_ishl (pc := 31) (dk D 18 rfl) ?_
      refine a_ixor (pc := 32) (dk D 19 rfl) ?_
      refine a_iast (pc := 33) (dk D 20 rfl) ar_25 ⟨H.1, ?_⟩
      replace H := H.2
      refine a_aload_n (pc := 34) (dk D 21 rfl) rfl ?_
      refine a_getr (r := 23) (pc := 35) (dk D 22 rfl) cls_11 fl_RX11_59 cf_1_7 ?_
      refine a_getr (r := 24) (pc := 38) (dk D 23 rfl) cls_5 fl_RX11_223 cf_24_0 ?_
      refine a_iload_n (pc := 41) (dk D 24 rfl) rfl ?_
      refine a_iald (pc := 42) (dk D 25 rfl) ar_25 ⟨H.1, ?_⟩
      replace H := H.2
      refine a_top (y := (bxor (h4 25 x1) (bshl 1 x2))) (by simp [up, cpy]) ?_
      exact a_iret (pc := 43) (dk D 26 rfl) rfl rfl H
    · replace H := H.2 c
      refine a_iconst (pc := 17) (dk D 8 rfl) (ik rfl) ?_
      exact a_iret (pc := 18) (dk D 9 rfl) rfl rfl H
set_option maxHeartbeats 40000000 in
theorem T_X11_tick_1_0 {G : GG} {Φ : Int → Hp → Prop} {h : Hp} {x1 : Int} (H : Call G m_X11_within [iv x1, iv 0, iv 500] h (fun r1 h2 => ((r1 ≠ 0 → AT G m_X11_tick 15 [(0, rv 1), (1, iv x1), (2, iv 0)] [] h2 Φ) ∧ (r1 = 0 → Φ (-1) h2)))) : AT G m_X11_tick 0 [(0, rv 1), (1, iv x1)] [] h Φ := by
  have D := dt_X11_tick
  refine a_iload_n (pc := 0) (dk D 0 rfl) rfl ?_
  refine a_iconst (pc := 1) (dk D 1 rfl) (ik rfl) ?_
  refine a_sipush (pc := 2) (dk D 2 rfl) (ik rfl) (spk rfl) ?_
  refine a_callSi (as := [iv x1, iv 0, iv 500]) (st := []) (pc := 5) (dk D 3 rfl) cl_RX11_104 ⟨Nat.le_of_ble_eq_true rfl, Nat.le_of_ble_eq_true rfl⟩ ⟨Nat.le_of_ble_eq_true rfl, Nat.le_of_ble_eq_true rfl⟩ rfl rfl rfl (Nat.le_of_ble_eq_true rfl) (Call.mono H fun r1 h2 H => ?_)
  refine a_if_ne (pc := 8) (dk D 4 rfl) (tgt := 13) rfl ⟨fun c => ?_, fun c => ?_⟩
  · replace H := H.1 c
    refine a_iconst (pc := 13) (dk D 7 rfl) (ik rfl) ?_
    refine a_istore_n (pc := 14) (dk D 8 rfl) (by decide) rfl rfl ?_
    exact a_pick [0, 1, 2] rfl H
  · replace H := H.2 c
    refine a_iconst (pc := 11) (dk D 5 rfl) (ik rfl) ?_
    exact a_iret (pc := 12) (dk D 6 rfl) rfl rfl H
set_option maxHeartbeats 40000000 in
theorem T_X11_tick_1_15 {G : GG} {Φ : Int → Hp → Prop} {h : Hp} {x1 : Int} {x2 : Int} (H : ((x1 ≤ x2 → Φ (h 34 4) h) ∧ (x2 < x1 → Call G m_X0_doSecond [rv 34] h (fun _ h2 => AT G m_X11_tick 15 [(0, rv 1), (1, iv x1), (2, iv (w32 (x2 + 1)))] [] h2 Φ)))) : AT G m_X11_tick 15 [(0, rv 1), (1, iv x1), (2, iv x2)] [] h Φ := by
  have D := dt_X11_tick
  refine a_iload_n (pc := 15) (dk D 9 rfl) rfl ?_
  refine a_iload_n (pc := 16) (dk D 10 rfl) rfl ?_
  refine a_icmp_ge (pc := 17) (dk D 11 rfl) (tgt := 33) rfl ⟨fun c => ?_, fun c => ?_⟩
  · replace H := H.1 c
    refine a_aload_n (pc := 33) (dk D 17 rfl) rfl ?_
    refine a_getr (r := 33) (pc := 34) (dk D 18 rfl) cls_11 fl_RX11_75 cf_1_9 ?_
    refine a_geti (pc := 37) (dk D 19 rfl) cls_0 fl_RX11_162 cf_34_4 ?_
    exact a_iret (pc := 40) (dk D 20 rfl) rfl rfl H
  · replace H := H.2 c
    refine a_aload_n (pc := 20) (dk D 12 rfl) rfl ?_
    refine a_getr (r := 33) (pc := 21) (dk D 13 rfl) cls_11 fl_RX11_75 cf_1_9 ?_
    refine a_callVv (as := []) (st := []) (pc := 24) (dk D 14 rfl) cl_RX11_226 ⟨Nat.le_of_ble_eq_true rfl, Nat.le_of_ble_eq_true rfl⟩ ⟨Nat.le_of_ble_eq_true rfl, Nat.le_of_ble_eq_true rfl⟩ cls_0 rfl cc_34 rfl rfl rfl (Nat.le_of_ble_eq_true rfl) (Call.mono H fun _ h2 H => ?_)
    refine a_iinc (pc := 27) (dk D 15 rfl) (by decide) rfl rfl rfl ?_
    refine a_goto (pc := 30) (dk D 16 rfl) (tgt := 15) rfl ?_
    exact a_pick [0, 1, 2] rfl H
set_option maxHeartbeats 40000000 in
theorem T_X11_ship_1_0 {G : GG} {Φ : Int → Hp → Prop} {h : Hp} {x1 : Int} (H : (((x1 = 0) → Φ (h 34 4) h) ∧ ((x1 = 1) → Call G m_X6_angle [rv 14, iv (h 34 4)] h (fun r1 h2 => Φ r1 h2)) ∧ ((x1 = 2) → Call G m_X6_isInShadow [rv 14, iv (h 34 4)] h (fun r3 h4 => Call G m_X11_bit [iv r3] h4 (fun r5 h6 => Φ r5 h6))) ∧ ((x1 = 3) → Φ (h 18 1) h) ∧ ((x1 = 4) → Φ (h 18 4) h) ∧ ((x1 = 5) → Φ (h 34 6) h) ∧ ((x1 = 6) → Φ (h 34 5) h) ∧ ((x1 = 7) → Φ (h 24 1) h) ∧ ((x1 = 8) → Φ (h 24 2) h) ∧ ((x1 = 9) → Φ (h 26 3) h) ∧ ((x1 = 10) → Call G m_X4_recordedPackets [rv 26] h (fun r7 h8 => Φ r7 h8)) ∧ ((x1 = 11) → Φ (h 26 13) h) ∧ ((x1 = 12) → Φ (h 26 14) h) ∧ ((x1 = 13) → Φ (h 34 14) h) ∧ ((x1 = 14) → Φ (h 26 11) h) ∧ (((x1 < 0 ∨ 14 < x1)) → Φ (-1) h))) : AT G m_X11_ship 0 [(0, rv 1), (1, iv x1)] [] h Φ := by
  have D := dt_X11_ship
  refine a_iload_n (pc := 0) (dk D 0 rfl) rfl ?_
  have B0 : (x1 = 0) → AT G m_X11_ship 76 [(0, rv 1), (1, iv x1)] [] h Φ := by
    intro c
    replace H := H.1 c
    refine a_aload_n (pc := 76) (dk D 2 rfl) rfl ?_
    refine a_getr (r := 33) (pc := 77) (dk D 3 rfl) cls_11 fl_RX11_75 cf_1_9 ?_
    refine a_geti (pc := 80) (dk D 4 rfl) cls_0 fl_RX11_162 cf_34_4 ?_
    exact a_iret (pc := 83) (dk D 5 rfl) rfl rfl H
  have B1 : (x1 = 1) → AT G m_X11_ship 84 [(0, rv 1), (1, iv x1)] [] h Φ := by
    intro c
    replace H := H.2.1 c
    refine a_aload_n (pc := 84) (dk D 6 rfl) rfl ?_
    refine a_getr (r := 13) (pc := 85) (dk D 7 rfl) cls_11 fl_RX11_45 cf_1_5 ?_
    refine a_aload_n (pc := 88) (dk D 8 rfl) rfl ?_
    refine a_getr (r := 33) (pc := 89) (dk D 9 rfl) cls_11 fl_RX11_75 cf_1_9 ?_
    refine a_geti (pc := 92) (dk D 10 rfl) cls_0 fl_RX11_162 cf_34_4 ?_
    refine a_callVi (as := [iv (h 34 4)]) (st := []) (pc := 95) (dk D 11 rfl) cl_RX11_229 ⟨Nat.le_of_ble_eq_true rfl, Nat.le_of_ble_eq_true rfl⟩ ⟨Nat.le_of_ble_eq_true rfl, Nat.le_of_ble_eq_true rfl⟩ cls_6 rfl cc_14 rfl rfl rfl (Nat.le_of_ble_eq_true rfl) (Call.mono H fun r1 h2 H => ?_)
    exact a_iret (pc := 98) (dk D 12 rfl) rfl rfl H
  have B2 : (x1 = 2) → AT G m_X11_ship 99 [(0, rv 1), (1, iv x1)] [] h Φ := by
    intro c
    replace H := H.2.2.1 c
    refine a_aload_n (pc := 99) (dk D 13 rfl) rfl ?_
    refine a_getr (r := 13) (pc := 100) (dk D 14 rfl) cls_11 fl_RX11_45 cf_1_5 ?_
    refine a_aload_n (pc := 103) (dk D 15 rfl) rfl ?_
    refine a_getr (r := 33) (pc := 104) (dk D 16 rfl) cls_11 fl_RX11_75 cf_1_9 ?_
    refine a_geti (pc := 107) (dk D 17 rfl) cls_0 fl_RX11_162 cf_34_4 ?_
    refine a_callVi (as := [iv (h 34 4)]) (st := []) (pc := 110) (dk D 18 rfl) cl_RX11_233 ⟨Nat.le_of_ble_eq_true rfl, Nat.le_of_ble_eq_true rfl⟩ ⟨Nat.le_of_ble_eq_true rfl, Nat.le_of_ble_eq_true rfl⟩ cls_6 rfl cc_14 rfl rfl rfl (Nat.le_of_ble_eq_true rfl) (Call.mono H fun r3 h4 H => ?_)
    refine a_callSi (as := [iv r3]) (st := []) (pc := 113) (dk D 19 rfl) cl_RX11_236 ⟨Nat.le_of_ble_eq_true rfl, Nat.le_of_ble_eq_true rfl⟩ ⟨Nat.le_of_ble_eq_true rfl, Nat.le_of_ble_eq_true rfl⟩ rfl rfl rfl (Nat.le_of_ble_eq_true rfl) (Call.mono H fun r5 h6 H => ?_)
    exact a_iret (pc := 116) (dk D 20 rfl) rfl rfl H
  have B3 : (x1 = 3) → AT G m_X11_ship 117 [(0, rv 1), (1, iv x1)] [] h Φ := by
    intro c
    replace H := H.2.2.2.1 c
    refine a_aload_n (pc := 117) (dk D 21 rfl) rfl ?_
    refine a_getr (r := 17) (pc := 118) (dk D 22 rfl) cls_11 fl_RX11_52 cf_1_6 ?_
    refine a_geti (pc := 121) (dk D 23 rfl) cls_8 fl_RX11_173 cf_18_1 ?_
    exact a_iret (pc := 124) (dk D 24 rfl) rfl rfl H
  have B4 : (x1 = 4) → AT G m_X11_ship 125 [(0, rv 1), (1, iv x1)] [] h Φ := by
    intro c
    replace H := H.2.2.2.2.1 c
    refine a_aload_n (pc := 125) (dk D 25 rfl) rfl ?_
    refine a_getr (r := 17) (pc := 126) (dk D 26 rfl) cls_11 fl_RX11_52 cf_1_6 ?_
    refine a_geti (pc := 129) (dk D 27 rfl) cls_8 fl_RX11_240 cf_18_4 ?_
    exact a_iret (pc := 132) (dk D 28 rfl) rfl rfl H
  have B5 : (x1 = 5) → AT G m_X11_ship 133 [(0, rv 1), (1, iv x1)] [] h Φ := by
    intro c
    replace H := H.2.2.2.2.2.1 c
    refine a_aload_n (pc := 133) (dk D 29 rfl) rfl ?_
    refine a_getr (r := 33) (pc := 134) (dk D 30 rfl) cls_11 fl_RX11_75 cf_1_9 ?_
    refine a_geti (pc := 137) (dk D 31 rfl) cls_0 fl_RX11_243 cf_34_6 ?_
    exact a_iret (pc := 140) (dk D 32 rfl) rfl rfl H
  have B6 : (x1 = 6) → AT G m_X11_ship 141 [(0, rv 1), (1, iv x1)] [] h Φ := by
    intro c
    replace H := H.2.2.2.2.2.2.1 c
    refine a_aload_n (pc := 141) (dk D 33 rfl) rfl ?_
    refine a_getr (r := 33) (pc := 142) (dk D 34 rfl) cls_11 fl_RX11_75 cf_1_9 ?_
    refine a_geti (pc := 145) (dk D 35 rfl) cls_0 fl_RX11_246 cf_34_5 ?_
    exact a_iret (pc := 148) (dk D 36 rfl) rfl rfl H
  have B7 : (x1 = 7) → AT G m_X11_ship 149 [(0, rv 1), (1, iv x1)] [] h Φ := by
    intro c
    replace H := H.2.2.2.2.2.2.2.1 c
    refine a_aload_n (pc := 149) (dk D 37 rfl) rfl ?_
    refine a_getr (r := 23) (pc := 150) (dk D 38 rfl) cls_11 fl_RX11_59 cf_1_7 ?_
    refine a_geti (pc := 153) (dk D 39 rfl) cls_5 fl_RX11_249 cf_24_1 ?_
    exact a_iret (pc := 156) (dk D 40 rfl) rfl rfl H
  have B8 : (x1 = 8) → AT G m_X11_ship 157 [(0, rv 1), (1, iv x1)] [] h Φ := by
    intro c
    replace H := H.2.2.2.2.2.2.2.2.1 c
    refine a_aload_n (pc := 157) (dk D 41 rfl) rfl ?_
    refine a_getr (r := 23) (pc := 158) (dk D 42 rfl) cls_11 fl_RX11_59 cf_1_7 ?_
    refine a_geti (pc := 161) (dk D 43 rfl) cls_5 fl_RX11_252 cf_24_2 ?_
    exact a_iret (pc := 164) (dk D 44 rfl) rfl rfl H
  have B9 : (x1 = 9) → AT G m_X11_ship 165 [(0, rv 1), (1, iv x1)] [] h Φ := by
    intro c
    replace H := H.2.2.2.2.2.2.2.2.2.1 c
    refine a_aload_n (pc := 165) (dk D 45 rfl) rfl ?_
    refine a_getr (r := 25) (pc := 166) (dk D 46 rfl) cls_11 fl_RX11_66 cf_1_8 ?_
    refine a_geti (pc := 169) (dk D 47 rfl) cls_4 fl_RX11_255 cf_26_3 ?_
    exact a_iret (pc := 172) (dk D 48 rfl) rfl rfl H
  have B10 : (x1 = 10) → AT G m_X11_ship 173 [(0, rv 1), (1, iv x1)] [] h Φ := by
    intro c
    replace H := H.2.2.2.2.2.2.2.2.2.2.1 c
    refine a_aload_n (pc := 173) (dk D 49 rfl) rfl ?_
    refine a_getr (r := 25) (pc := 174) (dk D 50 rfl) cls_11 fl_RX11_66 cf_1_8 ?_
    refine a_callVi (as := []) (st := []) (pc := 177) (dk D 51 rfl) cl_RX11_258 ⟨Nat.le_of_ble_eq_true rfl, Nat.le_of_ble_eq_true rfl⟩ ⟨Nat.le_of_ble_eq_true rfl, Nat.le_of_ble_eq_true rfl⟩ cls_4 rfl cc_26 rfl rfl rfl (Nat.le_of_ble_eq_true rfl) (Call.mono H fun r7 h8 H => ?_)
    exact a_iret (pc := 180) (dk D 52 rfl) rfl rfl H
  have B11 : (x1 = 11) → AT G m_X11_ship 181 [(0, rv 1), (1, iv x1)] [] h Φ := by
    intro c
    replace H := H.2.2.2.2.2.2.2.2.2.2.2.1 c
    refine a_aload_n (pc := 181) (dk D 53 rfl) rfl ?_
    refine a_getr (r := 25) (pc := 182) (dk D 54 rfl) cls_11 fl_RX11_66 cf_1_8 ?_
    refine a_geti (pc := 185) (dk D 55 rfl) cls_4 fl_RX11_261 cf_26_13 ?_
    exact a_iret (pc := 188) (dk D 56 rfl) rfl rfl H
  have B12 : (x1 = 12) → AT G m_X11_ship 189 [(0, rv 1), (1, iv x1)] [] h Φ := by
    intro c
    replace H := H.2.2.2.2.2.2.2.2.2.2.2.2.1 c
    refine a_aload_n (pc := 189) (dk D 57 rfl) rfl ?_
    refine a_getr (r := 25) (pc := 190) (dk D 58 rfl) cls_11 fl_RX11_66 cf_1_8 ?_
    refine a_geti (pc := 193) (dk D 59 rfl) cls_4 fl_RX11_264 cf_26_14 ?_
    exact a_iret (pc := 196) (dk D 60 rfl) rfl rfl H
  have B13 : (x1 = 13) → AT G m_X11_ship 197 [(0, rv 1), (1, iv x1)] [] h Φ := by
    intro c
    replace H := H.2.2.2.2.2.2.2.2.2.2.2.2.2.1 c
    refine a_aload_n (pc := 197) (dk D 61 rfl) rfl ?_
    refine a_getr (r := 33) (pc := 198) (dk D 62 rfl) cls_11 fl_RX11_75 cf_1_9 ?_
    refine a_geti (pc := 201) (dk D 63 rfl) cls_0 fl_RX11_267 cf_34_14 ?_
    exact a_iret (pc := 204) (dk D 64 rfl) rfl rfl H
  have B14 : (x1 = 14) → AT G m_X11_ship 205 [(0, rv 1), (1, iv x1)] [] h Φ := by
    intro c
    replace H := H.2.2.2.2.2.2.2.2.2.2.2.2.2.2.1 c
    refine a_aload_n (pc := 205) (dk D 65 rfl) rfl ?_
    refine a_getr (r := 25) (pc := 206) (dk D 66 rfl) cls_11 fl_RX11_66 cf_1_8 ?_
    refine a_geti (pc := 209) (dk D 67 rfl) cls_4 fl_RX11_270 cf_26_11 ?_
    exact a_iret (pc := 212) (dk D 68 rfl) rfl rfl H
  have BD : ((x1 < 0 ∨ 14 < x1)) → AT G m_X11_ship 213 [(0, rv 1), (1, iv x1)] [] h Φ := by
    intro c
    replace H := H.2.2.2.2.2.2.2.2.2.2.2.2.2.2.2 c
    refine a_iconst (pc := 213) (dk D 69 rfl) (ik rfl) ?_
    exact a_iret (pc := 214) (dk D 70 rfl) rfl rfl H
  exact a_tsw [76, 84, 99, 117, 125, 133, 141, 149, 157, 165, 173, 181, 189, 197, 205] (pc := 1) (dk D 1 rfl) (by decide) (dt := 213) rfl (by decide) ⟨⟨fun c => B0 (c), fun c => B1 (c), fun c => B2 (c), fun c => B3 (c), fun c => B4 (c), fun c => B5 (c), fun c => B6 (c), fun c => B7 (c), fun c => B8 (c), fun c => B9 (c), fun c => B10 (c), fun c => B11 (c), fun c => B12 (c), fun c => B13 (c), fun c => B14 (c), trivial⟩, fun c => BD (c)⟩
set_option maxHeartbeats 40000000 in
theorem T_X11_served_1_0 {G : GG} {Φ : Int → Hp → Prop} {h : Hp} {x1 : Int} {x2 : Int} (H : Call G m_X11_isLoad [iv x1] h (fun r1 h2 => ((r1 = 0 → Φ (-1) h2) ∧ (r1 ≠ 0 → Call G m_X11_within [iv x2, iv 0, iv 1] h2 (fun r3 h4 => ((r3 ≠ 0 → ((x2 ≠ 0 → (0 ≤ x1 ∧ x1 < 8) ∧ Call G m_X11_bit [iv (h4 22 x1)] h4 (fun r5 h6 => Φ r5 h6)) ∧ (x2 = 0 → (0 ≤ x1 ∧ x1 < 8) ∧ Call G m_X11_bit [iv (h4 21 x1)] h4 (fun r7 h8 => Φ r7 h8)))) ∧ (r3 = 0 → Φ (-1) h4))))))) : AT G m_X11_served 0 [(0, rv 1), (1, iv x1), (2, iv x2)] [] h Φ := by
  have D := dt_X11_served
  refine a_iload_n (pc := 0) (dk D 0 rfl) rfl ?_
  refine a_callSi (as := [iv x1]) (st := []) (pc := 1) (dk D 1 rfl) cl_RX11_184 ⟨Nat.le_of_ble_eq_true rfl, Nat.le_of_ble_eq_true rfl⟩ ⟨Nat.le_of_ble_eq_true rfl, Nat.le_of_ble_eq_true rfl⟩ rfl rfl rfl (Nat.le_of_ble_eq_true rfl) (Call.mono H fun r1 h2 H => ?_)
  refine a_if_eq (pc := 4) (dk D 2 rfl) (tgt := 16) rfl ⟨fun c => ?_, fun c => ?_⟩
  · replace H := H.1 c
    refine a_iconst (pc := 16) (dk D 8 rfl) (ik rfl) ?_
    exact a_iret (pc := 17) (dk D 9 rfl) rfl rfl H
  · replace H := H.2 c
    refine a_iload_n (pc := 7) (dk D 3 rfl) rfl ?_
    refine a_iconst (pc := 8) (dk D 4 rfl) (ik rfl) ?_
    refine a_iconst (pc := 9) (dk D 5 rfl) (ik rfl) ?_
    refine a_callSi (as := [iv x2, iv 0, iv 1]) (st := []) (pc := 10) (dk D 6 rfl) cl_RX11_104 ⟨Nat.le_of_ble_eq_true rfl, Nat.le_of_ble_eq_true rfl⟩ ⟨Nat.le_of_ble_eq_true rfl, Nat.le_of_ble_eq_true rfl⟩ rfl rfl rfl (Nat.le_of_ble_eq_true rfl) (Call.mono H fun r3 h4 H => ?_)
    refine a_if_ne (pc := 13) (dk D 7 rfl) (tgt := 18) rfl ⟨fun c => ?_, fun c => ?_⟩
    · replace H := H.1 c
      refine a_iload_n (pc := 18) (dk D 10 rfl) rfl ?_
      refine a_if_ne (pc := 19) (dk D 11 rfl) (tgt := 34) rfl ⟨fun c => ?_, fun c => ?_⟩
      · replace H := H.1 c
        refine a_aload_n (pc := 34) (dk D 18 rfl) rfl ?_
        refine a_getr (r := 17) (pc := 35) (dk D 19 rfl) cls_11 fl_RX11_52 cf_1_6 ?_
        refine a_getr (r := 21) (pc := 38) (dk D 20 rfl) cls_8 fl_RX11_277 cf_18_8 ?_
        refine a_iload_n (pc := 41) (dk D 21 rfl) rfl ?_
        refine a_zald (pc := 42) (dk D 22 rfl) ar_22 ⟨H.1, ?_⟩
        replace H := H.2
        refine a_callSi (as := [iv (h4 22 x1)]) (st := []) (pc := 43) (dk D 23 rfl) cl_RX11_236 ⟨Nat.le_of_ble_eq_true rfl, Nat.le_of_ble_eq_true rfl⟩ ⟨Nat.le_of_ble_eq_true rfl, Nat.le_of_ble_eq_true rfl⟩ rfl rfl rfl (Nat.le_of_ble_eq_true rfl) (Call.mono H fun r5 h6 H => ?_)
        exact a_iret (pc := 46) (dk D 24 rfl) rfl rfl H
      · replace H := H.2 c
        refine a_aload_n (pc := 22) (dk D 12 rfl) rfl ?_
        refine a_getr (r := 17) (pc := 23) (dk D 13 rfl) cls_11 fl_RX11_52 cf_1_6 ?_
        refine a_getr (r := 20) (pc := 26) (dk D 14 rfl) cls_8 fl_RX11_273 cf_18_7 ?_
        refine a_iload_n (pc := 29) (dk D 15 rfl) rfl ?_
        refine a_zald (pc := 30) (dk D 16 rfl) ar_21 ⟨H.1, ?_⟩
        replace H := H.2
        refine a_goto (pc := 31) (dk D 17 rfl) (tgt := 43) rfl ?_
        refine a_callSi (as := [iv (h4 21 x1)]) (st := []) (pc := 43) (dk D 23 rfl) cl_RX11_236 ⟨Nat.le_of_ble_eq_true rfl, Nat.le_of_ble_eq_true rfl⟩ ⟨Nat.le_of_ble_eq_true rfl, Nat.le_of_ble_eq_true rfl⟩ rfl rfl rfl (Nat.le_of_ble_eq_true rfl) (Call.mono H fun r7 h8 H => ?_)
        exact a_iret (pc := 46) (dk D 24 rfl) rfl rfl H
    · replace H := H.2 c
      refine a_iconst (pc := 16) (dk D 8 rfl) (ik rfl) ?_
      exact a_iret (pc := 17) (dk D 9 rfl) rfl rfl H
set_option maxHeartbeats 40000000 in
theorem T_X11_runs_1_0 {G : GG} {Φ : Int → Hp → Prop} {h : Hp} {x1 : Int} {x2 : Int} (H : Call G m_X11_isProgram [iv x1] h (fun r1 h2 => ((r1 ≠ 0 → (((x2 = 0) → Call G m_X3_countFrom [rv 36, iv (w32 (x1 * 30))] h2 (fun r3 h4 => Φ r3 h4)) ∧ ((x2 = 1) → (0 ≤ x1 ∧ x1 < 8) ∧ (((h2 50 x1) = (-1) → Call G m_X11_bit [iv 0] h2 (fun r5 h6 => Φ r5 h6)) ∧ ((h2 50 x1) ≠ (-1) → Call G m_X11_bit [iv 1] h2 (fun r7 h8 => Φ r7 h8)))) ∧ ((x2 = 2) → (0 ≤ x1 ∧ x1 < 8) ∧ Φ (h2 50 x1) h2) ∧ ((x2 = 3) → (0 ≤ x1 ∧ x1 < 8) ∧ Φ (h2 51 x1) h2) ∧ (((x2 < 0 ∨ 3 < x2)) → Φ (-1) h2))) ∧ (r1 = 0 → Φ (-1) h2)))) : AT G m_X11_runs 0 [(0, rv 1), (1, iv x1), (2, iv x2)] [] h Φ := by
  have D := dt_X11_runs
  refine a_iload_n (pc := 0) (dk D 0 rfl) rfl ?_
  refine a_callSi (as := [iv x1]) (st := []) (pc := 1) (dk D 1 rfl) cl_RX11_196 ⟨Nat.le_of_ble_eq_true rfl, Nat.le_of_ble_eq_true rfl⟩ ⟨Nat.le_of_ble_eq_true rfl, Nat.le_of_ble_eq_true rfl⟩ rfl rfl rfl (Nat.le_of_ble_eq_true rfl) (Call.mono H fun r1 h2 H => ?_)
  refine a_if_ne (pc := 4) (dk D 2 rfl) (tgt := 9) rfl ⟨fun c => ?_, fun c => ?_⟩
  · replace H := H.1 c
    refine a_iload_n (pc := 9) (dk D 5 rfl) rfl ?_
    have B0 : (x2 = 0) → AT G m_X11_runs 40 [(0, rv 1), (1, iv x1), (2, iv x2)] [] h2 Φ := by
      intro c
      replace H := H.1 c
      refine a_aload_n (pc := 40) (dk D 7 rfl) rfl ?_
      refine a_getr (r := 33) (pc := 41) (dk D 8 rfl) cls_11 fl_RX11_75 cf_1_9 ?_
      refine a_getr (r := 35) (pc := 44) (dk D 9 rfl) cls_0 fl_RX11_280 cf_34_8 ?_
      refine a_iload_n (pc := 47) (dk D 10 rfl) rfl ?_
      refine a_bipush (pc := 48) (dk D 11 rfl) (ik rfl) (bpk rfl) ?_
      refine a_imul (pc := 50) (dk D 12 rfl) ?_
      refine a_callVi (as := [iv (w32 (x1 * 30))]) (st := []) (pc := 51) (dk D 13 rfl) cl_RX11_283 ⟨Nat.le_of_ble_eq_true rfl, Nat.le_of_ble_eq_true rfl⟩ ⟨Nat.le_of_ble_eq_true rfl, Nat.le_of_ble_eq_true rfl⟩ cls_3 rfl cc_36 rfl rfl rfl (Nat.le_of_ble_eq_true rfl) (Call.mono H fun r3 h4 H => ?_)
      exact a_iret (pc := 54) (dk D 14 rfl) rfl rfl H
    have B1 : (x2 = 1) → AT G m_X11_runs 55 [(0, rv 1), (1, iv x1), (2, iv x2)] [] h2 Φ := by
      intro c
      replace H := H.2.1 c
      refine a_aload_n (pc := 55) (dk D 15 rfl) rfl ?_
      refine a_getr (r := 33) (pc := 56) (dk D 16 rfl) cls_11 fl_RX11_75 cf_1_9 ?_
      refine a_getr (r := 49) (pc := 59) (dk D 17 rfl) cls_0 fl_RX11_286 cf_34_10 ?_
      refine a_iload_n (pc := 62) (dk D 18 rfl) rfl ?_
      refine a_iald (pc := 63) (dk D 19 rfl) ar_50 ⟨H.1, ?_⟩
      replace H := H.2
      refine a_iconst (pc := 64) (dk D 20 rfl) (ik rfl) ?_
      refine a_icmp_eq (pc := 65) (dk D 21 rfl) (tgt := 72) rfl ⟨fun c => ?_, fun c => ?_⟩
      · replace H := H.1 c
        refine a_iconst (pc := 72) (dk D 24 rfl) (ik rfl) ?_
        refine a_callSi (as := [iv 0]) (st := []) (pc := 73) (dk D 25 rfl) cl_RX11_236 ⟨Nat.le_of_ble_eq_true rfl, Nat.le_of_ble_eq_true rfl⟩ ⟨Nat.le_of_ble_eq_true rfl, Nat.le_of_ble_eq_true rfl⟩ rfl rfl rfl (Nat.le_of_ble_eq_true rfl) (Call.mono H fun r5 h6 H => ?_)
        exact a_iret (pc := 76) (dk D 26 rfl) rfl rfl H
      · replace H := H.2 c
        refine a_iconst (pc := 68) (dk D 22 rfl) (ik rfl) ?_
        refine a_goto (pc := 69) (dk D 23 rfl) (tgt := 73) rfl ?_
        refine a_callSi (as := [iv 1]) (st := []) (pc := 73) (dk D 25 rfl) cl_RX11_236 ⟨Nat.le_of_ble_eq_true rfl, Nat.le_of_ble_eq_true rfl⟩ ⟨Nat.le_of_ble_eq_true rfl, Nat.le_of_ble_eq_true rfl⟩ rfl rfl rfl (Nat.le_of_ble_eq_true rfl) (Call.mono H fun r7 h8 H => ?_)
        exact a_iret (pc := 76) (dk D 26 rfl) rfl rfl H
    have B2 : (x2 = 2) → AT G m_X11_runs 77 [(0, rv 1), (1, iv x1), (2, iv x2)] [] h2 Φ := by
      intro c
      replace H := H.2.2.1 c
      refine a_aload_n (pc := 77) (dk D 27 rfl) rfl ?_
      refine a_getr (r := 33) (pc := 78) (dk D 28 rfl) cls_11 fl_RX11_75 cf_1_9 ?_
      refine a_getr (r := 49) (pc := 81) (dk D 29 rfl) cls_0 fl_RX11_286 cf_34_10 ?_
      refine a_iload_n (pc := 84) (dk D 30 rfl) rfl ?_
      refine a_iald (pc := 85) (dk D 31 rfl) ar_50 ⟨H.1, ?_⟩
      replace H := H.2
      exact a_iret (pc := 86) (dk D 32 rfl) rfl rfl H
    have B3 : (x2 = 3) → AT G m_X11_runs 87 [(0, rv 1), (1, iv x1), (2, iv x2)] [] h2 Φ := by
      intro c
      replace H := H.2.2.2.1 c
      refine a_aload_n (pc := 87) (dk D 33 rfl) rfl ?_
      refine a_getr (r := 33) (pc := 88) (dk D 34 rfl) cls_11 fl_RX11_75 cf_1_9 ?_
      refine a_getr (r := 50) (pc := 91) (dk D 35 rfl) cls_0 fl_RX11_289 cf_34_11 ?_
      refine a_iload_n (pc := 94) (dk D 36 rfl) rfl ?_
      refine a_iald (pc := 95) (dk D 37 rfl) ar_51 ⟨H.1, ?_⟩
      replace H := H.2
      exact a_iret (pc := 96) (dk D 38 rfl) rfl rfl H
    have BD : ((x2 < 0 ∨ 3 < x2)) → AT G m_X11_runs 97 [(0, rv 1), (1, iv x1), (2, iv x2)] [] h2 Φ := by
      intro c
      replace H := H.2.2.2.2 c
      refine a_iconst (pc := 97) (dk D 39 rfl) (ik rfl) ?_
      exact a_iret (pc := 98) (dk D 40 rfl) rfl rfl H
    exact a_tsw [40, 55, 77, 87] (pc := 10) (dk D 6 rfl) (by decide) (dt := 97) rfl (by decide) ⟨⟨fun c => B0 (c), fun c => B1 (c), fun c => B2 (c), fun c => B3 (c), trivial⟩, fun c => BD (c)⟩
  · replace H := H.2 c
    refine a_iconst (pc := 7) (dk D 3 rfl) (ik rfl) ?_
    exact a_iret (pc := 8) (dk D 4 rfl) rfl rfl H
set_option maxHeartbeats 40000000 in
theorem T_X11_word_1_0 {G : GG} {Φ : Int → Hp → Prop} {h : Hp} {x1 : Int} {x2 : Int} (H : Call G m_X11_isWord [iv x1] h (fun r1 h2 => ((r1 = 0 → Φ (-1) h2) ∧ (r1 ≠ 0 → Call G m_X11_within [iv x2, iv 0, iv 1] h2 (fun r3 h4 => ((r3 ≠ 0 → ((x2 ≠ 0 → Call G m_X5_byteOf [rv 24, iv x1] h4 (fun r5 h6 => Φ r5 h6)) ∧ (x2 = 0 → (0 ≤ x1 ∧ x1 < 64) ∧ Φ (h4 25 x1) h4))) ∧ (r3 = 0 → Φ (-1) h4))))))) : AT G m_X11_word 0 [(0, rv 1), (1, iv x1), (2, iv x2)] [] h Φ := by
  have D := dt_X11_word
  refine a_iload_n (pc := 0) (dk D 0 rfl) rfl ?_
  refine a_callSi (as := [iv x1]) (st := []) (pc := 1) (dk D 1 rfl) cl_RX11_220 ⟨Nat.le_of_ble_eq_true rfl, Nat.le_of_ble_eq_true rfl⟩ ⟨Nat.le_of_ble_eq_true rfl, Nat.le_of_ble_eq_true rfl⟩ rfl rfl rfl (Nat.le_of_ble_eq_true rfl) (Call.mono H fun r1 h2 H => ?_)
  refine a_if_eq (pc := 4) (dk D 2 rfl) (tgt := 16) rfl ⟨fun c => ?_, fun c => ?_⟩
  · replace H := H.1 c
    refine a_iconst (pc := 16) (dk D 8 rfl) (ik rfl) ?_
    exact a_iret (pc := 17) (dk D 9 rfl) rfl rfl H
  · replace H := H.2 c
    refine a_iload_n (pc := 7) (dk D 3 rfl) rfl ?_
    refine a_iconst (pc := 8) (dk D 4 rfl) (ik rfl) ?_
    refine a_iconst (pc := 9) (dk D 5 rfl) (ik rfl) ?_
    refine a_callSi (as := [iv x2, iv 0, iv 1]) (st := []) (pc := 10) (dk D 6 rfl) cl_RX11_104 ⟨Nat.le_of_ble_eq_true rfl, Nat.le_of_ble_eq_true rfl⟩ ⟨Nat.le_of_ble_eq_true rfl, Nat.le_of_ble_eq_true rfl⟩ rfl rfl rfl (Nat.le_of_ble_eq_true rfl) (Call.mono H fun r3 h4 H => ?_)
    refine a_if_ne (pc := 13) (dk D 7 rfl) (tgt := 18) rfl ⟨fun c => ?_, fun c => ?_⟩
    · replace H := H.1 c
      refine a_iload_n (pc := 18) (dk D 10 rfl) rfl ?_
      refine a_if_ne (pc := 19) (dk D 11 rfl) (tgt := 34) rfl ⟨fun c => ?_, fun c => ?_⟩
      · replace H := H.1 c
        refine a_aload_n (pc := 34) (dk D 18 rfl) rfl ?_
        refine a_getr (r := 23) (pc := 35) (dk D 19 rfl) cls_11 fl_RX11_59 cf_1_7 ?_
        refine a_iload_n (pc := 38) (dk D 20 rfl) rfl ?_
        refine a_callVi (as := [iv x1]) (st := []) (pc := 39) (dk D 21 rfl) cl_RX11_292 ⟨Nat.le_of_ble_eq_true rfl, Nat.le_of_ble_eq_true rfl⟩ ⟨Nat.le_of_ble_eq_true rfl, Nat.le_of_ble_eq_true rfl⟩ cls_5 rfl cc_24 rfl rfl rfl (Nat.le_of_ble_eq_true rfl) (Call.mono H fun r5 h6 H => ?_)
        exact a_iret (pc := 42) (dk D 22 rfl) rfl rfl H
      · replace H := H.2 c
        refine a_aload_n (pc := 22) (dk D 12 rfl) rfl ?_
        refine a_getr (r := 23) (pc := 23) (dk D 13 rfl) cls_11 fl_RX11_59 cf_1_7 ?_
        refine a_getr (r := 24) (pc := 26) (dk D 14 rfl) cls_5 fl_RX11_223 cf_24_0 ?_
        refine a_iload_n (pc := 29) (dk D 15 rfl) rfl ?_
        refine a_iald (pc := 30) (dk D 16 rfl) ar_25 ⟨H.1, ?_⟩
        replace H := H.2
        refine a_goto (pc := 31) (dk D 17 rfl) (tgt := 42) rfl ?_
        exact a_iret (pc := 42) (dk D 22 rfl) rfl rfl H
    · replace H := H.2 c
      refine a_iconst (pc := 16) (dk D 8 rfl) (ik rfl) ?_
      exact a_iret (pc := 17) (dk D 9 rfl) rfl rfl H
set_option maxHeartbeats 40000000 in
theorem T_X11_noise_1_0 {G : GG} {Φ : Int → Hp → Prop} {h : Hp} {x1 : Int} {x2 : Int} (H : (((h 26 11) = 0 → Φ (-1) h) ∧ ((h 26 11) ≠ 0 → Call G m_X11_within [iv x1, iv 0, iv 23] h (fun r1 h2 => ((r1 ≠ 0 → Call G m_X4_oldestFrame [rv 26] h2 (fun r3 h4 => (0 ≤ (w32 (r3 + x1)) ∧ (w32 (r3 + x1)) < 744) ∧ (0 ≤ (w32 (r3 + x1)) ∧ (w32 (r3 + x1)) < 744) ∧ (0 ≤ (w32 (r3 + x1)) ∧ (w32 (r3 + x1)) < 744) ∧ Φ (bxor (h4 33 (w32 (r3 + x1))) (band x2 255)) (up h4 33 (w32 (r3 + x1)) (bxor (h4 33 (w32 (r3 + x1))) (band x2 255))))) ∧ (r1 = 0 → Φ (-1) h2)))))) : AT G m_X11_noise 0 [(0, rv 1), (1, iv x1), (2, iv x2)] [] h Φ := by
  have D := dt_X11_noise
  refine a_aload_n (pc := 0) (dk D 0 rfl) rfl ?_
  refine a_getr (r := 25) (pc := 1) (dk D 1 rfl) cls_11 fl_RX11_66 cf_1_8 ?_
  refine a_geti (pc := 4) (dk D 2 rfl) cls_4 fl_RX11_270 cf_26_11 ?_
  refine a_if_eq (pc := 7) (dk D 3 rfl) (tgt := 20) rfl ⟨fun c => ?_, fun c => ?_⟩
  · replace H := H.1 c
    refine a_iconst (pc := 20) (dk D 9 rfl) (ik rfl) ?_
    exact a_iret (pc := 21) (dk D 10 rfl) rfl rfl H
  · replace H := H.2 c
    refine a_iload_n (pc := 10) (dk D 4 rfl) rfl ?_
    refine a_iconst (pc := 11) (dk D 5 rfl) (ik rfl) ?_
    refine a_bipush (pc := 12) (dk D 6 rfl) (ik rfl) (bpk rfl) ?_
    refine a_callSi (as := [iv x1, iv 0, iv 23]) (st := []) (pc := 14) (dk D 7 rfl) cl_RX11_104 ⟨Nat.le_of_ble_eq_true rfl, Nat.le_of_ble_eq_true rfl⟩ ⟨Nat.le_of_ble_eq_true rfl, Nat.le_of_ble_eq_true rfl⟩ rfl rfl rfl (Nat.le_of_ble_eq_true rfl) (Call.mono H fun r1 h2 H => ?_)
    refine a_if_ne (pc := 17) (dk D 8 rfl) (tgt := 22) rfl ⟨fun c => ?_, fun c => ?_⟩
    · replace H := H.1 c
      refine a_aload_n (pc := 22) (dk D 11 rfl) rfl ?_
      refine a_getr (r := 25) (pc := 23) (dk D 12 rfl) cls_11 fl_RX11_66 cf_1_8 ?_
      refine a_callVi (as := []) (st := []) (pc := 26) (dk D 13 rfl) cl_RX11_295 ⟨Nat.le_of_ble_eq_true rfl, Nat.le_of_ble_eq_true rfl⟩ ⟨Nat.le_of_ble_eq_true rfl, Nat.le_of_ble_eq_true rfl⟩ cls_4 rfl cc_26 rfl rfl rfl (Nat.le_of_ble_eq_true rfl) (Call.mono H fun r3 h4 H => ?_)
      refine a_iload_n (pc := 29) (dk D 14 rfl) rfl ?_
      refine a_iadd (pc := 30) (dk D 15 rfl) ?_
      refine a_istore_n (pc := 31) (dk D 16 rfl) (by decide) rfl rfl ?_
      refine a_aload_n (pc := 32) (dk D 17 rfl) rfl ?_
      refine a_getr (r := 25) (pc := 33) (dk D 18 rfl) cls_11 fl_RX11_66 cf_1_8 ?_
      refine a_getr (r := 32) (pc := 36) (dk D 19 rfl) cls_4 fl_RX11_298 cf_26_9 ?_
      refine a_iload_n (pc := 39) (dk D 20 rfl) rfl ?_
      refine a_dup2 (pc := 40) (dk D 21 rfl) rfl rfl ?_
      refine a_iald (pc := 41) (dk D 22 rfl) ar_33 ⟨H.1, ?_⟩
      replace H := H.2
      refine a_iload_n (pc := 42) (dk D 23 rfl) rfl ?_
      refine a_sipush (pc := 43) (dk D 24 rfl) (ik rfl) (spk rfl) ?_
      refine a_iand (pc := 46) (dk D 25 rfl) ?_
      refine a_ixor (pc := 47) (dk D 26 rfl) ?_
      refine a_iast (pc := 48) (dk D 27 rfl) ar_33 ⟨H.1, ?_⟩
      replace H := H.2
      refine a_aload_n (pc := 49) (dk D 28 rfl) rfl ?_
      refine a_getr (r := 25) (pc := 50) (dk D 29 rfl) cls_11 fl_RX11_66 cf_1_8 ?_
      refine a_getr (r := 32) (pc := 53) (dk D 30 rfl) cls_4 fl_RX11_298 cf_26_9 ?_
      refine a_iload_n (pc := 56) (dk D 31 rfl) rfl ?_
      refine a_iald (pc := 57) (dk D 32 rfl) ar_33 ⟨H.1, ?_⟩
      replace H := H.2
      refine a_top (y := (bxor (h4 33 (w32 (r3 + x1))) (band x2 255))) (by simp [up, cpy]) ?_
      exact a_iret (pc := 58) (dk D 33 rfl) rfl rfl H
    · replace H := H.2 c
      refine a_iconst (pc := 20) (dk D 9 rfl) (ik rfl) ?_
      exact a_iret (pc := 21) (dk D 10 rfl) rfl rfl H
set_option maxHeartbeats 40000000 in
theorem T_X11_lose_1_0 {G : GG} {Φ : Int → Hp → Prop} {h : Hp} (H : (((h 26 11) ≠ 0 → Call G m_X4_dropFrame [rv 26] h (fun _ h2 => Φ (h2 26 11) h2)) ∧ ((h 26 11) = 0 → Φ (-1) h))) : AT G m_X11_lose 0 [(0, rv 1)] [] h Φ := by
  have D := dt_X11_lose
  refine a_aload_n (pc := 0) (dk D 0 rfl) rfl ?_
  refine a_getr (r := 25) (pc := 1) (dk D 1 rfl) cls_11 fl_RX11_66 cf_1_8 ?_
  refine a_geti (pc := 4) (dk D 2 rfl) cls_4 fl_RX11_270 cf_26_11 ?_
  refine a_if_ne (pc := 7) (dk D 3 rfl) (tgt := 12) rfl ⟨fun c => ?_, fun c => ?_⟩
  · replace H := H.1 c
    refine a_aload_n (pc := 12) (dk D 6 rfl) rfl ?_
    refine a_getr (r := 25) (pc := 13) (dk D 7 rfl) cls_11 fl_RX11_66 cf_1_8 ?_
    refine a_callVv (as := []) (st := []) (pc := 16) (dk D 8 rfl) cl_RX11_301 ⟨Nat.le_of_ble_eq_true rfl, Nat.le_of_ble_eq_true rfl⟩ ⟨Nat.le_of_ble_eq_true rfl, Nat.le_of_ble_eq_true rfl⟩ cls_4 rfl cc_26 rfl rfl rfl (Nat.le_of_ble_eq_true rfl) (Call.mono H fun _ h2 H => ?_)
    refine a_aload_n (pc := 19) (dk D 9 rfl) rfl ?_
    refine a_getr (r := 25) (pc := 20) (dk D 10 rfl) cls_11 fl_RX11_66 cf_1_8 ?_
    refine a_geti (pc := 23) (dk D 11 rfl) cls_4 fl_RX11_270 cf_26_11 ?_
    exact a_iret (pc := 26) (dk D 12 rfl) rfl rfl H
  · replace H := H.2 c
    refine a_iconst (pc := 10) (dk D 4 rfl) (ik rfl) ?_
    exact a_iret (pc := 11) (dk D 5 rfl) rfl rfl H
set_option maxHeartbeats 40000000 in
theorem T_X11_receive_1_0 {G : GG} {Φ : Int → Hp → Prop} {h : Hp} (H : (((h 26 11) ≠ 0 → Call G m_X4_oldestFrame [rv 26] h (fun r1 h2 => Call G m_X2_takeFrame [rv 65, rv 33, iv r1] h2 (fun r3 h4 => Call G m_X4_dropFrame [rv 26] h4 (fun _ h6 => Φ r3 h6)))) ∧ ((h 26 11) = 0 → Φ (-1) h))) : AT G m_X11_receive 0 [(0, rv 1)] [] h Φ := by
  have D := dt_X11_receive
  refine a_aload_n (pc := 0) (dk D 0 rfl) rfl ?_
  refine a_getr (r := 25) (pc := 1) (dk D 1 rfl) cls_11 fl_RX11_66 cf_1_8 ?_
  refine a_geti (pc := 4) (dk D 2 rfl) cls_4 fl_RX11_270 cf_26_11 ?_
  refine a_if_ne (pc := 7) (dk D 3 rfl) (tgt := 12) rfl ⟨fun c => ?_, fun c => ?_⟩
  · replace H := H.1 c
    refine a_aload_n (pc := 12) (dk D 6 rfl) rfl ?_
    refine a_getr (r := 64) (pc := 13) (dk D 7 rfl) cls_11 fl_RX11_82 cf_1_10 ?_
    refine a_aload_n (pc := 16) (dk D 8 rfl) rfl ?_
    refine a_getr (r := 25) (pc := 17) (dk D 9 rfl) cls_11 fl_RX11_66 cf_1_8 ?_
    refine a_getr (r := 32) (pc := 20) (dk D 10 rfl) cls_4 fl_RX11_298 cf_26_9 ?_
    refine a_aload_n (pc := 23) (dk D 11 rfl) rfl ?_
    refine a_getr (r := 25) (pc := 24) (dk D 12 rfl) cls_11 fl_RX11_66 cf_1_8 ?_
    refine a_callVi (as := []) (st := [rv 33, rv 65]) (pc := 27) (dk D 13 rfl) cl_RX11_295 ⟨Nat.le_of_ble_eq_true rfl, Nat.le_of_ble_eq_true rfl⟩ ⟨Nat.le_of_ble_eq_true rfl, Nat.le_of_ble_eq_true rfl⟩ cls_4 rfl cc_26 rfl rfl rfl (Nat.le_of_ble_eq_true rfl) (Call.mono H fun r1 h2 H => ?_)
    refine a_callVi (as := [rv 33, iv r1]) (st := []) (pc := 30) (dk D 14 rfl) cl_RX11_304 ⟨Nat.le_of_ble_eq_true rfl, Nat.le_of_ble_eq_true rfl⟩ ⟨Nat.le_of_ble_eq_true rfl, Nat.le_of_ble_eq_true rfl⟩ cls_2 rfl cc_65 rfl rfl rfl (Nat.le_of_ble_eq_true rfl) (Call.mono H fun r3 h4 H => ?_)
    refine a_istore_n (pc := 33) (dk D 15 rfl) (by decide) rfl rfl ?_
    refine a_aload_n (pc := 34) (dk D 16 rfl) rfl ?_
    refine a_getr (r := 25) (pc := 35) (dk D 17 rfl) cls_11 fl_RX11_66 cf_1_8 ?_
    refine a_callVv (as := []) (st := []) (pc := 38) (dk D 18 rfl) cl_RX11_301 ⟨Nat.le_of_ble_eq_true rfl, Nat.le_of_ble_eq_true rfl⟩ ⟨Nat.le_of_ble_eq_true rfl, Nat.le_of_ble_eq_true rfl⟩ cls_4 rfl cc_26 rfl rfl rfl (Nat.le_of_ble_eq_true rfl) (Call.mono H fun _ h6 H => ?_)
    refine a_iload_n (pc := 41) (dk D 19 rfl) rfl ?_
    exact a_iret (pc := 42) (dk D 20 rfl) rfl rfl H
  · replace H := H.2 c
    refine a_iconst (pc := 10) (dk D 4 rfl) (ik rfl) ?_
    exact a_iret (pc := 11) (dk D 5 rfl) rfl rfl H
set_option maxHeartbeats 40000000 in
theorem T_X11_packet_1_0 {G : GG} {Φ : Int → Hp → Prop} {h : Hp} {x1 : Int} (H : Call G m_X11_within [iv x1, iv 0, iv (w32 ((h 65 7) - 1))] h (fun r1 h2 => ((r1 ≠ 0 → Call G m_X2_writePacket [rv 65, iv x1, rv 11] h2 (fun r3 h4 => Φ r3 (up h4 1 3 r3))) ∧ (r1 = 0 → Φ (-1) h2)))) : AT G m_X11_packet 0 [(0, rv 1), (1, iv x1)] [] h Φ := by
  have D := dt_X11_packet
  refine a_iload_n (pc := 0) (dk D 0 rfl) rfl ?_
  refine a_iconst (pc := 1) (dk D 1 rfl) (ik rfl) ?_
  refine a_aload_n (pc := 2) (dk D 2 rfl) rfl ?_
  refine a_getr (r := 64) (pc := 3) (dk D 3 rfl) cls_11 fl_RX11_82 cf_1_10 ?_
  refine a_geti (pc := 6) (dk D 4 rfl) cls_2 fl_RX11_308 cf_65_7 ?_
  refine a_iconst (pc := 9) (dk D 5 rfl) (ik rfl) ?_
  refine a_isub (pc := 10) (dk D 6 rfl) ?_
  refine a_callSi (as := [iv x1, iv 0, iv (w32 ((h 65 7) - 1))]) (st := []) (pc := 11) (dk D 7 rfl) cl_RX11_104 ⟨Nat.le_of_ble_eq_true rfl, Nat.le_of_ble_eq_true rfl⟩ ⟨Nat.le_of_ble_eq_true rfl, Nat.le_of_ble_eq_true rfl⟩ rfl rfl rfl (Nat.le_of_ble_eq_true rfl) (Call.mono H fun r1 h2 H => ?_)
  refine a_if_ne (pc := 14) (dk D 8 rfl) (tgt := 19) rfl ⟨fun c => ?_, fun c => ?_⟩
  · replace H := H.1 c
    refine a_aload_n (pc := 19) (dk D 11 rfl) rfl ?_
    refine a_aload_n (pc := 20) (dk D 12 rfl) rfl ?_
    refine a_getr (r := 64) (pc := 21) (dk D 13 rfl) cls_11 fl_RX11_82 cf_1_10 ?_
    refine a_iload_n (pc := 24) (dk D 14 rfl) rfl ?_
    refine a_aload_n (pc := 25) (dk D 15 rfl) rfl ?_
    refine a_getr (r := 10) (pc := 26) (dk D 16 rfl) cls_11 fl_RX11_27 cf_1_2 ?_
    refine a_callVi (as := [iv x1, rv 11]) (st := [rv 1]) (pc := 29) (dk D 17 rfl) cl_RX11_311 ⟨Nat.le_of_ble_eq_true rfl, Nat.le_of_ble_eq_true rfl⟩ ⟨Nat.le_of_ble_eq_true rfl, Nat.le_of_ble_eq_true rfl⟩ cls_2 rfl cc_65 rfl rfl rfl (Nat.le_of_ble_eq_true rfl) (Call.mono H fun r3 h4 H => ?_)
    refine a_puti (pc := 32) (dk D 18 rfl) cls_11 fl_RX11_31 cf_1_3 rfl rfl ?_
    refine a_aload_n (pc := 35) (dk D 19 rfl) rfl ?_
    refine a_geti (pc := 36) (dk D 20 rfl) cls_11 fl_RX11_31 cf_1_3 ?_
    refine a_top (y := r3) (by simp [up, cpy]) ?_
    exact a_iret (pc := 39) (dk D 21 rfl) rfl rfl H
  · replace H := H.2 c
    refine a_iconst (pc := 17) (dk D 9 rfl) (ik rfl) ?_
    exact a_iret (pc := 18) (dk D 10 rfl) rfl rfl H
set_option maxHeartbeats 40000000 in
theorem T_X11_command_1_0 {G : GG} {Φ : Int → Hp → Prop} {h : Hp} (H : Call G m_X2_isFull [rv 65] h (fun r1 h2 => ((r1 = 0 → Call G m_X3_readCommand [rv 4, rv 2] h2 (fun _ h4 => Call G m_X10_closes [rv 2] h4 (fun r5 h6 => ((r5 ≠ 0 → Call G m_X2_keep [rv 65, rv 4] h6 (fun r7 h8 => Φ r7 h8)) ∧ (r5 = 0 → Call G m_X10_wrong [rv 2] h6 (fun r9 h10 => Φ r9 h10)))))) ∧ (r1 ≠ 0 → Φ (-4) h2)))) : AT G m_X11_command 0 [(0, rv 1)] [] h Φ := by
  have D := dt_X11_command
  refine a_aload_n (pc := 0) (dk D 0 rfl) rfl ?_
  refine a_getr (r := 64) (pc := 1) (dk D 1 rfl) cls_11 fl_RX11_82 cf_1_10 ?_
  refine a_callVi (as := []) (st := []) (pc := 4) (dk D 2 rfl) cl_RX11_314 ⟨Nat.le_of_ble_eq_true rfl, Nat.le_of_ble_eq_true rfl⟩ ⟨Nat.le_of_ble_eq_true rfl, Nat.le_of_ble_eq_true rfl⟩ cls_2 rfl cc_65 rfl rfl rfl (Nat.le_of_ble_eq_true rfl) (Call.mono H fun r1 h2 H => ?_)
  refine a_if_eq (pc := 7) (dk D 3 rfl) (tgt := 13) rfl ⟨fun c => ?_, fun c => ?_⟩
  · replace H := H.1 c
    refine a_aload_n (pc := 13) (dk D 6 rfl) rfl ?_
    refine a_getr (r := 3) (pc := 14) (dk D 7 rfl) cls_11 fl_RX11_21 cf_1_1 ?_
    refine a_aload_n (pc := 17) (dk D 8 rfl) rfl ?_
    refine a_getr (r := 1) (pc := 18) (dk D 9 rfl) cls_11 fl_RX11_10 cf_1_0 ?_
    refine a_callVv (as := [rv 2]) (st := []) (pc := 21) (dk D 10 rfl) cl_RX11_317 ⟨Nat.le_of_ble_eq_true rfl, Nat.le_of_ble_eq_true rfl⟩ ⟨Nat.le_of_ble_eq_true rfl, Nat.le_of_ble_eq_true rfl⟩ cls_3 rfl cc_4 rfl rfl rfl (Nat.le_of_ble_eq_true rfl) (Call.mono H fun _ h4 H => ?_)
    refine a_aload_n (pc := 24) (dk D 11 rfl) rfl ?_
    refine a_getr (r := 1) (pc := 25) (dk D 12 rfl) cls_11 fl_RX11_10 cf_1_0 ?_
    refine a_callVi (as := []) (st := []) (pc := 28) (dk D 13 rfl) cl_RX11_119 ⟨Nat.le_of_ble_eq_true rfl, Nat.le_of_ble_eq_true rfl⟩ ⟨Nat.le_of_ble_eq_true rfl, Nat.le_of_ble_eq_true rfl⟩ cls_10 rfl cc_2 rfl rfl rfl (Nat.le_of_ble_eq_true rfl) (Call.mono H fun r5 h6 H => ?_)
    refine a_if_ne (pc := 31) (dk D 14 rfl) (tgt := 42) rfl ⟨fun c => ?_, fun c => ?_⟩
    · replace H := H.1 c
      refine a_aload_n (pc := 42) (dk D 19 rfl) rfl ?_
      refine a_getr (r := 64) (pc := 43) (dk D 20 rfl) cls_11 fl_RX11_82 cf_1_10 ?_
      refine a_aload_n (pc := 46) (dk D 21 rfl) rfl ?_
      refine a_getr (r := 3) (pc := 47) (dk D 22 rfl) cls_11 fl_RX11_21 cf_1_1 ?_
      refine a_callVi (as := [rv 4]) (st := []) (pc := 50) (dk D 23 rfl) cl_RX11_320 ⟨Nat.le_of_ble_eq_true rfl, Nat.le_of_ble_eq_true rfl⟩ ⟨Nat.le_of_ble_eq_true rfl, Nat.le_of_ble_eq_true rfl⟩ cls_2 rfl cc_65 rfl rfl rfl (Nat.le_of_ble_eq_true rfl) (Call.mono H fun r7 h8 H => ?_)
      exact a_iret (pc := 53) (dk D 24 rfl) rfl rfl H
    · replace H := H.2 c
      refine a_aload_n (pc := 34) (dk D 15 rfl) rfl ?_
      refine a_getr (r := 1) (pc := 35) (dk D 16 rfl) cls_11 fl_RX11_10 cf_1_0 ?_
      refine a_callVi (as := []) (st := []) (pc := 38) (dk D 17 rfl) cl_RX11_123 ⟨Nat.le_of_ble_eq_true rfl, Nat.le_of_ble_eq_true rfl⟩ ⟨Nat.le_of_ble_eq_true rfl, Nat.le_of_ble_eq_true rfl⟩ cls_10 rfl cc_2 rfl rfl rfl (Nat.le_of_ble_eq_true rfl) (Call.mono H fun r9 h10 H => ?_)
      exact a_iret (pc := 41) (dk D 18 rfl) rfl rfl H
  · replace H := H.2 c
    refine a_bipush (pc := 10) (dk D 4 rfl) (ik rfl) (bpk rfl) ?_
    exact a_iret (pc := 12) (dk D 5 rfl) rfl rfl H
set_option maxHeartbeats 40000000 in
theorem T_X11_send_1_0 {G : GG} {Φ : Int → Hp → Prop} {h : Hp} {x1 : Int} (H : Call G m_X11_within [iv x1, iv 0, iv 2] h (fun r1 h2 => ((r1 = 0 → Φ (-1) h2) ∧ (r1 ≠ 0 → Call G m_X2_toSend [rv 65] h2 (fun r3 h4 => ((r3 = 0 → Φ (-1) h4) ∧ (r3 ≠ 0 → Call G m_X6_isSeen [rv 14, iv (h4 34 4)] h4 (fun r5 h6 => ((r5 ≠ 0 → Call G m_X2_nextToSend [rv 65] h6 (fun r7 h8 => ((x1 = 1 → ((x1 ≠ 2 → Call G m_X11_bit [iv 0] (up h8 65 10 (w32 ((h8 65 10) + 1))) (fun r9 h10 => Φ r9 h10)) ∧ (x1 = 2 → Call G m_X0_takeCommand [rv 34, iv r7, rv 68, iv (h8 65 10)] (up h8 65 10 (w32 ((h8 65 10) + 1))) (fun r11 h12 => Call G m_X11_bit [iv 0] h12 (fun r13 h14 => Φ r13 h14))))) ∧ (x1 ≠ 1 → Call G m_X0_takeCommand [rv 34, iv r7, rv 68, iv (h8 65 10)] (up h8 65 10 (w32 ((h8 65 10) + 1))) (fun r15 h16 => ((r15 = 0 → ((x1 ≠ 2 → Call G m_X11_bit [iv 0] h16 (fun r17 h18 => Φ r17 h18)) ∧ (x1 = 2 → Call G m_X0_takeCommand [rv 34, iv r7, rv 68, iv (h8 65 10)] h16 (fun r19 h20 => Call G m_X11_bit [iv 0] h20 (fun r21 h22 => Φ r21 h22))))) ∧ (r15 ≠ 0 → ((x1 ≠ 2 → Call G m_X11_bit [iv 1] h16 (fun r23 h24 => Φ r23 h24)) ∧ (x1 = 2 → Call G m_X0_takeCommand [rv 34, iv r7, rv 68, iv (h8 65 10)] h16 (fun r25 h26 => Call G m_X11_bit [iv 1] h26 (fun r27 h28 => Φ r27 h28))))))))))) ∧ (r5 = 0 → Φ (-1) h6)))))))))) : AT G m_X11_send 0 [(0, rv 1), (1, iv x1)] [] h Φ := by
  have D := dt_X11_send
  refine a_iload_n (pc := 0) (dk D 0 rfl) rfl ?_
  refine a_iconst (pc := 1) (dk D 1 rfl) (ik rfl) ?_
  refine a_iconst (pc := 2) (dk D 2 rfl) (ik rfl) ?_
  refine a_callSi (as := [iv x1, iv 0, iv 2]) (st := []) (pc := 3) (dk D 3 rfl) cl_RX11_104 ⟨Nat.le_of_ble_eq_true rfl, Nat.le_of_ble_eq_true rfl⟩ ⟨Nat.le_of_ble_eq_true rfl, Nat.le_of_ble_eq_true rfl⟩ rfl rfl rfl (Nat.le_of_ble_eq_true rfl) (Call.mono H fun r1 h2 H => ?_)
  refine a_if_eq (pc := 6) (dk D 4 rfl) (tgt := 36) rfl ⟨fun c => ?_, fun c => ?_⟩
  · replace H := H.1 c
    refine a_iconst (pc := 36) (dk D 16 rfl) (ik rfl) ?_
    exact a_iret (pc := 37) (dk D 17 rfl) rfl rfl H
  · replace H := H.2 c
    refine a_aload_n (pc := 9) (dk D 5 rfl) rfl ?_
    refine a_getr (r := 64) (pc := 10) (dk D 6 rfl) cls_11 fl_RX11_82 cf_1_10 ?_
    refine a_callVi (as := []) (st := []) (pc := 13) (dk D 7 rfl) cl_RX11_324 ⟨Nat.le_of_ble_eq_true rfl, Nat.le_of_ble_eq_true rfl⟩ ⟨Nat.le_of_ble_eq_true rfl, Nat.le_of_ble_eq_true rfl⟩ cls_2 rfl cc_65 rfl rfl rfl (Nat.le_of_ble_eq_true rfl) (Call.mono H fun r3 h4 H => ?_)
    refine a_if_eq (pc := 16) (dk D 8 rfl) (tgt := 36) rfl ⟨fun c => ?_, fun c => ?_⟩
    · replace H := H.1 c
      refine a_iconst (pc := 36) (dk D 16 rfl) (ik rfl) ?_
      exact a_iret (pc := 37) (dk D 17 rfl) rfl rfl H
    · replace H := H.2 c
      refine a_aload_n (pc := 19) (dk D 9 rfl) rfl ?_
      refine a_getr (r := 13) (pc := 20) (dk D 10 rfl) cls_11 fl_RX11_45 cf_1_5 ?_
      refine a_aload_n (pc := 23) (dk D 11 rfl) rfl ?_
      refine a_getr (r := 33) (pc := 24) (dk D 12 rfl) cls_11 fl_RX11_75 cf_1_9 ?_
      refine a_geti (pc := 27) (dk D 13 rfl) cls_0 fl_RX11_162 cf_34_4 ?_
      refine a_callVi (as := [iv (h4 34 4)]) (st := []) (pc := 30) (dk D 14 rfl) cl_RX11_327 ⟨Nat.le_of_ble_eq_true rfl, Nat.le_of_ble_eq_true rfl⟩ ⟨Nat.le_of_ble_eq_true rfl, Nat.le_of_ble_eq_true rfl⟩ cls_6 rfl cc_14 rfl rfl rfl (Nat.le_of_ble_eq_true rfl) (Call.mono H fun r5 h6 H => ?_)
      refine a_if_ne (pc := 33) (dk D 15 rfl) (tgt := 38) rfl ⟨fun c => ?_, fun c => ?_⟩
      · replace H := H.1 c
        refine a_aload_n (pc := 38) (dk D 18 rfl) rfl ?_
        refine a_getr (r := 64) (pc := 39) (dk D 19 rfl) cls_11 fl_RX11_82 cf_1_10 ?_
        refine a_callVi (as := []) (st := []) (pc := 42) (dk D 20 rfl) cl_RX11_330 ⟨Nat.le_of_ble_eq_true rfl, Nat.le_of_ble_eq_true rfl⟩ ⟨Nat.le_of_ble_eq_true rfl, Nat.le_of_ble_eq_true rfl⟩ cls_2 rfl cc_65 rfl rfl rfl (Nat.le_of_ble_eq_true rfl) (Call.mono H fun r7 h8 H => ?_)
        refine a_istore_n (pc := 45) (dk D 21 rfl) (by decide) rfl rfl ?_
        refine a_aload_n (pc := 46) (dk D 22 rfl) rfl ?_
        refine a_getr (r := 64) (pc := 47) (dk D 23 rfl) cls_11 fl_RX11_82 cf_1_10 ?_
        refine a_geti (pc := 50) (dk D 24 rfl) cls_2 fl_RX11_333 cf_65_10 ?_
        refine a_istore_n (pc := 53) (dk D 25 rfl) (by decide) rfl rfl ?_
        refine a_aload_n (pc := 54) (dk D 26 rfl) rfl ?_
        refine a_getr (r := 64) (pc := 55) (dk D 27 rfl) cls_11 fl_RX11_82 cf_1_10 ?_
        refine a_dup (pc := 58) (dk D 28 rfl) rfl ?_
        refine a_geti (pc := 59) (dk D 29 rfl) cls_2 fl_RX11_333 cf_65_10 ?_
        refine a_iconst (pc := 62) (dk D 30 rfl) (ik rfl) ?_
        refine a_iadd (pc := 63) (dk D 31 rfl) ?_
        refine a_puti (pc := 64) (dk D 32 rfl) cls_2 fl_RX11_333 cf_65_10 rfl rfl ?_
        refine a_iload_n (pc := 67) (dk D 33 rfl) rfl ?_
        refine a_iconst (pc := 68) (dk D 34 rfl) (ik rfl) ?_
        refine a_icmp_eq (pc := 69) (dk D 35 rfl) (tgt := 95) rfl ⟨fun c => ?_, fun c => ?_⟩
        · replace H := H.1 c
          refine a_iconst (pc := 95) (dk D 47 rfl) (ik rfl) ?_
          refine a_istore (pc := 96) (dk D 48 rfl) (by decide) rfl rfl ?_
          refine a_iload_n (pc := 98) (dk D 49 rfl) rfl ?_
          refine a_iconst (pc := 99) (dk D 50 rfl) (ik rfl) ?_
          refine a_icmp_ne (pc := 100) (dk D 51 rfl) (tgt := 120) rfl ⟨fun c => ?_, fun c => ?_⟩
          · replace H := H.1 c
            refine a_iload (pc := 120) (dk D 61 rfl) rfl ?_
            refine a_callSi (as := [iv 0]) (st := []) (pc := 122) (dk D 62 rfl) cl_RX11_236 ⟨Nat.le_of_ble_eq_true rfl, Nat.le_of_ble_eq_true rfl⟩ ⟨Nat.le_of_ble_eq_true rfl, Nat.le_of_ble_eq_true rfl⟩ rfl rfl rfl (Nat.le_of_ble_eq_true rfl) (Call.mono H fun r9 h10 H => ?_)
            exact a_iret (pc := 125) (dk D 63 rfl) rfl rfl H
          · replace H := H.2 c
            refine a_aload_n (pc := 103) (dk D 52 rfl) rfl ?_
            refine a_getr (r := 33) (pc := 104) (dk D 53 rfl) cls_11 fl_RX11_75 cf_1_9 ?_
            refine a_iload_n (pc := 107) (dk D 54 rfl) rfl ?_
            refine a_aload_n (pc := 108) (dk D 55 rfl) rfl ?_
            refine a_getr (r := 64) (pc := 109) (dk D 56 rfl) cls_11 fl_RX11_82 cf_1_10 ?_
            refine a_getr (r := 67) (pc := 112) (dk D 57 rfl) cls_2 fl_RX11_336 cf_65_8 ?_
            refine a_iload_n (pc := 115) (dk D 58 rfl) rfl ?_
            refine a_callVi (as := [iv r7, rv 68, iv (h8 65 10)]) (st := []) (pc := 116) (dk D 59 rfl) cl_RX11_339 ⟨Nat.le_of_ble_eq_true rfl, Nat.le_of_ble_eq_true rfl⟩ ⟨Nat.le_of_ble_eq_true rfl, Nat.le_of_ble_eq_true rfl⟩ cls_0 rfl cc_34 rfl rfl rfl (Nat.le_of_ble_eq_true rfl) (Call.mono H fun r11 h12 H => ?_)
            refine a_pop (pc := 119) (dk D 60 rfl) rfl ?_
            refine a_iload (pc := 120) (dk D 61 rfl) rfl ?_
            refine a_callSi (as := [iv 0]) (st := []) (pc := 122) (dk D 62 rfl) cl_RX11_236 ⟨Nat.le_of_ble_eq_true rfl, Nat.le_of_ble_eq_true rfl⟩ ⟨Nat.le_of_ble_eq_true rfl, Nat.le_of_ble_eq_true rfl⟩ rfl rfl rfl (Nat.le_of_ble_eq_true rfl) (Call.mono H fun r13 h14 H => ?_)
            exact a_iret (pc := 125) (dk D 63 rfl) rfl rfl H
        · replace H := H.2 c
          refine a_aload_n (pc := 72) (dk D 36 rfl) rfl ?_
          refine a_getr (r := 33) (pc := 73) (dk D 37 rfl) cls_11 fl_RX11_75 cf_1_9 ?_
          refine a_iload_n (pc := 76) (dk D 38 rfl) rfl ?_
          refine a_aload_n (pc := 77) (dk D 39 rfl) rfl ?_
          refine a_getr (r := 64) (pc := 78) (dk D 40 rfl) cls_11 fl_RX11_82 cf_1_10 ?_
          refine a_getr (r := 67) (pc := 81) (dk D 41 rfl) cls_2 fl_RX11_336 cf_65_8 ?_
          refine a_iload_n (pc := 84) (dk D 42 rfl) rfl ?_
          refine a_callVi (as := [iv r7, rv 68, iv (h8 65 10)]) (st := []) (pc := 85) (dk D 43 rfl) cl_RX11_339 ⟨Nat.le_of_ble_eq_true rfl, Nat.le_of_ble_eq_true rfl⟩ ⟨Nat.le_of_ble_eq_true rfl, Nat.le_of_ble_eq_true rfl⟩ cls_0 rfl cc_34 rfl rfl rfl (Nat.le_of_ble_eq_true rfl) (Call.mono H fun r15 h16 H => ?_)
          refine a_if_eq (pc := 88) (dk D 44 rfl) (tgt := 95) rfl ⟨fun c => ?_, fun c => ?_⟩
          · replace H := H.1 c
            refine a_iconst (pc := 95) (dk D 47 rfl) (ik rfl) ?_
            refine a_istore (pc := 96) (dk D 48 rfl) (by decide) rfl rfl ?_
            refine a_iload_n (pc := 98) (dk D 49 rfl) rfl ?_
            refine a_iconst (pc := 99) (dk D 50 rfl) (ik rfl) ?_
            refine a_icmp_ne (pc := 100) (dk D 51 rfl) (tgt := 120) rfl ⟨fun c => ?_, fun c => ?_⟩
            · replace H := H.1 c
              refine a_iload (pc := 120) (dk D 61 rfl) rfl ?_
              refine a_callSi (as := [iv 0]) (st := []) (pc := 122) (dk D 62 rfl) cl_RX11_236 ⟨Nat.le_of_ble_eq_true rfl, Nat.le_of_ble_eq_true rfl⟩ ⟨Nat.le_of_ble_eq_true rfl, Nat.le_of_ble_eq_true rfl⟩ rfl rfl rfl (Nat.le_of_ble_eq_true rfl) (Call.mono H fun r17 h18 H => ?_)
              exact a_iret (pc := 125) (dk D 63 rfl) rfl rfl H
            · replace H := H.2 c
              refine a_aload_n (pc := 103) (dk D 52 rfl) rfl ?_
              refine a_getr (r := 33) (pc := 104) (dk D 53 rfl) cls_11 fl_RX11_75 cf_1_9 ?_
              refine a_iload_n (pc := 107) (dk D 54 rfl) rfl ?_
              refine a_aload_n (pc := 108) (dk D 55 rfl) rfl ?_
              refine a_getr (r := 64) (pc := 109) (dk D 56 rfl) cls_11 fl_RX11_82 cf_1_10 ?_
              refine a_getr (r := 67) (pc := 112) (dk D 57 rfl) cls_2 fl_RX11_336 cf_65_8 ?_
              refine a_iload_n (pc := 115) (dk D 58 rfl) rfl ?_
              refine a_callVi (as := [iv r7, rv 68, iv (h8 65 10)]) (st := []) (pc := 116) (dk D 59 rfl) cl_RX11_339 ⟨Nat.le_of_ble_eq_true rfl, Nat.le_of_ble_eq_true rfl⟩ ⟨Nat.le_of_ble_eq_true rfl, Nat.le_of_ble_eq_true rfl⟩ cls_0 rfl cc_34 rfl rfl rfl (Nat.le_of_ble_eq_true rfl) (Call.mono H fun r19 h20 H => ?_)
              refine a_pop (pc := 119) (dk D 60 rfl) rfl ?_
              refine a_iload (pc := 120) (dk D 61 rfl) rfl ?_
              refine a_callSi (as := [iv 0]) (st := []) (pc := 122) (dk D 62 rfl) cl_RX11_236 ⟨Nat.le_of_ble_eq_true rfl, Nat.le_of_ble_eq_true rfl⟩ ⟨Nat.le_of_ble_eq_true rfl, Nat.le_of_ble_eq_true rfl⟩ rfl rfl rfl (Nat.le_of_ble_eq_true rfl) (Call.mono H fun r21 h22 H => ?_)
              exact a_iret (pc := 125) (dk D 63 rfl) rfl rfl H
          · replace H := H.2 c
            refine a_iconst (pc := 91) (dk D 45 rfl) (ik rfl) ?_
            refine a_goto (pc := 92) (dk D 46 rfl) (tgt := 96) rfl ?_
            refine a_istore (pc := 96) (dk D 48 rfl) (by decide) rfl rfl ?_
            refine a_iload_n (pc := 98) (dk D 49 rfl) rfl ?_
            refine a_iconst (pc := 99) (dk D 50 rfl) (ik rfl) ?_
            refine a_icmp_ne (pc := 100) (dk D 51 rfl) (tgt := 120) rfl ⟨fun c => ?_, fun c => ?_⟩
            · replace H := H.1 c
              refine a_iload (pc := 120) (dk D 61 rfl) rfl ?_
              refine a_callSi (as := [iv 1]) (st := []) (pc := 122) (dk D 62 rfl) cl_RX11_236 ⟨Nat.le_of_ble_eq_true rfl, Nat.le_of_ble_eq_true rfl⟩ ⟨Nat.le_of_ble_eq_true rfl, Nat.le_of_ble_eq_true rfl⟩ rfl rfl rfl (Nat.le_of_ble_eq_true rfl) (Call.mono H fun r23 h24 H => ?_)
              exact a_iret (pc := 125) (dk D 63 rfl) rfl rfl H
            · replace H := H.2 c
              refine a_aload_n (pc := 103) (dk D 52 rfl) rfl ?_
              refine a_getr (r := 33) (pc := 104) (dk D 53 rfl) cls_11 fl_RX11_75 cf_1_9 ?_
              refine a_iload_n (pc := 107) (dk D 54 rfl) rfl ?_
              refine a_aload_n (pc := 108) (dk D 55 rfl) rfl ?_
              refine a_getr (r := 64) (pc := 109) (dk D 56 rfl) cls_11 fl_RX11_82 cf_1_10 ?_
              refine a_getr (r := 67) (pc := 112) (dk D 57 rfl) cls_2 fl_RX11_336 cf_65_8 ?_
              refine a_iload_n (pc := 115) (dk D 58 rfl) rfl ?_
              refine a_callVi (as := [iv r7, rv 68, iv (h8 65 10)]) (st := []) (pc := 116) (dk D 59 rfl) cl_RX11_339 ⟨Nat.le_of_ble_eq_true rfl, Nat.le_of_ble_eq_true rfl⟩ ⟨Nat.le_of_ble_eq_true rfl, Nat.le_of_ble_eq_true rfl⟩ cls_0 rfl cc_34 rfl rfl rfl (Nat.le_of_ble_eq_true rfl) (Call.mono H fun r25 h26 H => ?_)
              refine a_pop (pc := 119) (dk D 60 rfl) rfl ?_
              refine a_iload (pc := 120) (dk D 61 rfl) rfl ?_
              refine a_callSi (as := [iv 1]) (st := []) (pc := 122) (dk D 62 rfl) cl_RX11_236 ⟨Nat.le_of_ble_eq_true rfl, Nat.le_of_ble_eq_true rfl⟩ ⟨Nat.le_of_ble_eq_true rfl, Nat.le_of_ble_eq_true rfl⟩ rfl rfl rfl (Nat.le_of_ble_eq_true rfl) (Call.mono H fun r27 h28 H => ?_)
              exact a_iret (pc := 125) (dk D 63 rfl) rfl rfl H
      · replace H := H.2 c
        refine a_iconst (pc := 36) (dk D 16 rfl) (ik rfl) ?_
        exact a_iret (pc := 37) (dk D 17 rfl) rfl rfl H
set_option maxHeartbeats 40000000 in
theorem T_X11_ground_1_0 {G : GG} {Φ : Int → Hp → Prop} {h : Hp} {x1 : Int} (H : (((x1 = 0) → Φ (h 65 0) h) ∧ ((x1 = 1) → Φ (h 65 1) h) ∧ ((x1 = 2) → Φ (h 65 7) h) ∧ ((x1 = 3) → Φ (h 65 9) h) ∧ ((x1 = 4) → Call G m_X2_toSend [rv 65] h (fun r1 h2 => Φ r1 h2)) ∧ ((x1 = 5) → Φ (h 65 11) h) ∧ (((x1 < 0 ∨ 5 < x1)) → Φ (-1) h))) : AT G m_X11_ground 0 [(0, rv 1), (1, iv x1)] [] h Φ := by
  have D := dt_X11_ground
  refine a_iload_n (pc := 0) (dk D 0 rfl) rfl ?_
  have B0 : (x1 = 0) → AT G m_X11_ground 40 [(0, rv 1), (1, iv x1)] [] h Φ := by
    intro c
    replace H := H.1 c
    refine a_aload_n (pc := 40) (dk D 2 rfl) rfl ?_
    refine a_getr (r := 64) (pc := 41) (dk D 3 rfl) cls_11 fl_RX11_82 cf_1_10 ?_
    refine a_geti (pc := 44) (dk D 4 rfl) cls_2 fl_RX11_343 cf_65_0 ?_
    exact a_iret (pc := 47) (dk D 5 rfl) rfl rfl H
  have B1 : (x1 = 1) → AT G m_X11_ground 48 [(0, rv 1), (1, iv x1)] [] h Φ := by
    intro c
    replace H := H.2.1 c
    refine a_aload_n (pc := 48) (dk D 6 rfl) rfl ?_
    refine a_getr (r := 64) (pc := 49) (dk D 7 rfl) cls_11 fl_RX11_82 cf_1_10 ?_
    refine a_geti (pc := 52) (dk D 8 rfl) cls_2 fl_RX11_346 cf_65_1 ?_
    exact a_iret (pc := 55) (dk D 9 rfl) rfl rfl H
  have B2 : (x1 = 2) → AT G m_X11_ground 56 [(0, rv 1), (1, iv x1)] [] h Φ := by
    intro c
    replace H := H.2.2.1 c
    refine a_aload_n (pc := 56) (dk D 10 rfl) rfl ?_
    refine a_getr (r := 64) (pc := 57) (dk D 11 rfl) cls_11 fl_RX11_82 cf_1_10 ?_
    refine a_geti (pc := 60) (dk D 12 rfl) cls_2 fl_RX11_308 cf_65_7 ?_
    exact a_iret (pc := 63) (dk D 13 rfl) rfl rfl H
  have B3 : (x1 = 3) → AT G m_X11_ground 64 [(0, rv 1), (1, iv x1)] [] h Φ := by
    intro c
    replace H := H.2.2.2.1 c
    refine a_aload_n (pc := 64) (dk D 14 rfl) rfl ?_
    refine a_getr (r := 64) (pc := 65) (dk D 15 rfl) cls_11 fl_RX11_82 cf_1_10 ?_
    refine a_geti (pc := 68) (dk D 16 rfl) cls_2 fl_RX11_349 cf_65_9 ?_
    exact a_iret (pc := 71) (dk D 17 rfl) rfl rfl H
  have B4 : (x1 = 4) → AT G m_X11_ground 72 [(0, rv 1), (1, iv x1)] [] h Φ := by
    intro c
    replace H := H.2.2.2.2.1 c
    refine a_aload_n (pc := 72) (dk D 18 rfl) rfl ?_
    refine a_getr (r := 64) (pc := 73) (dk D 19 rfl) cls_11 fl_RX11_82 cf_1_10 ?_
    refine a_callVi (as := []) (st := []) (pc := 76) (dk D 20 rfl) cl_RX11_324 ⟨Nat.le_of_ble_eq_true rfl, Nat.le_of_ble_eq_true rfl⟩ ⟨Nat.le_of_ble_eq_true rfl, Nat.le_of_ble_eq_true rfl⟩ cls_2 rfl cc_65 rfl rfl rfl (Nat.le_of_ble_eq_true rfl) (Call.mono H fun r1 h2 H => ?_)
    exact a_iret (pc := 79) (dk D 21 rfl) rfl rfl H
  have B5 : (x1 = 5) → AT G m_X11_ground 80 [(0, rv 1), (1, iv x1)] [] h Φ := by
    intro c
    replace H := H.2.2.2.2.2.1 c
    refine a_aload_n (pc := 80) (dk D 22 rfl) rfl ?_
    refine a_getr (r := 64) (pc := 81) (dk D 23 rfl) cls_11 fl_RX11_82 cf_1_10 ?_
    refine a_geti (pc := 84) (dk D 24 rfl) cls_2 fl_RX11_352 cf_65_11 ?_
    exact a_iret (pc := 87) (dk D 25 rfl) rfl rfl H
  have BD : ((x1 < 0 ∨ 5 < x1)) → AT G m_X11_ground 88 [(0, rv 1), (1, iv x1)] [] h Φ := by
    intro c
    replace H := H.2.2.2.2.2.2 c
    refine a_iconst (pc := 88) (dk D 26 rfl) (ik rfl) ?_
    exact a_iret (pc := 89) (dk D 27 rfl) rfl rfl H
  exact a_tsw [40, 48, 56, 64, 72, 80] (pc := 1) (dk D 1 rfl) (by decide) (dt := 88) rfl (by decide) ⟨⟨fun c => B0 (c), fun c => B1 (c), fun c => B2 (c), fun c => B3 (c), fun c => B4 (c), fun c => B5 (c), trivial⟩, fun c => BD (c)⟩
set_option maxHeartbeats 40000000 in
theorem T_X11_pass_1_0 {G : GG} {Φ : Int → Hp → Prop} {h : Hp} {x1 : Int} {x2 : Int} {x3 : Int} {x4 : Int} (H : Call G m_X11_isStation [iv x1] h (fun r1 h2 => ((r1 = 0 → Φ (-1) h2) ∧ (r1 ≠ 0 → Call G m_X11_within [iv x2, iv 0, iv 99999] h2 (fun r3 h4 => ((r3 = 0 → Φ (-1) h4) ∧ (r3 ≠ 0 → Call G m_X11_within [iv x3, iv 0, iv 99999] h4 (fun r5 h6 => ((r5 = 0 → Φ (-1) h6) ∧ (r5 ≠ 0 → ((x3 ≤ x2 → Φ (-1) h6) ∧ (x2 < x3 → Call G m_X11_within [iv x4, iv 1, iv 99] h6 (fun r7 h8 => ((r7 ≠ 0 → Call G m_X7_add [rv 75, iv x1, iv x2, iv x3, iv x4] h8 (fun r9 h10 => Φ r9 h10)) ∧ (r7 = 0 → Φ (-1) h8))))))))))))))) : AT G m_X11_pass 0 [(0, rv 1), (1, iv x1), (2, iv x2), (3, iv x3), (4, iv x4)] [] h Φ := by
  have D := dt_X11_pass
  refine a_iload_n (pc := 0) (dk D 0 rfl) rfl ?_
  refine a_callSi (as := [iv x1]) (st := []) (pc := 1) (dk D 1 rfl) cl_RX11_150 ⟨Nat.le_of_ble_eq_true rfl, Nat.le_of_ble_eq_true rfl⟩ ⟨Nat.le_of_ble_eq_true rfl, Nat.le_of_ble_eq_true rfl⟩ rfl rfl rfl (Nat.le_of_ble_eq_true rfl) (Call.mono H fun r1 h2 H => ?_)
  refine a_if_eq (pc := 4) (dk D 2 rfl) (tgt := 45) rfl ⟨fun c => ?_, fun c => ?_⟩
  · replace H := H.1 c
    refine a_iconst (pc := 45) (dk D 21 rfl) (ik rfl) ?_
    exact a_iret (pc := 46) (dk D 22 rfl) rfl rfl H
  · replace H := H.2 c
    refine a_iload_n (pc := 7) (dk D 3 rfl) rfl ?_
    refine a_iconst (pc := 8) (dk D 4 rfl) (ik rfl) ?_
    refine a_ldcw (n := 99999) (pc := 9) (dk D 5 rfl) (ik rfl) co_RX11_355 ?_
    refine a_callSi (as := [iv x2, iv 0, iv 99999]) (st := []) (pc := 12) (dk D 6 rfl) cl_RX11_104 ⟨Nat.le_of_ble_eq_true rfl, Nat.le_of_ble_eq_true rfl⟩ ⟨Nat.le_of_ble_eq_true rfl, Nat.le_of_ble_eq_true rfl⟩ rfl rfl rfl (Nat.le_of_ble_eq_true rfl) (Call.mono H fun r3 h4 H => ?_)
    refine a_if_eq (pc := 15) (dk D 7 rfl) (tgt := 45) rfl ⟨fun c => ?_, fun c => ?_⟩
    · replace H := H.1 c
      refine a_iconst (pc := 45) (dk D 21 rfl) (ik rfl) ?_
      exact a_iret (pc := 46) (dk D 22 rfl) rfl rfl H
    · replace H := H.2 c
      refine a_iload_n (pc := 18) (dk D 8 rfl) rfl ?_
      refine a_iconst (pc := 19) (dk D 9 rfl) (ik rfl) ?_
      refine a_ldcw (n := 99999) (pc := 20) (dk D 10 rfl) (ik rfl) co_RX11_355 ?_
      refine a_callSi (as := [iv x3, iv 0, iv 99999]) (st := []) (pc := 23) (dk D 11 rfl) cl_RX11_104 ⟨Nat.le_of_ble_eq_true rfl, Nat.le_of_ble_eq_true rfl⟩ ⟨Nat.le_of_ble_eq_true rfl, Nat.le_of_ble_eq_true rfl⟩ rfl rfl rfl (Nat.le_of_ble_eq_true rfl) (Call.mono H fun r5 h6 H => ?_)
      refine a_if_eq (pc := 26) (dk D 12 rfl) (tgt := 45) rfl ⟨fun c => ?_, fun c => ?_⟩
      · replace H := H.1 c
        refine a_iconst (pc := 45) (dk D 21 rfl) (ik rfl) ?_
        exact a_iret (pc := 46) (dk D 22 rfl) rfl rfl H
      · replace H := H.2 c
        refine a_iload_n (pc := 29) (dk D 13 rfl) rfl ?_
        refine a_iload_n (pc := 30) (dk D 14 rfl) rfl ?_
        refine a_icmp_le (pc := 31) (dk D 15 rfl) (tgt := 45) rfl ⟨fun c => ?_, fun c => ?_⟩
        · replace H := H.1 c
          refine a_iconst (pc := 45) (dk D 21 rfl) (ik rfl) ?_
          exact a_iret (pc := 46) (dk D 22 rfl) rfl rfl H
        · replace H := H.2 c
          refine a_iload (pc := 34) (dk D 16 rfl) rfl ?_
          refine a_iconst (pc := 36) (dk D 17 rfl) (ik rfl) ?_
          refine a_bipush (pc := 37) (dk D 18 rfl) (ik rfl) (bpk rfl) ?_
          refine a_callSi (as := [iv x4, iv 1, iv 99]) (st := []) (pc := 39) (dk D 19 rfl) cl_RX11_104 ⟨Nat.le_of_ble_eq_true rfl, Nat.le_of_ble_eq_true rfl⟩ ⟨Nat.le_of_ble_eq_true rfl, Nat.le_of_ble_eq_true rfl⟩ rfl rfl rfl (Nat.le_of_ble_eq_true rfl) (Call.mono H fun r7 h8 H => ?_)
          refine a_if_ne (pc := 42) (dk D 20 rfl) (tgt := 47) rfl ⟨fun c => ?_, fun c => ?_⟩
          · replace H := H.1 c
            refine a_aload_n (pc := 47) (dk D 23 rfl) rfl ?_
            refine a_getr (r := 74) (pc := 48) (dk D 24 rfl) cls_11 fl_RX11_89 cf_1_11 ?_
            refine a_iload_n (pc := 51) (dk D 25 rfl) rfl ?_
            refine a_iload_n (pc := 52) (dk D 26 rfl) rfl ?_
            refine a_iload_n (pc := 53) (dk D 27 rfl) rfl ?_
            refine a_iload (pc := 54) (dk D 28 rfl) rfl ?_
            refine a_callVi (as := [iv x1, iv x2, iv x3, iv x4]) (st := []) (pc := 56) (dk D 29 rfl) cl_RX11_356 ⟨Nat.le_of_ble_eq_true rfl, Nat.le_of_ble_eq_true rfl⟩ ⟨Nat.le_of_ble_eq_true rfl, Nat.le_of_ble_eq_true rfl⟩ cls_7 rfl cc_75 rfl rfl rfl (Nat.le_of_ble_eq_true rfl) (Call.mono H fun r9 h10 H => ?_)
            exact a_iret (pc := 59) (dk D 30 rfl) rfl rfl H
          · replace H := H.2 c
            refine a_iconst (pc := 45) (dk D 21 rfl) (ik rfl) ?_
            exact a_iret (pc := 46) (dk D 22 rfl) rfl rfl H
set_option maxHeartbeats 40000000 in
theorem T_X11_gap_1_0 {G : GG} {Φ : Int → Hp → Prop} {h : Hp} {x1 : Int} (H : Call G m_X11_within [iv x1, iv 0, iv 999] h (fun r1 h2 => ((r1 ≠ 0 → Φ (h2 75 6) (up (up h2 75 6 x1) 75 7 0)) ∧ (r1 = 0 → Φ (-1) h2)))) : AT G m_X11_gap 0 [(0, rv 1), (1, iv x1)] [] h Φ := by
  have D := dt_X11_gap
  refine a_iload_n (pc := 0) (dk D 0 rfl) rfl ?_
  refine a_iconst (pc := 1) (dk D 1 rfl) (ik rfl) ?_
  refine a_sipush (pc := 2) (dk D 2 rfl) (ik rfl) (spk rfl) ?_
  refine a_callSi (as := [iv x1, iv 0, iv 999]) (st := []) (pc := 5) (dk D 3 rfl) cl_RX11_104 ⟨Nat.le_of_ble_eq_true rfl, Nat.le_of_ble_eq_true rfl⟩ ⟨Nat.le_of_ble_eq_true rfl, Nat.le_of_ble_eq_true rfl⟩ rfl rfl rfl (Nat.le_of_ble_eq_true rfl) (Call.mono H fun r1 h2 H => ?_)
  refine a_if_ne (pc := 8) (dk D 4 rfl) (tgt := 13) rfl ⟨fun c => ?_, fun c => ?_⟩
  · replace H := H.1 c
    refine a_aload_n (pc := 13) (dk D 7 rfl) rfl ?_
    refine a_getr (r := 74) (pc := 14) (dk D 8 rfl) cls_11 fl_RX11_89 cf_1_11 ?_
    refine a_geti (pc := 17) (dk D 9 rfl) cls_7 fl_RX11_360 cf_75_6 ?_
    refine a_istore_n (pc := 20) (dk D 10 rfl) (by decide) rfl rfl ?_
    refine a_aload_n (pc := 21) (dk D 11 rfl) rfl ?_
    refine a_getr (r := 74) (pc := 22) (dk D 12 rfl) cls_11 fl_RX11_89 cf_1_11 ?_
    refine a_iload_n (pc := 25) (dk D 13 rfl) rfl ?_
    refine a_puti (pc := 26) (dk D 14 rfl) cls_7 fl_RX11_360 cf_75_6 rfl rfl ?_
    refine a_aload_n (pc := 29) (dk D 15 rfl) rfl ?_
    refine a_getr (r := 74) (pc := 30) (dk D 16 rfl) cls_11 fl_RX11_89 cf_1_11 ?_
    refine a_iconst (pc := 33) (dk D 17 rfl) (ik rfl) ?_
    refine a_putz (pc := 34) (dk D 18 rfl) cls_7 fl_RX11_363 cf_75_7 rfl rfl ⟨by decide, ?_⟩
    refine a_iload_n (pc := 37) (dk D 19 rfl) rfl ?_
    exact a_iret (pc := 38) (dk D 20 rfl) rfl rfl H
  · replace H := H.2 c
    refine a_iconst (pc := 11) (dk D 5 rfl) (ik rfl) ?_
    exact a_iret (pc := 12) (dk D 6 rfl) rfl rfl H
set_option maxHeartbeats 40000000 in
theorem T_X11_clear_1_0 {G : GG} {Φ : Int → Hp → Prop} {h : Hp} (H : Φ (h 75 5) (up (up h 75 5 0) 75 7 0)) : AT G m_X11_clear 0 [(0, rv 1)] [] h Φ := by
  have D := dt_X11_clear
  refine a_aload_n (pc := 0) (dk D 0 rfl) rfl ?_
  refine a_getr (r := 74) (pc := 1) (dk D 1 rfl) cls_11 fl_RX11_89 cf_1_11 ?_
  refine a_geti (pc := 4) (dk D 2 rfl) cls_7 fl_RX11_367 cf_75_5 ?_
  refine a_istore_n (pc := 7) (dk D 3 rfl) (by decide) rfl rfl ?_
  refine a_aload_n (pc := 8) (dk D 4 rfl) rfl ?_
  refine a_getr (r := 74) (pc := 9) (dk D 5 rfl) cls_11 fl_RX11_89 cf_1_11 ?_
  refine a_iconst (pc := 12) (dk D 6 rfl) (ik rfl) ?_
  refine a_puti (pc := 13) (dk D 7 rfl) cls_7 fl_RX11_367 cf_75_5 rfl rfl ?_
  refine a_aload_n (pc := 16) (dk D 8 rfl) rfl ?_
  refine a_getr (r := 74) (pc := 17) (dk D 9 rfl) cls_11 fl_RX11_89 cf_1_11 ?_
  refine a_iconst (pc := 20) (dk D 10 rfl) (ik rfl) ?_
  refine a_putz (pc := 21) (dk D 11 rfl) cls_7 fl_RX11_363 cf_75_7 rfl rfl ⟨by decide, ?_⟩
  refine a_iload_n (pc := 24) (dk D 12 rfl) rfl ?_
  exact a_iret (pc := 25) (dk D 13 rfl) rfl rfl H
set_option maxHeartbeats 40000000 in
theorem T_X11_best_1_0 {G : GG} {Φ : Int → Hp → Prop} {h : Hp} {x1 : Int} (H : Call G m_X7_choose [rv 75] h (fun _ h2 => ((x1 ≠ 100 → ((x1 ≠ 101 → Call G m_X11_within [iv x1, iv 0, iv (w32 ((h2 75 5) - 1))] h2 (fun r3 h4 => ((r3 = 0 → Φ (-1) h4) ∧ (r3 ≠ 0 → Φ (band (bshr (h4 75 8) x1) 1) h4)))) ∧ (x1 = 101 → Call G m_J6_bitCount_0f7a4 [iv (h2 75 8)] h2 (fun r5 h6 => Φ r5 h6)))) ∧ (x1 = 100 → Φ (h2 75 9) h2)))) : AT G m_X11_best 0 [(0, rv 1), (1, iv x1)] [] h Φ := by
  have D := dt_X11_best
  refine a_aload_n (pc := 0) (dk D 0 rfl) rfl ?_
  refine a_getr (r := 74) (pc := 1) (dk D 1 rfl) cls_11 fl_RX11_89 cf_1_11 ?_
  refine a_callVv (as := []) (st := []) (pc := 4) (dk D 2 rfl) cl_RX11_370 ⟨Nat.le_of_ble_eq_true rfl, Nat.le_of_ble_eq_true rfl⟩ ⟨Nat.le_of_ble_eq_true rfl, Nat.le_of_ble_eq_true rfl⟩ cls_7 rfl cc_75 rfl rfl rfl (Nat.le_of_ble_eq_true rfl) (Call.mono H fun _ h2 H => ?_)
  refine a_iload_n (pc := 7) (dk D 3 rfl) rfl ?_
  refine a_bipush (pc := 8) (dk D 4 rfl) (ik rfl) (bpk rfl) ?_
  refine a_icmp_ne (pc := 10) (dk D 5 rfl) (tgt := 21) rfl ⟨fun c => ?_, fun c => ?_⟩
  · replace H := H.1 c
    refine a_iload_n (pc := 21) (dk D 10 rfl) rfl ?_
    refine a_bipush (pc := 22) (dk D 11 rfl) (ik rfl) (bpk rfl) ?_
    refine a_icmp_ne (pc := 24) (dk D 12 rfl) (tgt := 38) rfl ⟨fun c => ?_, fun c => ?_⟩
    · replace H := H.1 c
      refine a_iload_n (pc := 38) (dk D 18 rfl) rfl ?_
      refine a_iconst (pc := 39) (dk D 19 rfl) (ik rfl) ?_
      refine a_aload_n (pc := 40) (dk D 20 rfl) rfl ?_
      refine a_getr (r := 74) (pc := 41) (dk D 21 rfl) cls_11 fl_RX11_89 cf_1_11 ?_
      refine a_geti (pc := 44) (dk D 22 rfl) cls_7 fl_RX11_367 cf_75_5 ?_
      refine a_iconst (pc := 47) (dk D 23 rfl) (ik rfl) ?_
      refine a_isub (pc := 48) (dk D 24 rfl) ?_
      refine a_callSi (as := [iv x1, iv 0, iv (w32 ((h2 75 5) - 1))]) (st := []) (pc := 49) (dk D 25 rfl) cl_RX11_104 ⟨Nat.le_of_ble_eq_true rfl, Nat.le_of_ble_eq_true rfl⟩ ⟨Nat.le_of_ble_eq_true rfl, Nat.le_of_ble_eq_true rfl⟩ rfl rfl rfl (Nat.le_of_ble_eq_true rfl) (Call.mono H fun r3 h4 H => ?_)
      refine a_if_eq (pc := 52) (dk D 26 rfl) (tgt := 69) rfl ⟨fun c => ?_, fun c => ?_⟩
      · replace H := H.1 c
        refine a_iconst (pc := 69) (dk D 35 rfl) (ik rfl) ?_
        exact a_iret (pc := 70) (dk D 36 rfl) rfl rfl H
      · replace H := H.2 c
        refine a_aload_n (pc := 55) (dk D 27 rfl) rfl ?_
        refine a_getr (r := 74) (pc := 56) (dk D 28 rfl) cls_11 fl_RX11_89 cf_1_11 ?_
        refine a_geti (pc := 59) (dk D 29 rfl) cls_7 fl_RX11_376 cf_75_8 ?_
        refine a_iload_n (pc := 62) (dk D 30 rfl) rfl ?_
        refine a_ishr (pc := 63) (dk D 31 rfl) ?_
        refine a_iconst (pc := 64) (dk D 32 rfl) (ik rfl) ?_
        refine a_iand (pc := 65) (dk D 33 rfl) ?_
        refine a_goto (pc := 66) (dk D 34 rfl) (tgt := 70) rfl ?_
        exact a_iret (pc := 70) (dk D 36 rfl) rfl rfl H
    · replace H := H.2 c
      refine a_aload_n (pc := 27) (dk D 13 rfl) rfl ?_
      refine a_getr (r := 74) (pc := 28) (dk D 14 rfl) cls_11 fl_RX11_89 cf_1_11 ?_
      refine a_geti (pc := 31) (dk D 15 rfl) cls_7 fl_RX11_376 cf_75_8 ?_
      refine a_callSi (as := [iv (h2 75 8)]) (st := []) (pc := 34) (dk D 16 rfl) cl_RX11_379 ⟨Nat.le_of_ble_eq_true rfl, Nat.le_of_ble_eq_true rfl⟩ ⟨Nat.le_of_ble_eq_true rfl, Nat.le_of_ble_eq_true rfl⟩ rfl rfl rfl (Nat.le_of_ble_eq_true rfl) (Call.mono H fun r5 h6 H => ?_)
      exact a_iret (pc := 37) (dk D 17 rfl) rfl rfl H
  · replace H := H.2 c
    refine a_aload_n (pc := 13) (dk D 6 rfl) rfl ?_
    refine a_getr (r := 74) (pc := 14) (dk D 7 rfl) cls_11 fl_RX11_89 cf_1_11 ?_
    refine a_geti (pc := 17) (dk D 8 rfl) cls_7 fl_RX11_373 cf_75_9 ?_
    exact a_iret (pc := 20) (dk D 9 rfl) rfl rfl H
set_option maxHeartbeats 40000000 in
theorem T_X11_bar_1_0 {G : GG} {Φ : Int → Hp → Prop} {h : Hp} {x1 : Int} {x2 : Int} {x3 : Int} (H : Call G m_X11_isField [iv x1, iv x2] h (fun r1 h2 => ((r1 ≠ 0 → (0 ≤ (w32 ((w32 (x2 * 24)) + x1)) ∧ (w32 ((w32 (x2 * 24)) + x1)) < 288) ∧ Call G m_X11_bit [iv (h2 82 (w32 ((w32 (x2 * 24)) + x1)))] h2 (fun r3 h4 => (0 ≤ (w32 ((w32 (x2 * 24)) + x1)) ∧ (w32 ((w32 (x2 * 24)) + x1)) < 288) ∧ (x3 = 0 ∨ x3 = 1) ∧ Φ r3 (up h4 82 (w32 ((w32 (x2 * 24)) + x1)) x3))) ∧ (r1 = 0 → Φ (-1) h2)))) : AT G m_X11_bar 0 [(0, rv 1), (1, iv x1), (2, iv x2), (3, iv x3)] [] h Φ := by
  have D := dt_X11_bar
  refine a_iload_n (pc := 0) (dk D 0 rfl) rfl ?_
  refine a_iload_n (pc := 1) (dk D 1 rfl) rfl ?_
  refine a_callSi (as := [iv x1, iv x2]) (st := []) (pc := 2) (dk D 2 rfl) cl_RX11_384 ⟨Nat.le_of_ble_eq_true rfl, Nat.le_of_ble_eq_true rfl⟩ ⟨Nat.le_of_ble_eq_true rfl, Nat.le_of_ble_eq_true rfl⟩ rfl rfl rfl (Nat.le_of_ble_eq_true rfl) (Call.mono H fun r1 h2 H => ?_)
  refine a_if_ne (pc := 5) (dk D 3 rfl) (tgt := 10) rfl ⟨fun c => ?_, fun c => ?_⟩
  · replace H := H.1 c
    refine a_iload_n (pc := 10) (dk D 6 rfl) rfl ?_
    refine a_bipush (pc := 11) (dk D 7 rfl) (ik rfl) (bpk rfl) ?_
    refine a_imul (pc := 13) (dk D 8 rfl) ?_
    refine a_iload_n (pc := 14) (dk D 9 rfl) rfl ?_
    refine a_iadd (pc := 15) (dk D 10 rfl) ?_
    refine a_istore (pc := 16) (dk D 11 rfl) (by decide) rfl rfl ?_
    refine a_aload_n (pc := 18) (dk D 12 rfl) rfl ?_
    refine a_getr (r := 80) (pc := 19) (dk D 13 rfl) cls_11 fl_RX11_94 cf_1_12 ?_
    refine a_getr (r := 81) (pc := 22) (dk D 14 rfl) cls_9 fl_RX11_388 cf_81_0 ?_
    refine a_iload (pc := 25) (dk D 15 rfl) rfl ?_
    refine a_zald (pc := 27) (dk D 16 rfl) ar_82 ⟨H.1, ?_⟩
    replace H := H.2
    refine a_callSi (as := [iv (h2 82 (w32 ((w32 (x2 * 24)) + x1)))]) (st := []) (pc := 28) (dk D 17 rfl) cl_RX11_236 ⟨Nat.le_of_ble_eq_true rfl, Nat.le_of_ble_eq_true rfl⟩ ⟨Nat.le_of_ble_eq_true rfl, Nat.le_of_ble_eq_true rfl⟩ rfl rfl rfl (Nat.le_of_ble_eq_true rfl) (Call.mono H fun r3 h4 H => ?_)
    refine a_istore (pc := 31) (dk D 18 rfl) (by decide) rfl rfl ?_
    refine a_aload_n (pc := 33) (dk D 19 rfl) rfl ?_
    refine a_getr (r := 80) (pc := 34) (dk D 20 rfl) cls_11 fl_RX11_94 cf_1_12 ?_
    refine a_getr (r := 81) (pc := 37) (dk D 21 rfl) cls_9 fl_RX11_388 cf_81_0 ?_
    refine a_iload (pc := 40) (dk D 22 rfl) rfl ?_
    refine a_iload_n (pc := 42) (dk D 23 rfl) rfl ?_
    refine a_zast (pc := 43) (dk D 24 rfl) ar_82 ⟨H.1, H.2.1, ?_⟩
    replace H := H.2.2
    refine a_iload (pc := 44) (dk D 25 rfl) rfl ?_
    exact a_iret (pc := 46) (dk D 26 rfl) rfl rfl H
  · replace H := H.2 c
    refine a_iconst (pc := 8) (dk D 4 rfl) (ik rfl) ?_
    exact a_iret (pc := 9) (dk D 5 rfl) rfl rfl H
set_option maxHeartbeats 40000000 in
theorem T_X11_way_1_0 {G : GG} {Φ : Int → Hp → Prop} {h : Hp} {x1 : Int} {x2 : Int} {x3 : Int} {x4 : Int} (H : Call G m_X11_isField [iv x1, iv x2] h (fun r1 h2 => ((r1 = 0 → Φ (-1) h2) ∧ (r1 ≠ 0 → Call G m_X11_isField [iv x3, iv x4] h2 (fun r3 h4 => ((r3 ≠ 0 → Call G m_X9_turnsTo [rv 81, iv (w32 ((w32 (x2 * 24)) + x1)), iv (w32 ((w32 (x4 * 24)) + x3))] h4 (fun r5 h6 => ((r5 ≠ (-1) → Call G m_X9_writeTurns [rv 81, iv (w32 ((w32 (x2 * 24)) + x1)), iv r5, rv 11] h6 (fun _ h8 => Φ r5 (up h8 1 3 r5))) ∧ (r5 = (-1) → Φ (-1) h6)))) ∧ (r3 = 0 → Φ (-1) h4))))))) : AT G m_X11_way 0 [(0, rv 1), (1, iv x1), (2, iv x2), (3, iv x3), (4, iv x4)] [] h Φ := by
  have D := dt_X11_way
  refine a_iload_n (pc := 0) (dk D 0 rfl) rfl ?_
  refine a_iload_n (pc := 1) (dk D 1 rfl) rfl ?_
  refine a_callSi (as := [iv x1, iv x2]) (st := []) (pc := 2) (dk D 2 rfl) cl_RX11_384 ⟨Nat.le_of_ble_eq_true rfl, Nat.le_of_ble_eq_true rfl⟩ ⟨Nat.le_of_ble_eq_true rfl, Nat.le_of_ble_eq_true rfl⟩ rfl rfl rfl (Nat.le_of_ble_eq_true rfl) (Call.mono H fun r1 h2 H => ?_)
  refine a_if_eq (pc := 5) (dk D 3 rfl) (tgt := 17) rfl ⟨fun c => ?_, fun c => ?_⟩
  · replace H := H.1 c
    refine a_iconst (pc := 17) (dk D 8 rfl) (ik rfl) ?_
    exact a_iret (pc := 18) (dk D 9 rfl) rfl rfl H
  · replace H := H.2 c
    refine a_iload_n (pc := 8) (dk D 4 rfl) rfl ?_
    refine a_iload (pc := 9) (dk D 5 rfl) rfl ?_
    refine a_callSi (as := [iv x3, iv x4]) (st := []) (pc := 11) (dk D 6 rfl) cl_RX11_384 ⟨Nat.le_of_ble_eq_true rfl, Nat.le_of_ble_eq_true rfl⟩ ⟨Nat.le_of_ble_eq_true rfl, Nat.le_of_ble_eq_true rfl⟩ rfl rfl rfl (Nat.le_of_ble_eq_true rfl) (Call.mono H fun r3 h4 H => ?_)
    refine a_if_ne (pc := 14) (dk D 7 rfl) (tgt := 19) rfl ⟨fun c => ?_, fun c => ?_⟩
    · replace H := H.1 c
      refine a_iload_n (pc := 19) (dk D 10 rfl) rfl ?_
      refine a_bipush (pc := 20) (dk D 11 rfl) (ik rfl) (bpk rfl) ?_
      refine a_imul (pc := 22) (dk D 12 rfl) ?_
      refine a_iload_n (pc := 23) (dk D 13 rfl) rfl ?_
      refine a_iadd (pc := 24) (dk D 14 rfl) ?_
      refine a_istore (pc := 25) (dk D 15 rfl) (by decide) rfl rfl ?_
      refine a_aload_n (pc := 27) (dk D 16 rfl) rfl ?_
      refine a_getr (r := 80) (pc := 28) (dk D 17 rfl) cls_11 fl_RX11_94 cf_1_12 ?_
      refine a_iload (pc := 31) (dk D 18 rfl) rfl ?_
      refine a_iload (pc := 33) (dk D 19 rfl) rfl ?_
      refine a_bipush (pc := 35) (dk D 20 rfl) (ik rfl) (bpk rfl) ?_
      refine a_imul (pc := 37) (dk D 21 rfl) ?_
      refine a_iload_n (pc := 38) (dk D 22 rfl) rfl ?_
      refine a_iadd (pc := 39) (dk D 23 rfl) ?_
      refine a_callVi (as := [iv (w32 ((w32 (x2 * 24)) + x1)), iv (w32 ((w32 (x4 * 24)) + x3))]) (st := []) (pc := 40) (dk D 24 rfl) cl_RX11_391 ⟨Nat.le_of_ble_eq_true rfl, Nat.le_of_ble_eq_true rfl⟩ ⟨Nat.le_of_ble_eq_true rfl, Nat.le_of_ble_eq_true rfl⟩ cls_9 rfl cc_81 rfl rfl rfl (Nat.le_of_ble_eq_true rfl) (Call.mono H fun r5 h6 H => ?_)
      refine a_istore (pc := 43) (dk D 25 rfl) (by decide) rfl rfl ?_
      refine a_iload (pc := 45) (dk D 26 rfl) rfl ?_
      refine a_iconst (pc := 47) (dk D 27 rfl) (ik rfl) ?_
      refine a_icmp_ne (pc := 48) (dk D 28 rfl) (tgt := 53) rfl ⟨fun c => ?_, fun c => ?_⟩
      · replace H := H.1 c
        refine a_aload_n (pc := 53) (dk D 31 rfl) rfl ?_
        refine a_getr (r := 80) (pc := 54) (dk D 32 rfl) cls_11 fl_RX11_94 cf_1_12 ?_
        refine a_iload (pc := 57) (dk D 33 rfl) rfl ?_
        refine a_iload (pc := 59) (dk D 34 rfl) rfl ?_
        refine a_aload_n (pc := 61) (dk D 35 rfl) rfl ?_
        refine a_getr (r := 10) (pc := 62) (dk D 36 rfl) cls_11 fl_RX11_27 cf_1_2 ?_
        refine a_callVv (as := [iv (w32 ((w32 (x2 * 24)) + x1)), iv r5, rv 11]) (st := []) (pc := 65) (dk D 37 rfl) cl_RX11_394 ⟨Nat.le_of_ble_eq_true rfl, Nat.le_of_ble_eq_true rfl⟩ ⟨Nat.le_of_ble_eq_true rfl, Nat.le_of_ble_eq_true rfl⟩ cls_9 rfl cc_81 rfl rfl rfl (Nat.le_of_ble_eq_true rfl) (Call.mono H fun _ h8 H => ?_)
        refine a_aload_n (pc := 68) (dk D 38 rfl) rfl ?_
        refine a_iload (pc := 69) (dk D 39 rfl) rfl ?_
        refine a_puti (pc := 71) (dk D 40 rfl) cls_11 fl_RX11_31 cf_1_3 rfl rfl ?_
        refine a_iload (pc := 74) (dk D 41 rfl) rfl ?_
        exact a_iret (pc := 76) (dk D 42 rfl) rfl rfl H
      · replace H := H.2 c
        refine a_iconst (pc := 51) (dk D 29 rfl) (ik rfl) ?_
        exact a_iret (pc := 52) (dk D 30 rfl) rfl rfl H
    · replace H := H.2 c
      refine a_iconst (pc := 17) (dk D 8 rfl) (ik rfl) ?_
      exact a_iret (pc := 18) (dk D 9 rfl) rfl rfl H
set_option maxHeartbeats 40000000 in
theorem T_X11_within_0 {G : GG} {Φ : Int → Hp → Prop} {h : Hp} {x0 : Int} {x1 : Int} {x2 : Int} (H : ((x0 < x1 → Φ 0 h) ∧ (x1 ≤ x0 → ((x2 < x0 → Φ 0 h) ∧ (x0 ≤ x2 → Φ 1 h))))) : AT G m_X11_within 0 [(0, iv x0), (1, iv x1), (2, iv x2)] [] h Φ := by
  have D := dt_X11_within
  refine a_iload_n (pc := 0) (dk D 0 rfl) rfl ?_
  refine a_iload_n (pc := 1) (dk D 1 rfl) rfl ?_
  refine a_icmp_lt (pc := 2) (dk D 2 rfl) (tgt := 14) rfl ⟨fun c => ?_, fun c => ?_⟩
  · replace H := H.1 c
    refine a_iconst (pc := 14) (dk D 8 rfl) (ik rfl) ?_
    exact a_zret (pc := 15) (dk D 9 rfl) rfl rfl ⟨by decide, H⟩
  · replace H := H.2 c
    refine a_iload_n (pc := 5) (dk D 3 rfl) rfl ?_
    refine a_iload_n (pc := 6) (dk D 4 rfl) rfl ?_
    refine a_icmp_gt (pc := 7) (dk D 5 rfl) (tgt := 14) rfl ⟨fun c => ?_, fun c => ?_⟩
    · replace H := H.1 c
      refine a_iconst (pc := 14) (dk D 8 rfl) (ik rfl) ?_
      exact a_zret (pc := 15) (dk D 9 rfl) rfl rfl ⟨by decide, H⟩
    · replace H := H.2 c
      refine a_iconst (pc := 10) (dk D 6 rfl) (ik rfl) ?_
      refine a_goto (pc := 11) (dk D 7 rfl) (tgt := 15) rfl ?_
      exact a_zret (pc := 15) (dk D 9 rfl) rfl rfl ⟨by decide, H⟩
set_option maxHeartbeats 40000000 in
theorem T_X11_isDegree_0 {G : GG} {Φ : Int → Hp → Prop} {h : Hp} {x0 : Int} (H : Call G m_X11_within [iv x0, iv 0, iv 3599] h (fun r1 h2 => (r1 = 0 ∨ r1 = 1) ∧ Φ r1 h2)) : AT G m_X11_isDegree 0 [(0, iv x0)] [] h Φ := by
  have D := dt_X11_isDegree
  refine a_iload_n (pc := 0) (dk D 0 rfl) rfl ?_
  refine a_iconst (pc := 1) (dk D 1 rfl) (ik rfl) ?_
  refine a_sipush (pc := 2) (dk D 2 rfl) (ik rfl) (spk rfl) ?_
  refine a_callSi (as := [iv x0, iv 0, iv 3599]) (st := []) (pc := 5) (dk D 3 rfl) cl_RX11_104 ⟨Nat.le_of_ble_eq_true rfl, Nat.le_of_ble_eq_true rfl⟩ ⟨Nat.le_of_ble_eq_true rfl, Nat.le_of_ble_eq_true rfl⟩ rfl rfl rfl (Nat.le_of_ble_eq_true rfl) (Call.mono H fun r1 h2 H => ?_)
  exact a_zret (pc := 8) (dk D 4 rfl) rfl rfl H
set_option maxHeartbeats 40000000 in
theorem T_X11_isStation_0 {G : GG} {Φ : Int → Hp → Prop} {h : Hp} {x0 : Int} (H : Call G m_X11_within [iv x0, iv 0, iv 3] h (fun r1 h2 => (r1 = 0 ∨ r1 = 1) ∧ Φ r1 h2)) : AT G m_X11_isStation 0 [(0, iv x0)] [] h Φ := by
  have D := dt_X11_isStation
  refine a_iload_n (pc := 0) (dk D 0 rfl) rfl ?_
  refine a_iconst (pc := 1) (dk D 1 rfl) (ik rfl) ?_
  refine a_iconst (pc := 2) (dk D 2 rfl) (ik rfl) ?_
  refine a_callSi (as := [iv x0, iv 0, iv 3]) (st := []) (pc := 3) (dk D 3 rfl) cl_RX11_104 ⟨Nat.le_of_ble_eq_true rfl, Nat.le_of_ble_eq_true rfl⟩ ⟨Nat.le_of_ble_eq_true rfl, Nat.le_of_ble_eq_true rfl⟩ rfl rfl rfl (Nat.le_of_ble_eq_true rfl) (Call.mono H fun r1 h2 H => ?_)
  exact a_zret (pc := 6) (dk D 4 rfl) rfl rfl H
set_option maxHeartbeats 40000000 in
theorem T_X11_isLoad_0 {G : GG} {Φ : Int → Hp → Prop} {h : Hp} {x0 : Int} (H : Call G m_X11_within [iv x0, iv 0, iv 7] h (fun r1 h2 => (r1 = 0 ∨ r1 = 1) ∧ Φ r1 h2)) : AT G m_X11_isLoad 0 [(0, iv x0)] [] h Φ := by
  have D := dt_X11_isLoad
  refine a_iload_n (pc := 0) (dk D 0 rfl) rfl ?_
  refine a_iconst (pc := 1) (dk D 1 rfl) (ik rfl) ?_
  refine a_bipush (pc := 2) (dk D 2 rfl) (ik rfl) (bpk rfl) ?_
  refine a_callSi (as := [iv x0, iv 0, iv 7]) (st := []) (pc := 4) (dk D 3 rfl) cl_RX11_104 ⟨Nat.le_of_ble_eq_true rfl, Nat.le_of_ble_eq_true rfl⟩ ⟨Nat.le_of_ble_eq_true rfl, Nat.le_of_ble_eq_true rfl⟩ rfl rfl rfl (Nat.le_of_ble_eq_true rfl) (Call.mono H fun r1 h2 H => ?_)
  exact a_zret (pc := 7) (dk D 4 rfl) rfl rfl H
set_option maxHeartbeats 40000000 in
theorem T_X11_isProgram_0 {G : GG} {Φ : Int → Hp → Prop} {h : Hp} {x0 : Int} (H : Call G m_X11_within [iv x0, iv 0, iv 7] h (fun r1 h2 => (r1 = 0 ∨ r1 = 1) ∧ Φ r1 h2)) : AT G m_X11_isProgram 0 [(0, iv x0)] [] h Φ := by
  have D := dt_X11_isProgram
  refine a_iload_n (pc := 0) (dk D 0 rfl) rfl ?_
  refine a_iconst (pc := 1) (dk D 1 rfl) (ik rfl) ?_
  refine a_bipush (pc := 2) (dk D 2 rfl) (ik rfl) (bpk rfl) ?_
  refine a_callSi (as := [iv x0, iv 0, iv 7]) (st := []) (pc := 4) (dk D 3 rfl) cl_RX11_104 ⟨Nat.le_of_ble_eq_true rfl, Nat.le_of_ble_eq_true rfl⟩ ⟨Nat.le_of_ble_eq_true rfl, Nat.le_of_ble_eq_true rfl⟩ rfl rfl rfl (Nat.le_of_ble_eq_true rfl) (Call.mono H fun r1 h2 H => ?_)
  exact a_zret (pc := 7) (dk D 4 rfl) rfl rfl H
set_option maxHeartbeats 40000000 in
theorem T_X11_isWord_0 {G : GG} {Φ : Int → Hp → Prop} {h : Hp} {x0 : Int} (H : Call G m_X11_within [iv x0, iv 0, iv 63] h (fun r1 h2 => (r1 = 0 ∨ r1 = 1) ∧ Φ r1 h2)) : AT G m_X11_isWord 0 [(0, iv x0)] [] h Φ := by
  have D := dt_X11_isWord
  refine a_iload_n (pc := 0) (dk D 0 rfl) rfl ?_
  refine a_iconst (pc := 1) (dk D 1 rfl) (ik rfl) ?_
  refine a_bipush (pc := 2) (dk D 2 rfl) (ik rfl) (bpk rfl) ?_
  refine a_callSi (as := [iv x0, iv 0, iv 63]) (st := []) (pc := 4) (dk D 3 rfl) cl_RX11_104 ⟨Nat.le_of_ble_eq_true rfl, Nat.le_of_ble_eq_true rfl⟩ ⟨Nat.le_of_ble_eq_true rfl, Nat.le_of_ble_eq_true rfl⟩ rfl rfl rfl (Nat.le_of_ble_eq_true rfl) (Call.mono H fun r1 h2 H => ?_)
  exact a_zret (pc := 7) (dk D 4 rfl) rfl rfl H
set_option maxHeartbeats 40000000 in
theorem T_X11_bit_0 {G : GG} {Φ : Int → Hp → Prop} {h : Hp} {x0 : Int} (H : ((x0 = 0 → Φ 0 h) ∧ (x0 ≠ 0 → Φ 1 h))) : AT G m_X11_bit 0 [(0, iv x0)] [] h Φ := by
  have D := dt_X11_bit
  refine a_iload_n (pc := 0) (dk D 0 rfl) rfl ?_
  refine a_if_eq (pc := 1) (dk D 1 rfl) (tgt := 8) rfl ⟨fun c => ?_, fun c => ?_⟩
  · replace H := H.1 c
    refine a_iconst (pc := 8) (dk D 4 rfl) (ik rfl) ?_
    exact a_iret (pc := 9) (dk D 5 rfl) rfl rfl H
  · replace H := H.2 c
    refine a_iconst (pc := 4) (dk D 2 rfl) (ik rfl) ?_
    refine a_goto (pc := 5) (dk D 3 rfl) (tgt := 9) rfl ?_
    exact a_iret (pc := 9) (dk D 5 rfl) rfl rfl H
set_option maxHeartbeats 40000000 in
theorem T_X11_isField_0 {G : GG} {Φ : Int → Hp → Prop} {h : Hp} {x0 : Int} {x1 : Int} (H : Call G m_X11_within [iv x0, iv 0, iv 23] h (fun r1 h2 => ((r1 = 0 → Φ 0 h2) ∧ (r1 ≠ 0 → Call G m_X11_within [iv x1, iv 0, iv 11] h2 (fun r3 h4 => ((r3 = 0 → Φ 0 h4) ∧ (r3 ≠ 0 → Φ 1 h4))))))) : AT G m_X11_isField 0 [(0, iv x0), (1, iv x1)] [] h Φ := by
  have D := dt_X11_isField
  refine a_iload_n (pc := 0) (dk D 0 rfl) rfl ?_
  refine a_iconst (pc := 1) (dk D 1 rfl) (ik rfl) ?_
  refine a_bipush (pc := 2) (dk D 2 rfl) (ik rfl) (bpk rfl) ?_
  refine a_callSi (as := [iv x0, iv 0, iv 23]) (st := []) (pc := 4) (dk D 3 rfl) cl_RX11_104 ⟨Nat.le_of_ble_eq_true rfl, Nat.le_of_ble_eq_true rfl⟩ ⟨Nat.le_of_ble_eq_true rfl, Nat.le_of_ble_eq_true rfl⟩ rfl rfl rfl (Nat.le_of_ble_eq_true rfl) (Call.mono H fun r1 h2 H => ?_)
  refine a_if_eq (pc := 7) (dk D 4 rfl) (tgt := 24) rfl ⟨fun c => ?_, fun c => ?_⟩
  · replace H := H.1 c
    refine a_iconst (pc := 24) (dk D 12 rfl) (ik rfl) ?_
    exact a_zret (pc := 25) (dk D 13 rfl) rfl rfl ⟨by decide, H⟩
  · replace H := H.2 c
    refine a_iload_n (pc := 10) (dk D 5 rfl) rfl ?_
    refine a_iconst (pc := 11) (dk D 6 rfl) (ik rfl) ?_
    refine a_bipush (pc := 12) (dk D 7 rfl) (ik rfl) (bpk rfl) ?_
    refine a_callSi (as := [iv x1, iv 0, iv 11]) (st := []) (pc := 14) (dk D 8 rfl) cl_RX11_104 ⟨Nat.le_of_ble_eq_true rfl, Nat.le_of_ble_eq_true rfl⟩ ⟨Nat.le_of_ble_eq_true rfl, Nat.le_of_ble_eq_true rfl⟩ rfl rfl rfl (Nat.le_of_ble_eq_true rfl) (Call.mono H fun r3 h4 H => ?_)
    refine a_if_eq (pc := 17) (dk D 9 rfl) (tgt := 24) rfl ⟨fun c => ?_, fun c => ?_⟩
    · replace H := H.1 c
      refine a_iconst (pc := 24) (dk D 12 rfl) (ik rfl) ?_
      exact a_zret (pc := 25) (dk D 13 rfl) rfl rfl ⟨by decide, H⟩
    · replace H := H.2 c
      refine a_iconst (pc := 20) (dk D 10 rfl) (ik rfl) ?_
      refine a_goto (pc := 21) (dk D 11 rfl) (tgt := 25) rfl ?_
      exact a_zret (pc := 25) (dk D 13 rfl) rfl rfl ⟨by decide, H⟩
