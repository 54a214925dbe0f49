set_option maxHeartbeats 40000000 in
theorem U_X4_recordedPackets_26_0 {G : GG} {Φ : Int → Hp → Prop} {h : Hp} (H : Φ (w32 ((w32 ((w32 ((h 29 0) + (h 29 1))) + (h 29 2))) + (h 29 3))) h) : AT G m_X4_recordedPackets 0 [(0, rv 26)] [] h Φ := by
  refine a_aload_n (pc := 0) (dk dt_X4_recordedPackets 0 rfl) rfl ?_
  refine a_getr (r := 28) (pc := 1) (dk dt_X4_recordedPackets 1 rfl) cls_4 fl_RX4_18 cf_26_2 ?_
  refine a_iconst (pc := 4) (dk dt_X4_recordedPackets 2 rfl) (ik rfl) ?_
  refine a_iald (pc := 5) (dk dt_X4_recordedPackets 3 rfl) ar_29 ⟨⟨by decide, by decide⟩, ?_⟩
  refine a_aload_n (pc := 6) (dk dt_X4_recordedPackets 4 rfl) rfl ?_
  refine a_getr (r := 28) (pc := 7) (dk dt_X4_recordedPackets 5 rfl) cls_4 fl_RX4_18 cf_26_2 ?_
  refine a_iconst (pc := 10) (dk dt_X4_recordedPackets 6 rfl) (ik rfl) ?_
  refine a_iald (pc := 11) (dk dt_X4_recordedPackets 7 rfl) ar_29 ⟨⟨by decide, by decide⟩, ?_⟩
  refine a_iadd (pc := 12) (dk dt_X4_recordedPackets 8 rfl) ?_
  refine a_aload_n (pc := 13) (dk dt_X4_recordedPackets 9 rfl) rfl ?_
  refine a_getr (r := 28) (pc := 14) (dk dt_X4_recordedPackets 10 rfl) cls_4 fl_RX4_18 cf_26_2 ?_
  refine a_iconst (pc := 17) (dk dt_X4_recordedPackets 11 rfl) (ik rfl) ?_
  refine a_iald (pc := 18) (dk dt_X4_recordedPackets 12 rfl) ar_29 ⟨⟨by decide, by decide⟩, ?_⟩
  refine a_iadd (pc := 19) (dk dt_X4_recordedPackets 13 rfl) ?_
  refine a_aload_n (pc := 20) (dk dt_X4_recordedPackets 14 rfl) rfl ?_
  refine a_getr (r := 28) (pc := 21) (dk dt_X4_recordedPackets 15 rfl) cls_4 fl_RX4_18 cf_26_2 ?_
  refine a_iconst (pc := 24) (dk dt_X4_recordedPackets 16 rfl) (ik rfl) ?_
  refine a_iald (pc := 25) (dk dt_X4_recordedPackets 17 rfl) ar_29 ⟨⟨by decide, by decide⟩, ?_⟩
  refine a_iadd (pc := 26) (dk dt_X4_recordedPackets 18 rfl) ?_
  exact a_iret (pc := 27) (dk dt_X4_recordedPackets 19 rfl) rfl rfl H
set_option maxHeartbeats 40000000 in
theorem U_X4_dropFrame_26_0 {G : GG} {Φ : Int → Hp → Prop} {h : Hp} (H : Φ 0 (up (up h 26 10 ((w32 ((h 26 10) + 1)).tmod 30)) 26 11 (w32 ((h 26 11) - 1)))) : AT G m_X4_dropFrame 0 [(0, rv 26)] [] h Φ := by
  refine a_aload_n (pc := 0) (dk dt_X4_dropFrame 0 rfl) rfl ?_
  refine a_aload_n (pc := 1) (dk dt_X4_dropFrame 1 rfl) rfl ?_
  refine a_geti (pc := 2) (dk dt_X4_dropFrame 2 rfl) cls_4 fl_RX4_58 cf_26_10 ?_
  refine a_iconst (pc := 5) (dk dt_X4_dropFrame 3 rfl) (ik rfl) ?_
  refine a_iadd (pc := 6) (dk dt_X4_dropFrame 4 rfl) ?_
  refine a_bipush (pc := 7) (dk dt_X4_dropFrame 5 rfl) (ik rfl) (bpk rfl) ?_
  refine a_irem (pc := 9) (dk dt_X4_dropFrame 6 rfl) ⟨by decide, ?_⟩
  refine a_puti (pc := 10) (dk dt_X4_dropFrame 7 rfl) cls_4 fl_RX4_58 cf_26_10 rfl rfl ?_
  refine a_aload_n (pc := 13) (dk dt_X4_dropFrame 8 rfl) rfl ?_
  refine a_dup (pc := 14) (dk dt_X4_dropFrame 9 rfl) rfl ?_
  refine a_geti (pc := 15) (dk dt_X4_dropFrame 10 rfl) cls_4 fl_RX4_55 cf_26_11 ?_
  refine a_top (y := (h 26 11)) (by simp [up, cpy]) ?_
  refine a_iconst (pc := 18) (dk dt_X4_dropFrame 11 rfl) (ik rfl) ?_
  refine a_isub (pc := 19) (dk dt_X4_dropFrame 12 rfl) ?_
  refine a_puti (pc := 20) (dk dt_X4_dropFrame 13 rfl) cls_4 fl_RX4_55 cf_26_11 rfl rfl ?_
  exact a_vret (pc := 23) (dk dt_X4_dropFrame 14 rfl) rfl rfl H
set_option maxHeartbeats 40000000 in
theorem U_X4_sendFrame_26_0 {G : GG} {Φ : Int → Hp → Prop} {h : Hp} (H : ((30 ≤ (h 26 11) → (0 ≤ (w32 (30 * 24)) ∧ (w32 (30 * 24)) < 744) ∧ (0 ≤ (w32 ((w32 (30 * 24)) + 1)) ∧ (w32 ((w32 (30 * 24)) + 1)) < 744) ∧ (0 ≤ (w32 ((w32 (30 * 24)) + 2)) ∧ (w32 ((w32 (30 * 24)) + 2)) < 744) ∧ Call G m_X4_fillData [rv 26, iv (w32 ((w32 (30 * 24)) + 4))] (up (up (up h 33 (w32 (30 * 24)) (h 26 12)) 33 (w32 ((w32 (30 * 24)) + 1)) (h 26 13)) 33 (w32 ((w32 (30 * 24)) + 2)) (h 26 14)) (fun r1 h2 => (0 ≤ (w32 ((w32 (30 * 24)) + 3)) ∧ (w32 ((w32 (30 * 24)) + 3)) < 744) ∧ Φ 0 (up (up h2 33 (w32 ((w32 (30 * 24)) + 3)) r1) 26 12 (band (w32 ((h2 26 12) + 1)) 255)))) ∧ ((h 26 11) < 30 → (0 ≤ (w32 (((w32 ((h 26 10) + (h 26 11))).tmod 30) * 24)) ∧ (w32 (((w32 ((h 26 10) + (h 26 11))).tmod 30) * 24)) < 744) ∧ (0 ≤ (w32 ((w32 (((w32 ((h 26 10) + (h 26 11))).tmod 30) * 24)) + 1)) ∧ (w32 ((w32 (((w32 ((h 26 10) + (h 26 11))).tmod 30) * 24)) + 1)) < 744) ∧ (0 ≤ (w32 ((w32 (((w32 ((h 26 10) + (h 26 11))).tmod 30) * 24)) + 2)) ∧ (w32 ((w32 (((w32 ((h 26 10) + (h 26 11))).tmod 30) * 24)) + 2)) < 744) ∧ Call G m_X4_fillData [rv 26, iv (w32 ((w32 (((w32 ((h 26 10) + (h 26 11))).tmod 30) * 24)) + 4))] (up (up (up h 33 (w32 (((w32 ((h 26 10) + (h 26 11))).tmod 30) * 24)) (h 26 12)) 33 (w32 ((w32 (((w32 ((h 26 10) + (h 26 11))).tmod 30) * 24)) + 1)) (h 26 13)) 33 (w32 ((w32 (((w32 ((h 26 10) + (h 26 11))).tmod 30) * 24)) + 2)) (h 26 14)) (fun r3 h4 => (0 ≤ (w32 ((w32 (((w32 ((h 26 10) + (h 26 11))).tmod 30) * 24)) + 3)) ∧ (w32 ((w32 (((w32 ((h 26 10) + (h 26 11))).tmod 30) * 24)) + 3)) < 744) ∧ Call G m_X4_checkOf [rv 33, iv (w32 (((w32 ((h 26 10) + (h 26 11))).tmod 30) * 24))] (up (up h4 33 (w32 ((w32 (((w32 ((h 26 10) + (h 26 11))).tmod 30) * 24)) + 3)) r3) 26 12 (band (w32 ((h4 26 12) + 1)) 255)) (fun r5 h6 => (0 ≤ (w32 ((w32 ((w32 (((w32 ((h 26 10) + (h 26 11))).tmod 30) * 24)) + 24)) - 2)) ∧ (w32 ((w32 ((w32 (((w32 ((h 26 10) + (h 26 11))).tmod 30) * 24)) + 24)) - 2)) < 744) ∧ (0 ≤ (w32 ((w32 ((w32 (((w32 ((h 26 10) + (h 26 11))).tmod 30) * 24)) + 24)) - 1)) ∧ (w32 ((w32 ((w32 (((w32 ((h 26 10) + (h 26 11))).tmod 30) * 24)) + 24)) - 1)) < 744) ∧ Φ 0 (up (up (up h6 33 (w32 ((w32 ((w32 (((w32 ((h 26 10) + (h 26 11))).tmod 30) * 24)) + 24)) - 2)) (bshr r5 8)) 33 (w32 ((w32 ((w32 (((w32 ((h 26 10) + (h 26 11))).tmod 30) * 24)) + 24)) - 1)) (band r5 255)) 26 11 (w32 ((h6 26 11) + 1)))))))) : AT G m_X4_sendFrame 0 [(0, rv 26)] [] h Φ := by
  refine a_aload_n (pc := 0) (dk dt_X4_sendFrame 0 rfl) rfl ?_
  refine a_geti (pc := 1) (dk dt_X4_sendFrame 1 rfl) cls_4 fl_RX4_55 cf_26_11 ?_
  refine a_bipush (pc := 4) (dk dt_X4_sendFrame 2 rfl) (ik rfl) (bpk rfl) ?_
  refine a_icmp_ge (pc := 6) (dk dt_X4_sendFrame 3 rfl) (tgt := 13) rfl ⟨fun c => ?_, fun c => ?_⟩
  · replace H := H.1 c
    refine a_iconst (pc := 13) (dk dt_X4_sendFrame 6 rfl) (ik rfl) ?_
    refine a_istore_n (pc := 14) (dk dt_X4_sendFrame 7 rfl) (by decide) rfl rfl ?_
    refine a_iload_n (pc := 15) (dk dt_X4_sendFrame 8 rfl) rfl ?_
    refine a_if_eq (pc := 16) (dk dt_X4_sendFrame 9 rfl) (tgt := 34) rfl ⟨fun _ => ?_, fun c => absurd c (by decide)⟩
    refine a_bipush (pc := 34) (dk dt_X4_sendFrame 18 rfl) (ik rfl) (bpk rfl) ?_
    refine a_bipush (pc := 36) (dk dt_X4_sendFrame 19 rfl) (ik rfl) (bpk rfl) ?_
    refine a_imul (pc := 38) (dk dt_X4_sendFrame 20 rfl) ?_
    refine a_istore_n (pc := 39) (dk dt_X4_sendFrame 21 rfl) (by decide) rfl rfl ?_
    refine a_aload_n (pc := 40) (dk dt_X4_sendFrame 22 rfl) rfl ?_
    refine a_getr (r := 32) (pc := 41) (dk dt_X4_sendFrame 23 rfl) cls_4 fl_RX4_30 cf_26_9 ?_
    refine a_iload_n (pc := 44) (dk dt_X4_sendFrame 24 rfl) rfl ?_
    refine a_aload_n (pc := 45) (dk dt_X4_sendFrame 25 rfl) rfl ?_
    refine a_geti (pc := 46) (dk dt_X4_sendFrame 26 rfl) cls_4 fl_RX4_61 cf_26_12 ?_
    refine a_iast (pc := 49) (dk dt_X4_sendFrame 27 rfl) ar_33 ⟨H.1, ?_⟩
    replace H := H.2
    refine a_aload_n (pc := 50) (dk dt_X4_sendFrame 28 rfl) rfl ?_
    refine a_getr (r := 32) (pc := 51) (dk dt_X4_sendFrame 29 rfl) cls_4 fl_RX4_30 cf_26_9 ?_
    refine a_iload_n (pc := 54) (dk dt_X4_sendFrame 30 rfl) rfl ?_
    refine a_iconst (pc := 55) (dk dt_X4_sendFrame 31 rfl) (ik rfl) ?_
    refine a_iadd (pc := 56) (dk dt_X4_sendFrame 32 rfl) ?_
    refine a_aload_n (pc := 57) (dk dt_X4_sendFrame 33 rfl) rfl ?_
    refine a_geti (pc := 58) (dk dt_X4_sendFrame 34 rfl) cls_4 fl_RX4_64 cf_26_13 ?_
    refine a_top (y := (h 26 13)) (by simp [up, cpy]) ?_
    refine a_iast (pc := 61) (dk dt_X4_sendFrame 35 rfl) ar_33 ⟨H.1, ?_⟩
    replace H := H.2
    refine a_aload_n (pc := 62) (dk dt_X4_sendFrame 36 rfl) rfl ?_
    refine a_getr (r := 32) (pc := 63) (dk dt_X4_sendFrame 37 rfl) cls_4 fl_RX4_30 cf_26_9 ?_
    refine a_iload_n (pc := 66) (dk dt_X4_sendFrame 38 rfl) rfl ?_
    refine a_iconst (pc := 67) (dk dt_X4_sendFrame 39 rfl) (ik rfl) ?_
    refine a_iadd (pc := 68) (dk dt_X4_sendFrame 40 rfl) ?_
    refine a_aload_n (pc := 69) (dk dt_X4_sendFrame 41 rfl) rfl ?_
    refine a_geti (pc := 70) (dk dt_X4_sendFrame 42 rfl) cls_4 fl_RX4_67 cf_26_14 ?_
    refine a_top (y := (h 26 14)) (by simp [up, cpy]) ?_
    refine a_iast (pc := 73) (dk dt_X4_sendFrame 43 rfl) ar_33 ⟨H.1, ?_⟩
    replace H := H.2
    refine a_aload_n (pc := 74) (dk dt_X4_sendFrame 44 rfl) rfl ?_
    refine a_getr (r := 32) (pc := 75) (dk dt_X4_sendFrame 45 rfl) cls_4 fl_RX4_30 cf_26_9 ?_
    refine a_iload_n (pc := 78) (dk dt_X4_sendFrame 46 rfl) rfl ?_
    refine a_iconst (pc := 79) (dk dt_X4_sendFrame 47 rfl) (ik rfl) ?_
    refine a_iadd (pc := 80) (dk dt_X4_sendFrame 48 rfl) ?_
    refine a_aload_n (pc := 81) (dk dt_X4_sendFrame 49 rfl) rfl ?_
    refine a_iload_n (pc := 82) (dk dt_X4_sendFrame 50 rfl) rfl ?_
    refine a_iconst (pc := 83) (dk dt_X4_sendFrame 51 rfl) (ik rfl) ?_
    refine a_iadd (pc := 84) (dk dt_X4_sendFrame 52 rfl) ?_
    refine a_callVi (as := [iv (w32 ((w32 (30 * 24)) + 4))]) (st := [iv (w32 ((w32 (30 * 24)) + 3)), rv 33]) (pc := 85) (dk dt_X4_sendFrame 53 rfl) cl_RX4_70 ⟨Nat.le_of_ble_eq_true rfl, Nat.le_of_ble_eq_true rfl⟩ ⟨Nat.le_of_ble_eq_true rfl, Nat.le_of_ble_eq_true rfl⟩ cls_4 rfl cc_26 rfl rfl rfl (Nat.le_of_ble_eq_true rfl) (Call.mono H fun r1 h2 H => ?_)
    refine a_iast (pc := 88) (dk dt_X4_sendFrame 54 rfl) ar_33 ⟨H.1, ?_⟩
    replace H := H.2
    refine a_aload_n (pc := 89) (dk dt_X4_sendFrame 55 rfl) rfl ?_
    refine a_aload_n (pc := 90) (dk dt_X4_sendFrame 56 rfl) rfl ?_
    refine a_geti (pc := 91) (dk dt_X4_sendFrame 57 rfl) cls_4 fl_RX4_61 cf_26_12 ?_
    refine a_top (y := (h2 26 12)) (by simp [up, cpy]) ?_
    refine a_iconst (pc := 94) (dk dt_X4_sendFrame 58 rfl) (ik rfl) ?_
    refine a_iadd (pc := 95) (dk dt_X4_sendFrame 59 rfl) ?_
    refine a_sipush (pc := 96) (dk dt_X4_sendFrame 60 rfl) (ik rfl) (spk rfl) ?_
    refine a_iand (pc := 99) (dk dt_X4_sendFrame 61 rfl) ?_
    refine a_puti (pc := 100) (dk dt_X4_sendFrame 62 rfl) cls_4 fl_RX4_61 cf_26_12 rfl rfl ?_
    refine a_iload_n (pc := 103) (dk dt_X4_sendFrame 63 rfl) rfl ?_
    refine a_if_eq (pc := 104) (dk dt_X4_sendFrame 64 rfl) (tgt := 157) rfl ⟨fun _ => ?_, fun c => absurd c (by decide)⟩
    exact a_vret (pc := 157) (dk dt_X4_sendFrame 98 rfl) rfl rfl H
  · replace H := H.2 c
    refine a_iconst (pc := 9) (dk dt_X4_sendFrame 4 rfl) (ik rfl) ?_
    refine a_goto (pc := 10) (dk dt_X4_sendFrame 5 rfl) (tgt := 14) rfl ?_
    refine a_istore_n (pc := 14) (dk dt_X4_sendFrame 7 rfl) (by decide) rfl rfl ?_
    refine a_iload_n (pc := 15) (dk dt_X4_sendFrame 8 rfl) rfl ?_
    refine a_if_eq (pc := 16) (dk dt_X4_sendFrame 9 rfl) (tgt := 34) rfl ⟨fun c => absurd c (by decide), fun _ => ?_⟩
    refine a_aload_n (pc := 19) (dk dt_X4_sendFrame 10 rfl) rfl ?_
    refine a_geti (pc := 20) (dk dt_X4_sendFrame 11 rfl) cls_4 fl_RX4_58 cf_26_10 ?_
    refine a_aload_n (pc := 23) (dk dt_X4_sendFrame 12 rfl) rfl ?_
    refine a_geti (pc := 24) (dk dt_X4_sendFrame 13 rfl) cls_4 fl_RX4_55 cf_26_11 ?_
    refine a_iadd (pc := 27) (dk dt_X4_sendFrame 14 rfl) ?_
    refine a_bipush (pc := 28) (dk dt_X4_sendFrame 15 rfl) (ik rfl) (bpk rfl) ?_
    refine a_irem (pc := 30) (dk dt_X4_sendFrame 16 rfl) ⟨by decide, ?_⟩
    refine a_goto (pc := 31) (dk dt_X4_sendFrame 17 rfl) (tgt := 36) rfl ?_
    refine a_bipush (pc := 36) (dk dt_X4_sendFrame 19 rfl) (ik rfl) (bpk rfl) ?_
    refine a_imul (pc := 38) (dk dt_X4_sendFrame 20 rfl) ?_
    refine a_istore_n (pc := 39) (dk dt_X4_sendFrame 21 rfl) (by decide) rfl rfl ?_
    refine a_aload_n (pc := 40) (dk dt_X4_sendFrame 22 rfl) rfl ?_
    refine a_getr (r := 32) (pc := 41) (dk dt_X4_sendFrame 23 rfl) cls_4 fl_RX4_30 cf_26_9 ?_
    refine a_iload_n (pc := 44) (dk dt_X4_sendFrame 24 rfl) rfl ?_
    refine a_aload_n (pc := 45) (dk dt_X4_sendFrame 25 rfl) rfl ?_
    refine a_geti (pc := 46) (dk dt_X4_sendFrame 26 rfl) cls_4 fl_RX4_61 cf_26_12 ?_
    refine a_iast (pc := 49) (dk dt_X4_sendFrame 27 rfl) ar_33 ⟨H.1, ?_⟩
    replace H := H.2
    refine a_aload_n (pc := 50) (dk dt_X4_sendFrame 28 rfl) rfl ?_
    refine a_getr (r := 32) (pc := 51) (dk dt_X4_sendFrame 29 rfl) cls_4 fl_RX4_30 cf_26_9 ?_
    refine a_iload_n (pc := 54) (dk dt_X4_sendFrame 30 rfl) rfl ?_
    refine a_iconst (pc := 55) (dk dt_X4_sendFrame 31 rfl) (ik rfl) ?_
    refine a_iadd (pc := 56) (dk dt_X4_sendFrame 32 rfl) ?_
    refine a_aload_n (pc := 57) (dk dt_X4_sendFrame 33 rfl) rfl ?_
    refine a_geti (pc := 58) (dk dt_X4_sendFrame 34 rfl) cls_4 fl_RX4_64 cf_26_13 ?_
    refine a_top (y := (h 26 13)) (by simp [up, cpy]) ?_
    refine a_iast (pc := 61) (dk dt_X4_sendFrame 35 rfl) ar_33 ⟨H.1, ?_⟩
    replace H := H.2
    refine a_aload_n (pc := 62) (dk dt_X4_sendFrame 36 rfl) rfl ?_
    refine a_getr (r := 32) (pc := 63) (dk dt_X4_sendFrame 37 rfl) cls_4 fl_RX4_30 cf_26_9 ?_
    refine a_iload_n (pc := 66) (dk dt_X4_sendFrame 38 rfl) rfl ?_
    refine a_iconst (pc := 67) (dk dt_X4_sendFrame 39 rfl) (ik rfl) ?_
    refine a_iadd (pc := 68) (dk dt_X4_sendFrame 40 rfl) ?_
    refine a_aload_n (pc := 69) (dk dt_X4_sendFrame 41 rfl) rfl ?_
    refine a_geti (pc := 70) (dk dt_X4_sendFrame 42 rfl) cls_4 fl_RX4_67 cf_26_14 ?_
    refine a_top (y := (h 26 14)) (by simp [up, cpy]) ?_
    refine a_iast (pc := 73) (dk dt_X4_sendFrame 43 rfl) ar_33 ⟨H.1, ?_⟩
    replace H := H.2
    refine a_aload_n (pc := 74) (dk dt_X4_sendFrame 44 rfl) rfl ?_
    refine a_getr (r := 32) (pc := 75) (dk dt_X4_sendFrame 45 rfl) cls_4 fl_RX4_30 cf_26_9 ?_
    refine a_iload_n (pc := 78) (dk dt_X4_sendFrame 46 rfl) rfl ?_
    refine a_iconst (pc := 79) (dk dt_X4_sendFrame 47 rfl) (ik rfl) ?_
    refine a_iadd (pc := 80) (dk dt_X4_sendFrame 48 rfl) ?_
    refine a_aload_n (pc := 81) (dk dt_X4_sendFrame 49 rfl) rfl ?_
    refine a_iload_n (pc := 82) (dk dt_X4_sendFrame 50 rfl) rfl ?_
    refine a_iconst (pc := 83) (dk dt_X4_sendFrame 51 rfl) (ik rfl) ?_
    refine a_iadd (pc := 84) (dk dt_X4_sendFrame 52 rfl) ?_
    refine a_callVi (as := [iv (w32 ((w32 (((w32 ((h 26 10) + (h 26 11))).tmod 30) * 24)) + 4))]) (st := [iv (w32 ((w32 (((w32 ((h 26 10) + (h 26 11))).tmod 30) * 24)) + 3)), rv 33]) (pc := 85) (dk dt_X4_sendFrame 53 rfl) cl_RX4_70 ⟨Nat.le_of_ble_eq_true rfl, Nat.le_of_ble_eq_true rfl⟩ ⟨Nat.le_of_ble_eq_true rfl, Nat.le_of_ble_eq_true rfl⟩ cls_4 rfl cc_26 rfl rfl rfl (Nat.le_of_ble_eq_true rfl) (Call.mono H fun r3 h4 H => ?_)
    refine a_iast (pc := 88) (dk dt_X4_sendFrame 54 rfl) ar_33 ⟨H.1, ?_⟩
    replace H := H.2
    refine a_aload_n (pc := 89) (dk dt_X4_sendFrame 55 rfl) rfl ?_
    refine a_aload_n (pc := 90) (dk dt_X4_sendFrame 56 rfl) rfl ?_
    refine a_geti (pc := 91) (dk dt_X4_sendFrame 57 rfl) cls_4 fl_RX4_61 cf_26_12 ?_
    refine a_top (y := (h4 26 12)) (by simp [up, cpy]) ?_
    refine a_iconst (pc := 94) (dk dt_X4_sendFrame 58 rfl) (ik rfl) ?_
    refine a_iadd (pc := 95) (dk dt_X4_sendFrame 59 rfl) ?_
    refine a_sipush (pc := 96) (dk dt_X4_sendFrame 60 rfl) (ik rfl) (spk rfl) ?_
    refine a_iand (pc := 99) (dk dt_X4_sendFrame 61 rfl) ?_
    refine a_puti (pc := 100) (dk dt_X4_sendFrame 62 rfl) cls_4 fl_RX4_61 cf_26_12 rfl rfl ?_
    refine a_iload_n (pc := 103) (dk dt_X4_sendFrame 63 rfl) rfl ?_
    refine a_if_eq (pc := 104) (dk dt_X4_sendFrame 64 rfl) (tgt := 157) rfl ⟨fun c => absurd c (by decide), fun _ => ?_⟩
    refine a_aload_n (pc := 107) (dk dt_X4_sendFrame 65 rfl) rfl ?_
    refine a_getr (r := 32) (pc := 108) (dk dt_X4_sendFrame 66 rfl) cls_4 fl_RX4_30 cf_26_9 ?_
    refine a_iload_n (pc := 111) (dk dt_X4_sendFrame 67 rfl) rfl ?_
    refine a_callSi (as := [rv 33, iv (w32 (((w32 ((h 26 10) + (h 26 11))).tmod 30) * 24))]) (st := []) (pc := 112) (dk dt_X4_sendFrame 68 rfl) cl_RX4_74 ⟨Nat.le_of_ble_eq_true rfl, Nat.le_of_ble_eq_true rfl⟩ ⟨Nat.le_of_ble_eq_true rfl, Nat.le_of_ble_eq_true rfl⟩ rfl rfl rfl (Nat.le_of_ble_eq_true rfl) (Call.mono H fun r5 h6 H => ?_)
    refine a_istore_n (pc := 115) (dk dt_X4_sendFrame 69 rfl) (by decide) rfl rfl ?_
    refine a_aload_n (pc := 116) (dk dt_X4_sendFrame 70 rfl) rfl ?_
    refine a_getr (r := 32) (pc := 117) (dk dt_X4_sendFrame 71 rfl) cls_4 fl_RX4_30 cf_26_9 ?_
    refine a_iload_n (pc := 120) (dk dt_X4_sendFrame 72 rfl) rfl ?_
    refine a_bipush (pc := 121) (dk dt_X4_sendFrame 73 rfl) (ik rfl) (bpk rfl) ?_
    refine a_iadd (pc := 123) (dk dt_X4_sendFrame 74 rfl) ?_
    refine a_iconst (pc := 124) (dk dt_X4_sendFrame 75 rfl) (ik rfl) ?_
    refine a_isub (pc := 125) (dk dt_X4_sendFrame 76 rfl) ?_
    refine a_iload_n (pc := 126) (dk dt_X4_sendFrame 77 rfl) rfl ?_
    refine a_bipush (pc := 127) (dk dt_X4_sendFrame 78 rfl) (ik rfl) (bpk rfl) ?_
    refine a_ishr (pc := 129) (dk dt_X4_sendFrame 79 rfl) ?_
    refine a_iast (pc := 130) (dk dt_X4_sendFrame 80 rfl) ar_33 ⟨H.1, ?_⟩
    replace H := H.2
    refine a_aload_n (pc := 131) (dk dt_X4_sendFrame 81 rfl) rfl ?_
    refine a_getr (r := 32) (pc := 132) (dk dt_X4_sendFrame 82 rfl) cls_4 fl_RX4_30 cf_26_9 ?_
    refine a_iload_n (pc := 135) (dk dt_X4_sendFrame 83 rfl) rfl ?_
    refine a_bipush (pc := 136) (dk dt_X4_sendFrame 84 rfl) (ik rfl) (bpk rfl) ?_
    refine a_iadd (pc := 138) (dk dt_X4_sendFrame 85 rfl) ?_
    refine a_iconst (pc := 139) (dk dt_X4_sendFrame 86 rfl) (ik rfl) ?_
    refine a_isub (pc := 140) (dk dt_X4_sendFrame 87 rfl) ?_
    refine a_iload_n (pc := 141) (dk dt_X4_sendFrame 88 rfl) rfl ?_
    refine a_sipush (pc := 142) (dk dt_X4_sendFrame 89 rfl) (ik rfl) (spk rfl) ?_
    refine a_iand (pc := 145) (dk dt_X4_sendFrame 90 rfl) ?_
    refine a_iast (pc := 146) (dk dt_X4_sendFrame 91 rfl) ar_33 ⟨H.1, ?_⟩
    replace H := H.2
    refine a_aload_n (pc := 147) (dk dt_X4_sendFrame 92 rfl) rfl ?_
    refine a_dup (pc := 148) (dk dt_X4_sendFrame 93 rfl) rfl ?_
    refine a_geti (pc := 149) (dk dt_X4_sendFrame 94 rfl) cls_4 fl_RX4_55 cf_26_11 ?_
    refine a_top (y := (h6 26 11)) (by simp [up, cpy]) ?_
    refine a_iconst (pc := 152) (dk dt_X4_sendFrame 95 rfl) (ik rfl) ?_
    refine a_iadd (pc := 153) (dk dt_X4_sendFrame 96 rfl) ?_
    refine a_puti (pc := 154) (dk dt_X4_sendFrame 97 rfl) cls_4 fl_RX4_55 cf_26_11 rfl rfl ?_
    exact a_vret (pc := 157) (dk dt_X4_sendFrame 98 rfl) rfl rfl H
set_option maxHeartbeats 40000000 in
theorem U_X4_checkOf_33_0 {G : GG} {Φ : Int → Hp → Prop} {h : Hp} {x1 : Int} (H : AT G m_X4_checkOf 5 [(0, rv 33), (1, iv x1), (2, iv 65535), (3, iv 0)] [] h Φ) : AT G m_X4_checkOf 0 [(0, rv 33), (1, iv x1)] [] h Φ := by
  refine a_ldc (n := 65535) (pc := 0) (dk dt_X4_checkOf 0 rfl) (ik rfl) co_RX4_100 ?_
  refine a_istore_n (pc := 2) (dk dt_X4_checkOf 1 rfl) (by decide) rfl rfl ?_
  refine a_iconst (pc := 3) (dk dt_X4_checkOf 2 rfl) (ik rfl) ?_
  refine a_istore_n (pc := 4) (dk dt_X4_checkOf 3 rfl) (by decide) rfl rfl ?_
  exact a_pick [0, 1, 2, 3] rfl H
set_option maxHeartbeats 40000000 in
theorem U_X4_checkOf_33_5 {G : GG} {Φ : Int → Hp → Prop} {h : Hp} {x1 : Int} {x2 : Int} {x3 : Int} (H : ((22 ≤ x3 → Φ x2 h) ∧ (x3 < 22 → (0 ≤ (w32 (x1 + x3)) ∧ (w32 (x1 + x3)) < 744) ∧ AT G m_X4_checkOf 25 [(0, rv 33), (1, iv x1), (2, iv (bxor x2 (bshl (h 33 (w32 (x1 + x3))) 8))), (3, iv x3), (4, iv 0)] [] h Φ))) : AT G m_X4_checkOf 5 [(0, rv 33), (1, iv x1), (2, iv x2), (3, iv x3)] [] h Φ := by
  refine a_iload_n (pc := 5) (dk dt_X4_checkOf 4 rfl) rfl ?_
  refine a_bipush (pc := 6) (dk dt_X4_checkOf 5 rfl) (ik rfl) (bpk rfl) ?_
  refine a_icmp_ge (pc := 8) (dk dt_X4_checkOf 6 rfl) (tgt := 62) rfl ⟨fun c => ?_, fun c => ?_⟩
  · replace H := H.1 c
    refine a_iload_n (pc := 62) (dk dt_X4_checkOf 37 rfl) rfl ?_
    exact a_iret (pc := 63) (dk dt_X4_checkOf 38 rfl) rfl rfl H
  · replace H := H.2 c
    refine a_iload_n (pc := 11) (dk dt_X4_checkOf 7 rfl) rfl ?_
    refine a_aload_n (pc := 12) (dk dt_X4_checkOf 8 rfl) rfl ?_
    refine a_iload_n (pc := 13) (dk dt_X4_checkOf 9 rfl) rfl ?_
    refine a_iload_n (pc := 14) (dk dt_X4_checkOf 10 rfl) rfl ?_
    refine a_iadd (pc := 15) (dk dt_X4_checkOf 11 rfl) ?_
    refine a_iald (pc := 16) (dk dt_X4_checkOf 12 rfl) ar_33 ⟨H.1, ?_⟩
    replace H := H.2
    refine a_bipush (pc := 17) (dk dt_X4_checkOf 13 rfl) (ik rfl) (bpk rfl) ?_
    refine a_ishl (pc := 19) (dk dt_X4_checkOf 14 rfl) ?_
    refine a_ixor (pc := 20) (dk dt_X4_checkOf 15 rfl) ?_
    refine a_istore_n (pc := 21) (dk dt_X4_checkOf 16 rfl) (by decide) rfl rfl ?_
    refine a_iconst (pc := 22) (dk dt_X4_checkOf 17 rfl) (ik rfl) ?_
    refine a_istore (pc := 23) (dk dt_X4_checkOf 18 rfl) (by decide) rfl rfl ?_
    exact a_pick [0, 1, 2, 3, 4] rfl H
set_option maxHeartbeats 40000000 in
theorem U_X4_checkOf_33_25 {G : GG} {Φ : Int → Hp → Prop} {h : Hp} {x1 : Int} {x2 : Int} {x3 : Int} {x4 : Int} (H : ((8 ≤ x4 → AT G m_X4_checkOf 5 [(0, rv 33), (1, iv x1), (2, iv x2), (3, iv (w32 (x3 + 1)))] [] h Φ) ∧ (x4 < 8 → ((x2 ≤ 32767 → AT G m_X4_checkOf 25 [(0, rv 33), (1, iv x1), (2, iv (bxor (bshl x2 1) 0)), (3, iv x3), (4, iv (w32 (x4 + 1)))] [] h Φ) ∧ (32767 < x2 → AT G m_X4_checkOf 25 [(0, rv 33), (1, iv x1), (2, iv (bxor (bshl x2 1) 69665)), (3, iv x3), (4, iv (w32 (x4 + 1)))] [] h Φ))))) : AT G m_X4_checkOf 25 [(0, rv 33), (1, iv x1), (2, iv x2), (3, iv x3), (4, iv x4)] [] h Φ := by
  refine a_iload (pc := 25) (dk dt_X4_checkOf 19 rfl) rfl ?_
  refine a_bipush (pc := 27) (dk dt_X4_checkOf 20 rfl) (ik rfl) (bpk rfl) ?_
  refine a_icmp_ge (pc := 29) (dk dt_X4_checkOf 21 rfl) (tgt := 56) rfl ⟨fun c => ?_, fun c => ?_⟩
  · replace H := H.1 c
    refine a_iinc (pc := 56) (dk dt_X4_checkOf 35 rfl) (by decide) rfl rfl rfl ?_
    refine a_goto (pc := 59) (dk dt_X4_checkOf 36 rfl) (tgt := 5) rfl ?_
    exact a_pick [0, 1, 2, 3] rfl H
  · replace H := H.2 c
    refine a_iload_n (pc := 32) (dk dt_X4_checkOf 22 rfl) rfl ?_
    refine a_iconst (pc := 33) (dk dt_X4_checkOf 23 rfl) (ik rfl) ?_
    refine a_ishl (pc := 34) (dk dt_X4_checkOf 24 rfl) ?_
    refine a_iload_n (pc := 35) (dk dt_X4_checkOf 25 rfl) rfl ?_
    refine a_sipush (pc := 36) (dk dt_X4_checkOf 26 rfl) (ik rfl) (spk rfl) ?_
    refine a_icmp_le (pc := 39) (dk dt_X4_checkOf 27 rfl) (tgt := 47) rfl ⟨fun c => ?_, fun c => ?_⟩
    · replace H := H.1 c
      refine a_iconst (pc := 47) (dk dt_X4_checkOf 30 rfl) (ik rfl) ?_
      refine a_ixor (pc := 48) (dk dt_X4_checkOf 31 rfl) ?_
      refine a_istore_n (pc := 49) (dk dt_X4_checkOf 32 rfl) (by decide) rfl rfl ?_
      refine a_iinc (pc := 50) (dk dt_X4_checkOf 33 rfl) (by decide) rfl rfl rfl ?_
      refine a_goto (pc := 53) (dk dt_X4_checkOf 34 rfl) (tgt := 25) rfl ?_
      exact a_pick [0, 1, 2, 3, 4] rfl H
    · replace H := H.2 c
      refine a_ldc (n := 69665) (pc := 42) (dk dt_X4_checkOf 28 rfl) (ik rfl) co_RX4_101 ?_
      refine a_goto (pc := 44) (dk dt_X4_checkOf 29 rfl) (tgt := 48) rfl ?_
      refine a_ixor (pc := 48) (dk dt_X4_checkOf 31 rfl) ?_
      refine a_istore_n (pc := 49) (dk dt_X4_checkOf 32 rfl) (by decide) rfl rfl ?_
      refine a_iinc (pc := 50) (dk dt_X4_checkOf 33 rfl) (by decide) rfl rfl rfl ?_
      refine a_goto (pc := 53) (dk dt_X4_checkOf 34 rfl) (tgt := 25) rfl ?_
      exact a_pick [0, 1, 2, 3, 4] rfl H
set_option maxHeartbeats 40000000 in
theorem U_X4_fillData_26_0 {G : GG} {Φ : Int → Hp → Prop} {h : Hp} {x1 : Int} (H : AT G m_X4_fillData 6 [(0, rv 26), (1, iv x1), (2, iv 255), (3, iv 0)] [] h Φ) : AT G m_X4_fillData 0 [(0, rv 26), (1, iv x1)] [] h Φ := by
  refine a_sipush (pc := 0) (dk dt_X4_fillData 0 rfl) (ik rfl) (spk rfl) ?_
  refine a_istore_n (pc := 3) (dk dt_X4_fillData 1 rfl) (by decide) rfl rfl ?_
  refine a_iconst (pc := 4) (dk dt_X4_fillData 2 rfl) (ik rfl) ?_
  refine a_istore_n (pc := 5) (dk dt_X4_fillData 3 rfl) (by decide) rfl rfl ?_
  exact a_pick [0, 1, 2, 3] rfl H
set_option maxHeartbeats 40000000 in
theorem U_X4_fillData_26_6 {G : GG} {Φ : Int → Hp → Prop} {h : Hp} {x1 : Int} {x2 : Int} {x3 : Int} (H : ((18 ≤ x3 → Φ x2 h) ∧ (x3 < 18 → (((h 26 8) ≠ (h 26 7) → (((h 26 7) ≤ (h 26 8) → (0 ≤ (w32 (x1 + x3)) ∧ (w32 (x1 + x3)) < 744) ∧ AT G m_X4_fillData 6 [(0, rv 26), (1, iv x1), (2, iv x2), (3, iv (w32 (x3 + 1)))] [] (up (up h 33 (w32 (x1 + x3)) 0) 26 8 (w32 ((h 26 8) + 0))) Φ) ∧ ((h 26 8) < (h 26 7) → (0 ≤ (h 26 8) ∧ (h 26 8) < 9) ∧ (0 ≤ (w32 (x1 + x3)) ∧ (w32 (x1 + x3)) < 744) ∧ AT G m_X4_fillData 6 [(0, rv 26), (1, iv x1), (2, iv x2), (3, iv (w32 (x3 + 1)))] [] (up (up h 33 (w32 (x1 + x3)) (h 32 (h 26 8))) 26 8 (w32 ((h 26 8) + 1))) Φ))) ∧ ((h 26 8) = (h 26 7) → Call G m_X4_firstClass [rv 26] h (fun r1 h2 => ((4 ≤ r1 → (((h2 26 7) ≤ (h2 26 8) → (0 ≤ (w32 (x1 + x3)) ∧ (w32 (x1 + x3)) < 744) ∧ AT G m_X4_fillData 6 [(0, rv 26), (1, iv x1), (2, iv x2), (3, iv (w32 (x3 + 1)))] [] (up (up h2 33 (w32 (x1 + x3)) 0) 26 8 (w32 ((h2 26 8) + 0))) Φ) ∧ ((h2 26 8) < (h2 26 7) → (0 ≤ (h2 26 8) ∧ (h2 26 8) < 9) ∧ (0 ≤ (w32 (x1 + x3)) ∧ (w32 (x1 + x3)) < 744) ∧ AT G m_X4_fillData 6 [(0, rv 26), (1, iv x1), (2, iv x2), (3, iv (w32 (x3 + 1)))] [] (up (up h2 33 (w32 (x1 + x3)) (h2 32 (h2 26 8))) 26 8 (w32 ((h2 26 8) + 1))) Φ))) ∧ (r1 < 4 → Call G m_X4_firstClass [rv 26] h2 (fun r3 h4 => Call G m_X4_startPacket [rv 26, iv r3] h4 (fun _ h6 => (((h6 26 7) ≤ (h6 26 8) → (0 ≤ (w32 (x1 + x3)) ∧ (w32 (x1 + x3)) < 744) ∧ AT G m_X4_fillData 6 [(0, rv 26), (1, iv x1), (2, iv (imin x2 x3)), (3, iv (w32 (x3 + 1)))] [] (up (up h6 33 (w32 (x1 + x3)) 0) 26 8 (w32 ((h6 26 8) + 0))) Φ) ∧ ((h6 26 8) < (h6 26 7) → (0 ≤ (h6 26 8) ∧ (h6 26 8) < 9) ∧ (0 ≤ (w32 (x1 + x3)) ∧ (w32 (x1 + x3)) < 744) ∧ AT G m_X4_fillData 6 [(0, rv 26), (1, iv x1), (2, iv (imin x2 x3)), (3, iv (w32 (x3 + 1)))] [] (up (up h6 33 (w32 (x1 + x3)) (h6 32 (h6 26 8))) 26 8 (w32 ((h6 26 8) + 1))) Φ)))))))))))) : AT G m_X4_fillData 6 [(0, rv 26), (1, iv x1), (2, iv x2), (3, iv x3)] [] h Φ := by
  refine a_iload_n (pc := 6) (dk dt_X4_fillData 4 rfl) rfl ?_
  refine a_bipush (pc := 7) (dk dt_X4_fillData 5 rfl) (ik rfl) (bpk rfl) ?_
  refine a_icmp_ge (pc := 9) (dk dt_X4_fillData 6 rfl) (tgt := 109) rfl ⟨fun c => ?_, fun c => ?_⟩
  · replace H := H.1 c
    refine a_iload_n (pc := 109) (dk dt_X4_fillData 57 rfl) rfl ?_
    exact a_iret (pc := 110) (dk dt_X4_fillData 58 rfl) rfl rfl H
  · replace H := H.2 c
    refine a_aload_n (pc := 12) (dk dt_X4_fillData 7 rfl) rfl ?_
    refine a_geti (pc := 13) (dk dt_X4_fillData 8 rfl) cls_4 fl_RX4_78 cf_26_8 ?_
    refine a_aload_n (pc := 16) (dk dt_X4_fillData 9 rfl) rfl ?_
    refine a_geti (pc := 17) (dk dt_X4_fillData 10 rfl) cls_4 fl_RX4_81 cf_26_7 ?_
    refine a_icmp_ne (pc := 20) (dk dt_X4_fillData 11 rfl) (tgt := 45) rfl ⟨fun c => ?_, fun c => ?_⟩
    · replace H := H.1 c
      refine a_aload_n (pc := 45) (dk dt_X4_fillData 24 rfl) rfl ?_
      refine a_geti (pc := 46) (dk dt_X4_fillData 25 rfl) cls_4 fl_RX4_78 cf_26_8 ?_
      refine a_aload_n (pc := 49) (dk dt_X4_fillData 26 rfl) rfl ?_
      refine a_geti (pc := 50) (dk dt_X4_fillData 27 rfl) cls_4 fl_RX4_81 cf_26_7 ?_
      refine a_icmp_ge (pc := 53) (dk dt_X4_fillData 28 rfl) (tgt := 60) rfl ⟨fun c => ?_, fun c => ?_⟩
      · replace H := H.1 c
        refine a_iconst (pc := 60) (dk dt_X4_fillData 31 rfl) (ik rfl) ?_
        refine a_istore (pc := 61) (dk dt_X4_fillData 32 rfl) (by decide) rfl rfl ?_
        refine a_aload_n (pc := 63) (dk dt_X4_fillData 33 rfl) rfl ?_
        refine a_getr (r := 32) (pc := 64) (dk dt_X4_fillData 34 rfl) cls_4 fl_RX4_30 cf_26_9 ?_
        refine a_iload_n (pc := 67) (dk dt_X4_fillData 35 rfl) rfl ?_
        refine a_iload_n (pc := 68) (dk dt_X4_fillData 36 rfl) rfl ?_
        refine a_iadd (pc := 69) (dk dt_X4_fillData 37 rfl) ?_
        refine a_iload (pc := 70) (dk dt_X4_fillData 38 rfl) rfl ?_
        refine a_if_eq (pc := 72) (dk dt_X4_fillData 39 rfl) (tgt := 87) rfl ⟨fun _ => ?_, fun c => absurd c (by decide)⟩
        refine a_iconst (pc := 87) (dk dt_X4_fillData 46 rfl) (ik rfl) ?_
        refine a_iast (pc := 88) (dk dt_X4_fillData 47 rfl) ar_33 ⟨H.1, ?_⟩
        replace H := H.2
        refine a_aload_n (pc := 89) (dk dt_X4_fillData 48 rfl) rfl ?_
        refine a_dup (pc := 90) (dk dt_X4_fillData 49 rfl) rfl ?_
        refine a_geti (pc := 91) (dk dt_X4_fillData 50 rfl) cls_4 fl_RX4_78 cf_26_8 ?_
        refine a_top (y := (h 26 8)) (by simp [up, cpy]) ?_
        refine a_iload (pc := 94) (dk dt_X4_fillData 51 rfl) rfl ?_
        refine a_callNi (as := [iv 0]) (st := [iv (h 26 8), rv 26]) (pc := 96) (dk dt_X4_fillData 52 rfl) cl_RX4_96 ⟨Nat.le_of_ble_eq_true rfl, Nat.le_of_ble_eq_true rfl⟩ ⟨Nat.le_of_ble_eq_true rfl, Nat.le_of_ble_eq_true rfl⟩ rfl rfl rfl (Nat.le_of_ble_eq_true rfl) (Call.of rfl (Nat.le_of_ble_eq_true rfl) rfl ?_)
        refine a_iload_n (pc := 0) (dk dt_X11_bit 0 rfl) rfl ?_
        refine a_if_eq (pc := 1) (dk dt_X11_bit 1 rfl) (tgt := 8) rfl ⟨fun _ => ?_, fun c => absurd c (by decide)⟩
        refine a_iconst (pc := 8) (dk dt_X11_bit 4 rfl) (ik rfl) ?_
        refine a_iret (pc := 9) (dk dt_X11_bit 5 rfl) rfl rfl ?_
        show ATW _ _ _ _ _ _ _ _ _ _
        refine a_iadd (pc := 99) (dk dt_X4_fillData 53 rfl) ?_
        refine a_puti (pc := 100) (dk dt_X4_fillData 54 rfl) cls_4 fl_RX4_78 cf_26_8 rfl rfl ?_
        refine a_iinc (pc := 103) (dk dt_X4_fillData 55 rfl) (by decide) rfl rfl rfl ?_
        refine a_goto (pc := 106) (dk dt_X4_fillData 56 rfl) (tgt := 6) rfl ?_
        exact a_pick [0, 1, 2, 3] rfl H
      · replace H := H.2 c
        refine a_iconst (pc := 56) (dk dt_X4_fillData 29 rfl) (ik rfl) ?_
        refine a_goto (pc := 57) (dk dt_X4_fillData 30 rfl) (tgt := 61) rfl ?_
        refine a_istore (pc := 61) (dk dt_X4_fillData 32 rfl) (by decide) rfl rfl ?_
        refine a_aload_n (pc := 63) (dk dt_X4_fillData 33 rfl) rfl ?_
        refine a_getr (r := 32) (pc := 64) (dk dt_X4_fillData 34 rfl) cls_4 fl_RX4_30 cf_26_9 ?_
        refine a_iload_n (pc := 67) (dk dt_X4_fillData 35 rfl) rfl ?_
        refine a_iload_n (pc := 68) (dk dt_X4_fillData 36 rfl) rfl ?_
        refine a_iadd (pc := 69) (dk dt_X4_fillData 37 rfl) ?_
        refine a_iload (pc := 70) (dk dt_X4_fillData 38 rfl) rfl ?_
        refine a_if_eq (pc := 72) (dk dt_X4_fillData 39 rfl) (tgt := 87) rfl ⟨fun c => absurd c (by decide), fun _ => ?_⟩
        refine a_aload_n (pc := 75) (dk dt_X4_fillData 40 rfl) rfl ?_
        refine a_getr (r := 31) (pc := 76) (dk dt_X4_fillData 41 rfl) cls_4 fl_RX4_27 cf_26_6 ?_
        refine a_aload_n (pc := 79) (dk dt_X4_fillData 42 rfl) rfl ?_
        refine a_geti (pc := 80) (dk dt_X4_fillData 43 rfl) cls_4 fl_RX4_78 cf_26_8 ?_
        refine a_iald (pc := 83) (dk dt_X4_fillData 44 rfl) ar_32 ⟨H.1, ?_⟩
        replace H := H.2
        refine a_goto (pc := 84) (dk dt_X4_fillData 45 rfl) (tgt := 88) rfl ?_
        refine a_iast (pc := 88) (dk dt_X4_fillData 47 rfl) ar_33 ⟨H.1, ?_⟩
        replace H := H.2
        refine a_aload_n (pc := 89) (dk dt_X4_fillData 48 rfl) rfl ?_
        refine a_dup (pc := 90) (dk dt_X4_fillData 49 rfl) rfl ?_
        refine a_geti (pc := 91) (dk dt_X4_fillData 50 rfl) cls_4 fl_RX4_78 cf_26_8 ?_
        refine a_top (y := (h 26 8)) (by simp [up, cpy]) ?_
        refine a_iload (pc := 94) (dk dt_X4_fillData 51 rfl) rfl ?_
        refine a_callNi (as := [iv 1]) (st := [iv (h 26 8), rv 26]) (pc := 96) (dk dt_X4_fillData 52 rfl) cl_RX4_96 ⟨Nat.le_of_ble_eq_true rfl, Nat.le_of_ble_eq_true rfl⟩ ⟨Nat.le_of_ble_eq_true rfl, Nat.le_of_ble_eq_true rfl⟩ rfl rfl rfl (Nat.le_of_ble_eq_true rfl) (Call.of rfl (Nat.le_of_ble_eq_true rfl) rfl ?_)
        refine a_iload_n (pc := 0) (dk dt_X11_bit 0 rfl) rfl ?_
        refine a_if_eq (pc := 1) (dk dt_X11_bit 1 rfl) (tgt := 8) rfl ⟨fun c => absurd c (by decide), fun _ => ?_⟩
        refine a_iconst (pc := 4) (dk dt_X11_bit 2 rfl) (ik rfl) ?_
        refine a_goto (pc := 5) (dk dt_X11_bit 3 rfl) (tgt := 9) rfl ?_
        refine a_iret (pc := 9) (dk dt_X11_bit 5 rfl) rfl rfl ?_
        show ATW _ _ _ _ _ _ _ _ _ _
        refine a_iadd (pc := 99) (dk dt_X4_fillData 53 rfl) ?_
        refine a_puti (pc := 100) (dk dt_X4_fillData 54 rfl) cls_4 fl_RX4_78 cf_26_8 rfl rfl ?_
        refine a_iinc (pc := 103) (dk dt_X4_fillData 55 rfl) (by decide) rfl rfl rfl ?_
        refine a_goto (pc := 106) (dk dt_X4_fillData 56 rfl) (tgt := 6) rfl ?_
        exact a_pick [0, 1, 2, 3] rfl H
    · replace H := H.2 c
      refine a_aload_n (pc := 23) (dk dt_X4_fillData 12 rfl) rfl ?_
      refine a_callVi (as := []) (st := []) (pc := 24) (dk dt_X4_fillData 13 rfl) cl_RX4_84 ⟨Nat.le_of_ble_eq_true rfl, Nat.le_of_ble_eq_true rfl⟩ ⟨Nat.le_of_ble_eq_true rfl, Nat.le_of_ble_eq_true rfl⟩ cls_4 rfl cc_26 rfl rfl rfl (Nat.le_of_ble_eq_true rfl) (Call.mono H fun r1 h2 H => ?_)
      refine a_iconst (pc := 27) (dk dt_X4_fillData 14 rfl) (ik rfl) ?_
      refine a_icmp_ge (pc := 28) (dk dt_X4_fillData 15 rfl) (tgt := 45) rfl ⟨fun c => ?_, fun c => ?_⟩
      · replace H := H.1 c
        refine a_aload_n (pc := 45) (dk dt_X4_fillData 24 rfl) rfl ?_
        refine a_geti (pc := 46) (dk dt_X4_fillData 25 rfl) cls_4 fl_RX4_78 cf_26_8 ?_
        refine a_aload_n (pc := 49) (dk dt_X4_fillData 26 rfl) rfl ?_
        refine a_geti (pc := 50) (dk dt_X4_fillData 27 rfl) cls_4 fl_RX4_81 cf_26_7 ?_
        refine a_icmp_ge (pc := 53) (dk dt_X4_fillData 28 rfl) (tgt := 60) rfl ⟨fun c => ?_, fun c => ?_⟩
        · replace H := H.1 c
          refine a_iconst (pc := 60) (dk dt_X4_fillData 31 rfl) (ik rfl) ?_
          refine a_istore (pc := 61) (dk dt_X4_fillData 32 rfl) (by decide) rfl rfl ?_
          refine a_aload_n (pc := 63) (dk dt_X4_fillData 33 rfl) rfl ?_
          refine a_getr (r := 32) (pc := 64) (dk dt_X4_fillData 34 rfl) cls_4 fl_RX4_30 cf_26_9 ?_
          refine a_iload_n (pc := 67) (dk dt_X4_fillData 35 rfl) rfl ?_
          refine a_iload_n (pc := 68) (dk dt_X4_fillData 36 rfl) rfl ?_
          refine a_iadd (pc := 69) (dk dt_X4_fillData 37 rfl) ?_
          refine a_iload (pc := 70) (dk dt_X4_fillData 38 rfl) rfl ?_
          refine a_if_eq (pc := 72) (dk dt_X4_fillData 39 rfl) (tgt := 87) rfl ⟨fun _ => ?_, fun c => absurd c (by decide)⟩
          refine a_iconst (pc := 87) (dk dt_X4_fillData 46 rfl) (ik rfl) ?_
          refine a_iast (pc := 88) (dk dt_X4_fillData 47 rfl) ar_33 ⟨H.1, ?_⟩
          replace H := H.2
          refine a_aload_n (pc := 89) (dk dt_X4_fillData 48 rfl) rfl ?_
          refine a_dup (pc := 90) (dk dt_X4_fillData 49 rfl) rfl ?_
          refine a_geti (pc := 91) (dk dt_X4_fillData 50 rfl) cls_4 fl_RX4_78 cf_26_8 ?_
          refine a_top (y := (h2 26 8)) (by simp [up, cpy]) ?_
          refine a_iload (pc := 94) (dk dt_X4_fillData 51 rfl) rfl ?_
          refine a_callNi (as := [iv 0]) (st := [iv (h2 26 8), rv 26]) (pc := 96) (dk dt_X4_fillData 52 rfl) cl_RX4_96 ⟨Nat.le_of_ble_eq_true rfl, Nat.le_of_ble_eq_true rfl⟩ ⟨Nat.le_of_ble_eq_true rfl, Nat.le_of_ble_eq_true rfl⟩ rfl rfl rfl (Nat.le_of_ble_eq_true rfl) (Call.of rfl (Nat.le_of_ble_eq_true rfl) rfl ?_)
          refine a_iload_n (pc := 0) (dk dt_X11_bit 0 rfl) rfl ?_
          refine a_if_eq (pc := 1) (dk dt_X11_bit 1 rfl) (tgt := 8) rfl ⟨fun _ => ?_, fun c => absurd c (by decide)⟩
          refine a_iconst (pc := 8) (dk dt_X11_bit 4 rfl) (ik rfl) ?_
          refine a_iret (pc := 9) (dk dt_X11_bit 5 rfl) rfl rfl ?_
          show ATW _ _ _ _ _ _ _ _ _ _
          refine a_iadd (pc := 99) (dk dt_X4_fillData 53 rfl) ?_
          refine a_puti (pc := 100) (dk dt_X4_fillData 54 rfl) cls_4 fl_RX4_78 cf_26_8 rfl rfl ?_
          refine a_iinc (pc := 103) (dk dt_X4_fillData 55 rfl) (by decide) rfl rfl rfl ?_
          refine a_goto (pc := 106) (dk dt_X4_fillData 56 rfl) (tgt := 6) rfl ?_
          exact a_pick [0, 1, 2, 3] rfl H
        · replace H := H.2 c
          refine a_iconst (pc := 56) (dk dt_X4_fillData 29 rfl) (ik rfl) ?_
          refine a_goto (pc := 57) (dk dt_X4_fillData 30 rfl) (tgt := 61) rfl ?_
          refine a_istore (pc := 61) (dk dt_X4_fillData 32 rfl) (by decide) rfl rfl ?_
          refine a_aload_n (pc := 63) (dk dt_X4_fillData 33 rfl) rfl ?_
          refine a_getr (r := 32) (pc := 64) (dk dt_X4_fillData 34 rfl) cls_4 fl_RX4_30 cf_26_9 ?_
          refine a_iload_n (pc := 67) (dk dt_X4_fillData 35 rfl) rfl ?_
          refine a_iload_n (pc := 68) (dk dt_X4_fillData 36 rfl) rfl ?_
          refine a_iadd (pc := 69) (dk dt_X4_fillData 37 rfl) ?_
          refine a_iload (pc := 70) (dk dt_X4_fillData 38 rfl) rfl ?_
          refine a_if_eq (pc := 72) (dk dt_X4_fillData 39 rfl) (tgt := 87) rfl ⟨fun c => absurd c (by decide), fun _ => ?_⟩
          refine a_aload_n (pc := 75) (dk dt_X4_fillData 40 rfl) rfl ?_
          refine a_getr (r := 31) (pc := 76) (dk dt_X4_fillData 41 rfl) cls_4 fl_RX4_27 cf_26_6 ?_
          refine a_aload_n (pc := 79) (dk dt_X4_fillData 42 rfl) rfl ?_
          refine a_geti (pc := 80) (dk dt_X4_fillData 43 rfl) cls_4 fl_RX4_78 cf_26_8 ?_
          refine a_iald (pc := 83) (dk dt_X4_fillData 44 rfl) ar_32 ⟨H.1, ?_⟩
          replace H := H.2
          refine a_goto (pc := 84) (dk dt_X4_fillData 45 rfl) (tgt := 88) rfl ?_
          refine a_iast (pc := 88) (dk dt_X4_fillData 47 rfl) ar_33 ⟨H.1, ?_⟩
          replace H := H.2
          refine a_aload_n (pc := 89) (dk dt_X4_fillData 48 rfl) rfl ?_
          refine a_dup (pc := 90) (dk dt_X4_fillData 49 rfl) rfl ?_
          refine a_geti (pc := 91) (dk dt_X4_fillData 50 rfl) cls_4 fl_RX4_78 cf_26_8 ?_
          refine a_top (y := (h2 26 8)) (by simp [up, cpy]) ?_
          refine a_iload (pc := 94) (dk dt_X4_fillData 51 rfl) rfl ?_
          refine a_callNi (as := [iv 1]) (st := [iv (h2 26 8), rv 26]) (pc := 96) (dk dt_X4_fillData 52 rfl) cl_RX4_96 ⟨Nat.le_of_ble_eq_true rfl, Nat.le_of_ble_eq_true rfl⟩ ⟨Nat.le_of_ble_eq_true rfl, Nat.le_of_ble_eq_true rfl⟩ rfl rfl rfl (Nat.le_of_ble_eq_true rfl) (Call.of rfl (Nat.le_of_ble_eq_true rfl) rfl ?_)
          refine a_iload_n (pc := 0) (dk dt_X11_bit 0 rfl) rfl ?_
          refine a_if_eq (pc := 1) (dk dt_X11_bit 1 rfl) (tgt := 8) rfl ⟨fun c => absurd c (by decide), fun _ => ?_⟩
          refine a_iconst (pc := 4) (dk dt_X11_bit 2 rfl) (ik rfl) ?_
          refine a_goto (pc := 5) (dk dt_X11_bit 3 rfl) (tgt := 9) rfl ?_
          refine a_iret (pc := 9) (dk dt_X11_bit 5 rfl) rfl rfl ?_
          show ATW _ _ _ _ _ _ _ _ _ _
          refine a_iadd (pc := 99) (dk dt_X4_fillData 53 rfl) ?_
          refine a_puti (pc := 100) (dk dt_X4_fillData 54 rfl) cls_4 fl_RX4_78 cf_26_8 rfl rfl ?_
          refine a_iinc (pc := 103) (dk dt_X4_fillData 55 rfl) (by decide) rfl rfl rfl ?_
          refine a_goto (pc := 106) (dk dt_X4_fillData 56 rfl) (tgt := 6) rfl ?_
          exact a_pick [0, 1, 2, 3] rfl H
      · replace H := H.2 c
        refine a_aload_n (pc := 31) (dk dt_X4_fillData 16 rfl) rfl ?_
        refine a_aload_n (pc := 32) (dk dt_X4_fillData 17 rfl) rfl ?_
        refine a_callVi (as := []) (st := [rv 26]) (pc := 33) (dk dt_X4_fillData 18 rfl) cl_RX4_84 ⟨Nat.le_of_ble_eq_true rfl, Nat.le_of_ble_eq_true rfl⟩ ⟨Nat.le_of_ble_eq_true rfl, Nat.le_of_ble_eq_true rfl⟩ cls_4 rfl cc_26 rfl rfl rfl (Nat.le_of_ble_eq_true rfl) (Call.mono H fun r3 h4 H => ?_)
        refine a_callVv (as := [iv r3]) (st := []) (pc := 36) (dk dt_X4_fillData 19 rfl) cl_RX4_87 ⟨Nat.le_of_ble_eq_true rfl, Nat.le_of_ble_eq_true rfl⟩ ⟨Nat.le_of_ble_eq_true rfl, Nat.le_of_ble_eq_true rfl⟩ cls_4 rfl cc_26 rfl rfl rfl (Nat.le_of_ble_eq_true rfl) (Call.mono H fun _ h6 H => ?_)
        refine a_iload_n (pc := 39) (dk dt_X4_fillData 20 rfl) rfl ?_
        refine a_iload_n (pc := 40) (dk dt_X4_fillData 21 rfl) rfl ?_
        refine a_mmin (pc := 41) (dk dt_X4_fillData 22 rfl) cl_RX4_91 ⟨Nat.le_of_ble_eq_true rfl, Nat.le_of_ble_eq_true rfl⟩ ⟨Nat.le_of_ble_eq_true rfl, Nat.le_of_ble_eq_true rfl⟩ ?_
        refine a_istore_n (pc := 44) (dk dt_X4_fillData 23 rfl) (by decide) rfl rfl ?_
        refine a_aload_n (pc := 45) (dk dt_X4_fillData 24 rfl) rfl ?_
        refine a_geti (pc := 46) (dk dt_X4_fillData 25 rfl) cls_4 fl_RX4_78 cf_26_8 ?_
        refine a_aload_n (pc := 49) (dk dt_X4_fillData 26 rfl) rfl ?_
        refine a_geti (pc := 50) (dk dt_X4_fillData 27 rfl) cls_4 fl_RX4_81 cf_26_7 ?_
        refine a_icmp_ge (pc := 53) (dk dt_X4_fillData 28 rfl) (tgt := 60) rfl ⟨fun c => ?_, fun c => ?_⟩
        · replace H := H.1 c
          refine a_iconst (pc := 60) (dk dt_X4_fillData 31 rfl) (ik rfl) ?_
          refine a_istore (pc := 61) (dk dt_X4_fillData 32 rfl) (by decide) rfl rfl ?_
          refine a_aload_n (pc := 63) (dk dt_X4_fillData 33 rfl) rfl ?_
          refine a_getr (r := 32) (pc := 64) (dk dt_X4_fillData 34 rfl) cls_4 fl_RX4_30 cf_26_9 ?_
          refine a_iload_n (pc := 67) (dk dt_X4_fillData 35 rfl) rfl ?_
          refine a_iload_n (pc := 68) (dk dt_X4_fillData 36 rfl) rfl ?_
          refine a_iadd (pc := 69) (dk dt_X4_fillData 37 rfl) ?_
          refine a_iload (pc := 70) (dk dt_X4_fillData 38 rfl) rfl ?_
          refine a_if_eq (pc := 72) (dk dt_X4_fillData 39 rfl) (tgt := 87) rfl ⟨fun _ => ?_, fun c => absurd c (by decide)⟩
          refine a_iconst (pc := 87) (dk dt_X4_fillData 46 rfl) (ik rfl) ?_
          refine a_iast (pc := 88) (dk dt_X4_fillData 47 rfl) ar_33 ⟨H.1, ?_⟩
          replace H := H.2
          refine a_aload_n (pc := 89) (dk dt_X4_fillData 48 rfl) rfl ?_
          refine a_dup (pc := 90) (dk dt_X4_fillData 49 rfl) rfl ?_
          refine a_geti (pc := 91) (dk dt_X4_fillData 50 rfl) cls_4 fl_RX4_78 cf_26_8 ?_
          refine a_top (y := (h6 26 8)) (by simp [up, cpy]) ?_
          refine a_iload (pc := 94) (dk dt_X4_fillData 51 rfl) rfl ?_
          refine a_callNi (as := [iv 0]) (st := [iv (h6 26 8), rv 26]) (pc := 96) (dk dt_X4_fillData 52 rfl) cl_RX4_96 ⟨Nat.le_of_ble_eq_true rfl, Nat.le_of_ble_eq_true rfl⟩ ⟨Nat.le_of_ble_eq_true rfl, Nat.le_of_ble_eq_true rfl⟩ rfl rfl rfl (Nat.le_of_ble_eq_true rfl) (Call.of rfl (Nat.le_of_ble_eq_true rfl) rfl ?_)
          refine a_iload_n (pc := 0) (dk dt_X11_bit 0 rfl) rfl ?_
          refine a_if_eq (pc := 1) (dk dt_X11_bit 1 rfl) (tgt := 8) rfl ⟨fun _ => ?_, fun c => absurd c (by decide)⟩
          refine a_iconst (pc := 8) (dk dt_X11_bit 4 rfl) (ik rfl) ?_
          refine a_iret (pc := 9) (dk dt_X11_bit 5 rfl) rfl rfl ?_
          show ATW _ _ _ _ _ _ _ _ _ _
          refine a_iadd (pc := 99) (dk dt_X4_fillData 53 rfl) ?_
          refine a_puti (pc := 100) (dk dt_X4_fillData 54 rfl) cls_4 fl_RX4_78 cf_26_8 rfl rfl ?_
          refine a_iinc (pc := 103) (dk dt_X4_fillData 55 rfl) (by decide) rfl rfl rfl ?_
          refine a_goto (pc := 106) (dk dt_X4_fillData 56 rfl) (tgt := 6) rfl ?_
          exact a_pick [0, 1, 2, 3] rfl H
        · replace H := H.2 c
          refine a_iconst (pc := 56) (dk dt_X4_fillData 29 rfl) (ik rfl) ?_
          refine a_goto (pc := 57) (dk dt_X4_fillData 30 rfl) (tgt := 61) rfl ?_
          refine a_istore (pc := 61) (dk dt_X4_fillData 32 rfl) (by decide) rfl rfl ?_
          refine a_aload_n (pc := 63) (dk dt_X4_fillData 33 rfl) rfl ?_
          refine a_getr (r := 32) (pc := 64) (dk dt_X4_fillData 34 rfl) cls_4 fl_RX4_30 cf_26_9 ?_
          refine a_iload_n (pc := 67) (dk dt_X4_fillData 35 rfl) rfl ?_
          refine a_iload_n (pc := 68) (dk dt_X4_fillData 36 rfl) rfl ?_
          refine a_iadd (pc := 69) (dk dt_X4_fillData 37 rfl) ?_
          refine a_iload (pc := 70) (dk dt_X4_fillData 38 rfl) rfl ?_
          refine a_if_eq (pc := 72) (dk dt_X4_fillData 39 rfl) (tgt := 87) rfl ⟨fun c => absurd c (by decide), fun _ => ?_⟩
          refine a_aload_n (pc := 75) (dk dt_X4_fillData 40 rfl) rfl ?_
          refine a_getr (r := 31) (pc := 76) (dk dt_X4_fillData 41 rfl) cls_4 fl_RX4_27 cf_26_6 ?_
          refine a_aload_n (pc := 79) (dk dt_X4_fillData 42 rfl) rfl ?_
          refine a_geti (pc := 80) (dk dt_X4_fillData 43 rfl) cls_4 fl_RX4_78 cf_26_8 ?_
          refine a_iald (pc := 83) (dk dt_X4_fillData 44 rfl) ar_32 ⟨H.1, ?_⟩
          replace H := H.2
          refine a_goto (pc := 84) (dk dt_X4_fillData 45 rfl) (tgt := 88) rfl ?_
          refine a_iast (pc := 88) (dk dt_X4_fillData 47 rfl) ar_33 ⟨H.1, ?_⟩
          replace H := H.2
          refine a_aload_n (pc := 89) (dk dt_X4_fillData 48 rfl) rfl ?_
          refine a_dup (pc := 90) (dk dt_X4_fillData 49 rfl) rfl ?_
          refine a_geti (pc := 91) (dk dt_X4_fillData 50 rfl) cls_4 fl_RX4_78 cf_26_8 ?_
          refine a_top (y := (h6 26 8)) (by simp [up, cpy]) ?_
          refine a_iload (pc := 94) (dk dt_X4_fillData 51 rfl) rfl ?_
          refine a_callNi (as := [iv 1]) (st := [iv (h6 26 8), rv 26]) (pc := 96) (dk dt_X4_fillData 52 rfl) cl_RX4_96 ⟨Nat.le_of_ble_eq_true rfl, Nat.le_of_ble_eq_true rfl⟩ ⟨Nat.le_of_ble_eq_true rfl, Nat.le_of_ble_eq_true rfl⟩ rfl rfl rfl (Nat.le_of_ble_eq_true rfl) (Call.of rfl (Nat.le_of_ble_eq_true rfl) rfl ?_)
          refine a_iload_n (pc := 0) (dk dt_X11_bit 0 rfl) rfl ?_
          refine a_if_eq (pc := 1) (dk dt_X11_bit 1 rfl) (tgt := 8) rfl ⟨fun c => absurd c (by decide), fun _ => ?_⟩
          refine a_iconst (pc := 4) (dk dt_X11_bit 2 rfl) (ik rfl) ?_
          refine a_goto (pc := 5) (dk dt_X11_bit 3 rfl) (tgt := 9) rfl ?_
          refine a_iret (pc := 9) (dk dt_X11_bit 5 rfl) rfl rfl ?_
          show ATW _ _ _ _ _ _ _ _ _ _
          refine a_iadd (pc := 99) (dk dt_X4_fillData 53 rfl) ?_
          refine a_puti (pc := 100) (dk dt_X4_fillData 54 rfl) cls_4 fl_RX4_78 cf_26_8 rfl rfl ?_
          refine a_iinc (pc := 103) (dk dt_X4_fillData 55 rfl) (by decide) rfl rfl rfl ?_
          refine a_goto (pc := 106) (dk dt_X4_fillData 56 rfl) (tgt := 6) rfl ?_
          exact a_pick [0, 1, 2, 3] rfl H
set_option maxHeartbeats 40000000 in
theorem U_X4_firstClass_26_0 {G : GG} {Φ : Int → Hp → Prop} {h : Hp} (H : AT G m_X4_firstClass 2 [(0, rv 26), (1, iv 0)] [] h Φ) : AT G m_X4_firstClass 0 [(0, rv 26)] [] h Φ := by
  refine a_iconst (pc := 0) (dk dt_X4_firstClass 0 rfl) (ik rfl) ?_
  refine a_istore_n (pc := 1) (dk dt_X4_firstClass 1 rfl) (by decide) rfl rfl ?_
  exact a_pick [0, 1] rfl H
set_option maxHeartbeats 40000000 in
theorem U_X4_firstClass_26_2 {G : GG} {Φ : Int → Hp → Prop} {h : Hp} {x1 : Int} (H : ((4 ≤ x1 → Φ x1 h) ∧ (x1 < 4 → (0 ≤ x1 ∧ x1 < 4) ∧ (((h 29 x1) ≠ 0 → Φ x1 h) ∧ ((h 29 x1) = 0 → AT G m_X4_firstClass 2 [(0, rv 26), (1, iv (w32 (x1 + 1)))] [] h Φ))))) : AT G m_X4_firstClass 2 [(0, rv 26), (1, iv x1)] [] h Φ := by
  refine a_iload_n (pc := 2) (dk dt_X4_firstClass 2 rfl) rfl ?_
  refine a_iconst (pc := 3) (dk dt_X4_firstClass 3 rfl) (ik rfl) ?_
  refine a_icmp_ge (pc := 4) (dk dt_X4_firstClass 4 rfl) (tgt := 22) rfl ⟨fun c => ?_, fun c => ?_⟩
  · replace H := H.1 c
    refine a_iload_n (pc := 22) (dk dt_X4_firstClass 12 rfl) rfl ?_
    exact a_iret (pc := 23) (dk dt_X4_firstClass 13 rfl) rfl rfl H
  · replace H := H.2 c
    refine a_aload_n (pc := 7) (dk dt_X4_firstClass 5 rfl) rfl ?_
    refine a_getr (r := 28) (pc := 8) (dk dt_X4_firstClass 6 rfl) cls_4 fl_RX4_18 cf_26_2 ?_
    refine a_iload_n (pc := 11) (dk dt_X4_firstClass 7 rfl) rfl ?_
    refine a_iald (pc := 12) (dk dt_X4_firstClass 8 rfl) ar_29 ⟨H.1, ?_⟩
    replace H := H.2
    refine a_if_ne (pc := 13) (dk dt_X4_firstClass 9 rfl) (tgt := 22) rfl ⟨fun c => ?_, fun c => ?_⟩
    · replace H := H.1 c
      refine a_iload_n (pc := 22) (dk dt_X4_firstClass 12 rfl) rfl ?_
      exact a_iret (pc := 23) (dk dt_X4_firstClass 13 rfl) rfl rfl H
    · replace H := H.2 c
      refine a_iinc (pc := 16) (dk dt_X4_firstClass 10 rfl) (by decide) rfl rfl rfl ?_
      refine a_goto (pc := 19) (dk dt_X4_firstClass 11 rfl) (tgt := 2) rfl ?_
      exact a_pick [0, 1] rfl H
set_option maxHeartbeats 40000000 in
theorem U_X4_startPacket_26_0 {G : GG} {Φ : Int → Hp → Prop} {h : Hp} {x1 : Int} (H : Call G m_X4_slot [rv 26, iv x1, iv 0] h (fun r1 h2 => ((0 : Int) ≤ r1 ∧ (0 : Int) ≤ 0 ∧ (0 : Int) ≤ 9 ∧ ((r1 : Int) + 9) ≤ 1800 ∧ ((0 : Int) + 9) ≤ 9) ∧ Call G m_X4_takeOldest [rv 26, iv x1, iv r1] (up (up (cpy h2 27 r1 32 0 9) 26 7 (w32 (5 + ((cpy h2 27 r1 32 0 9) 32 4)))) 26 8 0) (fun _ h4 => Φ 0 h4))) : AT G m_X4_startPacket 0 [(0, rv 26), (1, iv x1)] [] h Φ := by
  refine a_aload_n (pc := 0) (dk dt_X4_startPacket 0 rfl) rfl ?_
  refine a_iload_n (pc := 1) (dk dt_X4_startPacket 1 rfl) rfl ?_
  refine a_iconst (pc := 2) (dk dt_X4_startPacket 2 rfl) (ik rfl) ?_
  refine a_callVi (as := [iv x1, iv 0]) (st := []) (pc := 3) (dk dt_X4_startPacket 3 rfl) cl_RX4_41 ⟨Nat.le_of_ble_eq_true rfl, Nat.le_of_ble_eq_true rfl⟩ ⟨Nat.le_of_ble_eq_true rfl, Nat.le_of_ble_eq_true rfl⟩ cls_4 rfl cc_26 rfl rfl rfl (Nat.le_of_ble_eq_true rfl) (Call.mono H fun r1 h2 H => ?_)
  refine a_istore_n (pc := 6) (dk dt_X4_startPacket 4 rfl) (by decide) rfl rfl ?_
  refine a_aload_n (pc := 7) (dk dt_X4_startPacket 5 rfl) rfl ?_
  refine a_getr (r := 26) (pc := 8) (dk dt_X4_startPacket 6 rfl) cls_4 fl_RX4_11 cf_26_0 ?_
  refine a_iload_n (pc := 11) (dk dt_X4_startPacket 7 rfl) rfl ?_
  refine a_aload_n (pc := 12) (dk dt_X4_startPacket 8 rfl) rfl ?_
  refine a_getr (r := 31) (pc := 13) (dk dt_X4_startPacket 9 rfl) cls_4 fl_RX4_27 cf_26_6 ?_
  refine a_iconst (pc := 16) (dk dt_X4_startPacket 10 rfl) (ik rfl) ?_
  refine a_bipush (pc := 17) (dk dt_X4_startPacket 11 rfl) (ik rfl) (bpk rfl) ?_
  refine a_copy (pc := 19) (dk dt_X4_startPacket 12 rfl) acw_RX4_49 ar_27 ar_32 ⟨Nat.le_of_ble_eq_true rfl, Nat.le_of_ble_eq_true rfl⟩ ⟨H.1, ?_⟩
  replace H := H.2
  refine a_aload_n (pc := 22) (dk dt_X4_startPacket 13 rfl) rfl ?_
  refine a_iconst (pc := 23) (dk dt_X4_startPacket 14 rfl) (ik rfl) ?_
  refine a_aload_n (pc := 24) (dk dt_X4_startPacket 15 rfl) rfl ?_
  refine a_getr (r := 31) (pc := 25) (dk dt_X4_startPacket 16 rfl) cls_4 fl_RX4_27 cf_26_6 ?_
  refine a_iconst (pc := 28) (dk dt_X4_startPacket 17 rfl) (ik rfl) ?_
  refine a_iald (pc := 29) (dk dt_X4_startPacket 18 rfl) ar_32 ⟨⟨by decide, by decide⟩, ?_⟩
  refine a_iadd (pc := 30) (dk dt_X4_startPacket 19 rfl) ?_
  refine a_puti (pc := 31) (dk dt_X4_startPacket 20 rfl) cls_4 fl_RX4_81 cf_26_7 rfl rfl ?_
  refine a_aload_n (pc := 34) (dk dt_X4_startPacket 21 rfl) rfl ?_
  refine a_iconst (pc := 35) (dk dt_X4_startPacket 22 rfl) (ik rfl) ?_
  refine a_puti (pc := 36) (dk dt_X4_startPacket 23 rfl) cls_4 fl_RX4_78 cf_26_8 rfl rfl ?_
  refine a_aload_n (pc := 39) (dk dt_X4_startPacket 24 rfl) rfl ?_
  refine a_iload_n (pc := 40) (dk dt_X4_startPacket 25 rfl) rfl ?_
  refine a_iload_n (pc := 41) (dk dt_X4_startPacket 26 rfl) rfl ?_
  refine a_callVv (as := [iv x1, iv r1]) (st := []) (pc := 42) (dk dt_X4_startPacket 27 rfl) cl_RX4_45 ⟨Nat.le_of_ble_eq_true rfl, Nat.le_of_ble_eq_true rfl⟩ ⟨Nat.le_of_ble_eq_true rfl, Nat.le_of_ble_eq_true rfl⟩ cls_4 rfl cc_26 rfl rfl rfl (Nat.le_of_ble_eq_true rfl) (Call.mono H fun _ h4 H => ?_)
  exact a_vret (pc := 45) (dk dt_X4_startPacket 28 rfl) rfl rfl H
set_option maxHeartbeats 40000000 in
theorem U_X4_record_26_0 {G : GG} {Φ : Int → Hp → Prop} {h : Hp} (H : AT G m_X4_record 26 [(0, rv 26), (1, iv (w32 (5 + (h 31 4)))), (2, iv (w32 ((w32 ((h 31 0) - 10)).tdiv 4))), (3, iv 0), (4, iv 0)] [] h Φ) : AT G m_X4_record 0 [(0, rv 26)] [] h Φ := by
  refine a_iconst (pc := 0) (dk dt_X4_record 0 rfl) (ik rfl) ?_
  refine a_aload_n (pc := 1) (dk dt_X4_record 1 rfl) rfl ?_
  refine a_getr (r := 30) (pc := 2) (dk dt_X4_record 2 rfl) cls_4 fl_RX4_24 cf_26_5 ?_
  refine a_iconst (pc := 5) (dk dt_X4_record 3 rfl) (ik rfl) ?_
  refine a_iald (pc := 6) (dk dt_X4_record 4 rfl) ar_31 ⟨⟨by decide, by decide⟩, ?_⟩
  refine a_iadd (pc := 7) (dk dt_X4_record 5 rfl) ?_
  refine a_istore_n (pc := 8) (dk dt_X4_record 6 rfl) (by decide) rfl rfl ?_
  refine a_aload_n (pc := 9) (dk dt_X4_record 7 rfl) rfl ?_
  refine a_getr (r := 30) (pc := 10) (dk dt_X4_record 8 rfl) cls_4 fl_RX4_24 cf_26_5 ?_
  refine a_iconst (pc := 13) (dk dt_X4_record 9 rfl) (ik rfl) ?_
  refine a_iald (pc := 14) (dk dt_X4_record 10 rfl) ar_31 ⟨⟨by decide, by decide⟩, ?_⟩
  refine a_bipush (pc := 15) (dk dt_X4_record 11 rfl) (ik rfl) (bpk rfl) ?_
  refine a_isub (pc := 17) (dk dt_X4_record 12 rfl) ?_
  refine a_iconst (pc := 18) (dk dt_X4_record 13 rfl) (ik rfl) ?_
  refine a_idiv (pc := 19) (dk dt_X4_record 14 rfl) ⟨by decide, ?_⟩
  refine a_istore_n (pc := 20) (dk dt_X4_record 15 rfl) (by decide) rfl rfl ?_
  refine a_iconst (pc := 21) (dk dt_X4_record 16 rfl) (ik rfl) ?_
  refine a_istore_n (pc := 22) (dk dt_X4_record 17 rfl) (by decide) rfl rfl ?_
  refine a_iconst (pc := 23) (dk dt_X4_record 18 rfl) (ik rfl) ?_
  refine a_istore (pc := 24) (dk dt_X4_record 19 rfl) (by decide) rfl rfl ?_
  exact a_pick [0, 1, 2, 3, 4] rfl H
set_option maxHeartbeats 40000000 in
theorem U_X4_record_26_26 {G : GG} {Φ : Int → Hp → Prop} {h : Hp} {x1 : Int} {x2 : Int} {x3 : Int} {x4 : Int} (H : ((200 ≤ x4 → (0 ≤ x2 ∧ x2 < 4) ∧ Call G m_X4_slot [rv 26, iv x2, iv (h 29 x2)] h (fun r1 h2 => ((0 : Int) ≤ 0 ∧ (0 : Int) ≤ r1 ∧ (0 : Int) ≤ x1 ∧ ((0 : Int) + x1) ≤ 9 ∧ ((r1 : Int) + x1) ≤ 1800) ∧ (0 ≤ x2 ∧ x2 < 4) ∧ (0 ≤ x2 ∧ x2 < 4) ∧ Φ x3 (up (up (cpy h2 31 0 27 r1 x1) 29 x2 (w32 ((h2 29 x2) + 1))) 26 3 (w32 ((h2 26 3) + x1))))) ∧ (x4 < 200 → (((w32 ((h 26 3) + x1)) ≤ 300 → (0 ≤ x2 ∧ x2 < 4) ∧ Call G m_X4_slot [rv 26, iv x2, iv (h 29 x2)] h (fun r3 h4 => ((0 : Int) ≤ 0 ∧ (0 : Int) ≤ r3 ∧ (0 : Int) ≤ x1 ∧ ((0 : Int) + x1) ≤ 9 ∧ ((r3 : Int) + x1) ≤ 1800) ∧ (0 ≤ x2 ∧ x2 < 4) ∧ (0 ≤ x2 ∧ x2 < 4) ∧ Φ x3 (up (up (cpy h4 31 0 27 r3 x1) 29 x2 (w32 ((h4 29 x2) + 1))) 26 3 (w32 ((h4 26 3) + x1))))) ∧ (300 < (w32 ((h 26 3) + x1)) → Call G m_X4_lastClass [rv 26] h (fun r5 h6 => ((x2 ≤ r5 → Call G m_X4_slot [rv 26, iv r5, iv 0] h6 (fun r7 h8 => Call G m_X4_takeOldest [rv 26, iv r5, iv r7] h8 (fun _ h10 => AT G m_X4_record 26 [(0, rv 26), (1, iv x1), (2, iv x2), (3, iv (w32 (x3 + 1))), (4, iv (w32 (x4 + 1)))] [] h10 Φ))) ∧ (r5 < x2 → Φ (w32 (x3 + 1)) h6)))))))) : AT G m_X4_record 26 [(0, rv 26), (1, iv x1), (2, iv x2), (3, iv x3), (4, iv x4)] [] h Φ := by
  refine a_iload (pc := 26) (dk dt_X4_record 20 rfl) rfl ?_
  refine a_sipush (pc := 28) (dk dt_X4_record 21 rfl) (ik rfl) (spk rfl) ?_
  refine a_icmp_ge (pc := 31) (dk dt_X4_record 22 rfl) (tgt := 84) rfl ⟨fun c => ?_, fun c => ?_⟩
  · replace H := H.1 c
    refine a_aload_n (pc := 84) (dk dt_X4_record 49 rfl) rfl ?_
    refine a_iload_n (pc := 85) (dk dt_X4_record 50 rfl) rfl ?_
    refine a_aload_n (pc := 86) (dk dt_X4_record 51 rfl) rfl ?_
    refine a_getr (r := 28) (pc := 87) (dk dt_X4_record 52 rfl) cls_4 fl_RX4_18 cf_26_2 ?_
    refine a_iload_n (pc := 90) (dk dt_X4_record 53 rfl) rfl ?_
    refine a_iald (pc := 91) (dk dt_X4_record 54 rfl) ar_29 ⟨H.1, ?_⟩
    replace H := H.2
    refine a_callVi (as := [iv x2, iv (h 29 x2)]) (st := []) (pc := 92) (dk dt_X4_record 55 rfl) cl_RX4_41 ⟨Nat.le_of_ble_eq_true rfl, Nat.le_of_ble_eq_true rfl⟩ ⟨Nat.le_of_ble_eq_true rfl, Nat.le_of_ble_eq_true rfl⟩ cls_4 rfl cc_26 rfl rfl rfl (Nat.le_of_ble_eq_true rfl) (Call.mono H fun r1 h2 H => ?_)
    refine a_istore (pc := 95) (dk dt_X4_record 56 rfl) (by decide) rfl rfl ?_
    refine a_aload_n (pc := 97) (dk dt_X4_record 57 rfl) rfl ?_
    refine a_getr (r := 30) (pc := 98) (dk dt_X4_record 58 rfl) cls_4 fl_RX4_24 cf_26_5 ?_
    refine a_iconst (pc := 101) (dk dt_X4_record 59 rfl) (ik rfl) ?_
    refine a_aload_n (pc := 102) (dk dt_X4_record 60 rfl) rfl ?_
    refine a_getr (r := 26) (pc := 103) (dk dt_X4_record 61 rfl) cls_4 fl_RX4_11 cf_26_0 ?_
    refine a_iload (pc := 106) (dk dt_X4_record 62 rfl) rfl ?_
    refine a_iload_n (pc := 108) (dk dt_X4_record 63 rfl) rfl ?_
    refine a_copy (pc := 109) (dk dt_X4_record 64 rfl) acw_RX4_49 ar_31 ar_27 ⟨Nat.le_of_ble_eq_true rfl, Nat.le_of_ble_eq_true rfl⟩ ⟨H.1, ?_⟩
    replace H := H.2
    refine a_aload_n (pc := 112) (dk dt_X4_record 65 rfl) rfl ?_
    refine a_getr (r := 28) (pc := 113) (dk dt_X4_record 66 rfl) cls_4 fl_RX4_18 cf_26_2 ?_
    refine a_iload_n (pc := 116) (dk dt_X4_record 67 rfl) rfl ?_
    refine a_dup2 (pc := 117) (dk dt_X4_record 68 rfl) rfl rfl ?_
    refine a_iald (pc := 118) (dk dt_X4_record 69 rfl) ar_29 ⟨H.1, ?_⟩
    replace H := H.2
    refine a_top (y := (h2 29 x2)) (by simp [up, cpy]) ?_
    refine a_iconst (pc := 119) (dk dt_X4_record 70 rfl) (ik rfl) ?_
    refine a_iadd (pc := 120) (dk dt_X4_record 71 rfl) ?_
    refine a_iast (pc := 121) (dk dt_X4_record 72 rfl) ar_29 ⟨H.1, ?_⟩
    replace H := H.2
    refine a_aload_n (pc := 122) (dk dt_X4_record 73 rfl) rfl ?_
    refine a_dup (pc := 123) (dk dt_X4_record 74 rfl) rfl ?_
    refine a_geti (pc := 124) (dk dt_X4_record 75 rfl) cls_4 fl_RX4_33 cf_26_3 ?_
    refine a_top (y := (h2 26 3)) (by simp [up, cpy]) ?_
    refine a_iload_n (pc := 127) (dk dt_X4_record 76 rfl) rfl ?_
    refine a_iadd (pc := 128) (dk dt_X4_record 77 rfl) ?_
    refine a_puti (pc := 129) (dk dt_X4_record 78 rfl) cls_4 fl_RX4_33 cf_26_3 rfl rfl ?_
    refine a_iload_n (pc := 132) (dk dt_X4_record 79 rfl) rfl ?_
    exact a_iret (pc := 133) (dk dt_X4_record 80 rfl) rfl rfl H
  · replace H := H.2 c
    refine a_aload_n (pc := 34) (dk dt_X4_record 23 rfl) rfl ?_
    refine a_geti (pc := 35) (dk dt_X4_record 24 rfl) cls_4 fl_RX4_33 cf_26_3 ?_
    refine a_iload_n (pc := 38) (dk dt_X4_record 25 rfl) rfl ?_
    refine a_iadd (pc := 39) (dk dt_X4_record 26 rfl) ?_
    refine a_sipush (pc := 40) (dk dt_X4_record 27 rfl) (ik rfl) (spk rfl) ?_
    refine a_icmp_le (pc := 43) (dk dt_X4_record 28 rfl) (tgt := 84) rfl ⟨fun c => ?_, fun c => ?_⟩
    · replace H := H.1 c
      refine a_aload_n (pc := 84) (dk dt_X4_record 49 rfl) rfl ?_
      refine a_iload_n (pc := 85) (dk dt_X4_record 50 rfl) rfl ?_
      refine a_aload_n (pc := 86) (dk dt_X4_record 51 rfl) rfl ?_
      refine a_getr (r := 28) (pc := 87) (dk dt_X4_record 52 rfl) cls_4 fl_RX4_18 cf_26_2 ?_
      refine a_iload_n (pc := 90) (dk dt_X4_record 53 rfl) rfl ?_
      refine a_iald (pc := 91) (dk dt_X4_record 54 rfl) ar_29 ⟨H.1, ?_⟩
      replace H := H.2
      refine a_callVi (as := [iv x2, iv (h 29 x2)]) (st := []) (pc := 92) (dk dt_X4_record 55 rfl) cl_RX4_41 ⟨Nat.le_of_ble_eq_true rfl, Nat.le_of_ble_eq_true rfl⟩ ⟨Nat.le_of_ble_eq_true rfl, Nat.le_of_ble_eq_true rfl⟩ cls_4 rfl cc_26 rfl rfl rfl (Nat.le_of_ble_eq_true rfl) (Call.mono H fun r3 h4 H => ?_)
      refine a_istore (pc := 95) (dk dt_X4_record 56 rfl) (by decide) rfl rfl ?_
      refine a_aload_n (pc := 97) (dk dt_X4_record 57 rfl) rfl ?_
      refine a_getr (r := 30) (pc := 98) (dk dt_X4_record 58 rfl) cls_4 fl_RX4_24 cf_26_5 ?_
      refine a_iconst (pc := 101) (dk dt_X4_record 59 rfl) (ik rfl) ?_
      refine a_aload_n (pc := 102) (dk dt_X4_record 60 rfl) rfl ?_
      refine a_getr (r := 26) (pc := 103) (dk dt_X4_record 61 rfl) cls_4 fl_RX4_11 cf_26_0 ?_
      refine a_iload (pc := 106) (dk dt_X4_record 62 rfl) rfl ?_
      refine a_iload_n (pc := 108) (dk dt_X4_record 63 rfl) rfl ?_
      refine a_copy (pc := 109) (dk dt_X4_record 64 rfl) acw_RX4_49 ar_31 ar_27 ⟨Nat.le_of_ble_eq_true rfl, Nat.le_of_ble_eq_true rfl⟩ ⟨H.1, ?_⟩
      replace H := H.2
      refine a_aload_n (pc := 112) (dk dt_X4_record 65 rfl) rfl ?_
      refine a_getr (r := 28) (pc := 113) (dk dt_X4_record 66 rfl) cls_4 fl_RX4_18 cf_26_2 ?_
      refine a_iload_n (pc := 116) (dk dt_X4_record 67 rfl) rfl ?_
      refine a_dup2 (pc := 117) (dk dt_X4_record 68 rfl) rfl rfl ?_
      refine a_iald (pc := 118) (dk dt_X4_record 69 rfl) ar_29 ⟨H.1, ?_⟩
      replace H := H.2
      refine a_top (y := (h4 29 x2)) (by simp [up, cpy]) ?_
      refine a_iconst (pc := 119) (dk dt_X4_record 70 rfl) (ik rfl) ?_
      refine a_iadd (pc := 120) (dk dt_X4_record 71 rfl) ?_
      refine a_iast (pc := 121) (dk dt_X4_record 72 rfl) ar_29 ⟨H.1, ?_⟩
      replace H := H.2
      refine a_aload_n (pc := 122) (dk dt_X4_record 73 rfl) rfl ?_
      refine a_dup (pc := 123) (dk dt_X4_record 74 rfl) rfl ?_
      refine a_geti (pc := 124) (dk dt_X4_record 75 rfl) cls_4 fl_RX4_33 cf_26_3 ?_
      refine a_top (y := (h4 26 3)) (by simp [up, cpy]) ?_
      refine a_iload_n (pc := 127) (dk dt_X4_record 76 rfl) rfl ?_
      refine a_iadd (pc := 128) (dk dt_X4_record 77 rfl) ?_
      refine a_puti (pc := 129) (dk dt_X4_record 78 rfl) cls_4 fl_RX4_33 cf_26_3 rfl rfl ?_
      refine a_iload_n (pc := 132) (dk dt_X4_record 79 rfl) rfl ?_
      exact a_iret (pc := 133) (dk dt_X4_record 80 rfl) rfl rfl H
    · replace H := H.2 c
      refine a_aload_n (pc := 46) (dk dt_X4_record 29 rfl) rfl ?_
      refine a_callVi (as := []) (st := []) (pc := 47) (dk dt_X4_record 30 rfl) cl_RX4_37 ⟨Nat.le_of_ble_eq_true rfl, Nat.le_of_ble_eq_true rfl⟩ ⟨Nat.le_of_ble_eq_true rfl, Nat.le_of_ble_eq_true rfl⟩ cls_4 rfl cc_26 rfl rfl rfl (Nat.le_of_ble_eq_true rfl) (Call.mono H fun r5 h6 H => ?_)
      refine a_istore (pc := 50) (dk dt_X4_record 31 rfl) (by decide) rfl rfl ?_
      refine a_iload (pc := 52) (dk dt_X4_record 32 rfl) rfl ?_
      refine a_iload_n (pc := 54) (dk dt_X4_record 33 rfl) rfl ?_
      refine a_icmp_ge (pc := 55) (dk dt_X4_record 34 rfl) (tgt := 62) rfl ⟨fun c => ?_, fun c => ?_⟩
      · replace H := H.1 c
        refine a_aload_n (pc := 62) (dk dt_X4_record 39 rfl) rfl ?_
        refine a_iload (pc := 63) (dk dt_X4_record 40 rfl) rfl ?_
        refine a_aload_n (pc := 65) (dk dt_X4_record 41 rfl) rfl ?_
        refine a_iload (pc := 66) (dk dt_X4_record 42 rfl) rfl ?_
        refine a_iconst (pc := 68) (dk dt_X4_record 43 rfl) (ik rfl) ?_
        refine a_callVi (as := [iv r5, iv 0]) (st := [iv r5, rv 26]) (pc := 69) (dk dt_X4_record 44 rfl) cl_RX4_41 ⟨Nat.le_of_ble_eq_true rfl, Nat.le_of_ble_eq_true rfl⟩ ⟨Nat.le_of_ble_eq_true rfl, Nat.le_of_ble_eq_true rfl⟩ cls_4 rfl cc_26 rfl rfl rfl (Nat.le_of_ble_eq_true rfl) (Call.mono H fun r7 h8 H => ?_)
        refine a_callVv (as := [iv r5, iv r7]) (st := []) (pc := 72) (dk dt_X4_record 45 rfl) cl_RX4_45 ⟨Nat.le_of_ble_eq_true rfl, Nat.le_of_ble_eq_true rfl⟩ ⟨Nat.le_of_ble_eq_true rfl, Nat.le_of_ble_eq_true rfl⟩ cls_4 rfl cc_26 rfl rfl rfl (Nat.le_of_ble_eq_true rfl) (Call.mono H fun _ h10 H => ?_)
        refine a_iinc (pc := 75) (dk dt_X4_record 46 rfl) (by decide) rfl rfl rfl ?_
        refine a_iinc (pc := 78) (dk dt_X4_record 47 rfl) (by decide) rfl rfl rfl ?_
        refine a_goto (pc := 81) (dk dt_X4_record 48 rfl) (tgt := 26) rfl ?_
        exact a_pick [0, 1, 2, 3, 4] rfl H
      · replace H := H.2 c
        refine a_iload_n (pc := 58) (dk dt_X4_record 35 rfl) rfl ?_
        refine a_iconst (pc := 59) (dk dt_X4_record 36 rfl) (ik rfl) ?_
        refine a_iadd (pc := 60) (dk dt_X4_record 37 rfl) ?_
        exact a_iret (pc := 61) (dk dt_X4_record 38 rfl) rfl rfl H
set_option maxHeartbeats 40000000 in
theorem U_X4_label_26_0 {G : GG} {Φ : Int → Hp → Prop} {h : Hp} {x1 : Int} {x2 : Int} (H : (0 ≤ x1 ∧ x1 < 16) ∧ (0 ≤ x1 ∧ x1 < 16) ∧ (0 ≤ x1 ∧ x1 < 16) ∧ Φ 0 (up (up (up (up (up (up h 31 0 (w32 (10 + x1))) 31 1 (h 30 x1)) 31 2 (band (bshr x2 8) 255)) 31 3 (band x2 255)) 31 4 (w32 ((x1.tmod 4) + 1))) 30 x1 (band (w32 ((h 30 x1) + 1)) 255))) : AT G m_X4_label 0 [(0, rv 26), (1, iv x1), (2, iv x2)] [] h Φ := by
  refine a_aload_n (pc := 0) (dk dt_X4_label 0 rfl) rfl ?_
  refine a_getr (r := 30) (pc := 1) (dk dt_X4_label 1 rfl) cls_4 fl_RX4_24 cf_26_5 ?_
  refine a_iconst (pc := 4) (dk dt_X4_label 2 rfl) (ik rfl) ?_
  refine a_bipush (pc := 5) (dk dt_X4_label 3 rfl) (ik rfl) (bpk rfl) ?_
  refine a_iload_n (pc := 7) (dk dt_X4_label 4 rfl) rfl ?_
  refine a_iadd (pc := 8) (dk dt_X4_label 5 rfl) ?_
  refine a_iast (pc := 9) (dk dt_X4_label 6 rfl) ar_31 ⟨⟨by decide, by decide⟩, ?_⟩
  refine a_aload_n (pc := 10) (dk dt_X4_label 7 rfl) rfl ?_
  refine a_getr (r := 30) (pc := 11) (dk dt_X4_label 8 rfl) cls_4 fl_RX4_24 cf_26_5 ?_
  refine a_iconst (pc := 14) (dk dt_X4_label 9 rfl) (ik rfl) ?_
  refine a_aload_n (pc := 15) (dk dt_X4_label 10 rfl) rfl ?_
  refine a_getr (r := 29) (pc := 16) (dk dt_X4_label 11 rfl) cls_4 fl_RX4_21 cf_26_4 ?_
  refine a_iload_n (pc := 19) (dk dt_X4_label 12 rfl) rfl ?_
  refine a_iald (pc := 20) (dk dt_X4_label 13 rfl) ar_30 ⟨H.1, ?_⟩
  replace H := H.2
  refine a_top (y := (h 30 x1)) (by simp [up, cpy]) ?_
  refine a_iast (pc := 21) (dk dt_X4_label 14 rfl) ar_31 ⟨⟨by decide, by decide⟩, ?_⟩
  refine a_aload_n (pc := 22) (dk dt_X4_label 15 rfl) rfl ?_
  refine a_getr (r := 30) (pc := 23) (dk dt_X4_label 16 rfl) cls_4 fl_RX4_24 cf_26_5 ?_
  refine a_iconst (pc := 26) (dk dt_X4_label 17 rfl) (ik rfl) ?_
  refine a_iload_n (pc := 27) (dk dt_X4_label 18 rfl) rfl ?_
  refine a_bipush (pc := 28) (dk dt_X4_label 19 rfl) (ik rfl) (bpk rfl) ?_
  refine a_ishr (pc := 30) (dk dt_X4_label 20 rfl) ?_
  refine a_sipush (pc := 31) (dk dt_X4_label 21 rfl) (ik rfl) (spk rfl) ?_
  refine a_iand (pc := 34) (dk dt_X4_label 22 rfl) ?_
  refine a_iast (pc := 35) (dk dt_X4_label 23 rfl) ar_31 ⟨⟨by decide, by decide⟩, ?_⟩
  refine a_aload_n (pc := 36) (dk dt_X4_label 24 rfl) rfl ?_
  refine a_getr (r := 30) (pc := 37) (dk dt_X4_label 25 rfl) cls_4 fl_RX4_24 cf_26_5 ?_
  refine a_iconst (pc := 40) (dk dt_X4_label 26 rfl) (ik rfl) ?_
  refine a_iload_n (pc := 41) (dk dt_X4_label 27 rfl) rfl ?_
  refine a_sipush (pc := 42) (dk dt_X4_label 28 rfl) (ik rfl) (spk rfl) ?_
  refine a_iand (pc := 45) (dk dt_X4_label 29 rfl) ?_
  refine a_iast (pc := 46) (dk dt_X4_label 30 rfl) ar_31 ⟨⟨by decide, by decide⟩, ?_⟩
  refine a_aload_n (pc := 47) (dk dt_X4_label 31 rfl) rfl ?_
  refine a_getr (r := 30) (pc := 48) (dk dt_X4_label 32 rfl) cls_4 fl_RX4_24 cf_26_5 ?_
  refine a_iconst (pc := 51) (dk dt_X4_label 33 rfl) (ik rfl) ?_
  refine a_iload_n (pc := 52) (dk dt_X4_label 34 rfl) rfl ?_
  refine a_iconst (pc := 53) (dk dt_X4_label 35 rfl) (ik rfl) ?_
  refine a_irem (pc := 54) (dk dt_X4_label 36 rfl) ⟨by decide, ?_⟩
  refine a_iconst (pc := 55) (dk dt_X4_label 37 rfl) (ik rfl) ?_
  refine a_iadd (pc := 56) (dk dt_X4_label 38 rfl) ?_
  refine a_iast (pc := 57) (dk dt_X4_label 39 rfl) ar_31 ⟨⟨by decide, by decide⟩, ?_⟩
  refine a_aload_n (pc := 58) (dk dt_X4_label 40 rfl) rfl ?_
  refine a_getr (r := 29) (pc := 59) (dk dt_X4_label 41 rfl) cls_4 fl_RX4_21 cf_26_4 ?_
  refine a_iload_n (pc := 62) (dk dt_X4_label 42 rfl) rfl ?_
  refine a_aload_n (pc := 63) (dk dt_X4_label 43 rfl) rfl ?_
  refine a_getr (r := 29) (pc := 64) (dk dt_X4_label 44 rfl) cls_4 fl_RX4_21 cf_26_4 ?_
  refine a_iload_n (pc := 67) (dk dt_X4_label 45 rfl) rfl ?_
  refine a_iald (pc := 68) (dk dt_X4_label 46 rfl) ar_30 ⟨H.1, ?_⟩
  replace H := H.2
  refine a_top (y := (h 30 x1)) (by simp [up, cpy]) ?_
  refine a_iconst (pc := 69) (dk dt_X4_label 47 rfl) (ik rfl) ?_
  refine a_iadd (pc := 70) (dk dt_X4_label 48 rfl) ?_
  refine a_sipush (pc := 71) (dk dt_X4_label 49 rfl) (ik rfl) (spk rfl) ?_
  refine a_iand (pc := 74) (dk dt_X4_label 50 rfl) ?_
  refine a_iast (pc := 75) (dk dt_X4_label 51 rfl) ar_30 ⟨H.1, ?_⟩
  replace H := H.2
  exact a_vret (pc := 76) (dk dt_X4_label 52 rfl) rfl rfl H
set_option maxHeartbeats 40000000 in
theorem U_X4_slot_26_0 {G : GG} {Φ : Int → Hp → Prop} {h : Hp} {x1 : Int} {x2 : Int} (H : (0 ≤ x1 ∧ x1 < 4) ∧ Φ (w32 ((w32 ((w32 (x1 * 50)) + ((w32 ((h 28 x1) + x2)).tmod 50))) * 9)) h) : AT G m_X4_slot 0 [(0, rv 26), (1, iv x1), (2, iv x2)] [] h Φ := by
  refine a_iload_n (pc := 0) (dk dt_X4_slot 0 rfl) rfl ?_
  refine a_bipush (pc := 1) (dk dt_X4_slot 1 rfl) (ik rfl) (bpk rfl) ?_
  refine a_imul (pc := 3) (dk dt_X4_slot 2 rfl) ?_
  refine a_aload_n (pc := 4) (dk dt_X4_slot 3 rfl) rfl ?_
  refine a_getr (r := 27) (pc := 5) (dk dt_X4_slot 4 rfl) cls_4 fl_RX4_15 cf_26_1 ?_
  refine a_iload_n (pc := 8) (dk dt_X4_slot 5 rfl) rfl ?_
  refine a_iald (pc := 9) (dk dt_X4_slot 6 rfl) ar_28 ⟨H.1, ?_⟩
  replace H := H.2
  refine a_iload_n (pc := 10) (dk dt_X4_slot 7 rfl) rfl ?_
  refine a_iadd (pc := 11) (dk dt_X4_slot 8 rfl) ?_
  refine a_bipush (pc := 12) (dk dt_X4_slot 9 rfl) (ik rfl) (bpk rfl) ?_
  refine a_irem (pc := 14) (dk dt_X4_slot 10 rfl) ⟨by decide, ?_⟩
  refine a_iadd (pc := 15) (dk dt_X4_slot 11 rfl) ?_
  refine a_bipush (pc := 16) (dk dt_X4_slot 12 rfl) (ik rfl) (bpk rfl) ?_
  refine a_imul (pc := 18) (dk dt_X4_slot 13 rfl) ?_
  exact a_iret (pc := 19) (dk dt_X4_slot 14 rfl) rfl rfl H
set_option maxHeartbeats 40000000 in
theorem U_X4_takeOldest_26_0 {G : GG} {Φ : Int → Hp → Prop} {h : Hp} {x1 : Int} {x2 : Int} (H : (0 ≤ (w32 ((w32 (x2 + 5)) - 1)) ∧ (w32 ((w32 (x2 + 5)) - 1)) < 1800) ∧ (0 ≤ x1 ∧ x1 < 4) ∧ (0 ≤ x1 ∧ x1 < 4) ∧ (0 ≤ x1 ∧ x1 < 4) ∧ (0 ≤ x1 ∧ x1 < 4) ∧ Φ 0 (up (up (up h 26 3 (w32 ((h 26 3) - (w32 (5 + (h 27 (w32 ((w32 (x2 + 5)) - 1)))))))) 28 x1 ((w32 ((h 28 x1) + 1)).tmod 50)) 29 x1 (w32 ((h 29 x1) - 1)))) : AT G m_X4_takeOldest 0 [(0, rv 26), (1, iv x1), (2, iv x2)] [] h Φ := by
  refine a_aload_n (pc := 0) (dk dt_X4_takeOldest 0 rfl) rfl ?_
  refine a_dup (pc := 1) (dk dt_X4_takeOldest 1 rfl) rfl ?_
  refine a_geti (pc := 2) (dk dt_X4_takeOldest 2 rfl) cls_4 fl_RX4_33 cf_26_3 ?_
  refine a_iconst (pc := 5) (dk dt_X4_takeOldest 3 rfl) (ik rfl) ?_
  refine a_aload_n (pc := 6) (dk dt_X4_takeOldest 4 rfl) rfl ?_
  refine a_getr (r := 26) (pc := 7) (dk dt_X4_takeOldest 5 rfl) cls_4 fl_RX4_11 cf_26_0 ?_
  refine a_iload_n (pc := 10) (dk dt_X4_takeOldest 6 rfl) rfl ?_
  refine a_iconst (pc := 11) (dk dt_X4_takeOldest 7 rfl) (ik rfl) ?_
  refine a_iadd (pc := 12) (dk dt_X4_takeOldest 8 rfl) ?_
  refine a_iconst (pc := 13) (dk dt_X4_takeOldest 9 rfl) (ik rfl) ?_
  refine a_isub (pc := 14) (dk dt_X4_takeOldest 10 rfl) ?_
  refine a_iald (pc := 15) (dk dt_X4_takeOldest 11 rfl) ar_27 ⟨H.1, ?_⟩
  replace H := H.2
  refine a_iadd (pc := 16) (dk dt_X4_takeOldest 12 rfl) ?_
  refine a_isub (pc := 17) (dk dt_X4_takeOldest 13 rfl) ?_
  refine a_puti (pc := 18) (dk dt_X4_takeOldest 14 rfl) cls_4 fl_RX4_33 cf_26_3 rfl rfl ?_
  refine a_aload_n (pc := 21) (dk dt_X4_takeOldest 15 rfl) rfl ?_
  refine a_getr (r := 27) (pc := 22) (dk dt_X4_takeOldest 16 rfl) cls_4 fl_RX4_15 cf_26_1 ?_
  refine a_iload_n (pc := 25) (dk dt_X4_takeOldest 17 rfl) rfl ?_
  refine a_aload_n (pc := 26) (dk dt_X4_takeOldest 18 rfl) rfl ?_
  refine a_getr (r := 27) (pc := 27) (dk dt_X4_takeOldest 19 rfl) cls_4 fl_RX4_15 cf_26_1 ?_
  refine a_iload_n (pc := 30) (dk dt_X4_takeOldest 20 rfl) rfl ?_
  refine a_iald (pc := 31) (dk dt_X4_takeOldest 21 rfl) ar_28 ⟨H.1, ?_⟩
  replace H := H.2
  refine a_top (y := (h 28 x1)) (by simp [up, cpy]) ?_
  refine a_iconst (pc := 32) (dk dt_X4_takeOldest 22 rfl) (ik rfl) ?_
  refine a_iadd (pc := 33) (dk dt_X4_takeOldest 23 rfl) ?_
  refine a_bipush (pc := 34) (dk dt_X4_takeOldest 24 rfl) (ik rfl) (bpk rfl) ?_
  refine a_irem (pc := 36) (dk dt_X4_takeOldest 25 rfl) ⟨by decide, ?_⟩
  refine a_iast (pc := 37) (dk dt_X4_takeOldest 26 rfl) ar_28 ⟨H.1, ?_⟩
  replace H := H.2
  refine a_aload_n (pc := 38) (dk dt_X4_takeOldest 27 rfl) rfl ?_
  refine a_getr (r := 28) (pc := 39) (dk dt_X4_takeOldest 28 rfl) cls_4 fl_RX4_18 cf_26_2 ?_
  refine a_iload_n (pc := 42) (dk dt_X4_takeOldest 29 rfl) rfl ?_
  refine a_dup2 (pc := 43) (dk dt_X4_takeOldest 30 rfl) rfl rfl ?_
  refine a_iald (pc := 44) (dk dt_X4_takeOldest 31 rfl) ar_29 ⟨H.1, ?_⟩
  replace H := H.2
  refine a_top (y := (h 29 x1)) (by simp [up, cpy]) ?_
  refine a_iconst (pc := 45) (dk dt_X4_takeOldest 32 rfl) (ik rfl) ?_
  refine a_isub (pc := 46) (dk dt_X4_takeOldest 33 rfl) ?_
  refine a_iast (pc := 47) (dk dt_X4_takeOldest 34 rfl) ar_29 ⟨H.1, ?_⟩
  replace H := H.2
  exact a_vret (pc := 48) (dk dt_X4_takeOldest 35 rfl) rfl rfl H
set_option maxHeartbeats 40000000 in
theorem U_X4_lastClass_26_0 {G : GG} {Φ : Int → Hp → Prop} {h : Hp} (H : AT G m_X4_lastClass 2 [(0, rv 26), (1, iv 3)] [] h Φ) : AT G m_X4_lastClass 0 [(0, rv 26)] [] h Φ := by
  refine a_iconst (pc := 0) (dk dt_X4_lastClass 0 rfl) (ik rfl) ?_
  refine a_istore_n (pc := 1) (dk dt_X4_lastClass 1 rfl) (by decide) rfl rfl ?_
  exact a_pick [0, 1] rfl H
set_option maxHeartbeats 40000000 in
theorem U_X4_lastClass_26_2 {G : GG} {Φ : Int → Hp → Prop} {h : Hp} {x1 : Int} (H : ((x1 < 0 → Φ x1 h) ∧ (0 ≤ x1 → (0 ≤ x1 ∧ x1 < 4) ∧ (((h 29 x1) ≠ 0 → Φ x1 h) ∧ ((h 29 x1) = 0 → AT G m_X4_lastClass 2 [(0, rv 26), (1, iv (w32 (x1 + (-1))))] [] h Φ))))) : AT G m_X4_lastClass 2 [(0, rv 26), (1, iv x1)] [] h Φ := by
  refine a_iload_n (pc := 2) (dk dt_X4_lastClass 2 rfl) rfl ?_
  refine a_if_lt (pc := 3) (dk dt_X4_lastClass 3 rfl) (tgt := 21) rfl ⟨fun c => ?_, fun c => ?_⟩
  · replace H := H.1 c
    refine a_iload_n (pc := 21) (dk dt_X4_lastClass 11 rfl) rfl ?_
    exact a_iret (pc := 22) (dk dt_X4_lastClass 12 rfl) rfl rfl H
  · replace H := H.2 c
    refine a_aload_n (pc := 6) (dk dt_X4_lastClass 4 rfl) rfl ?_
    refine a_getr (r := 28) (pc := 7) (dk dt_X4_lastClass 5 rfl) cls_4 fl_RX4_18 cf_26_2 ?_
    refine a_iload_n (pc := 10) (dk dt_X4_lastClass 6 rfl) rfl ?_
    refine a_iald (pc := 11) (dk dt_X4_lastClass 7 rfl) ar_29 ⟨H.1, ?_⟩
    replace H := H.2
    refine a_if_ne (pc := 12) (dk dt_X4_lastClass 8 rfl) (tgt := 21) rfl ⟨fun c => ?_, fun c => ?_⟩
    · replace H := H.1 c
      refine a_iload_n (pc := 21) (dk dt_X4_lastClass 11 rfl) rfl ?_
      exact a_iret (pc := 22) (dk dt_X4_lastClass 12 rfl) rfl rfl H
    · replace H := H.2 c
      refine a_iinc (pc := 15) (dk dt_X4_lastClass 9 rfl) (by decide) rfl rfl rfl ?_
      refine a_goto (pc := 18) (dk dt_X4_lastClass 10 rfl) (tgt := 2) rfl ?_
      exact a_pick [0, 1] rfl H
set_option maxHeartbeats 40000000 in
theorem U_X2_takeFrame_65_33_0 {G : GG} {Φ : Int → Hp → Prop} {h : Hp} {x2 : Int} (H : (0 ≤ (w32 ((w32 (x2 + 24)) - 2)) ∧ (w32 ((w32 (x2 + 24)) - 2)) < 744) ∧ (0 ≤ (w32 ((w32 (x2 + 24)) - 1)) ∧ (w32 ((w32 (x2 + 24)) - 1)) < 744) ∧ Call G m_X4_checkOf [rv 33, iv x2] h (fun r1 h2 => (((bor (bshl (h 33 (w32 ((w32 (x2 + 24)) - 2))) 8) (h 33 (w32 ((w32 (x2 + 24)) - 1)))) = r1 → (0 ≤ x2 ∧ x2 < 744) ∧ (0 ≤ (w32 (x2 + 3)) ∧ (w32 (x2 + 3)) < 744) ∧ Call G m_X2_begin [rv 65, iv (h2 33 x2), iv (h2 33 (w32 (x2 + 3)))] h2 (fun r3 h4 => (0 ≤ (w32 (x2 + 1)) ∧ (w32 (x2 + 1)) < 744) ∧ (0 ≤ (w32 (x2 + 2)) ∧ (w32 (x2 + 2)) < 744) ∧ Call G m_X2_acknowledge [rv 65, iv (h4 33 (w32 (x2 + 1))), iv (h4 33 (w32 (x2 + 2)))] h4 (fun _ h6 => Call G m_X2_pieceTogether [rv 65, rv 33, iv (w32 (x2 + 4)), iv r3] h6 (fun r7 h8 => Φ r7 h8)))) ∧ ((bor (bshl (h 33 (w32 ((w32 (x2 + 24)) - 2))) 8) (h 33 (w32 ((w32 (x2 + 24)) - 1)))) ≠ r1 → Φ (-2) (up h2 65 1 (w32 ((h2 65 1) + 1))))))) : AT G m_X2_takeFrame 0 [(0, rv 65), (1, rv 33), (2, iv x2)] [] h Φ := by
  refine a_aload_n (pc := 0) (dk dt_X2_takeFrame 0 rfl) rfl ?_
  refine a_iload_n (pc := 1) (dk dt_X2_takeFrame 1 rfl) rfl ?_
  refine a_bipush (pc := 2) (dk dt_X2_takeFrame 2 rfl) (ik rfl) (bpk rfl) ?_
  refine a_iadd (pc := 4) (dk dt_X2_takeFrame 3 rfl) ?_
  refine a_iconst (pc := 5) (dk dt_X2_takeFrame 4 rfl) (ik rfl) ?_
  refine a_isub (pc := 6) (dk dt_X2_takeFrame 5 rfl) ?_
  refine a_iald (pc := 7) (dk dt_X2_takeFrame 6 rfl) ar_33 ⟨H.1, ?_⟩
  replace H := H.2
  refine a_bipush (pc := 8) (dk dt_X2_takeFrame 7 rfl) (ik rfl) (bpk rfl) ?_
  refine a_ishl (pc := 10) (dk dt_X2_takeFrame 8 rfl) ?_
  refine a_aload_n (pc := 11) (dk dt_X2_takeFrame 9 rfl) rfl ?_
  refine a_iload_n (pc := 12) (dk dt_X2_takeFrame 10 rfl) rfl ?_
  refine a_bipush (pc := 13) (dk dt_X2_takeFrame 11 rfl) (ik rfl) (bpk rfl) ?_
  refine a_iadd (pc := 15) (dk dt_X2_takeFrame 12 rfl) ?_
  refine a_iconst (pc := 16) (dk dt_X2_takeFrame 13 rfl) (ik rfl) ?_
  refine a_isub (pc := 17) (dk dt_X2_takeFrame 14 rfl) ?_
  refine a_iald (pc := 18) (dk dt_X2_takeFrame 15 rfl) ar_33 ⟨H.1, ?_⟩
  replace H := H.2
  refine a_ior (pc := 19) (dk dt_X2_takeFrame 16 rfl) ?_
  refine a_istore_n (pc := 20) (dk dt_X2_takeFrame 17 rfl) (by decide) rfl rfl ?_
  refine a_iload_n (pc := 21) (dk dt_X2_takeFrame 18 rfl) rfl ?_
  refine a_aload_n (pc := 22) (dk dt_X2_takeFrame 19 rfl) rfl ?_
  refine a_iload_n (pc := 23) (dk dt_X2_takeFrame 20 rfl) rfl ?_
  refine a_callSi (as := [rv 33, iv x2]) (st := [iv (bor (bshl (h 33 (w32 ((w32 (x2 + 24)) - 2))) 8) (h 33 (w32 ((w32 (x2 + 24)) - 1))))]) (pc := 24) (dk dt_X2_takeFrame 21 rfl) cl_RX2_27 ⟨Nat.le_of_ble_eq_true rfl, Nat.le_of_ble_eq_true rfl⟩ ⟨Nat.le_of_ble_eq_true rfl, Nat.le_of_ble_eq_true rfl⟩ rfl rfl rfl (Nat.le_of_ble_eq_true rfl) (Call.mono H fun r1 h2 H => ?_)
  refine a_icmp_eq (pc := 27) (dk dt_X2_takeFrame 22 rfl) (tgt := 43) rfl ⟨fun c => ?_, fun c => ?_⟩
  · replace H := H.1 c
    refine a_aload_n (pc := 43) (dk dt_X2_takeFrame 31 rfl) rfl ?_
    refine a_aload_n (pc := 44) (dk dt_X2_takeFrame 32 rfl) rfl ?_
    refine a_iload_n (pc := 45) (dk dt_X2_takeFrame 33 rfl) rfl ?_
    refine a_iald (pc := 46) (dk dt_X2_takeFrame 34 rfl) ar_33 ⟨H.1, ?_⟩
    replace H := H.2
    refine a_aload_n (pc := 47) (dk dt_X2_takeFrame 35 rfl) rfl ?_
    refine a_iload_n (pc := 48) (dk dt_X2_takeFrame 36 rfl) rfl ?_
    refine a_iconst (pc := 49) (dk dt_X2_takeFrame 37 rfl) (ik rfl) ?_
    refine a_iadd (pc := 50) (dk dt_X2_takeFrame 38 rfl) ?_
    refine a_iald (pc := 51) (dk dt_X2_takeFrame 39 rfl) ar_33 ⟨H.1, ?_⟩
    replace H := H.2
    refine a_callVi (as := [iv (h2 33 x2), iv (h2 33 (w32 (x2 + 3)))]) (st := []) (pc := 52) (dk dt_X2_takeFrame 40 rfl) cl_RX2_37 ⟨Nat.le_of_ble_eq_true rfl, Nat.le_of_ble_eq_true rfl⟩ ⟨Nat.le_of_ble_eq_true rfl, Nat.le_of_ble_eq_true rfl⟩ cls_2 rfl cc_65 rfl rfl rfl (Nat.le_of_ble_eq_true rfl) (Call.mono H fun r3 h4 H => ?_)
    refine a_istore (pc := 55) (dk dt_X2_takeFrame 41 rfl) (by decide) rfl rfl ?_
    refine a_aload_n (pc := 57) (dk dt_X2_takeFrame 42 rfl) rfl ?_
    refine a_aload_n (pc := 58) (dk dt_X2_takeFrame 43 rfl) rfl ?_
    refine a_iload_n (pc := 59) (dk dt_X2_takeFrame 44 rfl) rfl ?_
    refine a_iconst (pc := 60) (dk dt_X2_takeFrame 45 rfl) (ik rfl) ?_
    refine a_iadd (pc := 61) (dk dt_X2_takeFrame 46 rfl) ?_
    refine a_iald (pc := 62) (dk dt_X2_takeFrame 47 rfl) ar_33 ⟨H.1, ?_⟩
    replace H := H.2
    refine a_aload_n (pc := 63) (dk dt_X2_takeFrame 48 rfl) rfl ?_
    refine a_iload_n (pc := 64) (dk dt_X2_takeFrame 49 rfl) rfl ?_
    refine a_iconst (pc := 65) (dk dt_X2_takeFrame 50 rfl) (ik rfl) ?_
    refine a_iadd (pc := 66) (dk dt_X2_takeFrame 51 rfl) ?_
    refine a_iald (pc := 67) (dk dt_X2_takeFrame 52 rfl) ar_33 ⟨H.1, ?_⟩
    replace H := H.2
    refine a_callVv (as := [iv (h4 33 (w32 (x2 + 1))), iv (h4 33 (w32 (x2 + 2)))]) (st := []) (pc := 68) (dk dt_X2_takeFrame 53 rfl) cl_RX2_41 ⟨Nat.le_of_ble_eq_true rfl, Nat.le_of_ble_eq_true rfl⟩ ⟨Nat.le_of_ble_eq_true rfl, Nat.le_of_ble_eq_true rfl⟩ cls_2 rfl cc_65 rfl rfl rfl (Nat.le_of_ble_eq_true rfl) (Call.mono H fun _ h6 H => ?_)
    refine a_aload_n (pc := 71) (dk dt_X2_takeFrame 54 rfl) rfl ?_
    refine a_aload_n (pc := 72) (dk dt_X2_takeFrame 55 rfl) rfl ?_
    refine a_iload_n (pc := 73) (dk dt_X2_takeFrame 56 rfl) rfl ?_
    refine a_iconst (pc := 74) (dk dt_X2_takeFrame 57 rfl) (ik rfl) ?_
    refine a_iadd (pc := 75) (dk dt_X2_takeFrame 58 rfl) ?_
    refine a_iload (pc := 76) (dk dt_X2_takeFrame 59 rfl) rfl ?_
    refine a_callVi (as := [rv 33, iv (w32 (x2 + 4)), iv r3]) (st := []) (pc := 78) (dk dt_X2_takeFrame 60 rfl) cl_RX2_45 ⟨Nat.le_of_ble_eq_true rfl, Nat.le_of_ble_eq_true rfl⟩ ⟨Nat.le_of_ble_eq_true rfl, Nat.le_of_ble_eq_true rfl⟩ cls_2 rfl cc_65 rfl rfl rfl (Nat.le_of_ble_eq_true rfl) (Call.mono H fun r7 h8 H => ?_)
    exact a_iret (pc := 81) (dk dt_X2_takeFrame 61 rfl) rfl rfl H
  · replace H := H.2 c
    refine a_aload_n (pc := 30) (dk dt_X2_takeFrame 23 rfl) rfl ?_
    refine a_dup (pc := 31) (dk dt_X2_takeFrame 24 rfl) rfl ?_
    refine a_geti (pc := 32) (dk dt_X2_takeFrame 25 rfl) cls_2 fl_RX2_33 cf_65_1 ?_
    refine a_iconst (pc := 35) (dk dt_X2_takeFrame 26 rfl) (ik rfl) ?_
    refine a_iadd (pc := 36) (dk dt_X2_takeFrame 27 rfl) ?_
    refine a_puti (pc := 37) (dk dt_X2_takeFrame 28 rfl) cls_2 fl_RX2_33 cf_65_1 rfl rfl ?_
    refine a_bipush (pc := 40) (dk dt_X2_takeFrame 29 rfl) (ik rfl) (bpk rfl) ?_
    exact a_iret (pc := 42) (dk dt_X2_takeFrame 30 rfl) rfl rfl H
set_option maxHeartbeats 40000000 in
theorem U_X2_writePacket_65_11_0 {G : GG} {Φ : Int → Hp → Prop} {h : Hp} {x1 : Int} (H : (0 ≤ (w32 ((w32 ((w32 (x1 * 9)) + 5)) - 1)) ∧ (w32 ((w32 ((w32 (x1 * 9)) + 5)) - 1)) < 540) ∧ ((0 : Int) ≤ (w32 (x1 * 9)) ∧ (0 : Int) ≤ 0 ∧ (0 : Int) ≤ (w32 (5 + (h 67 (w32 ((w32 ((w32 (x1 * 9)) + 5)) - 1))))) ∧ (((w32 (x1 * 9)) : Int) + (w32 (5 + (h 67 (w32 ((w32 ((w32 (x1 * 9)) + 5)) - 1)))))) ≤ 540 ∧ ((0 : Int) + (w32 (5 + (h 67 (w32 ((w32 ((w32 (x1 * 9)) + 5)) - 1)))))) ≤ 288) ∧ Φ (w32 (5 + (h 67 (w32 ((w32 ((w32 (x1 * 9)) + 5)) - 1))))) (cpy h 67 (w32 (x1 * 9)) 11 0 (w32 (5 + (h 67 (w32 ((w32 ((w32 (x1 * 9)) + 5)) - 1))))))) : AT G m_X2_writePacket 0 [(0, rv 65), (1, iv x1), (2, rv 11)] [] h Φ := by
  refine a_iload_n (pc := 0) (dk dt_X2_writePacket 0 rfl) rfl ?_
  refine a_bipush (pc := 1) (dk dt_X2_writePacket 1 rfl) (ik rfl) (bpk rfl) ?_
  refine a_imul (pc := 3) (dk dt_X2_writePacket 2 rfl) ?_
  refine a_istore_n (pc := 4) (dk dt_X2_writePacket 3 rfl) (by decide) rfl rfl ?_
  refine a_iconst (pc := 5) (dk dt_X2_writePacket 4 rfl) (ik rfl) ?_
  refine a_aload_n (pc := 6) (dk dt_X2_writePacket 5 rfl) rfl ?_
  refine a_getr (r := 66) (pc := 7) (dk dt_X2_writePacket 6 rfl) cls_2 fl_RX2_15 cf_65_6 ?_
  refine a_iload_n (pc := 10) (dk dt_X2_writePacket 7 rfl) rfl ?_
  refine a_iconst (pc := 11) (dk dt_X2_writePacket 8 rfl) (ik rfl) ?_
  refine a_iadd (pc := 12) (dk dt_X2_writePacket 9 rfl) ?_
  refine a_iconst (pc := 13) (dk dt_X2_writePacket 10 rfl) (ik rfl) ?_
  refine a_isub (pc := 14) (dk dt_X2_writePacket 11 rfl) ?_
  refine a_iald (pc := 15) (dk dt_X2_writePacket 12 rfl) ar_67 ⟨H.1, ?_⟩
  replace H := H.2
  refine a_iadd (pc := 16) (dk dt_X2_writePacket 13 rfl) ?_
  refine a_istore (pc := 17) (dk dt_X2_writePacket 14 rfl) (by decide) rfl rfl ?_
  refine a_aload_n (pc := 19) (dk dt_X2_writePacket 15 rfl) rfl ?_
  refine a_getr (r := 66) (pc := 20) (dk dt_X2_writePacket 16 rfl) cls_2 fl_RX2_15 cf_65_6 ?_
  refine a_iload_n (pc := 23) (dk dt_X2_writePacket 17 rfl) rfl ?_
  refine a_aload_n (pc := 24) (dk dt_X2_writePacket 18 rfl) rfl ?_
  refine a_iconst (pc := 25) (dk dt_X2_writePacket 19 rfl) (ik rfl) ?_
  refine a_iload (pc := 26) (dk dt_X2_writePacket 20 rfl) rfl ?_
  refine a_copy (pc := 28) (dk dt_X2_writePacket 21 rfl) acw_RX2_72 ar_67 ar_11 ⟨Nat.le_of_ble_eq_true rfl, Nat.le_of_ble_eq_true rfl⟩ ⟨H.1, ?_⟩
  replace H := H.2
  refine a_iload (pc := 31) (dk dt_X2_writePacket 22 rfl) rfl ?_
  exact a_iret (pc := 33) (dk dt_X2_writePacket 23 rfl) rfl rfl H
set_option maxHeartbeats 40000000 in
theorem U_X2_keep_65_4_0 {G : GG} {Φ : Int → Hp → Prop} {h : Hp} (H : Call G m_X3_copy [rv 68, iv (h 65 9), rv 4, iv 0] h (fun _ h2 => Φ (h 65 11) (up (up h2 65 9 (w32 ((h2 65 9) + 1))) 65 11 (band (w32 ((h 65 11) + 1)) 255)))) : AT G m_X2_keep 0 [(0, rv 65), (1, rv 4)] [] h Φ := by
  refine a_aload_n (pc := 0) (dk dt_X2_keep 0 rfl) rfl ?_
  refine a_geti (pc := 1) (dk dt_X2_keep 1 rfl) cls_2 fl_RX2_81 cf_65_11 ?_
  refine a_istore_n (pc := 4) (dk dt_X2_keep 2 rfl) (by decide) rfl rfl ?_
  refine a_aload_n (pc := 5) (dk dt_X2_keep 3 rfl) rfl ?_
  refine a_getr (r := 67) (pc := 6) (dk dt_X2_keep 4 rfl) cls_2 fl_RX2_23 cf_65_8 ?_
  refine a_aload_n (pc := 9) (dk dt_X2_keep 5 rfl) rfl ?_
  refine a_geti (pc := 10) (dk dt_X2_keep 6 rfl) cls_2 fl_RX2_78 cf_65_9 ?_
  refine a_aload_n (pc := 13) (dk dt_X2_keep 7 rfl) rfl ?_
  refine a_iconst (pc := 14) (dk dt_X2_keep 8 rfl) (ik rfl) ?_
  refine a_callVv (as := [iv (h 65 9), rv 4, iv 0]) (st := []) (pc := 15) (dk dt_X2_keep 9 rfl) cl_RX2_84 ⟨Nat.le_of_ble_eq_true rfl, Nat.le_of_ble_eq_true rfl⟩ ⟨Nat.le_of_ble_eq_true rfl, Nat.le_of_ble_eq_true rfl⟩ cls_3 rfl cc_68 rfl rfl rfl (Nat.le_of_ble_eq_true rfl) (Call.mono H fun _ h2 H => ?_)
  refine a_aload_n (pc := 18) (dk dt_X2_keep 10 rfl) rfl ?_
  refine a_dup (pc := 19) (dk dt_X2_keep 11 rfl) rfl ?_
  refine a_geti (pc := 20) (dk dt_X2_keep 12 rfl) cls_2 fl_RX2_78 cf_65_9 ?_
  refine a_iconst (pc := 23) (dk dt_X2_keep 13 rfl) (ik rfl) ?_
  refine a_iadd (pc := 24) (dk dt_X2_keep 14 rfl) ?_
  refine a_puti (pc := 25) (dk dt_X2_keep 15 rfl) cls_2 fl_RX2_78 cf_65_9 rfl rfl ?_
  refine a_aload_n (pc := 28) (dk dt_X2_keep 16 rfl) rfl ?_
  refine a_iload_n (pc := 29) (dk dt_X2_keep 17 rfl) rfl ?_
  refine a_iconst (pc := 30) (dk dt_X2_keep 18 rfl) (ik rfl) ?_
  refine a_iadd (pc := 31) (dk dt_X2_keep 19 rfl) ?_
  refine a_sipush (pc := 32) (dk dt_X2_keep 20 rfl) (ik rfl) (spk rfl) ?_
  refine a_iand (pc := 35) (dk dt_X2_keep 21 rfl) ?_
  refine a_puti (pc := 36) (dk dt_X2_keep 22 rfl) cls_2 fl_RX2_81 cf_65_11 rfl rfl ?_
  refine a_iload_n (pc := 39) (dk dt_X2_keep 23 rfl) rfl ?_
  exact a_iret (pc := 40) (dk dt_X2_keep 24 rfl) rfl rfl H
set_option maxHeartbeats 40000000 in
theorem U_X2_nextToSend_65_0 {G : GG} {Φ : Int → Hp → Prop} {h : Hp} (H : Φ (band (w32 ((h 65 11) - (w32 ((h 65 9) - (h 65 10))))) 255) h) : AT G m_X2_nextToSend 0 [(0, rv 65)] [] h Φ := by
  refine a_aload_n (pc := 0) (dk dt_X2_nextToSend 0 rfl) rfl ?_
  refine a_geti (pc := 1) (dk dt_X2_nextToSend 1 rfl) cls_2 fl_RX2_81 cf_65_11 ?_
  refine a_aload_n (pc := 4) (dk dt_X2_nextToSend 2 rfl) rfl ?_
  refine a_callVi (as := []) (st := [iv (h 65 11)]) (pc := 5) (dk dt_X2_nextToSend 3 rfl) cl_RX2_91 ⟨Nat.le_of_ble_eq_true rfl, Nat.le_of_ble_eq_true rfl⟩ ⟨Nat.le_of_ble_eq_true rfl, Nat.le_of_ble_eq_true rfl⟩ cls_2 rfl cc_65 rfl rfl rfl (Nat.le_of_ble_eq_true rfl) (Call.of rfl (Nat.le_of_ble_eq_true rfl) rfl ?_)
  refine a_aload_n (pc := 0) (dk dt_X2_toSend 0 rfl) rfl ?_
  refine a_geti (pc := 1) (dk dt_X2_toSend 1 rfl) cls_2 fl_RX2_78 cf_65_9 ?_
  refine a_aload_n (pc := 4) (dk dt_X2_toSend 2 rfl) rfl ?_
  refine a_geti (pc := 5) (dk dt_X2_toSend 3 rfl) cls_2 fl_RX2_88 cf_65_10 ?_
  refine a_isub (pc := 8) (dk dt_X2_toSend 4 rfl) ?_
  refine a_iret (pc := 9) (dk dt_X2_toSend 5 rfl) rfl rfl ?_
  show ATW _ _ _ _ _ _ _ _ _ _
  refine a_isub (pc := 8) (dk dt_X2_nextToSend 4 rfl) ?_
  refine a_sipush (pc := 9) (dk dt_X2_nextToSend 5 rfl) (ik rfl) (spk rfl) ?_
  refine a_iand (pc := 12) (dk dt_X2_nextToSend 6 rfl) ?_
  exact a_iret (pc := 13) (dk dt_X2_nextToSend 7 rfl) rfl rfl H
set_option maxHeartbeats 40000000 in
theorem U_X2_acknowledge_65_0 {G : GG} {Φ : Int → Hp → Prop} {h : Hp} {x1 : Int} {x2 : Int} (H : (((h 65 9) < (band (w32 (x1 - (w32 ((h 65 11) - (h 65 9))))) 255) → ((x2 ≠ 1 → Φ 0 h) ∧ (x2 = 1 → Φ 0 (up h 65 10 0)))) ∧ ((band (w32 (x1 - (w32 ((h 65 11) - (h 65 9))))) 255) ≤ (h 65 9) → AT G m_X2_acknowledge 27 [(0, rv 65), (2, iv x2), (3, iv (band (w32 (x1 - (w32 ((h 65 11) - (h 65 9))))) 255)), (4, iv (band (w32 (x1 - (w32 ((h 65 11) - (h 65 9))))) 255))] [] h Φ))) : AT G m_X2_acknowledge 0 [(0, rv 65), (1, iv x1), (2, iv x2)] [] h Φ := by
  refine a_iload_n (pc := 0) (dk dt_X2_acknowledge 0 rfl) rfl ?_
  refine a_aload_n (pc := 1) (dk dt_X2_acknowledge 1 rfl) rfl ?_
  refine a_geti (pc := 2) (dk dt_X2_acknowledge 2 rfl) cls_2 fl_RX2_81 cf_65_11 ?_
  refine a_aload_n (pc := 5) (dk dt_X2_acknowledge 3 rfl) rfl ?_
  refine a_geti (pc := 6) (dk dt_X2_acknowledge 4 rfl) cls_2 fl_RX2_78 cf_65_9 ?_
  refine a_isub (pc := 9) (dk dt_X2_acknowledge 5 rfl) ?_
  refine a_isub (pc := 10) (dk dt_X2_acknowledge 6 rfl) ?_
  refine a_sipush (pc := 11) (dk dt_X2_acknowledge 7 rfl) (ik rfl) (spk rfl) ?_
  refine a_iand (pc := 14) (dk dt_X2_acknowledge 8 rfl) ?_
  refine a_istore_n (pc := 15) (dk dt_X2_acknowledge 9 rfl) (by decide) rfl rfl ?_
  refine a_iload_n (pc := 16) (dk dt_X2_acknowledge 10 rfl) rfl ?_
  refine a_aload_n (pc := 17) (dk dt_X2_acknowledge 11 rfl) rfl ?_
  refine a_geti (pc := 18) (dk dt_X2_acknowledge 12 rfl) cls_2 fl_RX2_78 cf_65_9 ?_
  refine a_icmp_gt (pc := 21) (dk dt_X2_acknowledge 13 rfl) (tgt := 83) rfl ⟨fun c => ?_, fun c => ?_⟩
  · replace H := H.1 c
    refine a_iload_n (pc := 83) (dk dt_X2_acknowledge 45 rfl) rfl ?_
    refine a_iconst (pc := 84) (dk dt_X2_acknowledge 46 rfl) (ik rfl) ?_
    refine a_icmp_ne (pc := 85) (dk dt_X2_acknowledge 47 rfl) (tgt := 93) rfl ⟨fun c => ?_, fun c => ?_⟩
    · replace H := H.1 c
      exact a_vret (pc := 93) (dk dt_X2_acknowledge 51 rfl) rfl rfl H
    · replace H := H.2 c
      refine a_aload_n (pc := 88) (dk dt_X2_acknowledge 48 rfl) rfl ?_
      refine a_iconst (pc := 89) (dk dt_X2_acknowledge 49 rfl) (ik rfl) ?_
      refine a_puti (pc := 90) (dk dt_X2_acknowledge 50 rfl) cls_2 fl_RX2_88 cf_65_10 rfl rfl ?_
      exact a_vret (pc := 93) (dk dt_X2_acknowledge 51 rfl) rfl rfl H
  · replace H := H.2 c
    refine a_iload_n (pc := 24) (dk dt_X2_acknowledge 14 rfl) rfl ?_
    refine a_istore (pc := 25) (dk dt_X2_acknowledge 15 rfl) (by decide) rfl rfl ?_
    exact a_pick [0, 2, 3, 4] rfl H
set_option maxHeartbeats 40000000 in
theorem U_X2_acknowledge_65_27 {G : GG} {Φ : Int → Hp → Prop} {h : Hp} {x2 : Int} {x3 : Int} {x4 : Int} (H : (((h 65 9) ≤ x4 → ((x2 ≠ 1 → Φ 0 (up (up h 65 9 (w32 ((h 65 9) - x3))) 65 10 (imax 0 (w32 ((h 65 10) - x3))))) ∧ (x2 = 1 → Φ 0 (up (up (up h 65 9 (w32 ((h 65 9) - x3))) 65 10 (imax 0 (w32 ((h 65 10) - x3)))) 65 10 0)))) ∧ (x4 < (h 65 9) → Call G m_X3_copy [rv 68, iv (w32 (x4 - x3)), rv 68, iv x4] h (fun _ h2 => AT G m_X2_acknowledge 27 [(0, rv 65), (2, iv x2), (3, iv x3), (4, iv (w32 (x4 + 1)))] [] h2 Φ)))) : AT G m_X2_acknowledge 27 [(0, rv 65), (2, iv x2), (3, iv x3), (4, iv x4)] [] h Φ := by
  refine a_iload (pc := 27) (dk dt_X2_acknowledge 16 rfl) rfl ?_
  refine a_aload_n (pc := 29) (dk dt_X2_acknowledge 17 rfl) rfl ?_
  refine a_geti (pc := 30) (dk dt_X2_acknowledge 18 rfl) cls_2 fl_RX2_78 cf_65_9 ?_
  refine a_icmp_ge (pc := 33) (dk dt_X2_acknowledge 19 rfl) (tgt := 59) rfl ⟨fun c => ?_, fun c => ?_⟩
  · replace H := H.1 c
    refine a_aload_n (pc := 59) (dk dt_X2_acknowledge 31 rfl) rfl ?_
    refine a_dup (pc := 60) (dk dt_X2_acknowledge 32 rfl) rfl ?_
    refine a_geti (pc := 61) (dk dt_X2_acknowledge 33 rfl) cls_2 fl_RX2_78 cf_65_9 ?_
    refine a_iload_n (pc := 64) (dk dt_X2_acknowledge 34 rfl) rfl ?_
    refine a_isub (pc := 65) (dk dt_X2_acknowledge 35 rfl) ?_
    refine a_puti (pc := 66) (dk dt_X2_acknowledge 36 rfl) cls_2 fl_RX2_78 cf_65_9 rfl rfl ?_
    refine a_aload_n (pc := 69) (dk dt_X2_acknowledge 37 rfl) rfl ?_
    refine a_iconst (pc := 70) (dk dt_X2_acknowledge 38 rfl) (ik rfl) ?_
    refine a_aload_n (pc := 71) (dk dt_X2_acknowledge 39 rfl) rfl ?_
    refine a_geti (pc := 72) (dk dt_X2_acknowledge 40 rfl) cls_2 fl_RX2_88 cf_65_10 ?_
    refine a_top (y := (h 65 10)) (by simp [up, cpy]) ?_
    refine a_iload_n (pc := 75) (dk dt_X2_acknowledge 41 rfl) rfl ?_
    refine a_isub (pc := 76) (dk dt_X2_acknowledge 42 rfl) ?_
    refine a_mmax (pc := 77) (dk dt_X2_acknowledge 43 rfl) cl_RX2_95 ⟨Nat.le_of_ble_eq_true rfl, Nat.le_of_ble_eq_true rfl⟩ ⟨Nat.le_of_ble_eq_true rfl, Nat.le_of_ble_eq_true rfl⟩ ?_
    refine a_puti (pc := 80) (dk dt_X2_acknowledge 44 rfl) cls_2 fl_RX2_88 cf_65_10 rfl rfl ?_
    refine a_iload_n (pc := 83) (dk dt_X2_acknowledge 45 rfl) rfl ?_
    refine a_iconst (pc := 84) (dk dt_X2_acknowledge 46 rfl) (ik rfl) ?_
    refine a_icmp_ne (pc := 85) (dk dt_X2_acknowledge 47 rfl) (tgt := 93) rfl ⟨fun c => ?_, fun c => ?_⟩
    · replace H := H.1 c
      exact a_vret (pc := 93) (dk dt_X2_acknowledge 51 rfl) rfl rfl H
    · replace H := H.2 c
      refine a_aload_n (pc := 88) (dk dt_X2_acknowledge 48 rfl) rfl ?_
      refine a_iconst (pc := 89) (dk dt_X2_acknowledge 49 rfl) (ik rfl) ?_
      refine a_puti (pc := 90) (dk dt_X2_acknowledge 50 rfl) cls_2 fl_RX2_88 cf_65_10 rfl rfl ?_
      exact a_vret (pc := 93) (dk dt_X2_acknowledge 51 rfl) rfl rfl H
  · replace H := H.2 c
    refine a_aload_n (pc := 36) (dk dt_X2_acknowledge 20 rfl) rfl ?_
    refine a_getr (r := 67) (pc := 37) (dk dt_X2_acknowledge 21 rfl) cls_2 fl_RX2_23 cf_65_8 ?_
    refine a_iload (pc := 40) (dk dt_X2_acknowledge 22 rfl) rfl ?_
    refine a_iload_n (pc := 42) (dk dt_X2_acknowledge 23 rfl) rfl ?_
    refine a_isub (pc := 43) (dk dt_X2_acknowledge 24 rfl) ?_
    refine a_aload_n (pc := 44) (dk dt_X2_acknowledge 25 rfl) rfl ?_
    refine a_getr (r := 67) (pc := 45) (dk dt_X2_acknowledge 26 rfl) cls_2 fl_RX2_23 cf_65_8 ?_
    refine a_iload (pc := 48) (dk dt_X2_acknowledge 27 rfl) rfl ?_
    refine a_callVv (as := [iv (w32 (x4 - x3)), rv 68, iv x4]) (st := []) (pc := 50) (dk dt_X2_acknowledge 28 rfl) cl_RX2_84 ⟨Nat.le_of_ble_eq_true rfl, Nat.le_of_ble_eq_true rfl⟩ ⟨Nat.le_of_ble_eq_true rfl, Nat.le_of_ble_eq_true rfl⟩ cls_3 rfl cc_68 rfl rfl rfl (Nat.le_of_ble_eq_true rfl) (Call.mono H fun _ h2 H => ?_)
    refine a_iinc (pc := 53) (dk dt_X2_acknowledge 29 rfl) (by decide) rfl rfl rfl ?_
    refine a_goto (pc := 56) (dk dt_X2_acknowledge 30 rfl) (tgt := 27) rfl ?_
    exact a_pick [0, 1, 2, 3] rfl H
set_option maxHeartbeats 40000000 in
theorem U_X2_begin_65_0 {G : GG} {Φ : Int → Hp → Prop} {h : Hp} {x1 : Int} {x2 : Int} (H : (((h 65 2) = 0 → (((h 65 2) = 0 → Φ x2 (up (up (up h 65 2 1) 65 3 x1) 65 5 0)) ∧ ((h 65 2) ≠ 0 → Φ x2 (up (up (up (up h 65 0 (w32 ((h 65 0) + 1))) 65 2 1) 65 3 x1) 65 5 0)))) ∧ ((h 65 2) ≠ 0 → ((x1 ≠ (band (w32 ((h 65 3) + 1)) 255) → (((h 65 2) = 0 → Φ x2 (up (up (up h 65 2 1) 65 3 x1) 65 5 0)) ∧ ((h 65 2) ≠ 0 → Φ x2 (up (up (up (up h 65 0 (w32 ((h 65 0) + 1))) 65 2 1) 65 3 x1) 65 5 0)))) ∧ (x1 = (band (w32 ((h 65 3) + 1)) 255) → (((h 65 2) = 0 → Φ 0 (up (up h 65 2 1) 65 3 x1)) ∧ ((h 65 2) ≠ 0 → Φ 0 (up (up h 65 2 1) 65 3 x1)))))))) : AT G m_X2_begin 0 [(0, rv 65), (1, iv x1), (2, iv x2)] [] h Φ := by
  refine a_aload_n (pc := 0) (dk dt_X2_begin 0 rfl) rfl ?_
  refine a_geti (pc := 1) (dk dt_X2_begin 1 rfl) cls_2 fl_RX2_49 cf_65_2 ?_
  refine a_if_eq (pc := 4) (dk dt_X2_begin 2 rfl) (tgt := 25) rfl ⟨fun c => ?_, fun c => ?_⟩
  · replace H := H.1 c
    refine a_iconst (pc := 25) (dk dt_X2_begin 13 rfl) (ik rfl) ?_
    refine a_istore_n (pc := 26) (dk dt_X2_begin 14 rfl) (by decide) rfl rfl ?_
    refine a_aload_n (pc := 27) (dk dt_X2_begin 15 rfl) rfl ?_
    refine a_geti (pc := 28) (dk dt_X2_begin 16 rfl) cls_2 fl_RX2_49 cf_65_2 ?_
    refine a_if_eq (pc := 31) (dk dt_X2_begin 17 rfl) (tgt := 48) rfl ⟨fun c => ?_, fun c => ?_⟩
    · replace H := H.1 c
      refine a_aload_n (pc := 48) (dk dt_X2_begin 26 rfl) rfl ?_
      refine a_iconst (pc := 49) (dk dt_X2_begin 27 rfl) (ik rfl) ?_
      refine a_putz (pc := 50) (dk dt_X2_begin 28 rfl) cls_2 fl_RX2_49 cf_65_2 rfl rfl ⟨by decide, ?_⟩
      refine a_aload_n (pc := 53) (dk dt_X2_begin 29 rfl) rfl ?_
      refine a_iload_n (pc := 54) (dk dt_X2_begin 30 rfl) rfl ?_
      refine a_puti (pc := 55) (dk dt_X2_begin 31 rfl) cls_2 fl_RX2_53 cf_65_3 rfl rfl ?_
      refine a_iload_n (pc := 58) (dk dt_X2_begin 32 rfl) rfl ?_
      refine a_if_eq (pc := 59) (dk dt_X2_begin 33 rfl) (tgt := 64) rfl ⟨fun _ => ?_, fun c => absurd c (by decide)⟩
      refine a_aload_n (pc := 64) (dk dt_X2_begin 36 rfl) rfl ?_
      refine a_iconst (pc := 65) (dk dt_X2_begin 37 rfl) (ik rfl) ?_
      refine a_puti (pc := 66) (dk dt_X2_begin 38 rfl) cls_2 fl_RX2_59 cf_65_5 rfl rfl ?_
      refine a_iload_n (pc := 69) (dk dt_X2_begin 39 rfl) rfl ?_
      exact a_iret (pc := 70) (dk dt_X2_begin 40 rfl) rfl rfl H
    · replace H := H.2 c
      refine a_iload_n (pc := 34) (dk dt_X2_begin 18 rfl) rfl ?_
      refine a_if_ne (pc := 35) (dk dt_X2_begin 19 rfl) (tgt := 48) rfl ⟨fun c => absurd c (by decide), fun _ => ?_⟩
      refine a_aload_n (pc := 38) (dk dt_X2_begin 20 rfl) rfl ?_
      refine a_dup (pc := 39) (dk dt_X2_begin 21 rfl) rfl ?_
      refine a_geti (pc := 40) (dk dt_X2_begin 22 rfl) cls_2 fl_RX2_56 cf_65_0 ?_
      refine a_iconst (pc := 43) (dk dt_X2_begin 23 rfl) (ik rfl) ?_
      refine a_iadd (pc := 44) (dk dt_X2_begin 24 rfl) ?_
      refine a_puti (pc := 45) (dk dt_X2_begin 25 rfl) cls_2 fl_RX2_56 cf_65_0 rfl rfl ?_
      refine a_aload_n (pc := 48) (dk dt_X2_begin 26 rfl) rfl ?_
      refine a_iconst (pc := 49) (dk dt_X2_begin 27 rfl) (ik rfl) ?_
      refine a_putz (pc := 50) (dk dt_X2_begin 28 rfl) cls_2 fl_RX2_49 cf_65_2 rfl rfl ⟨by decide, ?_⟩
      refine a_aload_n (pc := 53) (dk dt_X2_begin 29 rfl) rfl ?_
      refine a_iload_n (pc := 54) (dk dt_X2_begin 30 rfl) rfl ?_
      refine a_puti (pc := 55) (dk dt_X2_begin 31 rfl) cls_2 fl_RX2_53 cf_65_3 rfl rfl ?_
      refine a_iload_n (pc := 58) (dk dt_X2_begin 32 rfl) rfl ?_
      refine a_if_eq (pc := 59) (dk dt_X2_begin 33 rfl) (tgt := 64) rfl ⟨fun _ => ?_, fun c => absurd c (by decide)⟩
      refine a_aload_n (pc := 64) (dk dt_X2_begin 36 rfl) rfl ?_
      refine a_iconst (pc := 65) (dk dt_X2_begin 37 rfl) (ik rfl) ?_
      refine a_puti (pc := 66) (dk dt_X2_begin 38 rfl) cls_2 fl_RX2_59 cf_65_5 rfl rfl ?_
      refine a_iload_n (pc := 69) (dk dt_X2_begin 39 rfl) rfl ?_
      exact a_iret (pc := 70) (dk dt_X2_begin 40 rfl) rfl rfl H
  · replace H := H.2 c
    refine a_iload_n (pc := 7) (dk dt_X2_begin 3 rfl) rfl ?_
    refine a_aload_n (pc := 8) (dk dt_X2_begin 4 rfl) rfl ?_
    refine a_geti (pc := 9) (dk dt_X2_begin 5 rfl) cls_2 fl_RX2_53 cf_65_3 ?_
    refine a_iconst (pc := 12) (dk dt_X2_begin 6 rfl) (ik rfl) ?_
    refine a_iadd (pc := 13) (dk dt_X2_begin 7 rfl) ?_
    refine a_sipush (pc := 14) (dk dt_X2_begin 8 rfl) (ik rfl) (spk rfl) ?_
    refine a_iand (pc := 17) (dk dt_X2_begin 9 rfl) ?_
    refine a_icmp_ne (pc := 18) (dk dt_X2_begin 10 rfl) (tgt := 25) rfl ⟨fun c => ?_, fun c => ?_⟩
    · replace H := H.1 c
      refine a_iconst (pc := 25) (dk dt_X2_begin 13 rfl) (ik rfl) ?_
      refine a_istore_n (pc := 26) (dk dt_X2_begin 14 rfl) (by decide) rfl rfl ?_
      refine a_aload_n (pc := 27) (dk dt_X2_begin 15 rfl) rfl ?_
      refine a_geti (pc := 28) (dk dt_X2_begin 16 rfl) cls_2 fl_RX2_49 cf_65_2 ?_
      refine a_if_eq (pc := 31) (dk dt_X2_begin 17 rfl) (tgt := 48) rfl ⟨fun c => ?_, fun c => ?_⟩
      · replace H := H.1 c
        refine a_aload_n (pc := 48) (dk dt_X2_begin 26 rfl) rfl ?_
        refine a_iconst (pc := 49) (dk dt_X2_begin 27 rfl) (ik rfl) ?_
        refine a_putz (pc := 50) (dk dt_X2_begin 28 rfl) cls_2 fl_RX2_49 cf_65_2 rfl rfl ⟨by decide, ?_⟩
        refine a_aload_n (pc := 53) (dk dt_X2_begin 29 rfl) rfl ?_
        refine a_iload_n (pc := 54) (dk dt_X2_begin 30 rfl) rfl ?_
        refine a_puti (pc := 55) (dk dt_X2_begin 31 rfl) cls_2 fl_RX2_53 cf_65_3 rfl rfl ?_
        refine a_iload_n (pc := 58) (dk dt_X2_begin 32 rfl) rfl ?_
        refine a_if_eq (pc := 59) (dk dt_X2_begin 33 rfl) (tgt := 64) rfl ⟨fun _ => ?_, fun c => absurd c (by decide)⟩
        refine a_aload_n (pc := 64) (dk dt_X2_begin 36 rfl) rfl ?_
        refine a_iconst (pc := 65) (dk dt_X2_begin 37 rfl) (ik rfl) ?_
        refine a_puti (pc := 66) (dk dt_X2_begin 38 rfl) cls_2 fl_RX2_59 cf_65_5 rfl rfl ?_
        refine a_iload_n (pc := 69) (dk dt_X2_begin 39 rfl) rfl ?_
        exact a_iret (pc := 70) (dk dt_X2_begin 40 rfl) rfl rfl H
      · replace H := H.2 c
        refine a_iload_n (pc := 34) (dk dt_X2_begin 18 rfl) rfl ?_
        refine a_if_ne (pc := 35) (dk dt_X2_begin 19 rfl) (tgt := 48) rfl ⟨fun c => absurd c (by decide), fun _ => ?_⟩
        refine a_aload_n (pc := 38) (dk dt_X2_begin 20 rfl) rfl ?_
        refine a_dup (pc := 39) (dk dt_X2_begin 21 rfl) rfl ?_
        refine a_geti (pc := 40) (dk dt_X2_begin 22 rfl) cls_2 fl_RX2_56 cf_65_0 ?_
        refine a_iconst (pc := 43) (dk dt_X2_begin 23 rfl) (ik rfl) ?_
        refine a_iadd (pc := 44) (dk dt_X2_begin 24 rfl) ?_
        refine a_puti (pc := 45) (dk dt_X2_begin 25 rfl) cls_2 fl_RX2_56 cf_65_0 rfl rfl ?_
        refine a_aload_n (pc := 48) (dk dt_X2_begin 26 rfl) rfl ?_
        refine a_iconst (pc := 49) (dk dt_X2_begin 27 rfl) (ik rfl) ?_
        refine a_putz (pc := 50) (dk dt_X2_begin 28 rfl) cls_2 fl_RX2_49 cf_65_2 rfl rfl ⟨by decide, ?_⟩
        refine a_aload_n (pc := 53) (dk dt_X2_begin 29 rfl) rfl ?_
        refine a_iload_n (pc := 54) (dk dt_X2_begin 30 rfl) rfl ?_
        refine a_puti (pc := 55) (dk dt_X2_begin 31 rfl) cls_2 fl_RX2_53 cf_65_3 rfl rfl ?_
        refine a_iload_n (pc := 58) (dk dt_X2_begin 32 rfl) rfl ?_
        refine a_if_eq (pc := 59) (dk dt_X2_begin 33 rfl) (tgt := 64) rfl ⟨fun _ => ?_, fun c => absurd c (by decide)⟩
        refine a_aload_n (pc := 64) (dk dt_X2_begin 36 rfl) rfl ?_
        refine a_iconst (pc := 65) (dk dt_X2_begin 37 rfl) (ik rfl) ?_
        refine a_puti (pc := 66) (dk dt_X2_begin 38 rfl) cls_2 fl_RX2_59 cf_65_5 rfl rfl ?_
        refine a_iload_n (pc := 69) (dk dt_X2_begin 39 rfl) rfl ?_
        exact a_iret (pc := 70) (dk dt_X2_begin 40 rfl) rfl rfl H
    · replace H := H.2 c
      refine a_iconst (pc := 21) (dk dt_X2_begin 11 rfl) (ik rfl) ?_
      refine a_goto (pc := 22) (dk dt_X2_begin 12 rfl) (tgt := 26) rfl ?_
      refine a_istore_n (pc := 26) (dk dt_X2_begin 14 rfl) (by decide) rfl rfl ?_
      refine a_aload_n (pc := 27) (dk dt_X2_begin 15 rfl) rfl ?_
      refine a_geti (pc := 28) (dk dt_X2_begin 16 rfl) cls_2 fl_RX2_49 cf_65_2 ?_
      refine a_if_eq (pc := 31) (dk dt_X2_begin 17 rfl) (tgt := 48) rfl ⟨fun c => ?_, fun c => ?_⟩
      · replace H := H.1 c
        refine a_aload_n (pc := 48) (dk dt_X2_begin 26 rfl) rfl ?_
        refine a_iconst (pc := 49) (dk dt_X2_begin 27 rfl) (ik rfl) ?_
        refine a_putz (pc := 50) (dk dt_X2_begin 28 rfl) cls_2 fl_RX2_49 cf_65_2 rfl rfl ⟨by decide, ?_⟩
        refine a_aload_n (pc := 53) (dk dt_X2_begin 29 rfl) rfl ?_
        refine a_iload_n (pc := 54) (dk dt_X2_begin 30 rfl) rfl ?_
        refine a_puti (pc := 55) (dk dt_X2_begin 31 rfl) cls_2 fl_RX2_53 cf_65_3 rfl rfl ?_
        refine a_iload_n (pc := 58) (dk dt_X2_begin 32 rfl) rfl ?_
        refine a_if_eq (pc := 59) (dk dt_X2_begin 33 rfl) (tgt := 64) rfl ⟨fun c => absurd c (by decide), fun _ => ?_⟩
        refine a_iconst (pc := 62) (dk dt_X2_begin 34 rfl) (ik rfl) ?_
        exact a_iret (pc := 63) (dk dt_X2_begin 35 rfl) rfl rfl H
      · replace H := H.2 c
        refine a_iload_n (pc := 34) (dk dt_X2_begin 18 rfl) rfl ?_
        refine a_if_ne (pc := 35) (dk dt_X2_begin 19 rfl) (tgt := 48) rfl ⟨fun _ => ?_, fun c => absurd c (by decide)⟩
        refine a_aload_n (pc := 48) (dk dt_X2_begin 26 rfl) rfl ?_
        refine a_iconst (pc := 49) (dk dt_X2_begin 27 rfl) (ik rfl) ?_
        refine a_putz (pc := 50) (dk dt_X2_begin 28 rfl) cls_2 fl_RX2_49 cf_65_2 rfl rfl ⟨by decide, ?_⟩
        refine a_aload_n (pc := 53) (dk dt_X2_begin 29 rfl) rfl ?_
        refine a_iload_n (pc := 54) (dk dt_X2_begin 30 rfl) rfl ?_
        refine a_puti (pc := 55) (dk dt_X2_begin 31 rfl) cls_2 fl_RX2_53 cf_65_3 rfl rfl ?_
        refine a_iload_n (pc := 58) (dk dt_X2_begin 32 rfl) rfl ?_
        refine a_if_eq (pc := 59) (dk dt_X2_begin 33 rfl) (tgt := 64) rfl ⟨fun c => absurd c (by decide), fun _ => ?_⟩
        refine a_iconst (pc := 62) (dk dt_X2_begin 34 rfl) (ik rfl) ?_
        exact a_iret (pc := 63) (dk dt_X2_begin 35 rfl) rfl rfl H
set_option maxHeartbeats 40000000 in
theorem U_X2_pieceTogether_65_33_0 {G : GG} {Φ : Int → Hp → Prop} {h : Hp} {x2 : Int} {x3 : Int} (H : AT G m_X2_pieceTogether 6 [(0, rv 65), (1, rv 33), (2, iv x2), (4, iv 0), (5, iv x3)] [] h Φ) : AT G m_X2_pieceTogether 0 [(0, rv 65), (1, rv 33), (2, iv x2), (3, iv x3)] [] h Φ := by
  refine a_iconst (pc := 0) (dk dt_X2_pieceTogether 0 rfl) (ik rfl) ?_
  refine a_istore (pc := 1) (dk dt_X2_pieceTogether 1 rfl) (by decide) rfl rfl ?_
  refine a_iload_n (pc := 3) (dk dt_X2_pieceTogether 2 rfl) rfl ?_
  refine a_istore (pc := 4) (dk dt_X2_pieceTogether 3 rfl) (by decide) rfl rfl ?_
  exact a_pick [0, 1, 2, 4, 5] rfl H
set_option maxHeartbeats 40000000 in
theorem U_X2_pieceTogether_65_33_6 {G : GG} {Φ : Int → Hp → Prop} {h : Hp} {x2 : Int} {x4 : Int} {x5 : Int} (H : ((18 ≤ x5 → Φ x4 h) ∧ (x5 < 18 → (0 ≤ (w32 (x2 + x5)) ∧ (w32 (x2 + x5)) < 744) ∧ (((h 65 5) ≠ 0 → (((h 65 5) ≠ 4 → (0 ≤ (h 65 5) ∧ (h 65 5) < 9) ∧ (((w32 ((h 65 5) + 1)) < 5 → AT G m_X2_pieceTogether 6 [(0, rv 65), (1, rv 33), (2, iv x2), (4, iv x4), (5, iv (w32 (x5 + 1)))] [] (up (up h 66 (h 65 5) (h 33 (w32 (x2 + x5)))) 65 5 (w32 ((h 65 5) + 1))) Φ) ∧ (5 ≤ (w32 ((h 65 5) + 1)) → (((w32 ((h 65 5) + 1)) ≠ (w32 (5 + ((up h 66 (h 65 5) (h 33 (w32 (x2 + x5)))) 66 4))) → AT G m_X2_pieceTogether 6 [(0, rv 65), (1, rv 33), (2, iv x2), (4, iv x4), (5, iv (w32 (x5 + 1)))] [] (up (up h 66 (h 65 5) (h 33 (w32 (x2 + x5)))) 65 5 (w32 ((h 65 5) + 1))) Φ) ∧ ((w32 ((h 65 5) + 1)) = (w32 (5 + ((up h 66 (h 65 5) (h 33 (w32 (x2 + x5)))) 66 4))) → Call G m_X2_putInArchive [rv 65] (up (up h 66 (h 65 5) (h 33 (w32 (x2 + x5)))) 65 5 (w32 ((h 65 5) + 1))) (fun _ h2 => AT G m_X2_pieceTogether 6 [(0, rv 65), (1, rv 33), (2, iv x2), (4, iv (w32 (x4 + 1))), (5, iv (w32 (x5 + 1)))] [] h2 Φ)))))) ∧ ((h 65 5) = 4 → (((h 33 (w32 (x2 + x5))) < 1 → Φ x4 (up h 65 5 0)) ∧ (1 ≤ (h 33 (w32 (x2 + x5))) → ((4 < (h 33 (w32 (x2 + x5))) → Φ x4 (up h 65 5 0)) ∧ ((h 33 (w32 (x2 + x5))) ≤ 4 → (0 ≤ (h 65 5) ∧ (h 65 5) < 9) ∧ (((w32 ((h 65 5) + 1)) < 5 → AT G m_X2_pieceTogether 6 [(0, rv 65), (1, rv 33), (2, iv x2), (4, iv x4), (5, iv (w32 (x5 + 1)))] [] (up (up h 66 (h 65 5) (h 33 (w32 (x2 + x5)))) 65 5 (w32 ((h 65 5) + 1))) Φ) ∧ (5 ≤ (w32 ((h 65 5) + 1)) → (((w32 ((h 65 5) + 1)) ≠ (w32 (5 + ((up h 66 (h 65 5) (h 33 (w32 (x2 + x5)))) 66 4))) → AT G m_X2_pieceTogether 6 [(0, rv 65), (1, rv 33), (2, iv x2), (4, iv x4), (5, iv (w32 (x5 + 1)))] [] (up (up h 66 (h 65 5) (h 33 (w32 (x2 + x5)))) 65 5 (w32 ((h 65 5) + 1))) Φ) ∧ ((w32 ((h 65 5) + 1)) = (w32 (5 + ((up h 66 (h 65 5) (h 33 (w32 (x2 + x5)))) 66 4))) → Call G m_X2_putInArchive [rv 65] (up (up h 66 (h 65 5) (h 33 (w32 (x2 + x5)))) 65 5 (w32 ((h 65 5) + 1))) (fun _ h4 => AT G m_X2_pieceTogether 6 [(0, rv 65), (1, rv 33), (2, iv x2), (4, iv (w32 (x4 + 1))), (5, iv (w32 (x5 + 1)))] [] h4 Φ)))))))))))) ∧ ((h 65 5) = 0 → (((h 33 (w32 (x2 + x5))) < 10 → Φ x4 (up h 65 5 0)) ∧ (10 ≤ (h 33 (w32 (x2 + x5))) → ((25 < (h 33 (w32 (x2 + x5))) → Φ x4 (up h 65 5 0)) ∧ ((h 33 (w32 (x2 + x5))) ≤ 25 → (((h 65 5) ≠ 4 → (0 ≤ (h 65 5) ∧ (h 65 5) < 9) ∧ (((w32 ((h 65 5) + 1)) < 5 → AT G m_X2_pieceTogether 6 [(0, rv 65), (1, rv 33), (2, iv x2), (4, iv x4), (5, iv (w32 (x5 + 1)))] [] (up (up h 66 (h 65 5) (h 33 (w32 (x2 + x5)))) 65 5 (w32 ((h 65 5) + 1))) Φ) ∧ (5 ≤ (w32 ((h 65 5) + 1)) → (((w32 ((h 65 5) + 1)) ≠ (w32 (5 + ((up h 66 (h 65 5) (h 33 (w32 (x2 + x5)))) 66 4))) → AT G m_X2_pieceTogether 6 [(0, rv 65), (1, rv 33), (2, iv x2), (4, iv x4), (5, iv (w32 (x5 + 1)))] [] (up (up h 66 (h 65 5) (h 33 (w32 (x2 + x5)))) 65 5 (w32 ((h 65 5) + 1))) Φ) ∧ ((w32 ((h 65 5) + 1)) = (w32 (5 + ((up h 66 (h 65 5) (h 33 (w32 (x2 + x5)))) 66 4))) → Call G m_X2_putInArchive [rv 65] (up (up h 66 (h 65 5) (h 33 (w32 (x2 + x5)))) 65 5 (w32 ((h 65 5) + 1))) (fun _ h6 => AT G m_X2_pieceTogether 6 [(0, rv 65), (1, rv 33), (2, iv x2), (4, iv (w32 (x4 + 1))), (5, iv (w32 (x5 + 1)))] [] h6 Φ)))))) ∧ ((h 65 5) = 4 → (((h 33 (w32 (x2 + x5))) < 1 → Φ x4 (up h 65 5 0)) ∧ (1 ≤ (h 33 (w32 (x2 + x5))) → ((4 < (h 33 (w32 (x2 + x5))) → Φ x4 (up h 65 5 0)) ∧ ((h 33 (w32 (x2 + x5))) ≤ 4 → (0 ≤ (h 65 5) ∧ (h 65 5) < 9) ∧ (((w32 ((h 65 5) + 1)) < 5 → AT G m_X2_pieceTogether 6 [(0, rv 65), (1, rv 33), (2, iv x2), (4, iv x4), (5, iv (w32 (x5 + 1)))] [] (up (up h 66 (h 65 5) (h 33 (w32 (x2 + x5)))) 65 5 (w32 ((h 65 5) + 1))) Φ) ∧ (5 ≤ (w32 ((h 65 5) + 1)) → (((w32 ((h 65 5) + 1)) ≠ (w32 (5 + ((up h 66 (h 65 5) (h 33 (w32 (x2 + x5)))) 66 4))) → AT G m_X2_pieceTogether 6 [(0, rv 65), (1, rv 33), (2, iv x2), (4, iv x4), (5, iv (w32 (x5 + 1)))] [] (up (up h 66 (h 65 5) (h 33 (w32 (x2 + x5)))) 65 5 (w32 ((h 65 5) + 1))) Φ) ∧ ((w32 ((h 65 5) + 1)) = (w32 (5 + ((up h 66 (h 65 5) (h 33 (w32 (x2 + x5)))) 66 4))) → Call G m_X2_putInArchive [rv 65] (up (up h 66 (h 65 5) (h 33 (w32 (x2 + x5)))) 65 5 (w32 ((h 65 5) + 1))) (fun _ h8 => AT G m_X2_pieceTogether 6 [(0, rv 65), (1, rv 33), (2, iv x2), (4, iv (w32 (x4 + 1))), (5, iv (w32 (x5 + 1)))] [] h8 Φ)))))))))))))))))))) : AT G m_X2_pieceTogether 6 [(0, rv 65), (1, rv 33), (2, iv x2), (4, iv x4), (5, iv x5)] [] h Φ := by
  refine a_iload (pc := 6) (dk dt_X2_pieceTogether 4 rfl) rfl ?_
  refine a_bipush (pc := 8) (dk dt_X2_pieceTogether 5 rfl) (ik rfl) (bpk rfl) ?_
  refine a_icmp_ge (pc := 10) (dk dt_X2_pieceTogether 6 rfl) (tgt := 135) rfl ⟨fun c => ?_, fun c => ?_⟩
  · replace H := H.1 c
    refine a_iload (pc := 135) (dk dt_X2_pieceTogether 71 rfl) rfl ?_
    exact a_iret (pc := 137) (dk dt_X2_pieceTogether 72 rfl) rfl rfl H
  · replace H := H.2 c
    refine a_aload_n (pc := 13) (dk dt_X2_pieceTogether 7 rfl) rfl ?_
    refine a_iload_n (pc := 14) (dk dt_X2_pieceTogether 8 rfl) rfl ?_
    refine a_iload (pc := 15) (dk dt_X2_pieceTogether 9 rfl) rfl ?_
    refine a_iadd (pc := 17) (dk dt_X2_pieceTogether 10 rfl) ?_
    refine a_iald (pc := 18) (dk dt_X2_pieceTogether 11 rfl) ar_33 ⟨H.1, ?_⟩
    replace H := H.2
    refine a_istore (pc := 19) (dk dt_X2_pieceTogether 12 rfl) (by decide) rfl rfl ?_
    refine a_aload_n (pc := 21) (dk dt_X2_pieceTogether 13 rfl) rfl ?_
    refine a_geti (pc := 22) (dk dt_X2_pieceTogether 14 rfl) cls_2 fl_RX2_59 cf_65_5 ?_
    refine a_if_ne (pc := 25) (dk dt_X2_pieceTogether 15 rfl) (tgt := 40) rfl ⟨fun c => ?_, fun c => ?_⟩
    · replace H := H.1 c
      refine a_aload_n (pc := 40) (dk dt_X2_pieceTogether 21 rfl) rfl ?_
      refine a_geti (pc := 41) (dk dt_X2_pieceTogether 22 rfl) cls_2 fl_RX2_59 cf_65_5 ?_
      refine a_iconst (pc := 44) (dk dt_X2_pieceTogether 23 rfl) (ik rfl) ?_
      refine a_icmp_ne (pc := 45) (dk dt_X2_pieceTogether 24 rfl) (tgt := 62) rfl ⟨fun c => ?_, fun c => ?_⟩
      · replace H := H.1 c
        refine a_iconst (pc := 62) (dk dt_X2_pieceTogether 32 rfl) (ik rfl) ?_
        refine a_istore (pc := 63) (dk dt_X2_pieceTogether 33 rfl) (by decide) rfl rfl ?_
        refine a_iload (pc := 65) (dk dt_X2_pieceTogether 34 rfl) rfl ?_
        refine a_if_eq (pc := 67) (dk dt_X2_pieceTogether 35 rfl) (tgt := 78) rfl ⟨fun _ => ?_, fun c => absurd c (by decide)⟩
        refine a_aload_n (pc := 78) (dk dt_X2_pieceTogether 41 rfl) rfl ?_
        refine a_getr (r := 65) (pc := 79) (dk dt_X2_pieceTogether 42 rfl) cls_2 fl_RX2_9 cf_65_4 ?_
        refine a_aload_n (pc := 82) (dk dt_X2_pieceTogether 43 rfl) rfl ?_
        refine a_geti (pc := 83) (dk dt_X2_pieceTogether 44 rfl) cls_2 fl_RX2_59 cf_65_5 ?_
        refine a_iload (pc := 86) (dk dt_X2_pieceTogether 45 rfl) rfl ?_
        refine a_iast (pc := 88) (dk dt_X2_pieceTogether 46 rfl) ar_66 ⟨H.1, ?_⟩
        replace H := H.2
        refine a_aload_n (pc := 89) (dk dt_X2_pieceTogether 47 rfl) rfl ?_
        refine a_dup (pc := 90) (dk dt_X2_pieceTogether 48 rfl) rfl ?_
        refine a_geti (pc := 91) (dk dt_X2_pieceTogether 49 rfl) cls_2 fl_RX2_59 cf_65_5 ?_
        refine a_top (y := (h 65 5)) (by simp [up, cpy]) ?_
        refine a_iconst (pc := 94) (dk dt_X2_pieceTogether 50 rfl) (ik rfl) ?_
        refine a_iadd (pc := 95) (dk dt_X2_pieceTogether 51 rfl) ?_
        refine a_puti (pc := 96) (dk dt_X2_pieceTogether 52 rfl) cls_2 fl_RX2_59 cf_65_5 rfl rfl ?_
        refine a_aload_n (pc := 99) (dk dt_X2_pieceTogether 53 rfl) rfl ?_
        refine a_geti (pc := 100) (dk dt_X2_pieceTogether 54 rfl) cls_2 fl_RX2_59 cf_65_5 ?_
        refine a_top (y := (w32 ((h 65 5) + 1))) (by simp [up, cpy]) ?_
        refine a_iconst (pc := 103) (dk dt_X2_pieceTogether 55 rfl) (ik rfl) ?_
        refine a_icmp_lt (pc := 104) (dk dt_X2_pieceTogether 56 rfl) (tgt := 129) rfl ⟨fun c => ?_, fun c => ?_⟩
        · replace H := H.1 c
          refine a_iinc (pc := 129) (dk dt_X2_pieceTogether 69 rfl) (by decide) rfl rfl rfl ?_
          refine a_goto (pc := 132) (dk dt_X2_pieceTogether 70 rfl) (tgt := 6) rfl ?_
          exact a_pick [0, 1, 2, 3, 4] rfl H
        · replace H := H.2 c
          refine a_aload_n (pc := 107) (dk dt_X2_pieceTogether 57 rfl) rfl ?_
          refine a_geti (pc := 108) (dk dt_X2_pieceTogether 58 rfl) cls_2 fl_RX2_59 cf_65_5 ?_
          refine a_top (y := (w32 ((h 65 5) + 1))) (by simp [up, cpy]) ?_
          refine a_iconst (pc := 111) (dk dt_X2_pieceTogether 59 rfl) (ik rfl) ?_
          refine a_aload_n (pc := 112) (dk dt_X2_pieceTogether 60 rfl) rfl ?_
          refine a_getr (r := 65) (pc := 113) (dk dt_X2_pieceTogether 61 rfl) cls_2 fl_RX2_9 cf_65_4 ?_
          refine a_iconst (pc := 116) (dk dt_X2_pieceTogether 62 rfl) (ik rfl) ?_
          refine a_iald (pc := 117) (dk dt_X2_pieceTogether 63 rfl) ar_66 ⟨⟨by decide, by decide⟩, ?_⟩
          refine a_top (y := ((up h 66 (h 65 5) (h 33 (w32 (x2 + x5)))) 66 4)) (by simp [up, cpy]) ?_
          refine a_iadd (pc := 118) (dk dt_X2_pieceTogether 64 rfl) ?_
          refine a_icmp_ne (pc := 119) (dk dt_X2_pieceTogether 65 rfl) (tgt := 129) rfl ⟨fun c => ?_, fun c => ?_⟩
          · replace H := H.1 c
            refine a_iinc (pc := 129) (dk dt_X2_pieceTogether 69 rfl) (by decide) rfl rfl rfl ?_
            refine a_goto (pc := 132) (dk dt_X2_pieceTogether 70 rfl) (tgt := 6) rfl ?_
            exact a_pick [0, 1, 2, 3, 4] rfl H
          · replace H := H.2 c
            refine a_aload_n (pc := 122) (dk dt_X2_pieceTogether 66 rfl) rfl ?_
            refine a_callVv (as := []) (st := []) (pc := 123) (dk dt_X2_pieceTogether 67 rfl) cl_RX2_66 ⟨Nat.le_of_ble_eq_true rfl, Nat.le_of_ble_eq_true rfl⟩ ⟨Nat.le_of_ble_eq_true rfl, Nat.le_of_ble_eq_true rfl⟩ cls_2 rfl cc_65 rfl rfl rfl (Nat.le_of_ble_eq_true rfl) (Call.mono H fun _ h2 H => ?_)
            refine a_iinc (pc := 126) (dk dt_X2_pieceTogether 68 rfl) (by decide) rfl rfl rfl ?_
            refine a_iinc (pc := 129) (dk dt_X2_pieceTogether 69 rfl) (by decide) rfl rfl rfl ?_
            refine a_goto (pc := 132) (dk dt_X2_pieceTogether 70 rfl) (tgt := 6) rfl ?_
            exact a_pick [0, 1, 2, 3, 4] rfl H
      · replace H := H.2 c
        refine a_iload (pc := 48) (dk dt_X2_pieceTogether 25 rfl) rfl ?_
        refine a_iconst (pc := 50) (dk dt_X2_pieceTogether 26 rfl) (ik rfl) ?_
        refine a_iconst (pc := 51) (dk dt_X2_pieceTogether 27 rfl) (ik rfl) ?_
        refine a_callNi (as := [iv (h 33 (w32 (x2 + x5))), iv 1, iv 4]) (st := []) (pc := 52) (dk dt_X2_pieceTogether 28 rfl) cl_RX2_62 ⟨Nat.le_of_ble_eq_true rfl, Nat.le_of_ble_eq_true rfl⟩ ⟨Nat.le_of_ble_eq_true rfl, Nat.le_of_ble_eq_true rfl⟩ rfl rfl rfl (Nat.le_of_ble_eq_true rfl) (Call.of rfl (Nat.le_of_ble_eq_true rfl) rfl ?_)
        refine a_iload_n (pc := 0) (dk dt_X11_within 0 rfl) rfl ?_
        refine a_iload_n (pc := 1) (dk dt_X11_within 1 rfl) rfl ?_
        refine a_icmp_lt (pc := 2) (dk dt_X11_within 2 rfl) (tgt := 14) rfl ⟨fun c => ?_, fun c => ?_⟩
        · replace H := H.1 c
          refine a_iconst (pc := 14) (dk dt_X11_within 8 rfl) (ik rfl) ?_
          refine a_zret (pc := 15) (dk dt_X11_within 9 rfl) rfl rfl ⟨by decide, ?_⟩
          show ATW _ _ _ _ _ _ _ _ _ _
          refine a_if_ne (pc := 55) (dk dt_X2_pieceTogether 29 rfl) (tgt := 62) rfl ⟨fun c => absurd c (by decide), fun _ => ?_⟩
          refine a_iconst (pc := 58) (dk dt_X2_pieceTogether 30 rfl) (ik rfl) ?_
          refine a_goto (pc := 59) (dk dt_X2_pieceTogether 31 rfl) (tgt := 63) rfl ?_
          refine a_istore (pc := 63) (dk dt_X2_pieceTogether 33 rfl) (by decide) rfl rfl ?_
          refine a_iload (pc := 65) (dk dt_X2_pieceTogether 34 rfl) rfl ?_
          refine a_if_eq (pc := 67) (dk dt_X2_pieceTogether 35 rfl) (tgt := 78) rfl ⟨fun c => absurd c (by decide), fun _ => ?_⟩
          refine a_aload_n (pc := 70) (dk dt_X2_pieceTogether 36 rfl) rfl ?_
          refine a_iconst (pc := 71) (dk dt_X2_pieceTogether 37 rfl) (ik rfl) ?_
          refine a_puti (pc := 72) (dk dt_X2_pieceTogether 38 rfl) cls_2 fl_RX2_59 cf_65_5 rfl rfl ?_
          refine a_iload (pc := 75) (dk dt_X2_pieceTogether 39 rfl) rfl ?_
          exact a_iret (pc := 77) (dk dt_X2_pieceTogether 40 rfl) rfl rfl H
        · replace H := H.2 c
          refine a_iload_n (pc := 5) (dk dt_X11_within 3 rfl) rfl ?_
          refine a_iload_n (pc := 6) (dk dt_X11_within 4 rfl) rfl ?_
          refine a_icmp_gt (pc := 7) (dk dt_X11_within 5 rfl) (tgt := 14) rfl ⟨fun c => ?_, fun c => ?_⟩
          · replace H := H.1 c
            refine a_iconst (pc := 14) (dk dt_X11_within 8 rfl) (ik rfl) ?_
            refine a_zret (pc := 15) (dk dt_X11_within 9 rfl) rfl rfl ⟨by decide, ?_⟩
            show ATW _ _ _ _ _ _ _ _ _ _
            refine a_if_ne (pc := 55) (dk dt_X2_pieceTogether 29 rfl) (tgt := 62) rfl ⟨fun c => absurd c (by decide), fun _ => ?_⟩
            refine a_iconst (pc := 58) (dk dt_X2_pieceTogether 30 rfl) (ik rfl) ?_
            refine a_goto (pc := 59) (dk dt_X2_pieceTogether 31 rfl) (tgt := 63) rfl ?_
            refine a_istore (pc := 63) (dk dt_X2_pieceTogether 33 rfl) (by decide) rfl rfl ?_
            refine a_iload (pc := 65) (dk dt_X2_pieceTogether 34 rfl) rfl ?_
            refine a_if_eq (pc := 67) (dk dt_X2_pieceTogether 35 rfl) (tgt := 78) rfl ⟨fun c => absurd c (by decide), fun _ => ?_⟩
            refine a_aload_n (pc := 70) (dk dt_X2_pieceTogether 36 rfl) rfl ?_
            refine a_iconst (pc := 71) (dk dt_X2_pieceTogether 37 rfl) (ik rfl) ?_
            refine a_puti (pc := 72) (dk dt_X2_pieceTogether 38 rfl) cls_2 fl_RX2_59 cf_65_5 rfl rfl ?_
            refine a_iload (pc := 75) (dk dt_X2_pieceTogether 39 rfl) rfl ?_
            exact a_iret (pc := 77) (dk dt_X2_pieceTogether 40 rfl) rfl rfl H
          · replace H := H.2 c
            refine a_iconst (pc := 10) (dk dt_X11_within 6 rfl) (ik rfl) ?_
            refine a_goto (pc := 11) (dk dt_X11_within 7 rfl) (tgt := 15) rfl ?_
            refine a_zret (pc := 15) (dk dt_X11_within 9 rfl) rfl rfl ⟨by decide, ?_⟩
            show ATW _ _ _ _ _ _ _ _ _ _
            refine a_if_ne (pc := 55) (dk dt_X2_pieceTogether 29 rfl) (tgt := 62) rfl ⟨fun _ => ?_, fun c => absurd c (by decide)⟩
            refine a_iconst (pc := 62) (dk dt_X2_pieceTogether 32 rfl) (ik rfl) ?_
            refine a_istore (pc := 63) (dk dt_X2_pieceTogether 33 rfl) (by decide) rfl rfl ?_
            refine a_iload (pc := 65) (dk dt_X2_pieceTogether 34 rfl) rfl ?_
            refine a_if_eq (pc := 67) (dk dt_X2_pieceTogether 35 rfl) (tgt := 78) rfl ⟨fun _ => ?_, fun c => absurd c (by decide)⟩
            refine a_aload_n (pc := 78) (dk dt_X2_pieceTogether 41 rfl) rfl ?_
            refine a_getr (r := 65) (pc := 79) (dk dt_X2_pieceTogether 42 rfl) cls_2 fl_RX2_9 cf_65_4 ?_
            refine a_aload_n (pc := 82) (dk dt_X2_pieceTogether 43 rfl) rfl ?_
            refine a_geti (pc := 83) (dk dt_X2_pieceTogether 44 rfl) cls_2 fl_RX2_59 cf_65_5 ?_
            refine a_iload (pc := 86) (dk dt_X2_pieceTogether 45 rfl) rfl ?_
            refine a_iast (pc := 88) (dk dt_X2_pieceTogether 46 rfl) ar_66 ⟨H.1, ?_⟩
            replace H := H.2
            refine a_aload_n (pc := 89) (dk dt_X2_pieceTogether 47 rfl) rfl ?_
            refine a_dup (pc := 90) (dk dt_X2_pieceTogether 48 rfl) rfl ?_
            refine a_geti (pc := 91) (dk dt_X2_pieceTogether 49 rfl) cls_2 fl_RX2_59 cf_65_5 ?_
            refine a_top (y := (h 65 5)) (by simp [up, cpy]) ?_
            refine a_iconst (pc := 94) (dk dt_X2_pieceTogether 50 rfl) (ik rfl) ?_
            refine a_iadd (pc := 95) (dk dt_X2_pieceTogether 51 rfl) ?_
            refine a_puti (pc := 96) (dk dt_X2_pieceTogether 52 rfl) cls_2 fl_RX2_59 cf_65_5 rfl rfl ?_
            refine a_aload_n (pc := 99) (dk dt_X2_pieceTogether 53 rfl) rfl ?_
            refine a_geti (pc := 100) (dk dt_X2_pieceTogether 54 rfl) cls_2 fl_RX2_59 cf_65_5 ?_
            refine a_top (y := (w32 ((h 65 5) + 1))) (by simp [up, cpy]) ?_
            refine a_iconst (pc := 103) (dk dt_X2_pieceTogether 55 rfl) (ik rfl) ?_
            refine a_icmp_lt (pc := 104) (dk dt_X2_pieceTogether 56 rfl) (tgt := 129) rfl ⟨fun c => ?_, fun c => ?_⟩
            · replace H := H.1 c
              refine a_iinc (pc := 129) (dk dt_X2_pieceTogether 69 rfl) (by decide) rfl rfl rfl ?_
              refine a_goto (pc := 132) (dk dt_X2_pieceTogether 70 rfl) (tgt := 6) rfl ?_
              exact a_pick [0, 1, 2, 3, 4] rfl H
            · replace H := H.2 c
              refine a_aload_n (pc := 107) (dk dt_X2_pieceTogether 57 rfl) rfl ?_
              refine a_geti (pc := 108) (dk dt_X2_pieceTogether 58 rfl) cls_2 fl_RX2_59 cf_65_5 ?_
              refine a_top (y := (w32 ((h 65 5) + 1))) (by simp [up, cpy]) ?_
              refine a_iconst (pc := 111) (dk dt_X2_pieceTogether 59 rfl) (ik rfl) ?_
              refine a_aload_n (pc := 112) (dk dt_X2_pieceTogether 60 rfl) rfl ?_
              refine a_getr (r := 65) (pc := 113) (dk dt_X2_pieceTogether 61 rfl) cls_2 fl_RX2_9 cf_65_4 ?_
              refine a_iconst (pc := 116) (dk dt_X2_pieceTogether 62 rfl) (ik rfl) ?_
              refine a_iald (pc := 117) (dk dt_X2_pieceTogether 63 rfl) ar_66 ⟨⟨by decide, by decide⟩, ?_⟩
              refine a_top (y := ((up h 66 (h 65 5) (h 33 (w32 (x2 + x5)))) 66 4)) (by simp [up, cpy]) ?_
              refine a_iadd (pc := 118) (dk dt_X2_pieceTogether 64 rfl) ?_
              refine a_icmp_ne (pc := 119) (dk dt_X2_pieceTogether 65 rfl) (tgt := 129) rfl ⟨fun c => ?_, fun c => ?_⟩
              · replace H := H.1 c
                refine a_iinc (pc := 129) (dk dt_X2_pieceTogether 69 rfl) (by decide) rfl rfl rfl ?_
                refine a_goto (pc := 132) (dk dt_X2_pieceTogether 70 rfl) (tgt := 6) rfl ?_
                exact a_pick [0, 1, 2, 3, 4] rfl H
              · replace H := H.2 c
                refine a_aload_n (pc := 122) (dk dt_X2_pieceTogether 66 rfl) rfl ?_
                refine a_callVv (as := []) (st := []) (pc := 123) (dk dt_X2_pieceTogether 67 rfl) cl_RX2_66 ⟨Nat.le_of_ble_eq_true rfl, Nat.le_of_ble_eq_true rfl⟩ ⟨Nat.le_of_ble_eq_true rfl, Nat.le_of_ble_eq_true rfl⟩ cls_2 rfl cc_65 rfl rfl rfl (Nat.le_of_ble_eq_true rfl) (Call.mono H fun _ h4 H => ?_)
                refine a_iinc (pc := 126) (dk dt_X2_pieceTogether 68 rfl) (by decide) rfl rfl rfl ?_
                refine a_iinc (pc := 129) (dk dt_X2_pieceTogether 69 rfl) (by decide) rfl rfl rfl ?_
                refine a_goto (pc := 132) (dk dt_X2_pieceTogether 70 rfl) (tgt := 6) rfl ?_
                exact a_pick [0, 1, 2, 3, 4] rfl H
    · replace H := H.2 c
      refine a_iload (pc := 28) (dk dt_X2_pieceTogether 16 rfl) rfl ?_
      refine a_bipush (pc := 30) (dk dt_X2_pieceTogether 17 rfl) (ik rfl) (bpk rfl) ?_
      refine a_bipush (pc := 32) (dk dt_X2_pieceTogether 18 rfl) (ik rfl) (bpk rfl) ?_
      refine a_callNi (as := [iv (h 33 (w32 (x2 + x5))), iv 10, iv 25]) (st := []) (pc := 34) (dk dt_X2_pieceTogether 19 rfl) cl_RX2_62 ⟨Nat.le_of_ble_eq_true rfl, Nat.le_of_ble_eq_true rfl⟩ ⟨Nat.le_of_ble_eq_true rfl, Nat.le_of_ble_eq_true rfl⟩ rfl rfl rfl (Nat.le_of_ble_eq_true rfl) (Call.of rfl (Nat.le_of_ble_eq_true rfl) rfl ?_)
      refine a_iload_n (pc := 0) (dk dt_X11_within 0 rfl) rfl ?_
      refine a_iload_n (pc := 1) (dk dt_X11_within 1 rfl) rfl ?_
      refine a_icmp_lt (pc := 2) (dk dt_X11_within 2 rfl) (tgt := 14) rfl ⟨fun c => ?_, fun c => ?_⟩
      · replace H := H.1 c
        refine a_iconst (pc := 14) (dk dt_X11_within 8 rfl) (ik rfl) ?_
        refine a_zret (pc := 15) (dk dt_X11_within 9 rfl) rfl rfl ⟨by decide, ?_⟩
        show ATW _ _ _ _ _ _ _ _ _ _
        refine a_if_eq (pc := 37) (dk dt_X2_pieceTogether 20 rfl) (tgt := 58) rfl ⟨fun _ => ?_, fun c => absurd c (by decide)⟩
        refine a_iconst (pc := 58) (dk dt_X2_pieceTogether 30 rfl) (ik rfl) ?_
        refine a_goto (pc := 59) (dk dt_X2_pieceTogether 31 rfl) (tgt := 63) rfl ?_
        refine a_istore (pc := 63) (dk dt_X2_pieceTogether 33 rfl) (by decide) rfl rfl ?_
        refine a_iload (pc := 65) (dk dt_X2_pieceTogether 34 rfl) rfl ?_
        refine a_if_eq (pc := 67) (dk dt_X2_pieceTogether 35 rfl) (tgt := 78) rfl ⟨fun c => absurd c (by decide), fun _ => ?_⟩
        refine a_aload_n (pc := 70) (dk dt_X2_pieceTogether 36 rfl) rfl ?_
        refine a_iconst (pc := 71) (dk dt_X2_pieceTogether 37 rfl) (ik rfl) ?_
        refine a_puti (pc := 72) (dk dt_X2_pieceTogether 38 rfl) cls_2 fl_RX2_59 cf_65_5 rfl rfl ?_
        refine a_iload (pc := 75) (dk dt_X2_pieceTogether 39 rfl) rfl ?_
        exact a_iret (pc := 77) (dk dt_X2_pieceTogether 40 rfl) rfl rfl H
      · replace H := H.2 c
        refine a_iload_n (pc := 5) (dk dt_X11_within 3 rfl) rfl ?_
        refine a_iload_n (pc := 6) (dk dt_X11_within 4 rfl) rfl ?_
        refine a_icmp_gt (pc := 7) (dk dt_X11_within 5 rfl) (tgt := 14) rfl ⟨fun c => ?_, fun c => ?_⟩
        · replace H := H.1 c
          refine a_iconst (pc := 14) (dk dt_X11_within 8 rfl) (ik rfl) ?_
          refine a_zret (pc := 15) (dk dt_X11_within 9 rfl) rfl rfl ⟨by decide, ?_⟩
          show ATW _ _ _ _ _ _ _ _ _ _
          refine a_if_eq (pc := 37) (dk dt_X2_pieceTogether 20 rfl) (tgt := 58) rfl ⟨fun _ => ?_, fun c => absurd c (by decide)⟩
          refine a_iconst (pc := 58) (dk dt_X2_pieceTogether 30 rfl) (ik rfl) ?_
          refine a_goto (pc := 59) (dk dt_X2_pieceTogether 31 rfl) (tgt := 63) rfl ?_
          refine a_istore (pc := 63) (dk dt_X2_pieceTogether 33 rfl) (by decide) rfl rfl ?_
          refine a_iload (pc := 65) (dk dt_X2_pieceTogether 34 rfl) rfl ?_
          refine a_if_eq (pc := 67) (dk dt_X2_pieceTogether 35 rfl) (tgt := 78) rfl ⟨fun c => absurd c (by decide), fun _ => ?_⟩
          refine a_aload_n (pc := 70) (dk dt_X2_pieceTogether 36 rfl) rfl ?_
          refine a_iconst (pc := 71) (dk dt_X2_pieceTogether 37 rfl) (ik rfl) ?_
          refine a_puti (pc := 72) (dk dt_X2_pieceTogether 38 rfl) cls_2 fl_RX2_59 cf_65_5 rfl rfl ?_
          refine a_iload (pc := 75) (dk dt_X2_pieceTogether 39 rfl) rfl ?_
          exact a_iret (pc := 77) (dk dt_X2_pieceTogether 40 rfl) rfl rfl H
        · replace H := H.2 c
          refine a_iconst (pc := 10) (dk dt_X11_within 6 rfl) (ik rfl) ?_
          refine a_goto (pc := 11) (dk dt_X11_within 7 rfl) (tgt := 15) rfl ?_
          refine a_zret (pc := 15) (dk dt_X11_within 9 rfl) rfl rfl ⟨by decide, ?_⟩
          show ATW _ _ _ _ _ _ _ _ _ _
          refine a_if_eq (pc := 37) (dk dt_X2_pieceTogether 20 rfl) (tgt := 58) rfl ⟨fun c => absurd c (by decide), fun _ => ?_⟩
          refine a_aload_n (pc := 40) (dk dt_X2_pieceTogether 21 rfl) rfl ?_
          refine a_geti (pc := 41) (dk dt_X2_pieceTogether 22 rfl) cls_2 fl_RX2_59 cf_65_5 ?_
          refine a_iconst (pc := 44) (dk dt_X2_pieceTogether 23 rfl) (ik rfl) ?_
          refine a_icmp_ne (pc := 45) (dk dt_X2_pieceTogether 24 rfl) (tgt := 62) rfl ⟨fun c => ?_, fun c => ?_⟩
          · replace H := H.1 c
            refine a_iconst (pc := 62) (dk dt_X2_pieceTogether 32 rfl) (ik rfl) ?_
            refine a_istore (pc := 63) (dk dt_X2_pieceTogether 33 rfl) (by decide) rfl rfl ?_
            refine a_iload (pc := 65) (dk dt_X2_pieceTogether 34 rfl) rfl ?_
            refine a_if_eq (pc := 67) (dk dt_X2_pieceTogether 35 rfl) (tgt := 78) rfl ⟨fun _ => ?_, fun c => absurd c (by decide)⟩
            refine a_aload_n (pc := 78) (dk dt_X2_pieceTogether 41 rfl) rfl ?_
            refine a_getr (r := 65) (pc := 79) (dk dt_X2_pieceTogether 42 rfl) cls_2 fl_RX2_9 cf_65_4 ?_
            refine a_aload_n (pc := 82) (dk dt_X2_pieceTogether 43 rfl) rfl ?_
            refine a_geti (pc := 83) (dk dt_X2_pieceTogether 44 rfl) cls_2 fl_RX2_59 cf_65_5 ?_
            refine a_iload (pc := 86) (dk dt_X2_pieceTogether 45 rfl) rfl ?_
            refine a_iast (pc := 88) (dk dt_X2_pieceTogether 46 rfl) ar_66 ⟨H.1, ?_⟩
            replace H := H.2
            refine a_aload_n (pc := 89) (dk dt_X2_pieceTogether 47 rfl) rfl ?_
            refine a_dup (pc := 90) (dk dt_X2_pieceTogether 48 rfl) rfl ?_
            refine a_geti (pc := 91) (dk dt_X2_pieceTogether 49 rfl) cls_2 fl_RX2_59 cf_65_5 ?_
            refine a_top (y := (h 65 5)) (by simp [up, cpy]) ?_
            refine a_iconst (pc := 94) (dk dt_X2_pieceTogether 50 rfl) (ik rfl) ?_
            refine a_iadd (pc := 95) (dk dt_X2_pieceTogether 51 rfl) ?_
            refine a_puti (pc := 96) (dk dt_X2_pieceTogether 52 rfl) cls_2 fl_RX2_59 cf_65_5 rfl rfl ?_
            refine a_aload_n (pc := 99) (dk dt_X2_pieceTogether 53 rfl) rfl ?_
            refine a_geti (pc := 100) (dk dt_X2_pieceTogether 54 rfl) cls_2 fl_RX2_59 cf_65_5 ?_
            refine a_top (y := (w32 ((h 65 5) + 1))) (by simp [up, cpy]) ?_
            refine a_iconst (pc := 103) (dk dt_X2_pieceTogether 55 rfl) (ik rfl) ?_
            refine a_icmp_lt (pc := 104) (dk dt_X2_pieceTogether 56 rfl) (tgt := 129) rfl ⟨fun c => ?_, fun c => ?_⟩
            · replace H := H.1 c
              refine a_iinc (pc := 129) (dk dt_X2_pieceTogether 69 rfl) (by decide) rfl rfl rfl ?_
              refine a_goto (pc := 132) (dk dt_X2_pieceTogether 70 rfl) (tgt := 6) rfl ?_
              exact a_pick [0, 1, 2, 3, 4] rfl H
            · replace H := H.2 c
              refine a_aload_n (pc := 107) (dk dt_X2_pieceTogether 57 rfl) rfl ?_
              refine a_geti (pc := 108) (dk dt_X2_pieceTogether 58 rfl) cls_2 fl_RX2_59 cf_65_5 ?_
              refine a_top (y := (w32 ((h 65 5) + 1))) (by simp [up, cpy]) ?_
              refine a_iconst (pc := 111) (dk dt_X2_pieceTogether 59 rfl) (ik rfl) ?_
              refine a_aload_n (pc := 112) (dk dt_X2_pieceTogether 60 rfl) rfl ?_
              refine a_getr (r := 65) (pc := 113) (dk dt_X2_pieceTogether 61 rfl) cls_2 fl_RX2_9 cf_65_4 ?_
              refine a_iconst (pc := 116) (dk dt_X2_pieceTogether 62 rfl) (ik rfl) ?_
              refine a_iald (pc := 117) (dk dt_X2_pieceTogether 63 rfl) ar_66 ⟨⟨by decide, by decide⟩, ?_⟩
              refine a_top (y := ((up h 66 (h 65 5) (h 33 (w32 (x2 + x5)))) 66 4)) (by simp [up, cpy]) ?_
              refine a_iadd (pc := 118) (dk dt_X2_pieceTogether 64 rfl) ?_
              refine a_icmp_ne (pc := 119) (dk dt_X2_pieceTogether 65 rfl) (tgt := 129) rfl ⟨fun c => ?_, fun c => ?_⟩
              · replace H := H.1 c
                refine a_iinc (pc := 129) (dk dt_X2_pieceTogether 69 rfl) (by decide) rfl rfl rfl ?_
                refine a_goto (pc := 132) (dk dt_X2_pieceTogether 70 rfl) (tgt := 6) rfl ?_
                exact a_pick [0, 1, 2, 3, 4] rfl H
              · replace H := H.2 c
                refine a_aload_n (pc := 122) (dk dt_X2_pieceTogether 66 rfl) rfl ?_
                refine a_callVv (as := []) (st := []) (pc := 123) (dk dt_X2_pieceTogether 67 rfl) cl_RX2_66 ⟨Nat.le_of_ble_eq_true rfl, Nat.le_of_ble_eq_true rfl⟩ ⟨Nat.le_of_ble_eq_true rfl, Nat.le_of_ble_eq_true rfl⟩ cls_2 rfl cc_65 rfl rfl rfl (Nat.le_of_ble_eq_true rfl) (Call.mono H fun _ h6 H => ?_)
                refine a_iinc (pc := 126) (dk dt_X2_pieceTogether 68 rfl) (by decide) rfl rfl rfl ?_
                refine a_iinc (pc := 129) (dk dt_X2_pieceTogether 69 rfl) (by decide) rfl rfl rfl ?_
                refine a_goto (pc := 132) (dk dt_X2_pieceTogether 70 rfl) (tgt := 6) rfl ?_
                exact a_pick [0, 1, 2, 3, 4] rfl H
          · replace H := H.2 c
            refine a_iload (pc := 48) (dk dt_X2_pieceTogether 25 rfl) rfl ?_
            refine a_iconst (pc := 50) (dk dt_X2_pieceTogether 26 rfl) (ik rfl) ?_
            refine a_iconst (pc := 51) (dk dt_X2_pieceTogether 27 rfl) (ik rfl) ?_
            refine a_callNi (as := [iv (h 33 (w32 (x2 + x5))), iv 1, iv 4]) (st := []) (pc := 52) (dk dt_X2_pieceTogether 28 rfl) cl_RX2_62 ⟨Nat.le_of_ble_eq_true rfl, Nat.le_of_ble_eq_true rfl⟩ ⟨Nat.le_of_ble_eq_true rfl, Nat.le_of_ble_eq_true rfl⟩ rfl rfl rfl (Nat.le_of_ble_eq_true rfl) (Call.of rfl (Nat.le_of_ble_eq_true rfl) rfl ?_)
            refine a_iload_n (pc := 0) (dk dt_X11_within 0 rfl) rfl ?_
            refine a_iload_n (pc := 1) (dk dt_X11_within 1 rfl) rfl ?_
            refine a_icmp_lt (pc := 2) (dk dt_X11_within 2 rfl) (tgt := 14) rfl ⟨fun c => ?_, fun c => ?_⟩
            · replace H := H.1 c
              refine a_iconst (pc := 14) (dk dt_X11_within 8 rfl) (ik rfl) ?_
              refine a_zret (pc := 15) (dk dt_X11_within 9 rfl) rfl rfl ⟨by decide, ?_⟩
              show ATW _ _ _ _ _ _ _ _ _ _
              refine a_if_ne (pc := 55) (dk dt_X2_pieceTogether 29 rfl) (tgt := 62) rfl ⟨fun c => absurd c (by decide), fun _ => ?_⟩
              refine a_iconst (pc := 58) (dk dt_X2_pieceTogether 30 rfl) (ik rfl) ?_
              refine a_goto (pc := 59) (dk dt_X2_pieceTogether 31 rfl) (tgt := 63) rfl ?_
              refine a_istore (pc := 63) (dk dt_X2_pieceTogether 33 rfl) (by decide) rfl rfl ?_
              refine a_iload (pc := 65) (dk dt_X2_pieceTogether 34 rfl) rfl ?_
              refine a_if_eq (pc := 67) (dk dt_X2_pieceTogether 35 rfl) (tgt := 78) rfl ⟨fun c => absurd c (by decide), fun _ => ?_⟩
              refine a_aload_n (pc := 70) (dk dt_X2_pieceTogether 36 rfl) rfl ?_
              refine a_iconst (pc := 71) (dk dt_X2_pieceTogether 37 rfl) (ik rfl) ?_
              refine a_puti (pc := 72) (dk dt_X2_pieceTogether 38 rfl) cls_2 fl_RX2_59 cf_65_5 rfl rfl ?_
              refine a_iload (pc := 75) (dk dt_X2_pieceTogether 39 rfl) rfl ?_
              exact a_iret (pc := 77) (dk dt_X2_pieceTogether 40 rfl) rfl rfl H
            · replace H := H.2 c
              refine a_iload_n (pc := 5) (dk dt_X11_within 3 rfl) rfl ?_
              refine a_iload_n (pc := 6) (dk dt_X11_within 4 rfl) rfl ?_
              refine a_icmp_gt (pc := 7) (dk dt_X11_within 5 rfl) (tgt := 14) rfl ⟨fun c => ?_, fun c => ?_⟩
              · replace H := H.1 c
                refine a_iconst (pc := 14) (dk dt_X11_within 8 rfl) (ik rfl) ?_
                refine a_zret (pc := 15) (dk dt_X11_within 9 rfl) rfl rfl ⟨by decide, ?_⟩
                show ATW _ _ _ _ _ _ _ _ _ _
                refine a_if_ne (pc := 55) (dk dt_X2_pieceTogether 29 rfl) (tgt := 62) rfl ⟨fun c => absurd c (by decide), fun _ => ?_⟩
                refine a_iconst (pc := 58) (dk dt_X2_pieceTogether 30 rfl) (ik rfl) ?_
                refine a_goto (pc := 59) (dk dt_X2_pieceTogether 31 rfl) (tgt := 63) rfl ?_
                refine a_istore (pc := 63) (dk dt_X2_pieceTogether 33 rfl) (by decide) rfl rfl ?_
                refine a_iload (pc := 65) (dk dt_X2_pieceTogether 34 rfl) rfl ?_
                refine a_if_eq (pc := 67) (dk dt_X2_pieceTogether 35 rfl) (tgt := 78) rfl ⟨fun c => absurd c (by decide), fun _ => ?_⟩
                refine a_aload_n (pc := 70) (dk dt_X2_pieceTogether 36 rfl) rfl ?_
                refine a_iconst (pc := 71) (dk dt_X2_pieceTogether 37 rfl) (ik rfl) ?_
                refine a_puti (pc := 72) (dk dt_X2_pieceTogether 38 rfl) cls_2 fl_RX2_59 cf_65_5 rfl rfl ?_
                refine a_iload (pc := 75) (dk dt_X2_pieceTogether 39 rfl) rfl ?_
                exact a_iret (pc := 77) (dk dt_X2_pieceTogether 40 rfl) rfl rfl H
              · replace H := H.2 c
                refine a_iconst (pc := 10) (dk dt_X11_within 6 rfl) (ik rfl) ?_
                refine a_goto (pc := 11) (dk dt_X11_within 7 rfl) (tgt := 15) rfl ?_
                refine a_zret (pc := 15) (dk dt_X11_within 9 rfl) rfl rfl ⟨by decide, ?_⟩
                show ATW _ _ _ _ _ _ _ _ _ _
                refine a_if_ne (pc := 55) (dk dt_X2_pieceTogether 29 rfl) (tgt := 62) rfl ⟨fun _ => ?_, fun c => absurd c (by decide)⟩
                refine a_iconst (pc := 62) (dk dt_X2_pieceTogether 32 rfl) (ik rfl) ?_
                refine a_istore (pc := 63) (dk dt_X2_pieceTogether 33 rfl) (by decide) rfl rfl ?_
                refine a_iload (pc := 65) (dk dt_X2_pieceTogether 34 rfl) rfl ?_
                refine a_if_eq (pc := 67) (dk dt_X2_pieceTogether 35 rfl) (tgt := 78) rfl ⟨fun _ => ?_, fun c => absurd c (by decide)⟩
                refine a_aload_n (pc := 78) (dk dt_X2_pieceTogether 41 rfl) rfl ?_
                refine a_getr (r := 65) (pc := 79) (dk dt_X2_pieceTogether 42 rfl) cls_2 fl_RX2_9 cf_65_4 ?_
                refine a_aload_n (pc := 82) (dk dt_X2_pieceTogether 43 rfl) rfl ?_
                refine a_geti (pc := 83) (dk dt_X2_pieceTogether 44 rfl) cls_2 fl_RX2_59 cf_65_5 ?_
                refine a_iload (pc := 86) (dk dt_X2_pieceTogether 45 rfl) rfl ?_
                refine a_iast (pc := 88) (dk dt_X2_pieceTogether 46 rfl) ar_66 ⟨H.1, ?_⟩
                replace H := H.2
                refine a_aload_n (pc := 89) (dk dt_X2_pieceTogether 47 rfl) rfl ?_
                refine a_dup (pc := 90) (dk dt_X2_pieceTogether 48 rfl) rfl ?_
                refine a_geti (pc := 91) (dk dt_X2_pieceTogether 49 rfl) cls_2 fl_RX2_59 cf_65_5 ?_
                refine a_top (y := (h 65 5)) (by simp [up, cpy]) ?_
                refine a_iconst (pc := 94) (dk dt_X2_pieceTogether 50 rfl) (ik rfl) ?_
                refine a_iadd (pc := 95) (dk dt_X2_pieceTogether 51 rfl) ?_
                refine a_puti (pc := 96) (dk dt_X2_pieceTogether 52 rfl) cls_2 fl_RX2_59 cf_65_5 rfl rfl ?_
                refine a_aload_n (pc := 99) (dk dt_X2_pieceTogether 53 rfl) rfl ?_
                refine a_geti (pc := 100) (dk dt_X2_pieceTogether 54 rfl) cls_2 fl_RX2_59 cf_65_5 ?_
                refine a_top (y := (w32 ((h 65 5) + 1))) (by simp [up, cpy]) ?_
                refine a_iconst (pc := 103) (dk dt_X2_pieceTogether 55 rfl) (ik rfl) ?_
                refine a_icmp_lt (pc := 104) (dk dt_X2_pieceTogether 56 rfl) (tgt := 129) rfl ⟨fun c => ?_, fun c => ?_⟩
                · replace H := H.1 c
                  refine a_iinc (pc := 129) (dk dt_X2_pieceTogether 69 rfl) (by decide) rfl rfl rfl ?_
                  refine a_goto (pc := 132) (dk dt_X2_pieceTogether 70 rfl) (tgt := 6) rfl ?_
                  exact a_pick [0, 1, 2, 3, 4] rfl H
                · replace H := H.2 c
                  refine a_aload_n (pc := 107) (dk dt_X2_pieceTogether 57 rfl) rfl ?_
                  refine a_geti (pc := 108) (dk dt_X2_pieceTogether 58 rfl) cls_2 fl_RX2_59 cf_65_5 ?_
                  refine a_top (y := (w32 ((h 65 5) + 1))) (by simp [up, cpy]) ?_
                  refine a_iconst (pc := 111) (dk dt_X2_pieceTogether 59 rfl) (ik rfl) ?_
                  refine a_aload_n (pc := 112) (dk dt_X2_pieceTogether 60 rfl) rfl ?_
                  refine a_getr (r := 65) (pc := 113) (dk dt_X2_pieceTogether 61 rfl) cls_2 fl_RX2_9 cf_65_4 ?_
                  refine a_iconst (pc := 116) (dk dt_X2_pieceTogether 62 rfl) (ik rfl) ?_
                  refine a_iald (pc := 117) (dk dt_X2_pieceTogether 63 rfl) ar_66 ⟨⟨by decide, by decide⟩, ?_⟩
                  refine a_top (y := ((up h 66 (h 65 5) (h 33 (w32 (x2 + x5)))) 66 4)) (by simp [up, cpy]) ?_
                  refine a_iadd (pc := 118) (dk dt_X2_pieceTogether 64 rfl) ?_
                  refine a_icmp_ne (pc := 119) (dk dt_X2_pieceTogether 65 rfl) (tgt := 129) rfl ⟨fun c => ?_, fun c => ?_⟩
                  · replace H := H.1 c
                    refine a_iinc (pc := 129) (dk dt_X2_pieceTogether 69 rfl) (by decide) rfl rfl rfl ?_
                    refine a_goto (pc := 132) (dk dt_X2_pieceTogether 70 rfl) (tgt := 6) rfl ?_
                    exact a_pick [0, 1, 2, 3, 4] rfl H
                  · replace H := H.2 c
                    refine a_aload_n (pc := 122) (dk dt_X2_pieceTogether 66 rfl) rfl ?_
                    refine a_callVv (as := []) (st := []) (pc := 123) (dk dt_X2_pieceTogether 67 rfl) cl_RX2_66 ⟨Nat.le_of_ble_eq_true rfl, Nat.le_of_ble_eq_true rfl⟩ ⟨Nat.le_of_ble_eq_true rfl, Nat.le_of_ble_eq_true rfl⟩ cls_2 rfl cc_65 rfl rfl rfl (Nat.le_of_ble_eq_true rfl) (Call.mono H fun _ h8 H => ?_)
                    refine a_iinc (pc := 126) (dk dt_X2_pieceTogether 68 rfl) (by decide) rfl rfl rfl ?_
                    refine a_iinc (pc := 129) (dk dt_X2_pieceTogether 69 rfl) (by decide) rfl rfl rfl ?_
                    refine a_goto (pc := 132) (dk dt_X2_pieceTogether 70 rfl) (tgt := 6) rfl ?_
                    exact a_pick [0, 1, 2, 3, 4] rfl H
set_option maxHeartbeats 40000000 in
theorem U_X2_putInArchive_65_0 {G : GG} {Φ : Int → Hp → Prop} {h : Hp} (H : ((60 ≤ (h 65 7) → Φ 0 (up h 65 5 0)) ∧ ((h 65 7) < 60 → ((0 : Int) ≤ 0 ∧ (0 : Int) ≤ (w32 ((h 65 7) * 9)) ∧ (0 : Int) ≤ (h 65 5) ∧ ((0 : Int) + (h 65 5)) ≤ 9 ∧ (((w32 ((h 65 7) * 9)) : Int) + (h 65 5)) ≤ 540) ∧ Φ 0 (up (up (cpy h 66 0 67 (w32 ((h 65 7) * 9)) (h 65 5)) 65 7 (w32 ((h 65 7) + 1))) 65 5 0)))) : AT G m_X2_putInArchive 0 [(0, rv 65)] [] h Φ := by
  refine a_aload_n (pc := 0) (dk dt_X2_putInArchive 0 rfl) rfl ?_
  refine a_geti (pc := 1) (dk dt_X2_putInArchive 1 rfl) cls_2 fl_RX2_69 cf_65_7 ?_
  refine a_bipush (pc := 4) (dk dt_X2_putInArchive 2 rfl) (ik rfl) (bpk rfl) ?_
  refine a_icmp_ge (pc := 6) (dk dt_X2_putInArchive 3 rfl) (tgt := 42) rfl ⟨fun c => ?_, fun c => ?_⟩
  · replace H := H.1 c
    refine a_aload_n (pc := 42) (dk dt_X2_putInArchive 22 rfl) rfl ?_
    refine a_iconst (pc := 43) (dk dt_X2_putInArchive 23 rfl) (ik rfl) ?_
    refine a_puti (pc := 44) (dk dt_X2_putInArchive 24 rfl) cls_2 fl_RX2_59 cf_65_5 rfl rfl ?_
    exact a_vret (pc := 47) (dk dt_X2_putInArchive 25 rfl) rfl rfl H
  · replace H := H.2 c
    refine a_aload_n (pc := 9) (dk dt_X2_putInArchive 4 rfl) rfl ?_
    refine a_getr (r := 65) (pc := 10) (dk dt_X2_putInArchive 5 rfl) cls_2 fl_RX2_9 cf_65_4 ?_
    refine a_iconst (pc := 13) (dk dt_X2_putInArchive 6 rfl) (ik rfl) ?_
    refine a_aload_n (pc := 14) (dk dt_X2_putInArchive 7 rfl) rfl ?_
    refine a_getr (r := 66) (pc := 15) (dk dt_X2_putInArchive 8 rfl) cls_2 fl_RX2_15 cf_65_6 ?_
    refine a_aload_n (pc := 18) (dk dt_X2_putInArchive 9 rfl) rfl ?_
    refine a_geti (pc := 19) (dk dt_X2_putInArchive 10 rfl) cls_2 fl_RX2_69 cf_65_7 ?_
    refine a_bipush (pc := 22) (dk dt_X2_putInArchive 11 rfl) (ik rfl) (bpk rfl) ?_
    refine a_imul (pc := 24) (dk dt_X2_putInArchive 12 rfl) ?_
    refine a_aload_n (pc := 25) (dk dt_X2_putInArchive 13 rfl) rfl ?_
    refine a_geti (pc := 26) (dk dt_X2_putInArchive 14 rfl) cls_2 fl_RX2_59 cf_65_5 ?_
    refine a_copy (pc := 29) (dk dt_X2_putInArchive 15 rfl) acw_RX2_72 ar_66 ar_67 ⟨Nat.le_of_ble_eq_true rfl, Nat.le_of_ble_eq_true rfl⟩ ⟨H.1, ?_⟩
    replace H := H.2
    refine a_aload_n (pc := 32) (dk dt_X2_putInArchive 16 rfl) rfl ?_
    refine a_dup (pc := 33) (dk dt_X2_putInArchive 17 rfl) rfl ?_
    refine a_geti (pc := 34) (dk dt_X2_putInArchive 18 rfl) cls_2 fl_RX2_69 cf_65_7 ?_
    refine a_top (y := (h 65 7)) (by simp [up, cpy]) ?_
    refine a_iconst (pc := 37) (dk dt_X2_putInArchive 19 rfl) (ik rfl) ?_
    refine a_iadd (pc := 38) (dk dt_X2_putInArchive 20 rfl) ?_
    refine a_puti (pc := 39) (dk dt_X2_putInArchive 21 rfl) cls_2 fl_RX2_69 cf_65_7 rfl rfl ?_
    refine a_aload_n (pc := 42) (dk dt_X2_putInArchive 22 rfl) rfl ?_
    refine a_iconst (pc := 43) (dk dt_X2_putInArchive 23 rfl) (ik rfl) ?_
    refine a_puti (pc := 44) (dk dt_X2_putInArchive 24 rfl) cls_2 fl_RX2_59 cf_65_5 rfl rfl ?_
    exact a_vret (pc := 47) (dk dt_X2_putInArchive 25 rfl) rfl rfl H
set_option maxHeartbeats 40000000 in
theorem U_X7_add_75_0 {G : GG} {Φ : Int → Hp → Prop} {h : Hp} {x1 : Int} {x2 : Int} {x3 : Int} {x4 : Int} (H : (((h 75 5) ≠ 12 → (0 ≤ (h 75 5) ∧ (h 75 5) < 12) ∧ (0 ≤ (h 75 5) ∧ (h 75 5) < 12) ∧ (0 ≤ (h 75 5) ∧ (h 75 5) < 12) ∧ (0 ≤ (h 75 5) ∧ (h 75 5) < 12) ∧ Φ (w32 ((w32 ((h 75 5) + 1)) - 1)) (up (up (up (up (up (up h 76 (h 75 5) x1) 77 (h 75 5) x2) 78 (h 75 5) x3) 79 (h 75 5) x4) 75 5 (w32 ((h 75 5) + 1))) 75 7 0)) ∧ ((h 75 5) = 12 → Φ (-4) h))) : AT G m_X7_add 0 [(0, rv 75), (1, iv x1), (2, iv x2), (3, iv x3), (4, iv x4)] [] h Φ := by
  refine a_aload_n (pc := 0) (dk dt_X7_add 0 rfl) rfl ?_
  refine a_geti (pc := 1) (dk dt_X7_add 1 rfl) cls_7 fl_RX7_31 cf_75_5 ?_
  refine a_bipush (pc := 4) (dk dt_X7_add 2 rfl) (ik rfl) (bpk rfl) ?_
  refine a_icmp_ne (pc := 6) (dk dt_X7_add 3 rfl) (tgt := 12) rfl ⟨fun c => ?_, fun c => ?_⟩
  · replace H := H.1 c
    refine a_aload_n (pc := 12) (dk dt_X7_add 6 rfl) rfl ?_
    refine a_getr (r := 75) (pc := 13) (dk dt_X7_add 7 rfl) cls_7 fl_RX7_11 cf_75_0 ?_
    refine a_aload_n (pc := 16) (dk dt_X7_add 8 rfl) rfl ?_
    refine a_geti (pc := 17) (dk dt_X7_add 9 rfl) cls_7 fl_RX7_31 cf_75_5 ?_
    refine a_iload_n (pc := 20) (dk dt_X7_add 10 rfl) rfl ?_
    refine a_iast (pc := 21) (dk dt_X7_add 11 rfl) ar_76 ⟨H.1, ?_⟩
    replace H := H.2
    refine a_aload_n (pc := 22) (dk dt_X7_add 12 rfl) rfl ?_
    refine a_getr (r := 76) (pc := 23) (dk dt_X7_add 13 rfl) cls_7 fl_RX7_15 cf_75_1 ?_
    refine a_aload_n (pc := 26) (dk dt_X7_add 14 rfl) rfl ?_
    refine a_geti (pc := 27) (dk dt_X7_add 15 rfl) cls_7 fl_RX7_31 cf_75_5 ?_
    refine a_top (y := (h 75 5)) (by simp [up, cpy]) ?_
    refine a_iload_n (pc := 30) (dk dt_X7_add 16 rfl) rfl ?_
    refine a_iast (pc := 31) (dk dt_X7_add 17 rfl) ar_77 ⟨H.1, ?_⟩
    replace H := H.2
    refine a_aload_n (pc := 32) (dk dt_X7_add 18 rfl) rfl ?_
    refine a_getr (r := 77) (pc := 33) (dk dt_X7_add 19 rfl) cls_7 fl_RX7_18 cf_75_2 ?_
    refine a_aload_n (pc := 36) (dk dt_X7_add 20 rfl) rfl ?_
    refine a_geti (pc := 37) (dk dt_X7_add 21 rfl) cls_7 fl_RX7_31 cf_75_5 ?_
    refine a_top (y := (h 75 5)) (by simp [up, cpy]) ?_
    refine a_iload_n (pc := 40) (dk dt_X7_add 22 rfl) rfl ?_
    refine a_iast (pc := 41) (dk dt_X7_add 23 rfl) ar_78 ⟨H.1, ?_⟩
    replace H := H.2
    refine a_aload_n (pc := 42) (dk dt_X7_add 24 rfl) rfl ?_
    refine a_getr (r := 78) (pc := 43) (dk dt_X7_add 25 rfl) cls_7 fl_RX7_21 cf_75_3 ?_
    refine a_aload_n (pc := 46) (dk dt_X7_add 26 rfl) rfl ?_
    refine a_geti (pc := 47) (dk dt_X7_add 27 rfl) cls_7 fl_RX7_31 cf_75_5 ?_
    refine a_top (y := (h 75 5)) (by simp [up, cpy]) ?_
    refine a_iload (pc := 50) (dk dt_X7_add 28 rfl) rfl ?_
    refine a_iast (pc := 52) (dk dt_X7_add 29 rfl) ar_79 ⟨H.1, ?_⟩
    replace H := H.2
    refine a_aload_n (pc := 53) (dk dt_X7_add 30 rfl) rfl ?_
    refine a_dup (pc := 54) (dk dt_X7_add 31 rfl) rfl ?_
    refine a_geti (pc := 55) (dk dt_X7_add 32 rfl) cls_7 fl_RX7_31 cf_75_5 ?_
    refine a_top (y := (h 75 5)) (by simp [up, cpy]) ?_
    refine a_iconst (pc := 58) (dk dt_X7_add 33 rfl) (ik rfl) ?_
    refine a_iadd (pc := 59) (dk dt_X7_add 34 rfl) ?_
    refine a_puti (pc := 60) (dk dt_X7_add 35 rfl) cls_7 fl_RX7_31 cf_75_5 rfl rfl ?_
    refine a_aload_n (pc := 63) (dk dt_X7_add 36 rfl) rfl ?_
    refine a_iconst (pc := 64) (dk dt_X7_add 37 rfl) (ik rfl) ?_
    refine a_putz (pc := 65) (dk dt_X7_add 38 rfl) cls_7 fl_RX7_34 cf_75_7 rfl rfl ⟨by decide, ?_⟩
    refine a_aload_n (pc := 68) (dk dt_X7_add 39 rfl) rfl ?_
    refine a_geti (pc := 69) (dk dt_X7_add 40 rfl) cls_7 fl_RX7_31 cf_75_5 ?_
    refine a_top (y := (w32 ((h 75 5) + 1))) (by simp [up, cpy]) ?_
    refine a_iconst (pc := 72) (dk dt_X7_add 41 rfl) (ik rfl) ?_
    refine a_isub (pc := 73) (dk dt_X7_add 42 rfl) ?_
    exact a_iret (pc := 74) (dk dt_X7_add 43 rfl) rfl rfl H
  · replace H := H.2 c
    refine a_bipush (pc := 9) (dk dt_X7_add 4 rfl) (ik rfl) (bpk rfl) ?_
    exact a_iret (pc := 11) (dk dt_X7_add 5 rfl) rfl rfl H
set_option maxHeartbeats 40000000 in
theorem U_X7_choose_75_0 {G : GG} {Φ : Int → Hp → Prop} {h : Hp} (H : (((h 75 7) = 0 → Call G m_X7_findClashes [rv 75] h (fun _ h2 => AT G m_X7_choose 24 [(0, rv 75), (1, iv 1)] [] (up (up h2 75 8 0) 75 9 0) Φ)) ∧ ((h 75 7) ≠ 0 → Φ 0 h))) : AT G m_X7_choose 0 [(0, rv 75)] [] h Φ := by
  refine a_aload_n (pc := 0) (dk dt_X7_choose 0 rfl) rfl ?_
  refine a_geti (pc := 1) (dk dt_X7_choose 1 rfl) cls_7 fl_RX7_34 cf_75_7 ?_
  refine a_if_eq (pc := 4) (dk dt_X7_choose 2 rfl) (tgt := 8) rfl ⟨fun c => ?_, fun c => ?_⟩
  · replace H := H.1 c
    refine a_aload_n (pc := 8) (dk dt_X7_choose 4 rfl) rfl ?_
    refine a_callVv (as := []) (st := []) (pc := 9) (dk dt_X7_choose 5 rfl) cl_RX7_38 ⟨Nat.le_of_ble_eq_true rfl, Nat.le_of_ble_eq_true rfl⟩ ⟨Nat.le_of_ble_eq_true rfl, Nat.le_of_ble_eq_true rfl⟩ cls_7 rfl cc_75 rfl rfl rfl (Nat.le_of_ble_eq_true rfl) (Call.mono H fun _ h2 H => ?_)
    refine a_aload_n (pc := 12) (dk dt_X7_choose 6 rfl) rfl ?_
    refine a_iconst (pc := 13) (dk dt_X7_choose 7 rfl) (ik rfl) ?_
    refine a_puti (pc := 14) (dk dt_X7_choose 8 rfl) cls_7 fl_RX7_41 cf_75_8 rfl rfl ?_
    refine a_aload_n (pc := 17) (dk dt_X7_choose 9 rfl) rfl ?_
    refine a_iconst (pc := 18) (dk dt_X7_choose 10 rfl) (ik rfl) ?_
    refine a_puti (pc := 19) (dk dt_X7_choose 11 rfl) cls_7 fl_RX7_44 cf_75_9 rfl rfl ?_
    refine a_iconst (pc := 22) (dk dt_X7_choose 12 rfl) (ik rfl) ?_
    refine a_istore_n (pc := 23) (dk dt_X7_choose 13 rfl) (by decide) rfl rfl ?_
    exact a_pick [0, 1] rfl H
  · replace H := H.2 c
    exact a_vret (pc := 7) (dk dt_X7_choose 3 rfl) rfl rfl H
set_option maxHeartbeats 40000000 in
theorem U_X7_choose_75_24 {G : GG} {Φ : Int → Hp → Prop} {h : Hp} {x1 : Int} (H : (((bshl 1 (h 75 5)) ≤ x1 → Φ 0 (up h 75 7 1)) ∧ (x1 < (bshl 1 (h 75 5)) → Call G m_X7_worthOf [rv 75, iv x1] h (fun r1 h2 => (((h2 75 9) < r1 → AT G m_X7_choose 24 [(0, rv 75), (1, iv (w32 (x1 + 1)))] [] (up (up h2 75 8 x1) 75 9 r1) Φ) ∧ (r1 ≤ (h2 75 9) → ((r1 ≠ (h2 75 9) → AT G m_X7_choose 24 [(0, rv 75), (1, iv (w32 (x1 + 1)))] [] h2 Φ) ∧ (r1 = (h2 75 9) → Call G m_X7_isAhead [rv 75, iv x1] h2 (fun r3 h4 => ((r3 = 0 → AT G m_X7_choose 24 [(0, rv 75), (1, iv (w32 (x1 + 1)))] [] h4 Φ) ∧ (r3 ≠ 0 → AT G m_X7_choose 24 [(0, rv 75), (1, iv (w32 (x1 + 1)))] [] (up (up h4 75 8 x1) 75 9 r1) Φ))))))))))) : AT G m_X7_choose 24 [(0, rv 75), (1, iv x1)] [] h Φ := by
  refine a_iload_n (pc := 24) (dk dt_X7_choose 14 rfl) rfl ?_
  refine a_iconst (pc := 25) (dk dt_X7_choose 15 rfl) (ik rfl) ?_
  refine a_aload_n (pc := 26) (dk dt_X7_choose 16 rfl) rfl ?_
  refine a_geti (pc := 27) (dk dt_X7_choose 17 rfl) cls_7 fl_RX7_31 cf_75_5 ?_
  refine a_ishl (pc := 30) (dk dt_X7_choose 18 rfl) ?_
  refine a_icmp_ge (pc := 31) (dk dt_X7_choose 19 rfl) (tgt := 80) rfl ⟨fun c => ?_, fun c => ?_⟩
  · replace H := H.1 c
    refine a_aload_n (pc := 80) (dk dt_X7_choose 44 rfl) rfl ?_
    refine a_iconst (pc := 81) (dk dt_X7_choose 45 rfl) (ik rfl) ?_
    refine a_putz (pc := 82) (dk dt_X7_choose 46 rfl) cls_7 fl_RX7_34 cf_75_7 rfl rfl ⟨by decide, ?_⟩
    exact a_vret (pc := 85) (dk dt_X7_choose 47 rfl) rfl rfl H
  · replace H := H.2 c
    refine a_aload_n (pc := 34) (dk dt_X7_choose 20 rfl) rfl ?_
    refine a_iload_n (pc := 35) (dk dt_X7_choose 21 rfl) rfl ?_
    refine a_callVi (as := [iv x1]) (st := []) (pc := 36) (dk dt_X7_choose 22 rfl) cl_RX7_47 ⟨Nat.le_of_ble_eq_true rfl, Nat.le_of_ble_eq_true rfl⟩ ⟨Nat.le_of_ble_eq_true rfl, Nat.le_of_ble_eq_true rfl⟩ cls_7 rfl cc_75 rfl rfl rfl (Nat.le_of_ble_eq_true rfl) (Call.mono H fun r1 h2 H => ?_)
    refine a_istore_n (pc := 39) (dk dt_X7_choose 23 rfl) (by decide) rfl rfl ?_
    refine a_iload_n (pc := 40) (dk dt_X7_choose 24 rfl) rfl ?_
    refine a_aload_n (pc := 41) (dk dt_X7_choose 25 rfl) rfl ?_
    refine a_geti (pc := 42) (dk dt_X7_choose 26 rfl) cls_7 fl_RX7_44 cf_75_9 ?_
    refine a_icmp_gt (pc := 45) (dk dt_X7_choose 27 rfl) (tgt := 64) rfl ⟨fun c => ?_, fun c => ?_⟩
    · replace H := H.1 c
      refine a_aload_n (pc := 64) (dk dt_X7_choose 36 rfl) rfl ?_
      refine a_iload_n (pc := 65) (dk dt_X7_choose 37 rfl) rfl ?_
      refine a_puti (pc := 66) (dk dt_X7_choose 38 rfl) cls_7 fl_RX7_41 cf_75_8 rfl rfl ?_
      refine a_aload_n (pc := 69) (dk dt_X7_choose 39 rfl) rfl ?_
      refine a_iload_n (pc := 70) (dk dt_X7_choose 40 rfl) rfl ?_
      refine a_puti (pc := 71) (dk dt_X7_choose 41 rfl) cls_7 fl_RX7_44 cf_75_9 rfl rfl ?_
      refine a_iinc (pc := 74) (dk dt_X7_choose 42 rfl) (by decide) rfl rfl rfl ?_
      refine a_goto (pc := 77) (dk dt_X7_choose 43 rfl) (tgt := 24) rfl ?_
      exact a_pick [0, 1] rfl H
    · replace H := H.2 c
      refine a_iload_n (pc := 48) (dk dt_X7_choose 28 rfl) rfl ?_
      refine a_aload_n (pc := 49) (dk dt_X7_choose 29 rfl) rfl ?_
      refine a_geti (pc := 50) (dk dt_X7_choose 30 rfl) cls_7 fl_RX7_44 cf_75_9 ?_
      refine a_icmp_ne (pc := 53) (dk dt_X7_choose 31 rfl) (tgt := 74) rfl ⟨fun c => ?_, fun c => ?_⟩
      · replace H := H.1 c
        refine a_iinc (pc := 74) (dk dt_X7_choose 42 rfl) (by decide) rfl rfl rfl ?_
        refine a_goto (pc := 77) (dk dt_X7_choose 43 rfl) (tgt := 24) rfl ?_
        exact a_pick [0, 1] rfl H
      · replace H := H.2 c
        refine a_aload_n (pc := 56) (dk dt_X7_choose 32 rfl) rfl ?_
        refine a_iload_n (pc := 57) (dk dt_X7_choose 33 rfl) rfl ?_
        refine a_callVi (as := [iv x1]) (st := []) (pc := 58) (dk dt_X7_choose 34 rfl) cl_RX7_51 ⟨Nat.le_of_ble_eq_true rfl, Nat.le_of_ble_eq_true rfl⟩ ⟨Nat.le_of_ble_eq_true rfl, Nat.le_of_ble_eq_true rfl⟩ cls_7 rfl cc_75 rfl rfl rfl (Nat.le_of_ble_eq_true rfl) (Call.mono H fun r3 h4 H => ?_)
        refine a_if_eq (pc := 61) (dk dt_X7_choose 35 rfl) (tgt := 74) rfl ⟨fun c => ?_, fun c => ?_⟩
        · replace H := H.1 c
          refine a_iinc (pc := 74) (dk dt_X7_choose 42 rfl) (by decide) rfl rfl rfl ?_
          refine a_goto (pc := 77) (dk dt_X7_choose 43 rfl) (tgt := 24) rfl ?_
          exact a_pick [0, 1] rfl H
        · replace H := H.2 c
          refine a_aload_n (pc := 64) (dk dt_X7_choose 36 rfl) rfl ?_
          refine a_iload_n (pc := 65) (dk dt_X7_choose 37 rfl) rfl ?_
          refine a_puti (pc := 66) (dk dt_X7_choose 38 rfl) cls_7 fl_RX7_41 cf_75_8 rfl rfl ?_
          refine a_aload_n (pc := 69) (dk dt_X7_choose 39 rfl) rfl ?_
          refine a_iload_n (pc := 70) (dk dt_X7_choose 40 rfl) rfl ?_
          refine a_puti (pc := 71) (dk dt_X7_choose 41 rfl) cls_7 fl_RX7_44 cf_75_9 rfl rfl ?_
          refine a_iinc (pc := 74) (dk dt_X7_choose 42 rfl) (by decide) rfl rfl rfl ?_
          refine a_goto (pc := 77) (dk dt_X7_choose 43 rfl) (tgt := 24) rfl ?_
          exact a_pick [0, 1] rfl H
set_option maxHeartbeats 40000000 in
theorem U_X7_findClashes_75_0 {G : GG} {Φ : Int → Hp → Prop} {h : Hp} (H : AT G m_X7_findClashes 2 [(0, rv 75), (1, iv 0)] [] h Φ) : AT G m_X7_findClashes 0 [(0, rv 75)] [] h Φ := by
  refine a_iconst (pc := 0) (dk dt_X7_findClashes 0 rfl) (ik rfl) ?_
  refine a_istore_n (pc := 1) (dk dt_X7_findClashes 1 rfl) (by decide) rfl rfl ?_
  exact a_pick [0, 1] rfl H
set_option maxHeartbeats 40000000 in
theorem U_X7_findClashes_75_2 {G : GG} {Φ : Int → Hp → Prop} {h : Hp} {x1 : Int} (H : (((h 75 5) ≤ x1 → Φ 0 h) ∧ (x1 < (h 75 5) → (0 ≤ x1 ∧ x1 < 12) ∧ AT G m_X7_findClashes 19 [(0, rv 75), (1, iv x1), (2, iv 0)] [] (up h 80 x1 0) Φ))) : AT G m_X7_findClashes 2 [(0, rv 75), (1, iv x1)] [] h Φ := by
  refine a_iload_n (pc := 2) (dk dt_X7_findClashes 2 rfl) rfl ?_
  refine a_aload_n (pc := 3) (dk dt_X7_findClashes 3 rfl) rfl ?_
  refine a_geti (pc := 4) (dk dt_X7_findClashes 4 rfl) cls_7 fl_RX7_31 cf_75_5 ?_
  refine a_icmp_ge (pc := 7) (dk dt_X7_findClashes 5 rfl) (tgt := 65) rfl ⟨fun c => ?_, fun c => ?_⟩
  · replace H := H.1 c
    exact a_vret (pc := 65) (dk dt_X7_findClashes 39 rfl) rfl rfl H
  · replace H := H.2 c
    refine a_aload_n (pc := 10) (dk dt_X7_findClashes 6 rfl) rfl ?_
    refine a_getr (r := 79) (pc := 11) (dk dt_X7_findClashes 7 rfl) cls_7 fl_RX7_24 cf_75_4 ?_
    refine a_iload_n (pc := 14) (dk dt_X7_findClashes 8 rfl) rfl ?_
    refine a_iconst (pc := 15) (dk dt_X7_findClashes 9 rfl) (ik rfl) ?_
    refine a_iast (pc := 16) (dk dt_X7_findClashes 10 rfl) ar_80 ⟨H.1, ?_⟩
    replace H := H.2
    refine a_iconst (pc := 17) (dk dt_X7_findClashes 11 rfl) (ik rfl) ?_
    refine a_istore_n (pc := 18) (dk dt_X7_findClashes 12 rfl) (by decide) rfl rfl ?_
    exact a_pick [0, 1, 2] rfl H
set_option maxHeartbeats 40000000 in
theorem U_X7_findClashes_75_19 {G : GG} {Φ : Int → Hp → Prop} {h : Hp} {x1 : Int} {x2 : Int} (H : (((h 75 5) ≤ x2 → AT G m_X7_findClashes 2 [(0, rv 75), (1, iv (w32 (x1 + 1)))] [] h Φ) ∧ (x2 < (h 75 5) → ((x1 = x2 → AT G m_X7_findClashes 19 [(0, rv 75), (1, iv x1), (2, iv (w32 (x2 + 1)))] [] h Φ) ∧ (x1 ≠ x2 → Call G m_X7_goTogether [rv 75, iv x1, iv x2] h (fun r1 h2 => ((r1 ≠ 0 → AT G m_X7_findClashes 19 [(0, rv 75), (1, iv x1), (2, iv (w32 (x2 + 1)))] [] h2 Φ) ∧ (r1 = 0 → (0 ≤ x1 ∧ x1 < 12) ∧ (0 ≤ x1 ∧ x1 < 12) ∧ AT G m_X7_findClashes 19 [(0, rv 75), (1, iv x1), (2, iv (w32 (x2 + 1)))] [] (up h2 80 x1 (bor (h2 80 x1) (bshl 1 x2))) Φ)))))))) : AT G m_X7_findClashes 19 [(0, rv 75), (1, iv x1), (2, iv x2)] [] h Φ := by
  refine a_iload_n (pc := 19) (dk dt_X7_findClashes 13 rfl) rfl ?_
  refine a_aload_n (pc := 20) (dk dt_X7_findClashes 14 rfl) rfl ?_
  refine a_geti (pc := 21) (dk dt_X7_findClashes 15 rfl) cls_7 fl_RX7_31 cf_75_5 ?_
  refine a_icmp_ge (pc := 24) (dk dt_X7_findClashes 16 rfl) (tgt := 59) rfl ⟨fun c => ?_, fun c => ?_⟩
  · replace H := H.1 c
    refine a_iinc (pc := 59) (dk dt_X7_findClashes 37 rfl) (by decide) rfl rfl rfl ?_
    refine a_goto (pc := 62) (dk dt_X7_findClashes 38 rfl) (tgt := 2) rfl ?_
    exact a_pick [0, 1] rfl H
  · replace H := H.2 c
    refine a_iload_n (pc := 27) (dk dt_X7_findClashes 17 rfl) rfl ?_
    refine a_iload_n (pc := 28) (dk dt_X7_findClashes 18 rfl) rfl ?_
    refine a_icmp_eq (pc := 29) (dk dt_X7_findClashes 19 rfl) (tgt := 53) rfl ⟨fun c => ?_, fun c => ?_⟩
    · replace H := H.1 c
      refine a_iinc (pc := 53) (dk dt_X7_findClashes 35 rfl) (by decide) rfl rfl rfl ?_
      refine a_goto (pc := 56) (dk dt_X7_findClashes 36 rfl) (tgt := 19) rfl ?_
      exact a_pick [0, 1, 2] rfl H
    · replace H := H.2 c
      refine a_aload_n (pc := 32) (dk dt_X7_findClashes 20 rfl) rfl ?_
      refine a_iload_n (pc := 33) (dk dt_X7_findClashes 21 rfl) rfl ?_
      refine a_iload_n (pc := 34) (dk dt_X7_findClashes 22 rfl) rfl ?_
      refine a_callVi (as := [iv x1, iv x2]) (st := []) (pc := 35) (dk dt_X7_findClashes 23 rfl) cl_RX7_55 ⟨Nat.le_of_ble_eq_true rfl, Nat.le_of_ble_eq_true rfl⟩ ⟨Nat.le_of_ble_eq_true rfl, Nat.le_of_ble_eq_true rfl⟩ cls_7 rfl cc_75 rfl rfl rfl (Nat.le_of_ble_eq_true rfl) (Call.mono H fun r1 h2 H => ?_)
      refine a_if_ne (pc := 38) (dk dt_X7_findClashes 24 rfl) (tgt := 53) rfl ⟨fun c => ?_, fun c => ?_⟩
      · replace H := H.1 c
        refine a_iinc (pc := 53) (dk dt_X7_findClashes 35 rfl) (by decide) rfl rfl rfl ?_
        refine a_goto (pc := 56) (dk dt_X7_findClashes 36 rfl) (tgt := 19) rfl ?_
        exact a_pick [0, 1, 2] rfl H
      · replace H := H.2 c
        refine a_aload_n (pc := 41) (dk dt_X7_findClashes 25 rfl) rfl ?_
        refine a_getr (r := 79) (pc := 42) (dk dt_X7_findClashes 26 rfl) cls_7 fl_RX7_24 cf_75_4 ?_
        refine a_iload_n (pc := 45) (dk dt_X7_findClashes 27 rfl) rfl ?_
        refine a_dup2 (pc := 46) (dk dt_X7_findClashes 28 rfl) rfl rfl ?_
        refine a_iald (pc := 47) (dk dt_X7_findClashes 29 rfl) ar_80 ⟨H.1, ?_⟩
        replace H := H.2
        refine a_iconst (pc := 48) (dk dt_X7_findClashes 30 rfl) (ik rfl) ?_
        refine a_iload_n (pc := 49) (dk dt_X7_findClashes 31 rfl) rfl ?_
        refine a_ishl (pc := 50) (dk dt_X7_findClashes 32 rfl) ?_
        refine a_ior (pc := 51) (dk dt_X7_findClashes 33 rfl) ?_
        refine a_iast (pc := 52) (dk dt_X7_findClashes 34 rfl) ar_80 ⟨H.1, ?_⟩
        replace H := H.2
        refine a_iinc (pc := 53) (dk dt_X7_findClashes 35 rfl) (by decide) rfl rfl rfl ?_
        refine a_goto (pc := 56) (dk dt_X7_findClashes 36 rfl) (tgt := 19) rfl ?_
        exact a_pick [0, 1, 2] rfl H
set_option maxHeartbeats 40000000 in
theorem U_X7_worthOf_75_0 {G : GG} {Φ : Int → Hp → Prop} {h : Hp} {x1 : Int} (H : AT G m_X7_worthOf 4 [(0, rv 75), (1, iv x1), (2, iv 0), (3, iv 0)] [] h Φ) : AT G m_X7_worthOf 0 [(0, rv 75), (1, iv x1)] [] h Φ := by
  refine a_iconst (pc := 0) (dk dt_X7_worthOf 0 rfl) (ik rfl) ?_
  refine a_istore_n (pc := 1) (dk dt_X7_worthOf 1 rfl) (by decide) rfl rfl ?_
  refine a_iconst (pc := 2) (dk dt_X7_worthOf 2 rfl) (ik rfl) ?_
  refine a_istore_n (pc := 3) (dk dt_X7_worthOf 3 rfl) (by decide) rfl rfl ?_
  exact a_pick [0, 1, 2, 3] rfl H
set_option maxHeartbeats 40000000 in
theorem U_X7_worthOf_75_4 {G : GG} {Φ : Int → Hp → Prop} {h : Hp} {x1 : Int} {x2 : Int} {x3 : Int} (H : (((h 75 5) ≤ x3 → Φ x2 h) ∧ (x3 < (h 75 5) → (((band (bshr x1 x3) 1) ≠ 1 → AT G m_X7_worthOf 4 [(0, rv 75), (1, iv x1), (2, iv x2), (3, iv (w32 (x3 + 1)))] [] h Φ) ∧ ((band (bshr x1 x3) 1) = 1 → (0 ≤ x3 ∧ x3 < 12) ∧ (((band (h 80 x3) x1) = 0 → (0 ≤ x3 ∧ x3 < 12) ∧ AT G m_X7_worthOf 4 [(0, rv 75), (1, iv x1), (2, iv (w32 (x2 + (h 79 x3)))), (3, iv (w32 (x3 + 1)))] [] h Φ) ∧ ((band (h 80 x3) x1) ≠ 0 → Φ (-1) h))))))) : AT G m_X7_worthOf 4 [(0, rv 75), (1, iv x1), (2, iv x2), (3, iv x3)] [] h Φ := by
  refine a_iload_n (pc := 4) (dk dt_X7_worthOf 4 rfl) rfl ?_
  refine a_aload_n (pc := 5) (dk dt_X7_worthOf 5 rfl) rfl ?_
  refine a_geti (pc := 6) (dk dt_X7_worthOf 6 rfl) cls_7 fl_RX7_31 cf_75_5 ?_
  refine a_icmp_ge (pc := 9) (dk dt_X7_worthOf 7 rfl) (tgt := 49) rfl ⟨fun c => ?_, fun c => ?_⟩
  · replace H := H.1 c
    refine a_iload_n (pc := 49) (dk dt_X7_worthOf 33 rfl) rfl ?_
    exact a_iret (pc := 50) (dk dt_X7_worthOf 34 rfl) rfl rfl H
  · replace H := H.2 c
    refine a_iload_n (pc := 12) (dk dt_X7_worthOf 8 rfl) rfl ?_
    refine a_iload_n (pc := 13) (dk dt_X7_worthOf 9 rfl) rfl ?_
    refine a_ishr (pc := 14) (dk dt_X7_worthOf 10 rfl) ?_
    refine a_iconst (pc := 15) (dk dt_X7_worthOf 11 rfl) (ik rfl) ?_
    refine a_iand (pc := 16) (dk dt_X7_worthOf 12 rfl) ?_
    refine a_iconst (pc := 17) (dk dt_X7_worthOf 13 rfl) (ik rfl) ?_
    refine a_icmp_ne (pc := 18) (dk dt_X7_worthOf 14 rfl) (tgt := 43) rfl ⟨fun c => ?_, fun c => ?_⟩
    · replace H := H.1 c
      refine a_iinc (pc := 43) (dk dt_X7_worthOf 31 rfl) (by decide) rfl rfl rfl ?_
      refine a_goto (pc := 46) (dk dt_X7_worthOf 32 rfl) (tgt := 4) rfl ?_
      exact a_pick [0, 1, 2, 3] rfl H
    · replace H := H.2 c
      refine a_aload_n (pc := 21) (dk dt_X7_worthOf 15 rfl) rfl ?_
      refine a_getr (r := 79) (pc := 22) (dk dt_X7_worthOf 16 rfl) cls_7 fl_RX7_24 cf_75_4 ?_
      refine a_iload_n (pc := 25) (dk dt_X7_worthOf 17 rfl) rfl ?_
      refine a_iald (pc := 26) (dk dt_X7_worthOf 18 rfl) ar_80 ⟨H.1, ?_⟩
      replace H := H.2
      refine a_iload_n (pc := 27) (dk dt_X7_worthOf 19 rfl) rfl ?_
      refine a_iand (pc := 28) (dk dt_X7_worthOf 20 rfl) ?_
      refine a_if_eq (pc := 29) (dk dt_X7_worthOf 21 rfl) (tgt := 34) rfl ⟨fun c => ?_, fun c => ?_⟩
      · replace H := H.1 c
        refine a_iload_n (pc := 34) (dk dt_X7_worthOf 24 rfl) rfl ?_
        refine a_aload_n (pc := 35) (dk dt_X7_worthOf 25 rfl) rfl ?_
        refine a_getr (r := 78) (pc := 36) (dk dt_X7_worthOf 26 rfl) cls_7 fl_RX7_21 cf_75_3 ?_
        refine a_iload_n (pc := 39) (dk dt_X7_worthOf 27 rfl) rfl ?_
        refine a_iald (pc := 40) (dk dt_X7_worthOf 28 rfl) ar_79 ⟨H.1, ?_⟩
        replace H := H.2
        refine a_iadd (pc := 41) (dk dt_X7_worthOf 29 rfl) ?_
        refine a_istore_n (pc := 42) (dk dt_X7_worthOf 30 rfl) (by decide) rfl rfl ?_
        refine a_iinc (pc := 43) (dk dt_X7_worthOf 31 rfl) (by decide) rfl rfl rfl ?_
        refine a_goto (pc := 46) (dk dt_X7_worthOf 32 rfl) (tgt := 4) rfl ?_
        exact a_pick [0, 1, 2, 3] rfl H
      · replace H := H.2 c
        refine a_iconst (pc := 32) (dk dt_X7_worthOf 22 rfl) (ik rfl) ?_
        exact a_iret (pc := 33) (dk dt_X7_worthOf 23 rfl) rfl rfl H
set_option maxHeartbeats 40000000 in
theorem U_X7_isAhead_75_0 {G : GG} {Φ : Int → Hp → Prop} {h : Hp} {x1 : Int} (H : Call G m_J6_bitCount_0f7a4 [iv (h 75 8)] h (fun r1 h2 => Call G m_J6_bitCount_0f7a4 [iv x1] h2 (fun r3 h4 => ((0 < (w32 (r1 - r3)) → Φ 1 h4) ∧ ((w32 (r1 - r3)) ≤ 0 → (((w32 (r1 - r3)) ≠ 0 → Φ 0 h4) ∧ ((w32 (r1 - r3)) = 0 → (((band (band x1 (bxor x1 (h4 75 8))) (w32 (-(bxor x1 (h4 75 8))))) = 0 → Φ 0 h4) ∧ ((band (band x1 (bxor x1 (h4 75 8))) (w32 (-(bxor x1 (h4 75 8))))) ≠ 0 → Φ 1 h4))))))))) : AT G m_X7_isAhead 0 [(0, rv 75), (1, iv x1)] [] h Φ := by
  refine a_aload_n (pc := 0) (dk dt_X7_isAhead 0 rfl) rfl ?_
  refine a_geti (pc := 1) (dk dt_X7_isAhead 1 rfl) cls_7 fl_RX7_41 cf_75_8 ?_
  refine a_callSi (as := [iv (h 75 8)]) (st := []) (pc := 4) (dk dt_X7_isAhead 2 rfl) cl_RX7_59 ⟨Nat.le_of_ble_eq_true rfl, Nat.le_of_ble_eq_true rfl⟩ ⟨Nat.le_of_ble_eq_true rfl, Nat.le_of_ble_eq_true rfl⟩ rfl rfl rfl (Nat.le_of_ble_eq_true rfl) (Call.mono H fun r1 h2 H => ?_)
  refine a_iload_n (pc := 7) (dk dt_X7_isAhead 3 rfl) rfl ?_
  refine a_callSi (as := [iv x1]) (st := [iv r1]) (pc := 8) (dk dt_X7_isAhead 4 rfl) cl_RX7_59 ⟨Nat.le_of_ble_eq_true rfl, Nat.le_of_ble_eq_true rfl⟩ ⟨Nat.le_of_ble_eq_true rfl, Nat.le_of_ble_eq_true rfl⟩ rfl rfl rfl (Nat.le_of_ble_eq_true rfl) (Call.mono H fun r3 h4 H => ?_)
  refine a_isub (pc := 11) (dk dt_X7_isAhead 5 rfl) ?_
  refine a_istore_n (pc := 12) (dk dt_X7_isAhead 6 rfl) (by decide) rfl rfl ?_
  refine a_iload_n (pc := 13) (dk dt_X7_isAhead 7 rfl) rfl ?_
  refine a_aload_n (pc := 14) (dk dt_X7_isAhead 8 rfl) rfl ?_
  refine a_geti (pc := 15) (dk dt_X7_isAhead 9 rfl) cls_7 fl_RX7_41 cf_75_8 ?_
  refine a_ixor (pc := 18) (dk dt_X7_isAhead 10 rfl) ?_
  refine a_istore_n (pc := 19) (dk dt_X7_isAhead 11 rfl) (by decide) rfl rfl ?_
  refine a_iload_n (pc := 20) (dk dt_X7_isAhead 12 rfl) rfl ?_
  refine a_if_gt (pc := 21) (dk dt_X7_isAhead 13 rfl) (tgt := 37) rfl ⟨fun c => ?_, fun c => ?_⟩
  · replace H := H.1 c
    refine a_iconst (pc := 37) (dk dt_X7_isAhead 23 rfl) (ik rfl) ?_
    refine a_goto (pc := 38) (dk dt_X7_isAhead 24 rfl) (tgt := 42) rfl ?_
    exact a_zret (pc := 42) (dk dt_X7_isAhead 26 rfl) rfl rfl ⟨by decide, H⟩
  · replace H := H.2 c
    refine a_iload_n (pc := 24) (dk dt_X7_isAhead 14 rfl) rfl ?_
    refine a_if_ne (pc := 25) (dk dt_X7_isAhead 15 rfl) (tgt := 41) rfl ⟨fun c => ?_, fun c => ?_⟩
    · replace H := H.1 c
      refine a_iconst (pc := 41) (dk dt_X7_isAhead 25 rfl) (ik rfl) ?_
      exact a_zret (pc := 42) (dk dt_X7_isAhead 26 rfl) rfl rfl ⟨by decide, H⟩
    · replace H := H.2 c
      refine a_iload_n (pc := 28) (dk dt_X7_isAhead 16 rfl) rfl ?_
      refine a_iload_n (pc := 29) (dk dt_X7_isAhead 17 rfl) rfl ?_
      refine a_iand (pc := 30) (dk dt_X7_isAhead 18 rfl) ?_
      refine a_iload_n (pc := 31) (dk dt_X7_isAhead 19 rfl) rfl ?_
      refine a_ineg (pc := 32) (dk dt_X7_isAhead 20 rfl) ?_
      refine a_iand (pc := 33) (dk dt_X7_isAhead 21 rfl) ?_
      refine a_if_eq (pc := 34) (dk dt_X7_isAhead 22 rfl) (tgt := 41) rfl ⟨fun c => ?_, fun c => ?_⟩
      · replace H := H.1 c
        refine a_iconst (pc := 41) (dk dt_X7_isAhead 25 rfl) (ik rfl) ?_
        exact a_zret (pc := 42) (dk dt_X7_isAhead 26 rfl) rfl rfl ⟨by decide, H⟩
      · replace H := H.2 c
        refine a_iconst (pc := 37) (dk dt_X7_isAhead 23 rfl) (ik rfl) ?_
        refine a_goto (pc := 38) (dk dt_X7_isAhead 24 rfl) (tgt := 42) rfl ?_
        exact a_zret (pc := 42) (dk dt_X7_isAhead 26 rfl) rfl rfl ⟨by decide, H⟩
set_option maxHeartbeats 40000000 in
theorem U_X7_goTogether_75_0 {G : GG} {Φ : Int → Hp → Prop} {h : Hp} {x1 : Int} {x2 : Int} (H : (0 ≤ x1 ∧ x1 < 12) ∧ (0 ≤ x2 ∧ x2 < 12) ∧ (((h 76 x1) ≠ (h 76 x2) → (0 ≤ x1 ∧ x1 < 12) ∧ (0 ≤ x2 ∧ x2 < 12) ∧ (((w32 ((h 78 x1) + (h 75 6))) ≤ (h 77 x2) → Φ 1 h) ∧ ((h 77 x2) < (w32 ((h 78 x1) + (h 75 6))) → (0 ≤ x2 ∧ x2 < 12) ∧ (0 ≤ x1 ∧ x1 < 12) ∧ (((h 77 x1) < (w32 ((h 78 x2) + (h 75 6))) → Φ 0 h) ∧ ((w32 ((h 78 x2) + (h 75 6))) ≤ (h 77 x1) → Φ 1 h))))) ∧ ((h 76 x1) = (h 76 x2) → (0 ≤ x1 ∧ x1 < 12) ∧ (0 ≤ x2 ∧ x2 < 12) ∧ (((w32 ((h 78 x1) + 0)) ≤ (h 77 x2) → Φ 1 h) ∧ ((h 77 x2) < (w32 ((h 78 x1) + 0)) → (0 ≤ x2 ∧ x2 < 12) ∧ (0 ≤ x1 ∧ x1 < 12) ∧ (((h 77 x1) < (w32 ((h 78 x2) + 0)) → Φ 0 h) ∧ ((w32 ((h 78 x2) + 0)) ≤ (h 77 x1) → Φ 1 h))))))) : AT G m_X7_goTogether 0 [(0, rv 75), (1, iv x1), (2, iv x2)] [] h Φ := by
  refine a_aload_n (pc := 0) (dk dt_X7_goTogether 0 rfl) rfl ?_
  refine a_getr (r := 75) (pc := 1) (dk dt_X7_goTogether 1 rfl) cls_7 fl_RX7_11 cf_75_0 ?_
  refine a_iload_n (pc := 4) (dk dt_X7_goTogether 2 rfl) rfl ?_
  refine a_iald (pc := 5) (dk dt_X7_goTogether 3 rfl) ar_76 ⟨H.1, ?_⟩
  replace H := H.2
  refine a_aload_n (pc := 6) (dk dt_X7_goTogether 4 rfl) rfl ?_
  refine a_getr (r := 75) (pc := 7) (dk dt_X7_goTogether 5 rfl) cls_7 fl_RX7_11 cf_75_0 ?_
  refine a_iload_n (pc := 10) (dk dt_X7_goTogether 6 rfl) rfl ?_
  refine a_iald (pc := 11) (dk dt_X7_goTogether 7 rfl) ar_76 ⟨H.1, ?_⟩
  replace H := H.2
  refine a_icmp_ne (pc := 12) (dk dt_X7_goTogether 8 rfl) (tgt := 19) rfl ⟨fun c => ?_, fun c => ?_⟩
  · replace H := H.1 c
    refine a_aload_n (pc := 19) (dk dt_X7_goTogether 11 rfl) rfl ?_
    refine a_geti (pc := 20) (dk dt_X7_goTogether 12 rfl) cls_7 fl_RX7_27 cf_75_6 ?_
    refine a_istore_n (pc := 23) (dk dt_X7_goTogether 13 rfl) (by decide) rfl rfl ?_
    refine a_aload_n (pc := 24) (dk dt_X7_goTogether 14 rfl) rfl ?_
    refine a_getr (r := 77) (pc := 25) (dk dt_X7_goTogether 15 rfl) cls_7 fl_RX7_18 cf_75_2 ?_
    refine a_iload_n (pc := 28) (dk dt_X7_goTogether 16 rfl) rfl ?_
    refine a_iald (pc := 29) (dk dt_X7_goTogether 17 rfl) ar_78 ⟨H.1, ?_⟩
    replace H := H.2
    refine a_iload_n (pc := 30) (dk dt_X7_goTogether 18 rfl) rfl ?_
    refine a_iadd (pc := 31) (dk dt_X7_goTogether 19 rfl) ?_
    refine a_aload_n (pc := 32) (dk dt_X7_goTogether 20 rfl) rfl ?_
    refine a_getr (r := 76) (pc := 33) (dk dt_X7_goTogether 21 rfl) cls_7 fl_RX7_15 cf_75_1 ?_
    refine a_iload_n (pc := 36) (dk dt_X7_goTogether 22 rfl) rfl ?_
    refine a_iald (pc := 37) (dk dt_X7_goTogether 23 rfl) ar_77 ⟨H.1, ?_⟩
    replace H := H.2
    refine a_icmp_le (pc := 38) (dk dt_X7_goTogether 24 rfl) (tgt := 58) rfl ⟨fun c => ?_, fun c => ?_⟩
    · replace H := H.1 c
      refine a_iconst (pc := 58) (dk dt_X7_goTogether 36 rfl) (ik rfl) ?_
      refine a_goto (pc := 59) (dk dt_X7_goTogether 37 rfl) (tgt := 63) rfl ?_
      exact a_zret (pc := 63) (dk dt_X7_goTogether 39 rfl) rfl rfl ⟨by decide, H⟩
    · replace H := H.2 c
      refine a_aload_n (pc := 41) (dk dt_X7_goTogether 25 rfl) rfl ?_
      refine a_getr (r := 77) (pc := 42) (dk dt_X7_goTogether 26 rfl) cls_7 fl_RX7_18 cf_75_2 ?_
      refine a_iload_n (pc := 45) (dk dt_X7_goTogether 27 rfl) rfl ?_
      refine a_iald (pc := 46) (dk dt_X7_goTogether 28 rfl) ar_78 ⟨H.1, ?_⟩
      replace H := H.2
      refine a_iload_n (pc := 47) (dk dt_X7_goTogether 29 rfl) rfl ?_
      refine a_iadd (pc := 48) (dk dt_X7_goTogether 30 rfl) ?_
      refine a_aload_n (pc := 49) (dk dt_X7_goTogether 31 rfl) rfl ?_
      refine a_getr (r := 76) (pc := 50) (dk dt_X7_goTogether 32 rfl) cls_7 fl_RX7_15 cf_75_1 ?_
      refine a_iload_n (pc := 53) (dk dt_X7_goTogether 33 rfl) rfl ?_
      refine a_iald (pc := 54) (dk dt_X7_goTogether 34 rfl) ar_77 ⟨H.1, ?_⟩
      replace H := H.2
      refine a_icmp_gt (pc := 55) (dk dt_X7_goTogether 35 rfl) (tgt := 62) rfl ⟨fun c => ?_, fun c => ?_⟩
      · replace H := H.1 c
        refine a_iconst (pc := 62) (dk dt_X7_goTogether 38 rfl) (ik rfl) ?_
        exact a_zret (pc := 63) (dk dt_X7_goTogether 39 rfl) rfl rfl ⟨by decide, H⟩
      · replace H := H.2 c
        refine a_iconst (pc := 58) (dk dt_X7_goTogether 36 rfl) (ik rfl) ?_
        refine a_goto (pc := 59) (dk dt_X7_goTogether 37 rfl) (tgt := 63) rfl ?_
        exact a_zret (pc := 63) (dk dt_X7_goTogether 39 rfl) rfl rfl ⟨by decide, H⟩
  · replace H := H.2 c
    refine a_iconst (pc := 15) (dk dt_X7_goTogether 9 rfl) (ik rfl) ?_
    refine a_goto (pc := 16) (dk dt_X7_goTogether 10 rfl) (tgt := 23) rfl ?_
    refine a_istore_n (pc := 23) (dk dt_X7_goTogether 13 rfl) (by decide) rfl rfl ?_
    refine a_aload_n (pc := 24) (dk dt_X7_goTogether 14 rfl) rfl ?_
    refine a_getr (r := 77) (pc := 25) (dk dt_X7_goTogether 15 rfl) cls_7 fl_RX7_18 cf_75_2 ?_
    refine a_iload_n (pc := 28) (dk dt_X7_goTogether 16 rfl) rfl ?_
    refine a_iald (pc := 29) (dk dt_X7_goTogether 17 rfl) ar_78 ⟨H.1, ?_⟩
    replace H := H.2
    refine a_iload_n (pc := 30) (dk dt_X7_goTogether 18 rfl) rfl ?_
    refine a_iadd (pc := 31) (dk dt_X7_goTogether 19 rfl) ?_
    refine a_aload_n (pc := 32) (dk dt_X7_goTogether 20 rfl) rfl ?_
    refine a_getr (r := 76) (pc := 33) (dk dt_X7_goTogether 21 rfl) cls_7 fl_RX7_15 cf_75_1 ?_
    refine a_iload_n (pc := 36) (dk dt_X7_goTogether 22 rfl) rfl ?_
    refine a_iald (pc := 37) (dk dt_X7_goTogether 23 rfl) ar_77 ⟨H.1, ?_⟩
    replace H := H.2
    refine a_icmp_le (pc := 38) (dk dt_X7_goTogether 24 rfl) (tgt := 58) rfl ⟨fun c => ?_, fun c => ?_⟩
    · replace H := H.1 c
      refine a_iconst (pc := 58) (dk dt_X7_goTogether 36 rfl) (ik rfl) ?_
      refine a_goto (pc := 59) (dk dt_X7_goTogether 37 rfl) (tgt := 63) rfl ?_
      exact a_zret (pc := 63) (dk dt_X7_goTogether 39 rfl) rfl rfl ⟨by decide, H⟩
    · replace H := H.2 c
      refine a_aload_n (pc := 41) (dk dt_X7_goTogether 25 rfl) rfl ?_
      refine a_getr (r := 77) (pc := 42) (dk dt_X7_goTogether 26 rfl) cls_7 fl_RX7_18 cf_75_2 ?_
      refine a_iload_n (pc := 45) (dk dt_X7_goTogether 27 rfl) rfl ?_
      refine a_iald (pc := 46) (dk dt_X7_goTogether 28 rfl) ar_78 ⟨H.1, ?_⟩
      replace H := H.2
      refine a_iload_n (pc := 47) (dk dt_X7_goTogether 29 rfl) rfl ?_
      refine a_iadd (pc := 48) (dk dt_X7_goTogether 30 rfl) ?_
      refine a_aload_n (pc := 49) (dk dt_X7_goTogether 31 rfl) rfl ?_
      refine a_getr (r := 76) (pc := 50) (dk dt_X7_goTogether 32 rfl) cls_7 fl_RX7_15 cf_75_1 ?_
      refine a_iload_n (pc := 53) (dk dt_X7_goTogether 33 rfl) rfl ?_
      refine a_iald (pc := 54) (dk dt_X7_goTogether 34 rfl) ar_77 ⟨H.1, ?_⟩
      replace H := H.2
      refine a_icmp_gt (pc := 55) (dk dt_X7_goTogether 35 rfl) (tgt := 62) rfl ⟨fun c => ?_, fun c => ?_⟩
      · replace H := H.1 c
        refine a_iconst (pc := 62) (dk dt_X7_goTogether 38 rfl) (ik rfl) ?_
        exact a_zret (pc := 63) (dk dt_X7_goTogether 39 rfl) rfl rfl ⟨by decide, H⟩
      · replace H := H.2 c
        refine a_iconst (pc := 58) (dk dt_X7_goTogether 36 rfl) (ik rfl) ?_
        refine a_goto (pc := 59) (dk dt_X7_goTogether 37 rfl) (tgt := 63) rfl ?_
        exact a_zret (pc := 63) (dk dt_X7_goTogether 39 rfl) rfl rfl ⟨by decide, H⟩
set_option maxHeartbeats 40000000 in
theorem U_X9_turnsTo_81_0 {G : GG} {Φ : Int → Hp → Prop} {h : Hp} {x1 : Int} {x2 : Int} (H : Call G m_J7_fill_53178 [rv 83, iv (-1)] h (fun _ h2 => (0 ≤ x1 ∧ x1 < 288) ∧ (((h2 82 x1) ≠ 0 → Φ (-1) h2) ∧ ((h2 82 x1) = 0 → (0 ≤ x2 ∧ x2 < 288) ∧ (((h2 82 x2) = 0 → (0 ≤ x2 ∧ x2 < 288) ∧ AT G m_X9_turnsTo 47 [(0, rv 81), (1, iv x1), (3, iv 1), (4, iv 0)] [] (up (up h2 83 x2 0) 84 0 x2) Φ) ∧ ((h2 82 x2) ≠ 0 → Φ (-1) h2)))))) : AT G m_X9_turnsTo 0 [(0, rv 81), (1, iv x1), (2, iv x2)] [] h Φ := by
  refine a_aload_n (pc := 0) (dk dt_X9_turnsTo 0 rfl) rfl ?_
  refine a_getr (r := 82) (pc := 1) (dk dt_X9_turnsTo 1 rfl) cls_9 fl_RX9_15 cf_81_1 ?_
  refine a_iconst (pc := 4) (dk dt_X9_turnsTo 2 rfl) (ik rfl) ?_
  refine a_callSv (as := [rv 83, iv (-1)]) (st := []) (pc := 5) (dk dt_X9_turnsTo 3 rfl) cl_RX9_22 ⟨Nat.le_of_ble_eq_true rfl, Nat.le_of_ble_eq_true rfl⟩ ⟨Nat.le_of_ble_eq_true rfl, Nat.le_of_ble_eq_true rfl⟩ rfl rfl rfl (Nat.le_of_ble_eq_true rfl) (Call.mono H fun _ h2 H => ?_)
  refine a_aload_n (pc := 8) (dk dt_X9_turnsTo 4 rfl) rfl ?_
  refine a_getr (r := 81) (pc := 9) (dk dt_X9_turnsTo 5 rfl) cls_9 fl_RX9_11 cf_81_0 ?_
  refine a_iload_n (pc := 12) (dk dt_X9_turnsTo 6 rfl) rfl ?_
  refine a_zald (pc := 13) (dk dt_X9_turnsTo 7 rfl) ar_82 ⟨H.1, ?_⟩
  replace H := H.2
  refine a_if_ne (pc := 14) (dk dt_X9_turnsTo 8 rfl) (tgt := 26) rfl ⟨fun c => ?_, fun c => ?_⟩
  · replace H := H.1 c
    refine a_iconst (pc := 26) (dk dt_X9_turnsTo 14 rfl) (ik rfl) ?_
    exact a_iret (pc := 27) (dk dt_X9_turnsTo 15 rfl) rfl rfl H
  · replace H := H.2 c
    refine a_aload_n (pc := 17) (dk dt_X9_turnsTo 9 rfl) rfl ?_
    refine a_getr (r := 81) (pc := 18) (dk dt_X9_turnsTo 10 rfl) cls_9 fl_RX9_11 cf_81_0 ?_
    refine a_iload_n (pc := 21) (dk dt_X9_turnsTo 11 rfl) rfl ?_
    refine a_zald (pc := 22) (dk dt_X9_turnsTo 12 rfl) ar_82 ⟨H.1, ?_⟩
    replace H := H.2
    refine a_if_eq (pc := 23) (dk dt_X9_turnsTo 13 rfl) (tgt := 28) rfl ⟨fun c => ?_, fun c => ?_⟩
    · replace H := H.1 c
      refine a_aload_n (pc := 28) (dk dt_X9_turnsTo 16 rfl) rfl ?_
      refine a_getr (r := 82) (pc := 29) (dk dt_X9_turnsTo 17 rfl) cls_9 fl_RX9_15 cf_81_1 ?_
      refine a_iload_n (pc := 32) (dk dt_X9_turnsTo 18 rfl) rfl ?_
      refine a_iconst (pc := 33) (dk dt_X9_turnsTo 19 rfl) (ik rfl) ?_
      refine a_iast (pc := 34) (dk dt_X9_turnsTo 20 rfl) ar_83 ⟨H.1, ?_⟩
      replace H := H.2
      refine a_aload_n (pc := 35) (dk dt_X9_turnsTo 21 rfl) rfl ?_
      refine a_getr (r := 83) (pc := 36) (dk dt_X9_turnsTo 22 rfl) cls_9 fl_RX9_19 cf_81_2 ?_
      refine a_iconst (pc := 39) (dk dt_X9_turnsTo 23 rfl) (ik rfl) ?_
      refine a_iload_n (pc := 40) (dk dt_X9_turnsTo 24 rfl) rfl ?_
      refine a_iast (pc := 41) (dk dt_X9_turnsTo 25 rfl) ar_84 ⟨⟨by decide, by decide⟩, ?_⟩
      refine a_iconst (pc := 42) (dk dt_X9_turnsTo 26 rfl) (ik rfl) ?_
      refine a_istore_n (pc := 43) (dk dt_X9_turnsTo 27 rfl) (by decide) rfl rfl ?_
      refine a_iconst (pc := 44) (dk dt_X9_turnsTo 28 rfl) (ik rfl) ?_
      refine a_istore (pc := 45) (dk dt_X9_turnsTo 29 rfl) (by decide) rfl rfl ?_
      exact a_pick [0, 1, 3, 4] rfl H
    · replace H := H.2 c
      refine a_iconst (pc := 26) (dk dt_X9_turnsTo 14 rfl) (ik rfl) ?_
      exact a_iret (pc := 27) (dk dt_X9_turnsTo 15 rfl) rfl rfl H
set_option maxHeartbeats 40000000 in
theorem U_X9_turnsTo_81_47 {G : GG} {Φ : Int → Hp → Prop} {h : Hp} {x1 : Int} {x3 : Int} {x4 : Int} (H : ((x3 ≤ x4 → (0 ≤ x1 ∧ x1 < 288) ∧ Φ (h 83 x1) h) ∧ (x4 < x3 → ((288 ≤ x4 → (0 ≤ x1 ∧ x1 < 288) ∧ Φ (h 83 x1) h) ∧ (x4 < 288 → (0 ≤ x1 ∧ x1 < 288) ∧ (((h 83 x1) ≠ (-1) → (0 ≤ x1 ∧ x1 < 288) ∧ Φ (h 83 x1) h) ∧ ((h 83 x1) = (-1) → AT G m_X9_turnsTo 74 [(0, rv 81), (1, iv x1), (3, iv x3), (4, iv x4), (5, iv 0)] [] h Φ))))))) : AT G m_X9_turnsTo 47 [(0, rv 81), (1, iv x1), (3, iv x3), (4, iv x4)] [] h Φ := by
  refine a_iload (pc := 47) (dk dt_X9_turnsTo 30 rfl) rfl ?_
  refine a_iload_n (pc := 49) (dk dt_X9_turnsTo 31 rfl) rfl ?_
  refine a_icmp_ge (pc := 50) (dk dt_X9_turnsTo 32 rfl) (tgt := 172) rfl ⟨fun c => ?_, fun c => ?_⟩
  · replace H := H.1 c
    refine a_aload_n (pc := 172) (dk dt_X9_turnsTo 94 rfl) rfl ?_
    refine a_getr (r := 82) (pc := 173) (dk dt_X9_turnsTo 95 rfl) cls_9 fl_RX9_15 cf_81_1 ?_
    refine a_iload_n (pc := 176) (dk dt_X9_turnsTo 96 rfl) rfl ?_
    refine a_iald (pc := 177) (dk dt_X9_turnsTo 97 rfl) ar_83 ⟨H.1, ?_⟩
    replace H := H.2
    exact a_iret (pc := 178) (dk dt_X9_turnsTo 98 rfl) rfl rfl H
  · replace H := H.2 c
    refine a_iload (pc := 53) (dk dt_X9_turnsTo 33 rfl) rfl ?_
    refine a_sipush (pc := 55) (dk dt_X9_turnsTo 34 rfl) (ik rfl) (spk rfl) ?_
    refine a_icmp_ge (pc := 58) (dk dt_X9_turnsTo 35 rfl) (tgt := 172) rfl ⟨fun c => ?_, fun c => ?_⟩
    · replace H := H.1 c
      refine a_aload_n (pc := 172) (dk dt_X9_turnsTo 94 rfl) rfl ?_
      refine a_getr (r := 82) (pc := 173) (dk dt_X9_turnsTo 95 rfl) cls_9 fl_RX9_15 cf_81_1 ?_
      refine a_iload_n (pc := 176) (dk dt_X9_turnsTo 96 rfl) rfl ?_
      refine a_iald (pc := 177) (dk dt_X9_turnsTo 97 rfl) ar_83 ⟨H.1, ?_⟩
      replace H := H.2
      exact a_iret (pc := 178) (dk dt_X9_turnsTo 98 rfl) rfl rfl H
    · replace H := H.2 c
      refine a_aload_n (pc := 61) (dk dt_X9_turnsTo 36 rfl) rfl ?_
      refine a_getr (r := 82) (pc := 62) (dk dt_X9_turnsTo 37 rfl) cls_9 fl_RX9_15 cf_81_1 ?_
      refine a_iload_n (pc := 65) (dk dt_X9_turnsTo 38 rfl) rfl ?_
      refine a_iald (pc := 66) (dk dt_X9_turnsTo 39 rfl) ar_83 ⟨H.1, ?_⟩
      replace H := H.2
      refine a_iconst (pc := 67) (dk dt_X9_turnsTo 40 rfl) (ik rfl) ?_
      refine a_icmp_ne (pc := 68) (dk dt_X9_turnsTo 41 rfl) (tgt := 172) rfl ⟨fun c => ?_, fun c => ?_⟩
      · replace H := H.1 c
        refine a_aload_n (pc := 172) (dk dt_X9_turnsTo 94 rfl) rfl ?_
        refine a_getr (r := 82) (pc := 173) (dk dt_X9_turnsTo 95 rfl) cls_9 fl_RX9_15 cf_81_1 ?_
        refine a_iload_n (pc := 176) (dk dt_X9_turnsTo 96 rfl) rfl ?_
        refine a_iald (pc := 177) (dk dt_X9_turnsTo 97 rfl) ar_83 ⟨H.1, ?_⟩
        replace H := H.2
        exact a_iret (pc := 178) (dk dt_X9_turnsTo 98 rfl) rfl rfl H
      · replace H := H.2 c
        refine a_iconst (pc := 71) (dk dt_X9_turnsTo 42 rfl) (ik rfl) ?_
        refine a_istore (pc := 72) (dk dt_X9_turnsTo 43 rfl) (by decide) rfl rfl ?_
        exact a_pick [0, 1, 2, 3, 4] rfl H
set_option maxHeartbeats 40000000 in
theorem U_X9_turnsTo_81_74 {G : GG} {Φ : Int → Hp → Prop} {h : Hp} {x1 : Int} {x3 : Int} {x4 : Int} {x5 : Int} (H : ((4 ≤ x5 → AT G m_X9_turnsTo 47 [(0, rv 81), (1, iv x1), (3, iv x3), (4, iv (w32 (x4 + 1)))] [] h Φ) ∧ (x5 < 4 → (0 ≤ x4 ∧ x4 < 288) ∧ Call G m_X9_neighbour [iv (h 84 x4), iv x5] h (fun r1 h2 => ((r1 = (-1) → AT G m_X9_turnsTo 74 [(0, rv 81), (1, iv x1), (3, iv x3), (4, iv x4), (5, iv (w32 (x5 + 1)))] [] h2 Φ) ∧ (r1 ≠ (-1) → (0 ≤ r1 ∧ r1 < 288) ∧ (((h2 82 r1) ≠ 0 → AT G m_X9_turnsTo 74 [(0, rv 81), (1, iv x1), (3, iv x3), (4, iv x4), (5, iv (w32 (x5 + 1)))] [] h2 Φ) ∧ ((h2 82 r1) = 0 → (0 ≤ r1 ∧ r1 < 288) ∧ (((h2 83 r1) ≠ (-1) → AT G m_X9_turnsTo 74 [(0, rv 81), (1, iv x1), (3, iv x3), (4, iv x4), (5, iv (w32 (x5 + 1)))] [] h2 Φ) ∧ ((h2 83 r1) = (-1) → ((288 ≤ x3 → AT G m_X9_turnsTo 74 [(0, rv 81), (1, iv x1), (3, iv x3), (4, iv x4), (5, iv (w32 (x5 + 1)))] [] h2 Φ) ∧ (x3 < 288 → (0 ≤ x4 ∧ x4 < 288) ∧ (0 ≤ (h2 84 x4) ∧ (h2 84 x4) < 288) ∧ (0 ≤ r1 ∧ r1 < 288) ∧ (0 ≤ x3 ∧ x3 < 288) ∧ AT G m_X9_turnsTo 74 [(0, rv 81), (1, iv x1), (3, iv (w32 (x3 + 1))), (4, iv x4), (5, iv (w32 (x5 + 1)))] [] (up (up h2 83 r1 (w32 ((h2 83 (h2 84 x4)) + 1))) 84 x3 r1) Φ)))))))))))) : AT G m_X9_turnsTo 74 [(0, rv 81), (1, iv x1), (3, iv x3), (4, iv x4), (5, iv x5)] [] h Φ := by
  refine a_iload (pc := 74) (dk dt_X9_turnsTo 44 rfl) rfl ?_
  refine a_iconst (pc := 76) (dk dt_X9_turnsTo 45 rfl) (ik rfl) ?_
  refine a_icmp_ge (pc := 77) (dk dt_X9_turnsTo 46 rfl) (tgt := 166) rfl ⟨fun c => ?_, fun c => ?_⟩
  · replace H := H.1 c
    refine a_iinc (pc := 166) (dk dt_X9_turnsTo 92 rfl) (by decide) rfl rfl rfl ?_
    refine a_goto (pc := 169) (dk dt_X9_turnsTo 93 rfl) (tgt := 47) rfl ?_
    exact a_pick [0, 1, 2, 3] rfl H
  · replace H := H.2 c
    refine a_aload_n (pc := 80) (dk dt_X9_turnsTo 47 rfl) rfl ?_
    refine a_getr (r := 83) (pc := 81) (dk dt_X9_turnsTo 48 rfl) cls_9 fl_RX9_19 cf_81_2 ?_
    refine a_iload (pc := 84) (dk dt_X9_turnsTo 49 rfl) rfl ?_
    refine a_iald (pc := 86) (dk dt_X9_turnsTo 50 rfl) ar_84 ⟨H.1, ?_⟩
    replace H := H.2
    refine a_iload (pc := 87) (dk dt_X9_turnsTo 51 rfl) rfl ?_
    refine a_callSi (as := [iv (h 84 x4), iv x5]) (st := []) (pc := 89) (dk dt_X9_turnsTo 52 rfl) cl_RX9_28 ⟨Nat.le_of_ble_eq_true rfl, Nat.le_of_ble_eq_true rfl⟩ ⟨Nat.le_of_ble_eq_true rfl, Nat.le_of_ble_eq_true rfl⟩ rfl rfl rfl (Nat.le_of_ble_eq_true rfl) (Call.mono H fun r1 h2 H => ?_)
    refine a_istore (pc := 92) (dk dt_X9_turnsTo 53 rfl) (by decide) rfl rfl ?_
    refine a_iload (pc := 94) (dk dt_X9_turnsTo 54 rfl) rfl ?_
    refine a_iconst (pc := 96) (dk dt_X9_turnsTo 55 rfl) (ik rfl) ?_
    refine a_icmp_eq (pc := 97) (dk dt_X9_turnsTo 56 rfl) (tgt := 160) rfl ⟨fun c => ?_, fun c => ?_⟩
    · replace H := H.1 c
      refine a_iinc (pc := 160) (dk dt_X9_turnsTo 90 rfl) (by decide) rfl rfl rfl ?_
      refine a_goto (pc := 163) (dk dt_X9_turnsTo 91 rfl) (tgt := 74) rfl ?_
      exact a_pick [0, 1, 2, 3, 4] rfl H
    · replace H := H.2 c
      refine a_aload_n (pc := 100) (dk dt_X9_turnsTo 57 rfl) rfl ?_
      refine a_getr (r := 81) (pc := 101) (dk dt_X9_turnsTo 58 rfl) cls_9 fl_RX9_11 cf_81_0 ?_
      refine a_iload (pc := 104) (dk dt_X9_turnsTo 59 rfl) rfl ?_
      refine a_zald (pc := 106) (dk dt_X9_turnsTo 60 rfl) ar_82 ⟨H.1, ?_⟩
      replace H := H.2
      refine a_if_ne (pc := 107) (dk dt_X9_turnsTo 61 rfl) (tgt := 160) rfl ⟨fun c => ?_, fun c => ?_⟩
      · replace H := H.1 c
        refine a_iinc (pc := 160) (dk dt_X9_turnsTo 90 rfl) (by decide) rfl rfl rfl ?_
        refine a_goto (pc := 163) (dk dt_X9_turnsTo 91 rfl) (tgt := 74) rfl ?_
        exact a_pick [0, 1, 2, 3, 4] rfl H
      · replace H := H.2 c
        refine a_aload_n (pc := 110) (dk dt_X9_turnsTo 62 rfl) rfl ?_
        refine a_getr (r := 82) (pc := 111) (dk dt_X9_turnsTo 63 rfl) cls_9 fl_RX9_15 cf_81_1 ?_
        refine a_iload (pc := 114) (dk dt_X9_turnsTo 64 rfl) rfl ?_
        refine a_iald (pc := 116) (dk dt_X9_turnsTo 65 rfl) ar_83 ⟨H.1, ?_⟩
        replace H := H.2
        refine a_iconst (pc := 117) (dk dt_X9_turnsTo 66 rfl) (ik rfl) ?_
        refine a_icmp_ne (pc := 118) (dk dt_X9_turnsTo 67 rfl) (tgt := 160) rfl ⟨fun c => ?_, fun c => ?_⟩
        · replace H := H.1 c
          refine a_iinc (pc := 160) (dk dt_X9_turnsTo 90 rfl) (by decide) rfl rfl rfl ?_
          refine a_goto (pc := 163) (dk dt_X9_turnsTo 91 rfl) (tgt := 74) rfl ?_
          exact a_pick [0, 1, 2, 3, 4] rfl H
        · replace H := H.2 c
          refine a_iload_n (pc := 121) (dk dt_X9_turnsTo 68 rfl) rfl ?_
          refine a_sipush (pc := 122) (dk dt_X9_turnsTo 69 rfl) (ik rfl) (spk rfl) ?_
          refine a_icmp_ge (pc := 125) (dk dt_X9_turnsTo 70 rfl) (tgt := 160) rfl ⟨fun c => ?_, fun c => ?_⟩
          · replace H := H.1 c
            refine a_iinc (pc := 160) (dk dt_X9_turnsTo 90 rfl) (by decide) rfl rfl rfl ?_
            refine a_goto (pc := 163) (dk dt_X9_turnsTo 91 rfl) (tgt := 74) rfl ?_
            exact a_pick [0, 1, 2, 3, 4] rfl H
          · replace H := H.2 c
            refine a_aload_n (pc := 128) (dk dt_X9_turnsTo 71 rfl) rfl ?_
            refine a_getr (r := 82) (pc := 129) (dk dt_X9_turnsTo 72 rfl) cls_9 fl_RX9_15 cf_81_1 ?_
            refine a_iload (pc := 132) (dk dt_X9_turnsTo 73 rfl) rfl ?_
            refine a_aload_n (pc := 134) (dk dt_X9_turnsTo 74 rfl) rfl ?_
            refine a_getr (r := 82) (pc := 135) (dk dt_X9_turnsTo 75 rfl) cls_9 fl_RX9_15 cf_81_1 ?_
            refine a_aload_n (pc := 138) (dk dt_X9_turnsTo 76 rfl) rfl ?_
            refine a_getr (r := 83) (pc := 139) (dk dt_X9_turnsTo 77 rfl) cls_9 fl_RX9_19 cf_81_2 ?_
            refine a_iload (pc := 142) (dk dt_X9_turnsTo 78 rfl) rfl ?_
            refine a_iald (pc := 144) (dk dt_X9_turnsTo 79 rfl) ar_84 ⟨H.1, ?_⟩
            replace H := H.2
            refine a_iald (pc := 145) (dk dt_X9_turnsTo 80 rfl) ar_83 ⟨H.1, ?_⟩
            replace H := H.2
            refine a_iconst (pc := 146) (dk dt_X9_turnsTo 81 rfl) (ik rfl) ?_
            refine a_iadd (pc := 147) (dk dt_X9_turnsTo 82 rfl) ?_
            refine a_iast (pc := 148) (dk dt_X9_turnsTo 83 rfl) ar_83 ⟨H.1, ?_⟩
            replace H := H.2
            refine a_aload_n (pc := 149) (dk dt_X9_turnsTo 84 rfl) rfl ?_
            refine a_getr (r := 83) (pc := 150) (dk dt_X9_turnsTo 85 rfl) cls_9 fl_RX9_19 cf_81_2 ?_
            refine a_iload_n (pc := 153) (dk dt_X9_turnsTo 86 rfl) rfl ?_
            refine a_iload (pc := 154) (dk dt_X9_turnsTo 87 rfl) rfl ?_
            refine a_iast (pc := 156) (dk dt_X9_turnsTo 88 rfl) ar_84 ⟨H.1, ?_⟩
            replace H := H.2
            refine a_iinc (pc := 157) (dk dt_X9_turnsTo 89 rfl) (by decide) rfl rfl rfl ?_
            refine a_iinc (pc := 160) (dk dt_X9_turnsTo 90 rfl) (by decide) rfl rfl rfl ?_
            refine a_goto (pc := 163) (dk dt_X9_turnsTo 91 rfl) (tgt := 74) rfl ?_
            exact a_pick [0, 1, 2, 3, 4] rfl H
set_option maxHeartbeats 40000000 in
theorem U_X9_writeTurns_81_11_0 {G : GG} {Φ : Int → Hp → Prop} {h : Hp} {x1 : Int} {x2 : Int} (H : AT G m_X9_writeTurns 6 [(0, rv 81), (2, iv x2), (3, rv 11), (4, iv x1), (5, iv 0)] [] h Φ) : AT G m_X9_writeTurns 0 [(0, rv 81), (1, iv x1), (2, iv x2), (3, rv 11)] [] h Φ := by
  refine a_iload_n (pc := 0) (dk dt_X9_writeTurns 0 rfl) rfl ?_
  refine a_istore (pc := 1) (dk dt_X9_writeTurns 1 rfl) (by decide) rfl rfl ?_
  refine a_iconst (pc := 3) (dk dt_X9_writeTurns 2 rfl) (ik rfl) ?_
  refine a_istore (pc := 4) (dk dt_X9_writeTurns 3 rfl) (by decide) rfl rfl ?_
  exact a_pick [0, 2, 3, 4, 5] rfl H
set_option maxHeartbeats 40000000 in
theorem U_X9_writeTurns_81_11_6 {G : GG} {Φ : Int → Hp → Prop} {h : Hp} {x2 : Int} {x4 : Int} {x5 : Int} (H : ((x2 ≤ x5 → Φ 0 h) ∧ (x5 < x2 → AT G m_X9_writeTurns 15 [(0, rv 81), (2, iv x2), (3, rv 11), (4, iv x4), (5, iv x5), (6, iv 0)] [] h Φ))) : AT G m_X9_writeTurns 6 [(0, rv 81), (2, iv x2), (3, rv 11), (4, iv x4), (5, iv x5)] [] h Φ := by
  refine a_iload (pc := 6) (dk dt_X9_writeTurns 4 rfl) rfl ?_
  refine a_iload_n (pc := 8) (dk dt_X9_writeTurns 5 rfl) rfl ?_
  refine a_icmp_ge (pc := 9) (dk dt_X9_writeTurns 6 rfl) (tgt := 70) rfl ⟨fun c => ?_, fun c => ?_⟩
  · replace H := H.1 c
    exact a_vret (pc := 70) (dk dt_X9_writeTurns 35 rfl) rfl rfl H
  · replace H := H.2 c
    refine a_iconst (pc := 12) (dk dt_X9_writeTurns 7 rfl) (ik rfl) ?_
    refine a_istore (pc := 13) (dk dt_X9_writeTurns 8 rfl) (by decide) rfl rfl ?_
    exact a_pick [0, 1, 2, 3, 4, 5] rfl H
set_option maxHeartbeats 40000000 in
theorem U_X9_writeTurns_81_11_15 {G : GG} {Φ : Int → Hp → Prop} {h : Hp} {x2 : Int} {x4 : Int} {x5 : Int} {x6 : Int} (H : ((3 ≤ x6 → (0 ≤ x6 ∧ x6 < 4) ∧ (0 ≤ x5 ∧ x5 < 288) ∧ Call G m_X9_neighbour [iv x4, iv x6] (up h 11 x5 (xc 903 x6)) (fun r1 h2 => AT G m_X9_writeTurns 6 [(0, rv 81), (2, iv x2), (3, rv 11), (4, iv r1), (5, iv (w32 (x5 + 1)))] [] h2 Φ)) ∧ (x6 < 3 → Call G m_X9_neighbour [iv x4, iv x6] h (fun r3 h4 => Call G m_X9_isNearer [rv 81, iv r3, iv (w32 (x2 - x5))] h4 (fun r5 h6 => ((r5 ≠ 0 → (0 ≤ x6 ∧ x6 < 4) ∧ (0 ≤ x5 ∧ x5 < 288) ∧ Call G m_X9_neighbour [iv x4, iv x6] (up h6 11 x5 (xc 903 x6)) (fun r7 h8 => AT G m_X9_writeTurns 6 [(0, rv 81), (2, iv x2), (3, rv 11), (4, iv r7), (5, iv (w32 (x5 + 1)))] [] h8 Φ)) ∧ (r5 = 0 → AT G m_X9_writeTurns 15 [(0, rv 81), (2, iv x2), (3, rv 11), (4, iv x4), (5, iv x5), (6, iv (w32 (x6 + 1)))] [] h6 Φ))))))) : AT G m_X9_writeTurns 15 [(0, rv 81), (2, iv x2), (3, rv 11), (4, iv x4), (5, iv x5), (6, iv x6)] [] h Φ := by
  refine a_iload (pc := 15) (dk dt_X9_writeTurns 9 rfl) rfl ?_
  refine a_iconst (pc := 17) (dk dt_X9_writeTurns 10 rfl) (ik rfl) ?_
  refine a_icmp_ge (pc := 18) (dk dt_X9_writeTurns 11 rfl) (tgt := 45) rfl ⟨fun c => ?_, fun c => ?_⟩
  · replace H := H.1 c
    refine a_aload_n (pc := 45) (dk dt_X9_writeTurns 23 rfl) rfl ?_
    refine a_iload (pc := 46) (dk dt_X9_writeTurns 24 rfl) rfl ?_
    refine a_gst903 (pc := 48) (dk dt_X9_writeTurns 25 rfl) fs_RX9_36 ?_
    refine a_iload (pc := 51) (dk dt_X9_writeTurns 26 rfl) rfl ?_
    refine a_xcald (pc := 53) (dk dt_X9_writeTurns 27 rfl) ⟨H.1, ?_⟩
    replace H := H.2
    refine a_iast (pc := 54) (dk dt_X9_writeTurns 28 rfl) ar_11 ⟨H.1, ?_⟩
    replace H := H.2
    refine a_iload (pc := 55) (dk dt_X9_writeTurns 29 rfl) rfl ?_
    refine a_iload (pc := 57) (dk dt_X9_writeTurns 30 rfl) rfl ?_
    refine a_callSi (as := [iv x4, iv x6]) (st := []) (pc := 59) (dk dt_X9_writeTurns 31 rfl) cl_RX9_28 ⟨Nat.le_of_ble_eq_true rfl, Nat.le_of_ble_eq_true rfl⟩ ⟨Nat.le_of_ble_eq_true rfl, Nat.le_of_ble_eq_true rfl⟩ rfl rfl rfl (Nat.le_of_ble_eq_true rfl) (Call.mono H fun r1 h2 H => ?_)
    refine a_istore (pc := 62) (dk dt_X9_writeTurns 32 rfl) (by decide) rfl rfl ?_
    refine a_iinc (pc := 64) (dk dt_X9_writeTurns 33 rfl) (by decide) rfl rfl rfl ?_
    refine a_goto (pc := 67) (dk dt_X9_writeTurns 34 rfl) (tgt := 6) rfl ?_
    exact a_pick [0, 1, 2, 3, 4] rfl H
  · replace H := H.2 c
    refine a_aload_n (pc := 21) (dk dt_X9_writeTurns 12 rfl) rfl ?_
    refine a_iload (pc := 22) (dk dt_X9_writeTurns 13 rfl) rfl ?_
    refine a_iload (pc := 24) (dk dt_X9_writeTurns 14 rfl) rfl ?_
    refine a_callSi (as := [iv x4, iv x6]) (st := [rv 81]) (pc := 26) (dk dt_X9_writeTurns 15 rfl) cl_RX9_28 ⟨Nat.le_of_ble_eq_true rfl, Nat.le_of_ble_eq_true rfl⟩ ⟨Nat.le_of_ble_eq_true rfl, Nat.le_of_ble_eq_true rfl⟩ rfl rfl rfl (Nat.le_of_ble_eq_true rfl) (Call.mono H fun r3 h4 H => ?_)
    refine a_iload_n (pc := 29) (dk dt_X9_writeTurns 16 rfl) rfl ?_
    refine a_iload (pc := 30) (dk dt_X9_writeTurns 17 rfl) rfl ?_
    refine a_isub (pc := 32) (dk dt_X9_writeTurns 18 rfl) ?_
    refine a_callVi (as := [iv r3, iv (w32 (x2 - x5))]) (st := []) (pc := 33) (dk dt_X9_writeTurns 19 rfl) cl_RX9_32 ⟨Nat.le_of_ble_eq_true rfl, Nat.le_of_ble_eq_true rfl⟩ ⟨Nat.le_of_ble_eq_true rfl, Nat.le_of_ble_eq_true rfl⟩ cls_9 rfl cc_81 rfl rfl rfl (Nat.le_of_ble_eq_true rfl) (Call.mono H fun r5 h6 H => ?_)
    refine a_if_ne (pc := 36) (dk dt_X9_writeTurns 20 rfl) (tgt := 45) rfl ⟨fun c => ?_, fun c => ?_⟩
    · replace H := H.1 c
      refine a_aload_n (pc := 45) (dk dt_X9_writeTurns 23 rfl) rfl ?_
      refine a_iload (pc := 46) (dk dt_X9_writeTurns 24 rfl) rfl ?_
      refine a_gst903 (pc := 48) (dk dt_X9_writeTurns 25 rfl) fs_RX9_36 ?_
      refine a_iload (pc := 51) (dk dt_X9_writeTurns 26 rfl) rfl ?_
      refine a_xcald (pc := 53) (dk dt_X9_writeTurns 27 rfl) ⟨H.1, ?_⟩
      replace H := H.2
      refine a_iast (pc := 54) (dk dt_X9_writeTurns 28 rfl) ar_11 ⟨H.1, ?_⟩
      replace H := H.2
      refine a_iload (pc := 55) (dk dt_X9_writeTurns 29 rfl) rfl ?_
      refine a_iload (pc := 57) (dk dt_X9_writeTurns 30 rfl) rfl ?_
      refine a_callSi (as := [iv x4, iv x6]) (st := []) (pc := 59) (dk dt_X9_writeTurns 31 rfl) cl_RX9_28 ⟨Nat.le_of_ble_eq_true rfl, Nat.le_of_ble_eq_true rfl⟩ ⟨Nat.le_of_ble_eq_true rfl, Nat.le_of_ble_eq_true rfl⟩ rfl rfl rfl (Nat.le_of_ble_eq_true rfl) (Call.mono H fun r7 h8 H => ?_)
      refine a_istore (pc := 62) (dk dt_X9_writeTurns 32 rfl) (by decide) rfl rfl ?_
      refine a_iinc (pc := 64) (dk dt_X9_writeTurns 33 rfl) (by decide) rfl rfl rfl ?_
      refine a_goto (pc := 67) (dk dt_X9_writeTurns 34 rfl) (tgt := 6) rfl ?_
      exact a_pick [0, 1, 2, 3, 4] rfl H
    · replace H := H.2 c
      refine a_iinc (pc := 39) (dk dt_X9_writeTurns 21 rfl) (by decide) rfl rfl rfl ?_
      refine a_goto (pc := 42) (dk dt_X9_writeTurns 22 rfl) (tgt := 15) rfl ?_
      exact a_pick [0, 1, 2, 3, 4, 5] rfl H
set_option maxHeartbeats 40000000 in
theorem U_X9_neighbour_0 {G : GG} {Φ : Int → Hp → Prop} {h : Hp} {x0 : Int} {x1 : Int} (H : (((x1 = 0) → (((w32 (x0.tdiv 24)) ≤ 0 → Φ (-1) h) ∧ (0 < (w32 (x0.tdiv 24)) → Φ (w32 (x0 - 24)) h))) ∧ ((x1 = 1) → Φ (w32 ((w32 ((w32 (x0.tdiv 24)) * 24)) + ((w32 ((w32 ((x0.tmod 24) + 24)) - 1)).tmod 24))) h) ∧ ((x1 = 2) → Φ (w32 ((w32 ((w32 (x0.tdiv 24)) * 24)) + ((w32 ((x0.tmod 24) + 1)).tmod 24))) h) ∧ (((x1 < 0 ∨ 2 < x1)) → ((11 ≤ (w32 (x0.tdiv 24)) → Φ (-1) h) ∧ ((w32 (x0.tdiv 24)) < 11 → Φ (w32 (x0 + 24)) h))))) : AT G m_X9_neighbour 0 [(0, iv x0), (1, iv x1)] [] h Φ := by
  refine a_iload_n (pc := 0) (dk dt_X9_neighbour 0 rfl) rfl ?_
  refine a_bipush (pc := 1) (dk dt_X9_neighbour 1 rfl) (ik rfl) (bpk rfl) ?_
  refine a_idiv (pc := 3) (dk dt_X9_neighbour 2 rfl) ⟨by decide, ?_⟩
  refine a_istore_n (pc := 4) (dk dt_X9_neighbour 3 rfl) (by decide) rfl rfl ?_
  refine a_iload_n (pc := 5) (dk dt_X9_neighbour 4 rfl) rfl ?_
  refine a_bipush (pc := 6) (dk dt_X9_neighbour 5 rfl) (ik rfl) (bpk rfl) ?_
  refine a_irem (pc := 8) (dk dt_X9_neighbour 6 rfl) ⟨by decide, ?_⟩
  refine a_istore_n (pc := 9) (dk dt_X9_neighbour 7 rfl) (by decide) rfl rfl ?_
  refine a_iload_n (pc := 10) (dk dt_X9_neighbour 8 rfl) rfl ?_
  have B0 : (x1 = 0) → AT G m_X9_neighbour 36 [(0, iv x0), (1, iv x1), (2, iv (w32 (x0.tdiv 24))), (3, iv (x0.tmod 24))] [] h Φ := by
    intro c
    replace H := H.1 c
    refine a_iload_n (pc := 36) (dk dt_X9_neighbour 10 rfl) rfl ?_
    refine a_if_le (pc := 37) (dk dt_X9_neighbour 11 rfl) (tgt := 47) rfl ⟨fun c => ?_, fun c => ?_⟩
    · replace H := H.1 c
      refine a_iconst (pc := 47) (dk dt_X9_neighbour 16 rfl) (ik rfl) ?_
      exact a_iret (pc := 48) (dk dt_X9_neighbour 17 rfl) rfl rfl H
    · replace H := H.2 c
      refine a_iload_n (pc := 40) (dk dt_X9_neighbour 12 rfl) rfl ?_
      refine a_bipush (pc := 41) (dk dt_X9_neighbour 13 rfl) (ik rfl) (bpk rfl) ?_
      refine a_isub (pc := 43) (dk dt_X9_neighbour 14 rfl) ?_
      refine a_goto (pc := 44) (dk dt_X9_neighbour 15 rfl) (tgt := 48) rfl ?_
      exact a_iret (pc := 48) (dk dt_X9_neighbour 17 rfl) rfl rfl H
  have B1 : (x1 = 1) → AT G m_X9_neighbour 49 [(0, iv x0), (1, iv x1), (2, iv (w32 (x0.tdiv 24))), (3, iv (x0.tmod 24))] [] h Φ := by
    intro c
    replace H := H.2.1 c
    refine a_iload_n (pc := 49) (dk dt_X9_neighbour 18 rfl) rfl ?_
    refine a_bipush (pc := 50) (dk dt_X9_neighbour 19 rfl) (ik rfl) (bpk rfl) ?_
    refine a_imul (pc := 52) (dk dt_X9_neighbour 20 rfl) ?_
    refine a_iload_n (pc := 53) (dk dt_X9_neighbour 21 rfl) rfl ?_
    refine a_bipush (pc := 54) (dk dt_X9_neighbour 22 rfl) (ik rfl) (bpk rfl) ?_
    refine a_iadd (pc := 56) (dk dt_X9_neighbour 23 rfl) ?_
    refine a_iconst (pc := 57) (dk dt_X9_neighbour 24 rfl) (ik rfl) ?_
    refine a_isub (pc := 58) (dk dt_X9_neighbour 25 rfl) ?_
    refine a_bipush (pc := 59) (dk dt_X9_neighbour 26 rfl) (ik rfl) (bpk rfl) ?_
    refine a_irem (pc := 61) (dk dt_X9_neighbour 27 rfl) ⟨by decide, ?_⟩
    refine a_iadd (pc := 62) (dk dt_X9_neighbour 28 rfl) ?_
    exact a_iret (pc := 63) (dk dt_X9_neighbour 29 rfl) rfl rfl H
  have B2 : (x1 = 2) → AT G m_X9_neighbour 64 [(0, iv x0), (1, iv x1), (2, iv (w32 (x0.tdiv 24))), (3, iv (x0.tmod 24))] [] h Φ := by
    intro c
    replace H := H.2.2.1 c
    refine a_iload_n (pc := 64) (dk dt_X9_neighbour 30 rfl) rfl ?_
    refine a_bipush (pc := 65) (dk dt_X9_neighbour 31 rfl) (ik rfl) (bpk rfl) ?_
    refine a_imul (pc := 67) (dk dt_X9_neighbour 32 rfl) ?_
    refine a_iload_n (pc := 68) (dk dt_X9_neighbour 33 rfl) rfl ?_
    refine a_iconst (pc := 69) (dk dt_X9_neighbour 34 rfl) (ik rfl) ?_
    refine a_iadd (pc := 70) (dk dt_X9_neighbour 35 rfl) ?_
    refine a_bipush (pc := 71) (dk dt_X9_neighbour 36 rfl) (ik rfl) (bpk rfl) ?_
    refine a_irem (pc := 73) (dk dt_X9_neighbour 37 rfl) ⟨by decide, ?_⟩
    refine a_iadd (pc := 74) (dk dt_X9_neighbour 38 rfl) ?_
    exact a_iret (pc := 75) (dk dt_X9_neighbour 39 rfl) rfl rfl H
  have BD : ((x1 < 0 ∨ 2 < x1)) → AT G m_X9_neighbour 76 [(0, iv x0), (1, iv x1), (2, iv (w32 (x0.tdiv 24))), (3, iv (x0.tmod 24))] [] h Φ := by
    intro c
    replace H := H.2.2.2 c
    refine a_iload_n (pc := 76) (dk dt_X9_neighbour 40 rfl) rfl ?_
    refine a_bipush (pc := 77) (dk dt_X9_neighbour 41 rfl) (ik rfl) (bpk rfl) ?_
    refine a_icmp_ge (pc := 79) (dk dt_X9_neighbour 42 rfl) (tgt := 89) rfl ⟨fun c => ?_, fun c => ?_⟩
    · replace H := H.1 c
      refine a_iconst (pc := 89) (dk dt_X9_neighbour 47 rfl) (ik rfl) ?_
      exact a_iret (pc := 90) (dk dt_X9_neighbour 48 rfl) rfl rfl H
    · replace H := H.2 c
      refine a_iload_n (pc := 82) (dk dt_X9_neighbour 43 rfl) rfl ?_
      refine a_bipush (pc := 83) (dk dt_X9_neighbour 44 rfl) (ik rfl) (bpk rfl) ?_
      refine a_iadd (pc := 85) (dk dt_X9_neighbour 45 rfl) ?_
      refine a_goto (pc := 86) (dk dt_X9_neighbour 46 rfl) (tgt := 90) rfl ?_
      exact a_iret (pc := 90) (dk dt_X9_neighbour 48 rfl) rfl rfl H
  exact a_tsw [36, 49, 64] (pc := 11) (dk dt_X9_neighbour 9 rfl) (by decide) (dt := 76) rfl (by decide) ⟨⟨fun c => B0 (c), fun c => B1 (c), fun c => B2 (c), trivial⟩, fun c => BD (c)⟩
set_option maxHeartbeats 40000000 in
theorem U_X9_isNearer_81_0 {G : GG} {Φ : Int → Hp → Prop} {h : Hp} {x1 : Int} {x2 : Int} (H : ((x1 = (-1) → Φ 0 h) ∧ (x1 ≠ (-1) → (0 ≤ x1 ∧ x1 < 288) ∧ (((h 83 x1) ≠ (w32 (x2 - 1)) → Φ 0 h) ∧ ((h 83 x1) = (w32 (x2 - 1)) → Φ 1 h))))) : AT G m_X9_isNearer 0 [(0, rv 81), (1, iv x1), (2, iv x2)] [] h Φ := by
  refine a_iload_n (pc := 0) (dk dt_X9_isNearer 0 rfl) rfl ?_
  refine a_iconst (pc := 1) (dk dt_X9_isNearer 1 rfl) (ik rfl) ?_
  refine a_icmp_eq (pc := 2) (dk dt_X9_isNearer 2 rfl) (tgt := 21) rfl ⟨fun c => ?_, fun c => ?_⟩
  · replace H := H.1 c
    refine a_iconst (pc := 21) (dk dt_X9_isNearer 13 rfl) (ik rfl) ?_
    exact a_zret (pc := 22) (dk dt_X9_isNearer 14 rfl) rfl rfl ⟨by decide, H⟩
  · replace H := H.2 c
    refine a_aload_n (pc := 5) (dk dt_X9_isNearer 3 rfl) rfl ?_
    refine a_getr (r := 82) (pc := 6) (dk dt_X9_isNearer 4 rfl) cls_9 fl_RX9_15 cf_81_1 ?_
    refine a_iload_n (pc := 9) (dk dt_X9_isNearer 5 rfl) rfl ?_
    refine a_iald (pc := 10) (dk dt_X9_isNearer 6 rfl) ar_83 ⟨H.1, ?_⟩
    replace H := H.2
    refine a_iload_n (pc := 11) (dk dt_X9_isNearer 7 rfl) rfl ?_
    refine a_iconst (pc := 12) (dk dt_X9_isNearer 8 rfl) (ik rfl) ?_
    refine a_isub (pc := 13) (dk dt_X9_isNearer 9 rfl) ?_
    refine a_icmp_ne (pc := 14) (dk dt_X9_isNearer 10 rfl) (tgt := 21) rfl ⟨fun c => ?_, fun c => ?_⟩
    · replace H := H.1 c
      refine a_iconst (pc := 21) (dk dt_X9_isNearer 13 rfl) (ik rfl) ?_
      exact a_zret (pc := 22) (dk dt_X9_isNearer 14 rfl) rfl rfl ⟨by decide, H⟩
    · replace H := H.2 c
      refine a_iconst (pc := 17) (dk dt_X9_isNearer 11 rfl) (ik rfl) ?_
      refine a_goto (pc := 18) (dk dt_X9_isNearer 12 rfl) (tgt := 22) rfl ?_
      exact a_zret (pc := 22) (dk dt_X9_isNearer 14 rfl) rfl rfl ⟨by decide, H⟩
set_option maxHeartbeats 40000000 in
theorem U_X11_feed_1_0 {G : GG} {Φ : Int → Hp → Prop} {h : Hp} {x1 : Int} {x2 : Int} {x3 : Int} {x4 : Int} {x5 : Int} (H : (((w32 ((h 2 1) + 20)) ≤ 1600 → Call G m_X10_append [rv 2, iv x1] h (fun _ h2 => Call G m_X10_append [rv 2, iv x2] h2 (fun _ h4 => Call G m_X10_append [rv 2, iv x3] h4 (fun _ h6 => Call G m_X10_append [rv 2, iv x4] h6 (fun _ h8 => Call G m_X10_append [rv 2, iv x5] h8 (fun _ h10 => Φ (h10 2 1) h10)))))) ∧ (1600 < (w32 ((h 2 1) + 20)) → Φ (-4) h))) : AT G m_X11_feed 0 [(0, rv 1), (1, iv x1), (2, iv x2), (3, iv x3), (4, iv x4), (5, iv x5)] [] h Φ := by
  refine a_aload_n (pc := 0) (dk dt_X11_feed 0 rfl) rfl ?_
  refine a_getr (r := 1) (pc := 1) (dk dt_X11_feed 1 rfl) cls_11 fl_RX11_10 cf_1_0 ?_
  refine a_geti (pc := 4) (dk dt_X11_feed 2 rfl) cls_10 fl_RX11_98 cf_2_1 ?_
  refine a_bipush (pc := 7) (dk dt_X11_feed 3 rfl) (ik rfl) (bpk rfl) ?_
  refine a_iadd (pc := 9) (dk dt_X11_feed 4 rfl) ?_
  refine a_sipush (pc := 10) (dk dt_X11_feed 5 rfl) (ik rfl) (spk rfl) ?_
  refine a_icmp_le (pc := 13) (dk dt_X11_feed 6 rfl) (tgt := 19) rfl ⟨fun c => ?_, fun c => ?_⟩
  · replace H := H.1 c
    refine a_aload_n (pc := 19) (dk dt_X11_feed 9 rfl) rfl ?_
    refine a_getr (r := 1) (pc := 20) (dk dt_X11_feed 10 rfl) cls_11 fl_RX11_10 cf_1_0 ?_
    refine a_iload_n (pc := 23) (dk dt_X11_feed 11 rfl) rfl ?_
    refine a_callVv (as := [iv x1]) (st := []) (pc := 24) (dk dt_X11_feed 12 rfl) cl_RX11_101 ⟨Nat.le_of_ble_eq_true rfl, Nat.le_of_ble_eq_true rfl⟩ ⟨Nat.le_of_ble_eq_true rfl, Nat.le_of_ble_eq_true rfl⟩ cls_10 rfl cc_2 rfl rfl rfl (Nat.le_of_ble_eq_true rfl) (Call.mono H fun _ h2 H => ?_)
    refine a_aload_n (pc := 27) (dk dt_X11_feed 13 rfl) rfl ?_
    refine a_getr (r := 1) (pc := 28) (dk dt_X11_feed 14 rfl) cls_11 fl_RX11_10 cf_1_0 ?_
    refine a_iload_n (pc := 31) (dk dt_X11_feed 15 rfl) rfl ?_
    refine a_callVv (as := [iv x2]) (st := []) (pc := 32) (dk dt_X11_feed 16 rfl) cl_RX11_101 ⟨Nat.le_of_ble_eq_true rfl, Nat.le_of_ble_eq_true rfl⟩ ⟨Nat.le_of_ble_eq_true rfl, Nat.le_of_ble_eq_true rfl⟩ cls_10 rfl cc_2 rfl rfl rfl (Nat.le_of_ble_eq_true rfl) (Call.mono H fun _ h4 H => ?_)
    refine a_aload_n (pc := 35) (dk dt_X11_feed 17 rfl) rfl ?_
    refine a_getr (r := 1) (pc := 36) (dk dt_X11_feed 18 rfl) cls_11 fl_RX11_10 cf_1_0 ?_
    refine a_iload_n (pc := 39) (dk dt_X11_feed 19 rfl) rfl ?_
    refine a_callVv (as := [iv x3]) (st := []) (pc := 40) (dk dt_X11_feed 20 rfl) cl_RX11_101 ⟨Nat.le_of_ble_eq_true rfl, Nat.le_of_ble_eq_true rfl⟩ ⟨Nat.le_of_ble_eq_true rfl, Nat.le_of_ble_eq_true rfl⟩ cls_10 rfl cc_2 rfl rfl rfl (Nat.le_of_ble_eq_true rfl) (Call.mono H fun _ h6 H => ?_)
    refine a_aload_n (pc := 43) (dk dt_X11_feed 21 rfl) rfl ?_
    refine a_getr (r := 1) (pc := 44) (dk dt_X11_feed 22 rfl) cls_11 fl_RX11_10 cf_1_0 ?_
    refine a_iload (pc := 47) (dk dt_X11_feed 23 rfl) rfl ?_
    refine a_callVv (as := [iv x4]) (st := []) (pc := 49) (dk dt_X11_feed 24 rfl) cl_RX11_101 ⟨Nat.le_of_ble_eq_true rfl, Nat.le_of_ble_eq_true rfl⟩ ⟨Nat.le_of_ble_eq_true rfl, Nat.le_of_ble_eq_true rfl⟩ cls_10 rfl cc_2 rfl rfl rfl (Nat.le_of_ble_eq_true rfl) (Call.mono H fun _ h8 H => ?_)
    refine a_aload_n (pc := 52) (dk dt_X11_feed 25 rfl) rfl ?_
    refine a_getr (r := 1) (pc := 53) (dk dt_X11_feed 26 rfl) cls_11 fl_RX11_10 cf_1_0 ?_
    refine a_iload (pc := 56) (dk dt_X11_feed 27 rfl) rfl ?_
    refine a_callVv (as := [iv x5]) (st := []) (pc := 58) (dk dt_X11_feed 28 rfl) cl_RX11_101 ⟨Nat.le_of_ble_eq_true rfl, Nat.le_of_ble_eq_true rfl⟩ ⟨Nat.le_of_ble_eq_true rfl, Nat.le_of_ble_eq_true rfl⟩ cls_10 rfl cc_2 rfl rfl rfl (Nat.le_of_ble_eq_true rfl) (Call.mono H fun _ h10 H => ?_)
    refine a_aload_n (pc := 61) (dk dt_X11_feed 29 rfl) rfl ?_
    refine a_getr (r := 1) (pc := 62) (dk dt_X11_feed 30 rfl) cls_11 fl_RX11_10 cf_1_0 ?_
    refine a_geti (pc := 65) (dk dt_X11_feed 31 rfl) cls_10 fl_RX11_98 cf_2_1 ?_
    exact a_iret (pc := 68) (dk dt_X11_feed 32 rfl) rfl rfl H
  · replace H := H.2 c
    refine a_bipush (pc := 16) (dk dt_X11_feed 7 rfl) (ik rfl) (bpk rfl) ?_
    exact a_iret (pc := 18) (dk dt_X11_feed 8 rfl) rfl rfl H
set_option maxHeartbeats 40000000 in
theorem U_X11_end_1_0 {G : GG} {Φ : Int → Hp → Prop} {h : Hp} {x1 : Int} (H : ((x1 < 0 → Φ (-1) h) ∧ (0 ≤ x1 → (((h 2 1) < x1 → Φ (-1) h) ∧ (x1 ≤ (h 2 1) → Φ x1 (up h 2 1 x1)))))) : AT G m_X11_end 0 [(0, rv 1), (1, iv x1)] [] h Φ := by
  refine a_iload_n (pc := 0) (dk dt_X11_end 0 rfl) rfl ?_
  refine a_iconst (pc := 1) (dk dt_X11_end 1 rfl) (ik rfl) ?_
  refine a_aload_n (pc := 2) (dk dt_X11_end 2 rfl) rfl ?_
  refine a_getr (r := 1) (pc := 3) (dk dt_X11_end 3 rfl) cls_11 fl_RX11_10 cf_1_0 ?_
  refine a_geti (pc := 6) (dk dt_X11_end 4 rfl) cls_10 fl_RX11_98 cf_2_1 ?_
  refine a_callSi (as := [iv x1, iv 0, iv (h 2 1)]) (st := []) (pc := 9) (dk dt_X11_end 5 rfl) cl_RX11_104 ⟨Nat.le_of_ble_eq_true rfl, Nat.le_of_ble_eq_true rfl⟩ ⟨Nat.le_of_ble_eq_true rfl, Nat.le_of_ble_eq_true rfl⟩ rfl rfl rfl (Nat.le_of_ble_eq_true rfl) (Call.of rfl (Nat.le_of_ble_eq_true rfl) rfl ?_)
  refine a_iload_n (pc := 0) (dk dt_X11_within 0 rfl) rfl ?_
  refine a_iload_n (pc := 1) (dk dt_X11_within 1 rfl) rfl ?_
  refine a_icmp_lt (pc := 2) (dk dt_X11_within 2 rfl) (tgt := 14) rfl ⟨fun c => ?_, fun c => ?_⟩
  · replace H := H.1 c
    refine a_iconst (pc := 14) (dk dt_X11_within 8 rfl) (ik rfl) ?_
    refine a_zret (pc := 15) (dk dt_X11_within 9 rfl) rfl rfl ⟨by decide, ?_⟩
    show ATW _ _ _ _ _ _ _ _ _ _
    refine a_if_ne (pc := 12) (dk dt_X11_end 6 rfl) (tgt := 17) rfl ⟨fun c => absurd c (by decide), fun _ => ?_⟩
    refine a_iconst (pc := 15) (dk dt_X11_end 7 rfl) (ik rfl) ?_
    exact a_iret (pc := 16) (dk dt_X11_end 8 rfl) rfl rfl H
  · replace H := H.2 c
    refine a_iload_n (pc := 5) (dk dt_X11_within 3 rfl) rfl ?_
    refine a_iload_n (pc := 6) (dk dt_X11_within 4 rfl) rfl ?_
    refine a_icmp_gt (pc := 7) (dk dt_X11_within 5 rfl) (tgt := 14) rfl ⟨fun c => ?_, fun c => ?_⟩
    · replace H := H.1 c
      refine a_iconst (pc := 14) (dk dt_X11_within 8 rfl) (ik rfl) ?_
      refine a_zret (pc := 15) (dk dt_X11_within 9 rfl) rfl rfl ⟨by decide, ?_⟩
      show ATW _ _ _ _ _ _ _ _ _ _
      refine a_if_ne (pc := 12) (dk dt_X11_end 6 rfl) (tgt := 17) rfl ⟨fun c => absurd c (by decide), fun _ => ?_⟩
      refine a_iconst (pc := 15) (dk dt_X11_end 7 rfl) (ik rfl) ?_
      exact a_iret (pc := 16) (dk dt_X11_end 8 rfl) rfl rfl H
    · replace H := H.2 c
      refine a_iconst (pc := 10) (dk dt_X11_within 6 rfl) (ik rfl) ?_
      refine a_goto (pc := 11) (dk dt_X11_within 7 rfl) (tgt := 15) rfl ?_
      refine a_zret (pc := 15) (dk dt_X11_within 9 rfl) rfl rfl ⟨by decide, ?_⟩
      show ATW _ _ _ _ _ _ _ _ _ _
      refine a_if_ne (pc := 12) (dk dt_X11_end 6 rfl) (tgt := 17) rfl ⟨fun _ => ?_, fun c => absurd c (by decide)⟩
      refine a_aload_n (pc := 17) (dk dt_X11_end 9 rfl) rfl ?_
      refine a_getr (r := 1) (pc := 18) (dk dt_X11_end 10 rfl) cls_11 fl_RX11_10 cf_1_0 ?_
      refine a_iload_n (pc := 21) (dk dt_X11_end 11 rfl) rfl ?_
      refine a_puti (pc := 22) (dk dt_X11_end 12 rfl) cls_10 fl_RX11_98 cf_2_1 rfl rfl ?_
      refine a_iload_n (pc := 25) (dk dt_X11_end 13 rfl) rfl ?_
      exact a_iret (pc := 26) (dk dt_X11_end 14 rfl) rfl rfl H
set_option maxHeartbeats 40000000 in
theorem U_X11_out_1_0 {G : GG} {Φ : Int → Hp → Prop} {h : Hp} {x1 : Int} (H : ((x1 < 0 → Φ (-1) h) ∧ (0 ≤ x1 → (((w32 ((h 1 3) - 1)) < x1 → Φ (-1) h) ∧ (x1 ≤ (w32 ((h 1 3) - 1)) → (0 ≤ x1 ∧ x1 < 288) ∧ Φ (h 11 x1) h))))) : AT G m_X11_out 0 [(0, rv 1), (1, iv x1)] [] h Φ := by
  refine a_iload_n (pc := 0) (dk dt_X11_out 0 rfl) rfl ?_
  refine a_iconst (pc := 1) (dk dt_X11_out 1 rfl) (ik rfl) ?_
  refine a_aload_n (pc := 2) (dk dt_X11_out 2 rfl) rfl ?_
  refine a_geti (pc := 3) (dk dt_X11_out 3 rfl) cls_11 fl_RX11_31 cf_1_3 ?_
  refine a_iconst (pc := 6) (dk dt_X11_out 4 rfl) (ik rfl) ?_
  refine a_isub (pc := 7) (dk dt_X11_out 5 rfl) ?_
  refine a_callSi (as := [iv x1, iv 0, iv (w32 ((h 1 3) - 1))]) (st := []) (pc := 8) (dk dt_X11_out 6 rfl) cl_RX11_104 ⟨Nat.le_of_ble_eq_true rfl, Nat.le_of_ble_eq_true rfl⟩ ⟨Nat.le_of_ble_eq_true rfl, Nat.le_of_ble_eq_true rfl⟩ rfl rfl rfl (Nat.le_of_ble_eq_true rfl) (Call.of rfl (Nat.le_of_ble_eq_true rfl) rfl ?_)
  refine a_iload_n (pc := 0) (dk dt_X11_within 0 rfl) rfl ?_
  refine a_iload_n (pc := 1) (dk dt_X11_within 1 rfl) rfl ?_
  refine a_icmp_lt (pc := 2) (dk dt_X11_within 2 rfl) (tgt := 14) rfl ⟨fun c => ?_, fun c => ?_⟩
  · replace H := H.1 c
    refine a_iconst (pc := 14) (dk dt_X11_within 8 rfl) (ik rfl) ?_
    refine a_zret (pc := 15) (dk dt_X11_within 9 rfl) rfl rfl ⟨by decide, ?_⟩
    show ATW _ _ _ _ _ _ _ _ _ _
    refine a_if_eq (pc := 11) (dk dt_X11_out 7 rfl) (tgt := 23) rfl ⟨fun _ => ?_, fun c => absurd c (by decide)⟩
    refine a_iconst (pc := 23) (dk dt_X11_out 13 rfl) (ik rfl) ?_
    exact a_iret (pc := 24) (dk dt_X11_out 14 rfl) rfl rfl H
  · replace H := H.2 c
    refine a_iload_n (pc := 5) (dk dt_X11_within 3 rfl) rfl ?_
    refine a_iload_n (pc := 6) (dk dt_X11_within 4 rfl) rfl ?_
    refine a_icmp_gt (pc := 7) (dk dt_X11_within 5 rfl) (tgt := 14) rfl ⟨fun c => ?_, fun c => ?_⟩
    · replace H := H.1 c
      refine a_iconst (pc := 14) (dk dt_X11_within 8 rfl) (ik rfl) ?_
      refine a_zret (pc := 15) (dk dt_X11_within 9 rfl) rfl rfl ⟨by decide, ?_⟩
      show ATW _ _ _ _ _ _ _ _ _ _
      refine a_if_eq (pc := 11) (dk dt_X11_out 7 rfl) (tgt := 23) rfl ⟨fun _ => ?_, fun c => absurd c (by decide)⟩
      refine a_iconst (pc := 23) (dk dt_X11_out 13 rfl) (ik rfl) ?_
      exact a_iret (pc := 24) (dk dt_X11_out 14 rfl) rfl rfl H
    · replace H := H.2 c
      refine a_iconst (pc := 10) (dk dt_X11_within 6 rfl) (ik rfl) ?_
      refine a_goto (pc := 11) (dk dt_X11_within 7 rfl) (tgt := 15) rfl ?_
      refine a_zret (pc := 15) (dk dt_X11_within 9 rfl) rfl rfl ⟨by decide, ?_⟩
      show ATW _ _ _ _ _ _ _ _ _ _
      refine a_if_eq (pc := 11) (dk dt_X11_out 7 rfl) (tgt := 23) rfl ⟨fun c => absurd c (by decide), fun _ => ?_⟩
      refine a_aload_n (pc := 14) (dk dt_X11_out 8 rfl) rfl ?_
      refine a_getr (r := 10) (pc := 15) (dk dt_X11_out 9 rfl) cls_11 fl_RX11_27 cf_1_2 ?_
      refine a_iload_n (pc := 18) (dk dt_X11_out 10 rfl) rfl ?_
      refine a_iald (pc := 19) (dk dt_X11_out 11 rfl) ar_11 ⟨H.1, ?_⟩
      replace H := H.2
      refine a_goto (pc := 20) (dk dt_X11_out 12 rfl) (tgt := 24) rfl ?_
      exact a_iret (pc := 24) (dk dt_X11_out 14 rfl) rfl rfl H
set_option maxHeartbeats 40000000 in
theorem U_X11_leap_1_0 {G : GG} {Φ : Int → Hp → Prop} {h : Hp} {x1 : Int} {x2 : Int} (H : ((x1 < 2000 → Φ (-1) h) ∧ (2000 ≤ x1 → ((2059 < x1 → Φ (-1) h) ∧ (x1 ≤ 2059 → ((x2 = 6 → Call G m_X1_addLeap [rv 12, iv x1, iv x2] h (fun r1 h2 => Φ r1 h2)) ∧ (x2 ≠ 6 → ((x2 = 12 → Call G m_X1_addLeap [rv 12, iv x1, iv x2] h (fun r3 h4 => Φ r3 h4)) ∧ (x2 ≠ 12 → Φ (-1) h))))))))) : AT G m_X11_leap 0 [(0, rv 1), (1, iv x1), (2, iv x2)] [] h Φ := by
  refine a_iload_n (pc := 0) (dk dt_X11_leap 0 rfl) rfl ?_
  refine a_sipush (pc := 1) (dk dt_X11_leap 1 rfl) (ik rfl) (spk rfl) ?_
  refine a_sipush (pc := 4) (dk dt_X11_leap 2 rfl) (ik rfl) (spk rfl) ?_
  refine a_callSi (as := [iv x1, iv 2000, iv 2059]) (st := []) (pc := 7) (dk dt_X11_leap 3 rfl) cl_RX11_104 ⟨Nat.le_of_ble_eq_true rfl, Nat.le_of_ble_eq_true rfl⟩ ⟨Nat.le_of_ble_eq_true rfl, Nat.le_of_ble_eq_true rfl⟩ rfl rfl rfl (Nat.le_of_ble_eq_true rfl) (Call.of rfl (Nat.le_of_ble_eq_true rfl) rfl ?_)
  refine a_iload_n (pc := 0) (dk dt_X11_within 0 rfl) rfl ?_
  refine a_iload_n (pc := 1) (dk dt_X11_within 1 rfl) rfl ?_
  refine a_icmp_lt (pc := 2) (dk dt_X11_within 2 rfl) (tgt := 14) rfl ⟨fun c => ?_, fun c => ?_⟩
  · replace H := H.1 c
    refine a_iconst (pc := 14) (dk dt_X11_within 8 rfl) (ik rfl) ?_
    refine a_zret (pc := 15) (dk dt_X11_within 9 rfl) rfl rfl ⟨by decide, ?_⟩
    show ATW _ _ _ _ _ _ _ _ _ _
    refine a_if_eq (pc := 10) (dk dt_X11_leap 4 rfl) (tgt := 25) rfl ⟨fun _ => ?_, fun c => absurd c (by decide)⟩
    refine a_iconst (pc := 25) (dk dt_X11_leap 11 rfl) (ik rfl) ?_
    exact a_iret (pc := 26) (dk dt_X11_leap 12 rfl) rfl rfl H
  · replace H := H.2 c
    refine a_iload_n (pc := 5) (dk dt_X11_within 3 rfl) rfl ?_
    refine a_iload_n (pc := 6) (dk dt_X11_within 4 rfl) rfl ?_
    refine a_icmp_gt (pc := 7) (dk dt_X11_within 5 rfl) (tgt := 14) rfl ⟨fun c => ?_, fun c => ?_⟩
    · replace H := H.1 c
      refine a_iconst (pc := 14) (dk dt_X11_within 8 rfl) (ik rfl) ?_
      refine a_zret (pc := 15) (dk dt_X11_within 9 rfl) rfl rfl ⟨by decide, ?_⟩
      show ATW _ _ _ _ _ _ _ _ _ _
      refine a_if_eq (pc := 10) (dk dt_X11_leap 4 rfl) (tgt := 25) rfl ⟨fun _ => ?_, fun c => absurd c (by decide)⟩
      refine a_iconst (pc := 25) (dk dt_X11_leap 11 rfl) (ik rfl) ?_
      exact a_iret (pc := 26) (dk dt_X11_leap 12 rfl) rfl rfl H
    · replace H := H.2 c
      refine a_iconst (pc := 10) (dk dt_X11_within 6 rfl) (ik rfl) ?_
      refine a_goto (pc := 11) (dk dt_X11_within 7 rfl) (tgt := 15) rfl ?_
      refine a_zret (pc := 15) (dk dt_X11_within 9 rfl) rfl rfl ⟨by decide, ?_⟩
      show ATW _ _ _ _ _ _ _ _ _ _
      refine a_if_eq (pc := 10) (dk dt_X11_leap 4 rfl) (tgt := 25) rfl ⟨fun c => absurd c (by decide), fun _ => ?_⟩
      refine a_iload_n (pc := 13) (dk dt_X11_leap 5 rfl) rfl ?_
      refine a_bipush (pc := 14) (dk dt_X11_leap 6 rfl) (ik rfl) (bpk rfl) ?_
      refine a_icmp_eq (pc := 16) (dk dt_X11_leap 7 rfl) (tgt := 27) rfl ⟨fun c => ?_, fun c => ?_⟩
      · replace H := H.1 c
        refine a_aload_n (pc := 27) (dk dt_X11_leap 13 rfl) rfl ?_
        refine a_getr (r := 11) (pc := 28) (dk dt_X11_leap 14 rfl) cls_11 fl_RX11_38 cf_1_4 ?_
        refine a_iload_n (pc := 31) (dk dt_X11_leap 15 rfl) rfl ?_
        refine a_iload_n (pc := 32) (dk dt_X11_leap 16 rfl) rfl ?_
        refine a_callVi (as := [iv x1, iv x2]) (st := []) (pc := 33) (dk dt_X11_leap 17 rfl) cl_RX11_108 ⟨Nat.le_of_ble_eq_true rfl, Nat.le_of_ble_eq_true rfl⟩ ⟨Nat.le_of_ble_eq_true rfl, Nat.le_of_ble_eq_true rfl⟩ cls_1 rfl cc_12 rfl rfl rfl (Nat.le_of_ble_eq_true rfl) (Call.mono H fun r1 h2 H => ?_)
        exact a_iret (pc := 36) (dk dt_X11_leap 18 rfl) rfl rfl H
      · replace H := H.2 c
        refine a_iload_n (pc := 19) (dk dt_X11_leap 8 rfl) rfl ?_
        refine a_bipush (pc := 20) (dk dt_X11_leap 9 rfl) (ik rfl) (bpk rfl) ?_
        refine a_icmp_eq (pc := 22) (dk dt_X11_leap 10 rfl) (tgt := 27) rfl ⟨fun c => ?_, fun c => ?_⟩
        · replace H := H.1 c
          refine a_aload_n (pc := 27) (dk dt_X11_leap 13 rfl) rfl ?_
          refine a_getr (r := 11) (pc := 28) (dk dt_X11_leap 14 rfl) cls_11 fl_RX11_38 cf_1_4 ?_
          refine a_iload_n (pc := 31) (dk dt_X11_leap 15 rfl) rfl ?_
          refine a_iload_n (pc := 32) (dk dt_X11_leap 16 rfl) rfl ?_
          refine a_callVi (as := [iv x1, iv x2]) (st := []) (pc := 33) (dk dt_X11_leap 17 rfl) cl_RX11_108 ⟨Nat.le_of_ble_eq_true rfl, Nat.le_of_ble_eq_true rfl⟩ ⟨Nat.le_of_ble_eq_true rfl, Nat.le_of_ble_eq_true rfl⟩ cls_1 rfl cc_12 rfl rfl rfl (Nat.le_of_ble_eq_true rfl) (Call.mono H fun r3 h4 H => ?_)
          exact a_iret (pc := 36) (dk dt_X11_leap 18 rfl) rfl rfl H
        · replace H := H.2 c
          refine a_iconst (pc := 25) (dk dt_X11_leap 11 rfl) (ik rfl) ?_
          exact a_iret (pc := 26) (dk dt_X11_leap 12 rfl) rfl rfl H
set_option maxHeartbeats 40000000 in
theorem U_X11_date_1_0 {G : GG} {Φ : Int → Hp → Prop} {h : Hp} (H : Call G m_X1_readDate [rv 12, rv 2] (up (up h 2 2 0) 2 3 (-1)) (fun r1 h2 => Call G m_X10_closes [rv 2] h2 (fun r3 h4 => ((r3 = 0 → Φ (w32 ((-1000) - (h4 2 3))) h4) ∧ (r3 ≠ 0 → Φ r1 h4))))) : AT G m_X11_date 0 [(0, rv 1)] [] h Φ := by
  refine a_aload_n (pc := 0) (dk dt_X11_date 0 rfl) rfl ?_
  refine a_getr (r := 1) (pc := 1) (dk dt_X11_date 1 rfl) cls_11 fl_RX11_10 cf_1_0 ?_
  refine a_callVv (as := []) (st := []) (pc := 4) (dk dt_X11_date 2 rfl) cl_RX11_112 ⟨Nat.le_of_ble_eq_true rfl, Nat.le_of_ble_eq_true rfl⟩ ⟨Nat.le_of_ble_eq_true rfl, Nat.le_of_ble_eq_true rfl⟩ cls_10 rfl cc_2 rfl rfl rfl (Nat.le_of_ble_eq_true rfl) (Call.of rfl (Nat.le_of_ble_eq_true rfl) rfl ?_)
  refine a_aload_n (pc := 0) (dk dt_X10_open 0 rfl) rfl ?_
  refine a_iconst (pc := 1) (dk dt_X10_open 1 rfl) (ik rfl) ?_
  refine a_puti (pc := 2) (dk dt_X10_open 2 rfl) cls_10 fl_RX10_22 cf_2_2 rfl rfl ?_
  refine a_aload_n (pc := 5) (dk dt_X10_open 3 rfl) rfl ?_
  refine a_iconst (pc := 6) (dk dt_X10_open 4 rfl) (ik rfl) ?_
  refine a_puti (pc := 7) (dk dt_X10_open 5 rfl) cls_10 fl_RX10_15 cf_2_3 rfl rfl ?_
  refine a_vret (pc := 10) (dk dt_X10_open 6 rfl) rfl rfl ?_
  show ATW _ _ _ _ _ _ _ _ _ _
  refine a_aload_n (pc := 7) (dk dt_X11_date 3 rfl) rfl ?_
  refine a_getr (r := 11) (pc := 8) (dk dt_X11_date 4 rfl) cls_11 fl_RX11_38 cf_1_4 ?_
  refine a_aload_n (pc := 11) (dk dt_X11_date 5 rfl) rfl ?_
  refine a_getr (r := 1) (pc := 12) (dk dt_X11_date 6 rfl) cls_11 fl_RX11_10 cf_1_0 ?_
  refine a_callVi (as := [rv 2]) (st := []) (pc := 15) (dk dt_X11_date 7 rfl) cl_RX11_115 ⟨Nat.le_of_ble_eq_true rfl, Nat.le_of_ble_eq_true rfl⟩ ⟨Nat.le_of_ble_eq_true rfl, Nat.le_of_ble_eq_true rfl⟩ cls_1 rfl cc_12 rfl rfl rfl (Nat.le_of_ble_eq_true rfl) (Call.mono H fun r1 h2 H => ?_)
  refine a_istore_n (pc := 18) (dk dt_X11_date 8 rfl) (by decide) rfl rfl ?_
  refine a_aload_n (pc := 19) (dk dt_X11_date 9 rfl) rfl ?_
  refine a_getr (r := 1) (pc := 20) (dk dt_X11_date 10 rfl) cls_11 fl_RX11_10 cf_1_0 ?_
  refine a_callVi (as := []) (st := []) (pc := 23) (dk dt_X11_date 11 rfl) cl_RX11_119 ⟨Nat.le_of_ble_eq_true rfl, Nat.le_of_ble_eq_true rfl⟩ ⟨Nat.le_of_ble_eq_true rfl, Nat.le_of_ble_eq_true rfl⟩ cls_10 rfl cc_2 rfl rfl rfl (Nat.le_of_ble_eq_true rfl) (Call.mono H fun r3 h4 H => ?_)
  refine a_if_eq (pc := 26) (dk dt_X11_date 12 rfl) (tgt := 33) rfl ⟨fun c => ?_, fun c => ?_⟩
  · replace H := H.1 c
    refine a_aload_n (pc := 33) (dk dt_X11_date 15 rfl) rfl ?_
    refine a_getr (r := 1) (pc := 34) (dk dt_X11_date 16 rfl) cls_11 fl_RX11_10 cf_1_0 ?_
    refine a_callVi (as := []) (st := []) (pc := 37) (dk dt_X11_date 17 rfl) cl_RX11_123 ⟨Nat.le_of_ble_eq_true rfl, Nat.le_of_ble_eq_true rfl⟩ ⟨Nat.le_of_ble_eq_true rfl, Nat.le_of_ble_eq_true rfl⟩ cls_10 rfl cc_2 rfl rfl rfl (Nat.le_of_ble_eq_true rfl) (Call.of rfl (Nat.le_of_ble_eq_true rfl) rfl ?_)
    refine a_sipush (pc := 0) (dk dt_X10_wrong 0 rfl) (ik rfl) (spk rfl) ?_
    refine a_aload_n (pc := 3) (dk dt_X10_wrong 1 rfl) rfl ?_
    refine a_geti (pc := 4) (dk dt_X10_wrong 2 rfl) cls_10 fl_RX10_15 cf_2_3 ?_
    refine a_isub (pc := 7) (dk dt_X10_wrong 3 rfl) ?_
    refine a_iret (pc := 8) (dk dt_X10_wrong 4 rfl) rfl rfl ?_
    show ATW _ _ _ _ _ _ _ _ _ _
    exact a_iret (pc := 40) (dk dt_X11_date 18 rfl) rfl rfl H
  · replace H := H.2 c
    refine a_iload_n (pc := 29) (dk dt_X11_date 13 rfl) rfl ?_
    refine a_goto (pc := 30) (dk dt_X11_date 14 rfl) (tgt := 40) rfl ?_
    exact a_iret (pc := 40) (dk dt_X11_date 18 rfl) rfl rfl H
set_option maxHeartbeats 40000000 in
theorem U_X11_written_1_0 {G : GG} {Φ : Int → Hp → Prop} {h : Hp} {x1 : Int} (H : Call G m_X1_hasSecond [rv 12, iv x1] h (fun r1 h2 => ((r1 ≠ 0 → Call G m_X1_writeDate [rv 12, iv x1, rv 11] h2 (fun r3 h4 => Φ r3 (up h4 1 3 r3))) ∧ (r1 = 0 → Φ (-1) h2)))) : AT G m_X11_written 0 [(0, rv 1), (1, iv x1)] [] h Φ := by
  refine a_aload_n (pc := 0) (dk dt_X11_written 0 rfl) rfl ?_
  refine a_getr (r := 11) (pc := 1) (dk dt_X11_written 1 rfl) cls_11 fl_RX11_38 cf_1_4 ?_
  refine a_iload_n (pc := 4) (dk dt_X11_written 2 rfl) rfl ?_
  refine a_callVi (as := [iv x1]) (st := []) (pc := 5) (dk dt_X11_written 3 rfl) cl_RX11_127 ⟨Nat.le_of_ble_eq_true rfl, Nat.le_of_ble_eq_true rfl⟩ ⟨Nat.le_of_ble_eq_true rfl, Nat.le_of_ble_eq_true rfl⟩ cls_1 rfl cc_12 rfl rfl rfl (Nat.le_of_ble_eq_true rfl) (Call.mono H fun r1 h2 H => ?_)
  refine a_if_ne (pc := 8) (dk dt_X11_written 4 rfl) (tgt := 13) rfl ⟨fun c => ?_, fun c => ?_⟩
  · replace H := H.1 c
    refine a_aload_n (pc := 13) (dk dt_X11_written 7 rfl) rfl ?_
    refine a_aload_n (pc := 14) (dk dt_X11_written 8 rfl) rfl ?_
    refine a_getr (r := 11) (pc := 15) (dk dt_X11_written 9 rfl) cls_11 fl_RX11_38 cf_1_4 ?_
    refine a_iload_n (pc := 18) (dk dt_X11_written 10 rfl) rfl ?_
    refine a_aload_n (pc := 19) (dk dt_X11_written 11 rfl) rfl ?_
    refine a_getr (r := 10) (pc := 20) (dk dt_X11_written 12 rfl) cls_11 fl_RX11_27 cf_1_2 ?_
    refine a_callVi (as := [iv x1, rv 11]) (st := [rv 1]) (pc := 23) (dk dt_X11_written 13 rfl) cl_RX11_131 ⟨Nat.le_of_ble_eq_true rfl, Nat.le_of_ble_eq_true rfl⟩ ⟨Nat.le_of_ble_eq_true rfl, Nat.le_of_ble_eq_true rfl⟩ cls_1 rfl cc_12 rfl rfl rfl (Nat.le_of_ble_eq_true rfl) (Call.mono H fun r3 h4 H => ?_)
    refine a_puti (pc := 26) (dk dt_X11_written 14 rfl) cls_11 fl_RX11_31 cf_1_3 rfl rfl ?_
    refine a_aload_n (pc := 29) (dk dt_X11_written 15 rfl) rfl ?_
    refine a_geti (pc := 30) (dk dt_X11_written 16 rfl) cls_11 fl_RX11_31 cf_1_3 ?_
    refine a_top (y := r3) (by simp [up, cpy]) ?_
    exact a_iret (pc := 33) (dk dt_X11_written 17 rfl) rfl rfl H
  · replace H := H.2 c
    refine a_iconst (pc := 11) (dk dt_X11_written 5 rfl) (ik rfl) ?_
    exact a_iret (pc := 12) (dk dt_X11_written 6 rfl) rfl rfl H
set_option maxHeartbeats 40000000 in
theorem U_X11_orbit_1_0 {G : GG} {Φ : Int → Hp → Prop} {h : Hp} {x1 : Int} {x2 : Int} {x3 : Int} {x4 : Int} (H : ((x1 < 60 → Φ (-1) h) ∧ (60 ≤ x1 → ((20000 < x1 → Φ (-1) h) ∧ (x1 ≤ 20000 → ((x2 < 0 → Φ (-1) h) ∧ (0 ≤ x2 → ((3599 < x2 → Φ (-1) h) ∧ (x2 ≤ 3599 → ((x3 < 0 → Φ (-1) h) ∧ (0 ≤ x3 → ((3599 < x3 → Φ (-1) h) ∧ (x3 ≤ 3599 → ((x4 < 0 → Φ (-1) h) ∧ (0 ≤ x4 → ((3600 < x4 → Φ (-1) h) ∧ (x4 ≤ 3600 → Φ 1 (up (up (up (up h 14 0 x1) 14 1 x2) 14 2 x3) 14 3 x4)))))))))))))))))) : AT G m_X11_orbit 0 [(0, rv 1), (1, iv x1), (2, iv x2), (3, iv x3), (4, iv x4)] [] h Φ := by
  refine a_iload_n (pc := 0) (dk dt_X11_orbit 0 rfl) rfl ?_
  refine a_bipush (pc := 1) (dk dt_X11_orbit 1 rfl) (ik rfl) (bpk rfl) ?_
  refine a_sipush (pc := 3) (dk dt_X11_orbit 2 rfl) (ik rfl) (spk rfl) ?_
  refine a_callSi (as := [iv x1, iv 60, iv 20000]) (st := []) (pc := 6) (dk dt_X11_orbit 3 rfl) cl_RX11_104 ⟨Nat.le_of_ble_eq_true rfl, Nat.le_of_ble_eq_true rfl⟩ ⟨Nat.le_of_ble_eq_true rfl, Nat.le_of_ble_eq_true rfl⟩ rfl rfl rfl (Nat.le_of_ble_eq_true rfl) (Call.of rfl (Nat.le_of_ble_eq_true rfl) rfl ?_)
  refine a_iload_n (pc := 0) (dk dt_X11_within 0 rfl) rfl ?_
  refine a_iload_n (pc := 1) (dk dt_X11_within 1 rfl) rfl ?_
  refine a_icmp_lt (pc := 2) (dk dt_X11_within 2 rfl) (tgt := 14) rfl ⟨fun c => ?_, fun c => ?_⟩
  · replace H := H.1 c
    refine a_iconst (pc := 14) (dk dt_X11_within 8 rfl) (ik rfl) ?_
    refine a_zret (pc := 15) (dk dt_X11_within 9 rfl) rfl rfl ⟨by decide, ?_⟩
    show ATW _ _ _ _ _ _ _ _ _ _
    refine a_if_eq (pc := 9) (dk dt_X11_orbit 4 rfl) (tgt := 38) rfl ⟨fun _ => ?_, fun c => absurd c (by decide)⟩
    refine a_iconst (pc := 38) (dk dt_X11_orbit 16 rfl) (ik rfl) ?_
    exact a_iret (pc := 39) (dk dt_X11_orbit 17 rfl) rfl rfl H
  · replace H := H.2 c
    refine a_iload_n (pc := 5) (dk dt_X11_within 3 rfl) rfl ?_
    refine a_iload_n (pc := 6) (dk dt_X11_within 4 rfl) rfl ?_
    refine a_icmp_gt (pc := 7) (dk dt_X11_within 5 rfl) (tgt := 14) rfl ⟨fun c => ?_, fun c => ?_⟩
    · replace H := H.1 c
      refine a_iconst (pc := 14) (dk dt_X11_within 8 rfl) (ik rfl) ?_
      refine a_zret (pc := 15) (dk dt_X11_within 9 rfl) rfl rfl ⟨by decide, ?_⟩
      show ATW _ _ _ _ _ _ _ _ _ _
      refine a_if_eq (pc := 9) (dk dt_X11_orbit 4 rfl) (tgt := 38) rfl ⟨fun _ => ?_, fun c => absurd c (by decide)⟩
      refine a_iconst (pc := 38) (dk dt_X11_orbit 16 rfl) (ik rfl) ?_
      exact a_iret (pc := 39) (dk dt_X11_orbit 17 rfl) rfl rfl H
    · replace H := H.2 c
      refine a_iconst (pc := 10) (dk dt_X11_within 6 rfl) (ik rfl) ?_
      refine a_goto (pc := 11) (dk dt_X11_within 7 rfl) (tgt := 15) rfl ?_
      refine a_zret (pc := 15) (dk dt_X11_within 9 rfl) rfl rfl ⟨by decide, ?_⟩
      show ATW _ _ _ _ _ _ _ _ _ _
      refine a_if_eq (pc := 9) (dk dt_X11_orbit 4 rfl) (tgt := 38) rfl ⟨fun c => absurd c (by decide), fun _ => ?_⟩
      refine a_iload_n (pc := 12) (dk dt_X11_orbit 5 rfl) rfl ?_
      refine a_callSi (as := [iv x2]) (st := []) (pc := 13) (dk dt_X11_orbit 6 rfl) cl_RX11_135 ⟨Nat.le_of_ble_eq_true rfl, Nat.le_of_ble_eq_true rfl⟩ ⟨Nat.le_of_ble_eq_true rfl, Nat.le_of_ble_eq_true rfl⟩ rfl rfl rfl (Nat.le_of_ble_eq_true rfl) (Call.of rfl (Nat.le_of_ble_eq_true rfl) rfl ?_)
      refine a_iload_n (pc := 0) (dk dt_X11_isDegree 0 rfl) rfl ?_
      refine a_iconst (pc := 1) (dk dt_X11_isDegree 1 rfl) (ik rfl) ?_
      refine a_sipush (pc := 2) (dk dt_X11_isDegree 2 rfl) (ik rfl) (spk rfl) ?_
      refine a_callSi (as := [iv x2, iv 0, iv 3599]) (st := []) (pc := 5) (dk dt_X11_isDegree 3 rfl) cl_RX11_104 ⟨Nat.le_of_ble_eq_true rfl, Nat.le_of_ble_eq_true rfl⟩ ⟨Nat.le_of_ble_eq_true rfl, Nat.le_of_ble_eq_true rfl⟩ rfl rfl rfl (Nat.le_of_ble_eq_true rfl) (Call.of rfl (Nat.le_of_ble_eq_true rfl) rfl ?_)
      refine a_iload_n (pc := 0) (dk dt_X11_within 0 rfl) rfl ?_
      refine a_iload_n (pc := 1) (dk dt_X11_within 1 rfl) rfl ?_
      refine a_icmp_lt (pc := 2) (dk dt_X11_within 2 rfl) (tgt := 14) rfl ⟨fun c => ?_, fun c => ?_⟩
      · replace H := H.1 c
        refine a_iconst (pc := 14) (dk dt_X11_within 8 rfl) (ik rfl) ?_
        refine a_zret (pc := 15) (dk dt_X11_within 9 rfl) rfl rfl ⟨by decide, ?_⟩
        show ATW _ _ _ _ _ _ _ _ _ _
        refine a_zret (pc := 8) (dk dt_X11_isDegree 4 rfl) rfl rfl ⟨by decide, ?_⟩
        show ATW _ _ _ _ _ _ _ _ _ _
        refine a_if_eq (pc := 16) (dk dt_X11_orbit 7 rfl) (tgt := 38) rfl ⟨fun _ => ?_, fun c => absurd c (by decide)⟩
        refine a_iconst (pc := 38) (dk dt_X11_orbit 16 rfl) (ik rfl) ?_
        exact a_iret (pc := 39) (dk dt_X11_orbit 17 rfl) rfl rfl H
      · replace H := H.2 c
        refine a_iload_n (pc := 5) (dk dt_X11_within 3 rfl) rfl ?_
        refine a_iload_n (pc := 6) (dk dt_X11_within 4 rfl) rfl ?_
        refine a_icmp_gt (pc := 7) (dk dt_X11_within 5 rfl) (tgt := 14) rfl ⟨fun c => ?_, fun c => ?_⟩
        · replace H := H.1 c
          refine a_iconst (pc := 14) (dk dt_X11_within 8 rfl) (ik rfl) ?_
          refine a_zret (pc := 15) (dk dt_X11_within 9 rfl) rfl rfl ⟨by decide, ?_⟩
          show ATW _ _ _ _ _ _ _ _ _ _
          refine a_zret (pc := 8) (dk dt_X11_isDegree 4 rfl) rfl rfl ⟨by decide, ?_⟩
          show ATW _ _ _ _ _ _ _ _ _ _
          refine a_if_eq (pc := 16) (dk dt_X11_orbit 7 rfl) (tgt := 38) rfl ⟨fun _ => ?_, fun c => absurd c (by decide)⟩
          refine a_iconst (pc := 38) (dk dt_X11_orbit 16 rfl) (ik rfl) ?_
          exact a_iret (pc := 39) (dk dt_X11_orbit 17 rfl) rfl rfl H
        · replace H := H.2 c
          refine a_iconst (pc := 10) (dk dt_X11_within 6 rfl) (ik rfl) ?_
          refine a_goto (pc := 11) (dk dt_X11_within 7 rfl) (tgt := 15) rfl ?_
          refine a_zret (pc := 15) (dk dt_X11_within 9 rfl) rfl rfl ⟨by decide, ?_⟩
          show ATW _ _ _ _ _ _ _ _ _ _
          refine a_zret (pc := 8) (dk dt_X11_isDegree 4 rfl) rfl rfl ⟨by decide, ?_⟩
          show ATW _ _ _ _ _ _ _ _ _ _
          refine a_if_eq (pc := 16) (dk dt_X11_orbit 7 rfl) (tgt := 38) rfl ⟨fun c => absurd c (by decide), fun _ => ?_⟩
          refine a_iload_n (pc := 19) (dk dt_X11_orbit 8 rfl) rfl ?_
          refine a_callSi (as := [iv x3]) (st := []) (pc := 20) (dk dt_X11_orbit 9 rfl) cl_RX11_135 ⟨Nat.le_of_ble_eq_true rfl, Nat.le_of_ble_eq_true rfl⟩ ⟨Nat.le_of_ble_eq_true rfl, Nat.le_of_ble_eq_true rfl⟩ rfl rfl rfl (Nat.le_of_ble_eq_true rfl) (Call.of rfl (Nat.le_of_ble_eq_true rfl) rfl ?_)
          refine a_iload_n (pc := 0) (dk dt_X11_isDegree 0 rfl) rfl ?_
          refine a_iconst (pc := 1) (dk dt_X11_isDegree 1 rfl) (ik rfl) ?_
          refine a_sipush (pc := 2) (dk dt_X11_isDegree 2 rfl) (ik rfl) (spk rfl) ?_
          refine a_callSi (as := [iv x3, iv 0, iv 3599]) (st := []) (pc := 5) (dk dt_X11_isDegree 3 rfl) cl_RX11_104 ⟨Nat.le_of_ble_eq_true rfl, Nat.le_of_ble_eq_true rfl⟩ ⟨Nat.le_of_ble_eq_true rfl, Nat.le_of_ble_eq_true rfl⟩ rfl rfl rfl (Nat.le_of_ble_eq_true rfl) (Call.of rfl (Nat.le_of_ble_eq_true rfl) rfl ?_)
          refine a_iload_n (pc := 0) (dk dt_X11_within 0 rfl) rfl ?_
          refine a_iload_n (pc := 1) (dk dt_X11_within 1 rfl) rfl ?_
          refine a_icmp_lt (pc := 2) (dk dt_X11_within 2 rfl) (tgt := 14) rfl ⟨fun c => ?_, fun c => ?_⟩
          · replace H := H.1 c
            refine a_iconst (pc := 14) (dk dt_X11_within 8 rfl) (ik rfl) ?_
            refine a_zret (pc := 15) (dk dt_X11_within 9 rfl) rfl rfl ⟨by decide, ?_⟩
            show ATW _ _ _ _ _ _ _ _ _ _
            refine a_zret (pc := 8) (dk dt_X11_isDegree 4 rfl) rfl rfl ⟨by decide, ?_⟩
            show ATW _ _ _ _ _ _ _ _ _ _
            refine a_if_eq (pc := 23) (dk dt_X11_orbit 10 rfl) (tgt := 38) rfl ⟨fun _ => ?_, fun c => absurd c (by decide)⟩
            refine a_iconst (pc := 38) (dk dt_X11_orbit 16 rfl) (ik rfl) ?_
            exact a_iret (pc := 39) (dk dt_X11_orbit 17 rfl) rfl rfl H
          · replace H := H.2 c
            refine a_iload_n (pc := 5) (dk dt_X11_within 3 rfl) rfl ?_
            refine a_iload_n (pc := 6) (dk dt_X11_within 4 rfl) rfl ?_
            refine a_icmp_gt (pc := 7) (dk dt_X11_within 5 rfl) (tgt := 14) rfl ⟨fun c => ?_, fun c => ?_⟩
            · replace H := H.1 c
              refine a_iconst (pc := 14) (dk dt_X11_within 8 rfl) (ik rfl) ?_
              refine a_zret (pc := 15) (dk dt_X11_within 9 rfl) rfl rfl ⟨by decide, ?_⟩
              show ATW _ _ _ _ _ _ _ _ _ _
              refine a_zret (pc := 8) (dk dt_X11_isDegree 4 rfl) rfl rfl ⟨by decide, ?_⟩
              show ATW _ _ _ _ _ _ _ _ _ _
              refine a_if_eq (pc := 23) (dk dt_X11_orbit 10 rfl) (tgt := 38) rfl ⟨fun _ => ?_, fun c => absurd c (by decide)⟩
              refine a_iconst (pc := 38) (dk dt_X11_orbit 16 rfl) (ik rfl) ?_
              exact a_iret (pc := 39) (dk dt_X11_orbit 17 rfl) rfl rfl H
            · replace H := H.2 c
              refine a_iconst (pc := 10) (dk dt_X11_within 6 rfl) (ik rfl) ?_
              refine a_goto (pc := 11) (dk dt_X11_within 7 rfl) (tgt := 15) rfl ?_
              refine a_zret (pc := 15) (dk dt_X11_within 9 rfl) rfl rfl ⟨by decide, ?_⟩
              show ATW _ _ _ _ _ _ _ _ _ _
              refine a_zret (pc := 8) (dk dt_X11_isDegree 4 rfl) rfl rfl ⟨by decide, ?_⟩
              show ATW _ _ _ _ _ _ _ _ _ _
              refine a_if_eq (pc := 23) (dk dt_X11_orbit 10 rfl) (tgt := 38) rfl ⟨fun c => absurd c (by decide), fun _ => ?_⟩
              refine a_iload (pc := 26) (dk dt_X11_orbit 11 rfl) rfl ?_
              refine a_iconst (pc := 28) (dk dt_X11_orbit 12 rfl) (ik rfl) ?_
              refine a_sipush (pc := 29) (dk dt_X11_orbit 13 rfl) (ik rfl) (spk rfl) ?_
              refine a_callSi (as := [iv x4, iv 0, iv 3600]) (st := []) (pc := 32) (dk dt_X11_orbit 14 rfl) cl_RX11_104 ⟨Nat.le_of_ble_eq_true rfl, Nat.le_of_ble_eq_true rfl⟩ ⟨Nat.le_of_ble_eq_true rfl, Nat.le_of_ble_eq_true rfl⟩ rfl rfl rfl (Nat.le_of_ble_eq_true rfl) (Call.of rfl (Nat.le_of_ble_eq_true rfl) rfl ?_)
              refine a_iload_n (pc := 0) (dk dt_X11_within 0 rfl) rfl ?_
              refine a_iload_n (pc := 1) (dk dt_X11_within 1 rfl) rfl ?_
              refine a_icmp_lt (pc := 2) (dk dt_X11_within 2 rfl) (tgt := 14) rfl ⟨fun c => ?_, fun c => ?_⟩
              · replace H := H.1 c
                refine a_iconst (pc := 14) (dk dt_X11_within 8 rfl) (ik rfl) ?_
                refine a_zret (pc := 15) (dk dt_X11_within 9 rfl) rfl rfl ⟨by decide, ?_⟩
                show ATW _ _ _ _ _ _ _ _ _ _
                refine a_if_ne (pc := 35) (dk dt_X11_orbit 15 rfl) (tgt := 40) rfl ⟨fun c => absurd c (by decide), fun _ => ?_⟩
                refine a_iconst (pc := 38) (dk dt_X11_orbit 16 rfl) (ik rfl) ?_
                exact a_iret (pc := 39) (dk dt_X11_orbit 17 rfl) rfl rfl H
              · replace H := H.2 c
                refine a_iload_n (pc := 5) (dk dt_X11_within 3 rfl) rfl ?_
                refine a_iload_n (pc := 6) (dk dt_X11_within 4 rfl) rfl ?_
                refine a_icmp_gt (pc := 7) (dk dt_X11_within 5 rfl) (tgt := 14) rfl ⟨fun c => ?_, fun c => ?_⟩
                · replace H := H.1 c
                  refine a_iconst (pc := 14) (dk dt_X11_within 8 rfl) (ik rfl) ?_
                  refine a_zret (pc := 15) (dk dt_X11_within 9 rfl) rfl rfl ⟨by decide, ?_⟩
                  show ATW _ _ _ _ _ _ _ _ _ _
                  refine a_if_ne (pc := 35) (dk dt_X11_orbit 15 rfl) (tgt := 40) rfl ⟨fun c => absurd c (by decide), fun _ => ?_⟩
                  refine a_iconst (pc := 38) (dk dt_X11_orbit 16 rfl) (ik rfl) ?_
                  exact a_iret (pc := 39) (dk dt_X11_orbit 17 rfl) rfl rfl H
                · replace H := H.2 c
                  refine a_iconst (pc := 10) (dk dt_X11_within 6 rfl) (ik rfl) ?_
                  refine a_goto (pc := 11) (dk dt_X11_within 7 rfl) (tgt := 15) rfl ?_
                  refine a_zret (pc := 15) (dk dt_X11_within 9 rfl) rfl rfl ⟨by decide, ?_⟩
                  show ATW _ _ _ _ _ _ _ _ _ _
                  refine a_if_ne (pc := 35) (dk dt_X11_orbit 15 rfl) (tgt := 40) rfl ⟨fun _ => ?_, fun c => absurd c (by decide)⟩
                  refine a_aload_n (pc := 40) (dk dt_X11_orbit 18 rfl) rfl ?_
                  refine a_getr (r := 13) (pc := 41) (dk dt_X11_orbit 19 rfl) cls_11 fl_RX11_45 cf_1_5 ?_
                  refine a_iload_n (pc := 44) (dk dt_X11_orbit 20 rfl) rfl ?_
                  refine a_puti (pc := 45) (dk dt_X11_orbit 21 rfl) cls_6 fl_RX11_138 cf_14_0 rfl rfl ?_
                  refine a_aload_n (pc := 48) (dk dt_X11_orbit 22 rfl) rfl ?_
                  refine a_getr (r := 13) (pc := 49) (dk dt_X11_orbit 23 rfl) cls_11 fl_RX11_45 cf_1_5 ?_
                  refine a_iload_n (pc := 52) (dk dt_X11_orbit 24 rfl) rfl ?_
                  refine a_puti (pc := 53) (dk dt_X11_orbit 25 rfl) cls_6 fl_RX11_141 cf_14_1 rfl rfl ?_
                  refine a_aload_n (pc := 56) (dk dt_X11_orbit 26 rfl) rfl ?_
                  refine a_getr (r := 13) (pc := 57) (dk dt_X11_orbit 27 rfl) cls_11 fl_RX11_45 cf_1_5 ?_
                  refine a_iload_n (pc := 60) (dk dt_X11_orbit 28 rfl) rfl ?_
                  refine a_puti (pc := 61) (dk dt_X11_orbit 29 rfl) cls_6 fl_RX11_144 cf_14_2 rfl rfl ?_
                  refine a_aload_n (pc := 64) (dk dt_X11_orbit 30 rfl) rfl ?_
                  refine a_getr (r := 13) (pc := 65) (dk dt_X11_orbit 31 rfl) cls_11 fl_RX11_45 cf_1_5 ?_
                  refine a_iload (pc := 68) (dk dt_X11_orbit 32 rfl) rfl ?_
                  refine a_puti (pc := 70) (dk dt_X11_orbit 33 rfl) cls_6 fl_RX11_147 cf_14_3 rfl rfl ?_
                  refine a_iconst (pc := 73) (dk dt_X11_orbit 34 rfl) (ik rfl) ?_
                  exact a_iret (pc := 74) (dk dt_X11_orbit 35 rfl) rfl rfl H
set_option maxHeartbeats 40000000 in
theorem U_X11_station_1_0 {G : GG} {Φ : Int → Hp → Prop} {h : Hp} {x1 : Int} {x2 : Int} {x3 : Int} {x4 : Int} (H : ((x1 < 0 → Φ (-1) h) ∧ (0 ≤ x1 → ((3 < x1 → Φ (-1) h) ∧ (x1 ≤ 3 → ((x2 < 0 → Φ (-1) h) ∧ (0 ≤ x2 → ((3599 < x2 → Φ (-1) h) ∧ (x2 ≤ 3599 → ((x3 < 0 → Φ (-1) h) ∧ (0 ≤ x3 → ((3600 < x3 → Φ (-1) h) ∧ (x3 ≤ 3600 → ((x4 < 0 → Φ (-1) h) ∧ (0 ≤ x4 → ((3599 < x4 → Φ (-1) h) ∧ (x4 ≤ 3599 → (0 ≤ x1 ∧ x1 < 4) ∧ (0 ≤ x1 ∧ x1 < 4) ∧ (0 ≤ x1 ∧ x1 < 4) ∧ Φ 1 (up (up (up h 15 x1 x2) 16 x1 x3) 17 x1 x4)))))))))))))))))) : AT G m_X11_station 0 [(0, rv 1), (1, iv x1), (2, iv x2), (3, iv x3), (4, iv x4)] [] h Φ := by
  refine a_iload_n (pc := 0) (dk dt_X11_station 0 rfl) rfl ?_
  refine a_callSi (as := [iv x1]) (st := []) (pc := 1) (dk dt_X11_station 1 rfl) cl_RX11_150 ⟨Nat.le_of_ble_eq_true rfl, Nat.le_of_ble_eq_true rfl⟩ ⟨Nat.le_of_ble_eq_true rfl, Nat.le_of_ble_eq_true rfl⟩ rfl rfl rfl (Nat.le_of_ble_eq_true rfl) (Call.of rfl (Nat.le_of_ble_eq_true rfl) rfl ?_)
  refine a_iload_n (pc := 0) (dk dt_X11_isStation 0 rfl) rfl ?_
  refine a_iconst (pc := 1) (dk dt_X11_isStation 1 rfl) (ik rfl) ?_
  refine a_iconst (pc := 2) (dk dt_X11_isStation 2 rfl) (ik rfl) ?_
  refine a_callSi (as := [iv x1, iv 0, iv 3]) (st := []) (pc := 3) (dk dt_X11_isStation 3 rfl) cl_RX11_104 ⟨Nat.le_of_ble_eq_true rfl, Nat.le_of_ble_eq_true rfl⟩ ⟨Nat.le_of_ble_eq_true rfl, Nat.le_of_ble_eq_true rfl⟩ rfl rfl rfl (Nat.le_of_ble_eq_true rfl) (Call.of rfl (Nat.le_of_ble_eq_true rfl) rfl ?_)
  refine a_iload_n (pc := 0) (dk dt_X11_within 0 rfl) rfl ?_
  refine a_iload_n (pc := 1) (dk dt_X11_within 1 rfl) rfl ?_
  refine a_icmp_lt (pc := 2) (dk dt_X11_within 2 rfl) (tgt := 14) rfl ⟨fun c => ?_, fun c => ?_⟩
  · replace H := H.1 c
    refine a_iconst (pc := 14) (dk dt_X11_within 8 rfl) (ik rfl) ?_
    refine a_zret (pc := 15) (dk dt_X11_within 9 rfl) rfl rfl ⟨by decide, ?_⟩
    show ATW _ _ _ _ _ _ _ _ _ _
    refine a_zret (pc := 6) (dk dt_X11_isStation 4 rfl) rfl rfl ⟨by decide, ?_⟩
    show ATW _ _ _ _ _ _ _ _ _ _
    refine a_if_eq (pc := 4) (dk dt_X11_station 2 rfl) (tgt := 33) rfl ⟨fun _ => ?_, fun c => absurd c (by decide)⟩
    refine a_iconst (pc := 33) (dk dt_X11_station 14 rfl) (ik rfl) ?_
    exact a_iret (pc := 34) (dk dt_X11_station 15 rfl) rfl rfl H
  · replace H := H.2 c
    refine a_iload_n (pc := 5) (dk dt_X11_within 3 rfl) rfl ?_
    refine a_iload_n (pc := 6) (dk dt_X11_within 4 rfl) rfl ?_
    refine a_icmp_gt (pc := 7) (dk dt_X11_within 5 rfl) (tgt := 14) rfl ⟨fun c => ?_, fun c => ?_⟩
    · replace H := H.1 c
      refine a_iconst (pc := 14) (dk dt_X11_within 8 rfl) (ik rfl) ?_
      refine a_zret (pc := 15) (dk dt_X11_within 9 rfl) rfl rfl ⟨by decide, ?_⟩
      show ATW _ _ _ _ _ _ _ _ _ _
      refine a_zret (pc := 6) (dk dt_X11_isStation 4 rfl) rfl rfl ⟨by decide, ?_⟩
      show ATW _ _ _ _ _ _ _ _ _ _
      refine a_if_eq (pc := 4) (dk dt_X11_station 2 rfl) (tgt := 33) rfl ⟨fun _ => ?_, fun c => absurd c (by decide)⟩
      refine a_iconst (pc := 33) (dk dt_X11_station 14 rfl) (ik rfl) ?_
      exact a_iret (pc := 34) (dk dt_X11_station 15 rfl) rfl rfl H
    · replace H := H.2 c
      refine a_iconst (pc := 10) (dk dt_X11_within 6 rfl) (ik rfl) ?_
      refine a_goto (pc := 11) (dk dt_X11_within 7 rfl) (tgt := 15) rfl ?_
      refine a_zret (pc := 15) (dk dt_X11_within 9 rfl) rfl rfl ⟨by decide, ?_⟩
      show ATW _ _ _ _ _ _ _ _ _ _
      refine a_zret (pc := 6) (dk dt_X11_isStation 4 rfl) rfl rfl ⟨by decide, ?_⟩
      show ATW _ _ _ _ _ _ _ _ _ _
      refine a_if_eq (pc := 4) (dk dt_X11_station 2 rfl) (tgt := 33) rfl ⟨fun c => absurd c (by decide), fun _ => ?_⟩
      refine a_iload_n (pc := 7) (dk dt_X11_station 3 rfl) rfl ?_
      refine a_callSi (as := [iv x2]) (st := []) (pc := 8) (dk dt_X11_station 4 rfl) cl_RX11_135 ⟨Nat.le_of_ble_eq_true rfl, Nat.le_of_ble_eq_true rfl⟩ ⟨Nat.le_of_ble_eq_true rfl, Nat.le_of_ble_eq_true rfl⟩ rfl rfl rfl (Nat.le_of_ble_eq_true rfl) (Call.of rfl (Nat.le_of_ble_eq_true rfl) rfl ?_)
      refine a_iload_n (pc := 0) (dk dt_X11_isDegree 0 rfl) rfl ?_
      refine a_iconst (pc := 1) (dk dt_X11_isDegree 1 rfl) (ik rfl) ?_
      refine a_sipush (pc := 2) (dk dt_X11_isDegree 2 rfl) (ik rfl) (spk rfl) ?_
      refine a_callSi (as := [iv x2, iv 0, iv 3599]) (st := []) (pc := 5) (dk dt_X11_isDegree 3 rfl) cl_RX11_104 ⟨Nat.le_of_ble_eq_true rfl, Nat.le_of_ble_eq_true rfl⟩ ⟨Nat.le_of_ble_eq_true rfl, Nat.le_of_ble_eq_true rfl⟩ rfl rfl rfl (Nat.le_of_ble_eq_true rfl) (Call.of rfl (Nat.le_of_ble_eq_true rfl) rfl ?_)
      refine a_iload_n (pc := 0) (dk dt_X11_within 0 rfl) rfl ?_
      refine a_iload_n (pc := 1) (dk dt_X11_within 1 rfl) rfl ?_
      refine a_icmp_lt (pc := 2) (dk dt_X11_within 2 rfl) (tgt := 14) rfl ⟨fun c => ?_, fun c => ?_⟩
      · replace H := H.1 c
        refine a_iconst (pc := 14) (dk dt_X11_within 8 rfl) (ik rfl) ?_
        refine a_zret (pc := 15) (dk dt_X11_within 9 rfl) rfl rfl ⟨by decide, ?_⟩
        show ATW _ _ _ _ _ _ _ _ _ _
        refine a_zret (pc := 8) (dk dt_X11_isDegree 4 rfl) rfl rfl ⟨by decide, ?_⟩
        show ATW _ _ _ _ _ _ _ _ _ _
        refine a_if_eq (pc := 11) (dk dt_X11_station 5 rfl) (tgt := 33) rfl ⟨fun _ => ?_, fun c => absurd c (by decide)⟩
        refine a_iconst (pc := 33) (dk dt_X11_station 14 rfl) (ik rfl) ?_
        exact a_iret (pc := 34) (dk dt_X11_station 15 rfl) rfl rfl H
      · replace H := H.2 c
        refine a_iload_n (pc := 5) (dk dt_X11_within 3 rfl) rfl ?_
        refine a_iload_n (pc := 6) (dk dt_X11_within 4 rfl) rfl ?_
        refine a_icmp_gt (pc := 7) (dk dt_X11_within 5 rfl) (tgt := 14) rfl ⟨fun c => ?_, fun c => ?_⟩
        · replace H := H.1 c
          refine a_iconst (pc := 14) (dk dt_X11_within 8 rfl) (ik rfl) ?_
          refine a_zret (pc := 15) (dk dt_X11_within 9 rfl) rfl rfl ⟨by decide, ?_⟩
          show ATW _ _ _ _ _ _ _ _ _ _
          refine a_zret (pc := 8) (dk dt_X11_isDegree 4 rfl) rfl rfl ⟨by decide, ?_⟩
          show ATW _ _ _ _ _ _ _ _ _ _
          refine a_if_eq (pc := 11) (dk dt_X11_station 5 rfl) (tgt := 33) rfl ⟨fun _ => ?_, fun c => absurd c (by decide)⟩
          refine a_iconst (pc := 33) (dk dt_X11_station 14 rfl) (ik rfl) ?_
          exact a_iret (pc := 34) (dk dt_X11_station 15 rfl) rfl rfl H
        · replace H := H.2 c
          refine a_iconst (pc := 10) (dk dt_X11_within 6 rfl) (ik rfl) ?_
          refine a_goto (pc := 11) (dk dt_X11_within 7 rfl) (tgt := 15) rfl ?_
          refine a_zret (pc := 15) (dk dt_X11_within 9 rfl) rfl rfl ⟨by decide, ?_⟩
          show ATW _ _ _ _ _ _ _ _ _ _
          refine a_zret (pc := 8) (dk dt_X11_isDegree 4 rfl) rfl rfl ⟨by decide, ?_⟩
          show ATW _ _ _ _ _ _ _ _ _ _
          refine a_if_eq (pc := 11) (dk dt_X11_station 5 rfl) (tgt := 33) rfl ⟨fun c => absurd c (by decide), fun _ => ?_⟩
          refine a_iload_n (pc := 14) (dk dt_X11_station 6 rfl) rfl ?_
          refine a_iconst (pc := 15) (dk dt_X11_station 7 rfl) (ik rfl) ?_
          refine a_sipush (pc := 16) (dk dt_X11_station 8 rfl) (ik rfl) (spk rfl) ?_
          refine a_callSi (as := [iv x3, iv 0, iv 3600]) (st := []) (pc := 19) (dk dt_X11_station 9 rfl) cl_RX11_104 ⟨Nat.le_of_ble_eq_true rfl, Nat.le_of_ble_eq_true rfl⟩ ⟨Nat.le_of_ble_eq_true rfl, Nat.le_of_ble_eq_true rfl⟩ rfl rfl rfl (Nat.le_of_ble_eq_true rfl) (Call.of rfl (Nat.le_of_ble_eq_true rfl) rfl ?_)
          refine a_iload_n (pc := 0) (dk dt_X11_within 0 rfl) rfl ?_
          refine a_iload_n (pc := 1) (dk dt_X11_within 1 rfl) rfl ?_
          refine a_icmp_lt (pc := 2) (dk dt_X11_within 2 rfl) (tgt := 14) rfl ⟨fun c => ?_, fun c => ?_⟩
          · replace H := H.1 c
            refine a_iconst (pc := 14) (dk dt_X11_within 8 rfl) (ik rfl) ?_
            refine a_zret (pc := 15) (dk dt_X11_within 9 rfl) rfl rfl ⟨by decide, ?_⟩
            show ATW _ _ _ _ _ _ _ _ _ _
            refine a_if_eq (pc := 22) (dk dt_X11_station 10 rfl) (tgt := 33) rfl ⟨fun _ => ?_, fun c => absurd c (by decide)⟩
            refine a_iconst (pc := 33) (dk dt_X11_station 14 rfl) (ik rfl) ?_
            exact a_iret (pc := 34) (dk dt_X11_station 15 rfl) rfl rfl H
          · replace H := H.2 c
            refine a_iload_n (pc := 5) (dk dt_X11_within 3 rfl) rfl ?_
            refine a_iload_n (pc := 6) (dk dt_X11_within 4 rfl) rfl ?_
            refine a_icmp_gt (pc := 7) (dk dt_X11_within 5 rfl) (tgt := 14) rfl ⟨fun c => ?_, fun c => ?_⟩
            · replace H := H.1 c
              refine a_iconst (pc := 14) (dk dt_X11_within 8 rfl) (ik rfl) ?_
              refine a_zret (pc := 15) (dk dt_X11_within 9 rfl) rfl rfl ⟨by decide, ?_⟩
              show ATW _ _ _ _ _ _ _ _ _ _
              refine a_if_eq (pc := 22) (dk dt_X11_station 10 rfl) (tgt := 33) rfl ⟨fun _ => ?_, fun c => absurd c (by decide)⟩
              refine a_iconst (pc := 33) (dk dt_X11_station 14 rfl) (ik rfl) ?_
              exact a_iret (pc := 34) (dk dt_X11_station 15 rfl) rfl rfl H
            · replace H := H.2 c
              refine a_iconst (pc := 10) (dk dt_X11_within 6 rfl) (ik rfl) ?_
              refine a_goto (pc := 11) (dk dt_X11_within 7 rfl) (tgt := 15) rfl ?_
              refine a_zret (pc := 15) (dk dt_X11_within 9 rfl) rfl rfl ⟨by decide, ?_⟩
              show ATW _ _ _ _ _ _ _ _ _ _
              refine a_if_eq (pc := 22) (dk dt_X11_station 10 rfl) (tgt := 33) rfl ⟨fun c => absurd c (by decide), fun _ => ?_⟩
              refine a_iload (pc := 25) (dk dt_X11_station 11 rfl) rfl ?_
              refine a_callSi (as := [iv x4]) (st := []) (pc := 27) (dk dt_X11_station 12 rfl) cl_RX11_135 ⟨Nat.le_of_ble_eq_true rfl, Nat.le_of_ble_eq_true rfl⟩ ⟨Nat.le_of_ble_eq_true rfl, Nat.le_of_ble_eq_true rfl⟩ rfl rfl rfl (Nat.le_of_ble_eq_true rfl) (Call.of rfl (Nat.le_of_ble_eq_true rfl) rfl ?_)
              refine a_iload_n (pc := 0) (dk dt_X11_isDegree 0 rfl) rfl ?_
              refine a_iconst (pc := 1) (dk dt_X11_isDegree 1 rfl) (ik rfl) ?_
              refine a_sipush (pc := 2) (dk dt_X11_isDegree 2 rfl) (ik rfl) (spk rfl) ?_
              refine a_callSi (as := [iv x4, iv 0, iv 3599]) (st := []) (pc := 5) (dk dt_X11_isDegree 3 rfl) cl_RX11_104 ⟨Nat.le_of_ble_eq_true rfl, Nat.le_of_ble_eq_true rfl⟩ ⟨Nat.le_of_ble_eq_true rfl, Nat.le_of_ble_eq_true rfl⟩ rfl rfl rfl (Nat.le_of_ble_eq_true rfl) (Call.of rfl (Nat.le_of_ble_eq_true rfl) rfl ?_)
              refine a_iload_n (pc := 0) (dk dt_X11_within 0 rfl) rfl ?_
              refine a_iload_n (pc := 1) (dk dt_X11_within 1 rfl) rfl ?_
              refine a_icmp_lt (pc := 2) (dk dt_X11_within 2 rfl) (tgt := 14) rfl ⟨fun c => ?_, fun c => ?_⟩
              · replace H := H.1 c
                refine a_iconst (pc := 14) (dk dt_X11_within 8 rfl) (ik rfl) ?_
                refine a_zret (pc := 15) (dk dt_X11_within 9 rfl) rfl rfl ⟨by decide, ?_⟩
                show ATW _ _ _ _ _ _ _ _ _ _
                refine a_zret (pc := 8) (dk dt_X11_isDegree 4 rfl) rfl rfl ⟨by decide, ?_⟩
                show ATW _ _ _ _ _ _ _ _ _ _
                refine a_if_ne (pc := 30) (dk dt_X11_station 13 rfl) (tgt := 35) rfl ⟨fun c => absurd c (by decide), fun _ => ?_⟩
                refine a_iconst (pc := 33) (dk dt_X11_station 14 rfl) (ik rfl) ?_
                exact a_iret (pc := 34) (dk dt_X11_station 15 rfl) rfl rfl H
              · replace H := H.2 c
                refine a_iload_n (pc := 5) (dk dt_X11_within 3 rfl) rfl ?_
                refine a_iload_n (pc := 6) (dk dt_X11_within 4 rfl) rfl ?_
                refine a_icmp_gt (pc := 7) (dk dt_X11_within 5 rfl) (tgt := 14) rfl ⟨fun c => ?_, fun c => ?_⟩
                · replace H := H.1 c
                  refine a_iconst (pc := 14) (dk dt_X11_within 8 rfl) (ik rfl) ?_
                  refine a_zret (pc := 15) (dk dt_X11_within 9 rfl) rfl rfl ⟨by decide, ?_⟩
                  show ATW _ _ _ _ _ _ _ _ _ _
                  refine a_zret (pc := 8) (dk dt_X11_isDegree 4 rfl) rfl rfl ⟨by decide, ?_⟩
                  show ATW _ _ _ _ _ _ _ _ _ _
                  refine a_if_ne (pc := 30) (dk dt_X11_station 13 rfl) (tgt := 35) rfl ⟨fun c => absurd c (by decide), fun _ => ?_⟩
                  refine a_iconst (pc := 33) (dk dt_X11_station 14 rfl) (ik rfl) ?_
                  exact a_iret (pc := 34) (dk dt_X11_station 15 rfl) rfl rfl H
                · replace H := H.2 c
                  refine a_iconst (pc := 10) (dk dt_X11_within 6 rfl) (ik rfl) ?_
                  refine a_goto (pc := 11) (dk dt_X11_within 7 rfl) (tgt := 15) rfl ?_
                  refine a_zret (pc := 15) (dk dt_X11_within 9 rfl) rfl rfl ⟨by decide, ?_⟩
                  show ATW _ _ _ _ _ _ _ _ _ _
                  refine a_zret (pc := 8) (dk dt_X11_isDegree 4 rfl) rfl rfl ⟨by decide, ?_⟩
                  show ATW _ _ _ _ _ _ _ _ _ _
                  refine a_if_ne (pc := 30) (dk dt_X11_station 13 rfl) (tgt := 35) rfl ⟨fun _ => ?_, fun c => absurd c (by decide)⟩
                  refine a_aload_n (pc := 35) (dk dt_X11_station 16 rfl) rfl ?_
                  refine a_getr (r := 13) (pc := 36) (dk dt_X11_station 17 rfl) cls_11 fl_RX11_45 cf_1_5 ?_
                  refine a_getr (r := 14) (pc := 39) (dk dt_X11_station 18 rfl) cls_6 fl_RX11_153 cf_14_6 ?_
                  refine a_iload_n (pc := 42) (dk dt_X11_station 19 rfl) rfl ?_
                  refine a_iload_n (pc := 43) (dk dt_X11_station 20 rfl) rfl ?_
                  refine a_iast (pc := 44) (dk dt_X11_station 21 rfl) ar_15 ⟨H.1, ?_⟩
                  replace H := H.2
                  refine a_aload_n (pc := 45) (dk dt_X11_station 22 rfl) rfl ?_
                  refine a_getr (r := 13) (pc := 46) (dk dt_X11_station 23 rfl) cls_11 fl_RX11_45 cf_1_5 ?_
                  refine a_getr (r := 15) (pc := 49) (dk dt_X11_station 24 rfl) cls_6 fl_RX11_156 cf_14_7 ?_
                  refine a_iload_n (pc := 52) (dk dt_X11_station 25 rfl) rfl ?_
                  refine a_iload_n (pc := 53) (dk dt_X11_station 26 rfl) rfl ?_
                  refine a_iast (pc := 54) (dk dt_X11_station 27 rfl) ar_16 ⟨H.1, ?_⟩
                  replace H := H.2
                  refine a_aload_n (pc := 55) (dk dt_X11_station 28 rfl) rfl ?_
                  refine a_getr (r := 13) (pc := 56) (dk dt_X11_station 29 rfl) cls_11 fl_RX11_45 cf_1_5 ?_
                  refine a_getr (r := 16) (pc := 59) (dk dt_X11_station 30 rfl) cls_6 fl_RX11_159 cf_14_8 ?_
                  refine a_iload_n (pc := 62) (dk dt_X11_station 31 rfl) rfl ?_
                  refine a_iload (pc := 63) (dk dt_X11_station 32 rfl) rfl ?_
                  refine a_iast (pc := 65) (dk dt_X11_station 33 rfl) ar_17 ⟨H.1, ?_⟩
                  replace H := H.2
                  refine a_iconst (pc := 66) (dk dt_X11_station 34 rfl) (ik rfl) ?_
                  exact a_iret (pc := 67) (dk dt_X11_station 35 rfl) rfl rfl H
set_option maxHeartbeats 40000000 in
theorem U_X11_sight_1_0 {G : GG} {Φ : Int → Hp → Prop} {h : Hp} {x1 : Int} {x2 : Int} (H : ((x1 < 0 → Φ (-1) h) ∧ (0 ≤ x1 → ((3 < x1 → Φ (-1) h) ∧ (x1 ≤ 3 → ((x2 ≠ 0 → Call G m_X6_firstSight [rv 14, iv x1, iv (h 34 4), iv 0] h (fun r1 h2 => Φ r1 h2)) ∧ (x2 = 0 → Call G m_X6_firstSight [rv 14, iv x1, iv (h 34 4), iv 1] h (fun r3 h4 => Φ r3 h4)))))))) : AT G m_X11_sight 0 [(0, rv 1), (1, iv x1), (2, iv x2)] [] h Φ := by
  refine a_iload_n (pc := 0) (dk dt_X11_sight 0 rfl) rfl ?_
  refine a_callSi (as := [iv x1]) (st := []) (pc := 1) (dk dt_X11_sight 1 rfl) cl_RX11_150 ⟨Nat.le_of_ble_eq_true rfl, Nat.le_of_ble_eq_true rfl⟩ ⟨Nat.le_of_ble_eq_true rfl, Nat.le_of_ble_eq_true rfl⟩ rfl rfl rfl (Nat.le_of_ble_eq_true rfl) (Call.of rfl (Nat.le_of_ble_eq_true rfl) rfl ?_)
  refine a_iload_n (pc := 0) (dk dt_X11_isStation 0 rfl) rfl ?_
  refine a_iconst (pc := 1) (dk dt_X11_isStation 1 rfl) (ik rfl) ?_
  refine a_iconst (pc := 2) (dk dt_X11_isStation 2 rfl) (ik rfl) ?_
  refine a_callSi (as := [iv x1, iv 0, iv 3]) (st := []) (pc := 3) (dk dt_X11_isStation 3 rfl) cl_RX11_104 ⟨Nat.le_of_ble_eq_true rfl, Nat.le_of_ble_eq_true rfl⟩ ⟨Nat.le_of_ble_eq_true rfl, Nat.le_of_ble_eq_true rfl⟩ rfl rfl rfl (Nat.le_of_ble_eq_true rfl) (Call.of rfl (Nat.le_of_ble_eq_true rfl) rfl ?_)
  refine a_iload_n (pc := 0) (dk dt_X11_within 0 rfl) rfl ?_
  refine a_iload_n (pc := 1) (dk dt_X11_within 1 rfl) rfl ?_
  refine a_icmp_lt (pc := 2) (dk dt_X11_within 2 rfl) (tgt := 14) rfl ⟨fun c => ?_, fun c => ?_⟩
  · replace H := H.1 c
    refine a_iconst (pc := 14) (dk dt_X11_within 8 rfl) (ik rfl) ?_
    refine a_zret (pc := 15) (dk dt_X11_within 9 rfl) rfl rfl ⟨by decide, ?_⟩
    show ATW _ _ _ _ _ _ _ _ _ _
    refine a_zret (pc := 6) (dk dt_X11_isStation 4 rfl) rfl rfl ⟨by decide, ?_⟩
    show ATW _ _ _ _ _ _ _ _ _ _
    refine a_if_eq (pc := 4) (dk dt_X11_sight 2 rfl) (tgt := 34) rfl ⟨fun _ => ?_, fun c => absurd c (by decide)⟩
    refine a_iconst (pc := 34) (dk dt_X11_sight 16 rfl) (ik rfl) ?_
    exact a_iret (pc := 35) (dk dt_X11_sight 17 rfl) rfl rfl H
  · replace H := H.2 c
    refine a_iload_n (pc := 5) (dk dt_X11_within 3 rfl) rfl ?_
    refine a_iload_n (pc := 6) (dk dt_X11_within 4 rfl) rfl ?_
    refine a_icmp_gt (pc := 7) (dk dt_X11_within 5 rfl) (tgt := 14) rfl ⟨fun c => ?_, fun c => ?_⟩
    · replace H := H.1 c
      refine a_iconst (pc := 14) (dk dt_X11_within 8 rfl) (ik rfl) ?_
      refine a_zret (pc := 15) (dk dt_X11_within 9 rfl) rfl rfl ⟨by decide, ?_⟩
      show ATW _ _ _ _ _ _ _ _ _ _
      refine a_zret (pc := 6) (dk dt_X11_isStation 4 rfl) rfl rfl ⟨by decide, ?_⟩
      show ATW _ _ _ _ _ _ _ _ _ _
      refine a_if_eq (pc := 4) (dk dt_X11_sight 2 rfl) (tgt := 34) rfl ⟨fun _ => ?_, fun c => absurd c (by decide)⟩
      refine a_iconst (pc := 34) (dk dt_X11_sight 16 rfl) (ik rfl) ?_
      exact a_iret (pc := 35) (dk dt_X11_sight 17 rfl) rfl rfl H
    · replace H := H.2 c
      refine a_iconst (pc := 10) (dk dt_X11_within 6 rfl) (ik rfl) ?_
      refine a_goto (pc := 11) (dk dt_X11_within 7 rfl) (tgt := 15) rfl ?_
      refine a_zret (pc := 15) (dk dt_X11_within 9 rfl) rfl rfl ⟨by decide, ?_⟩
      show ATW _ _ _ _ _ _ _ _ _ _
      refine a_zret (pc := 6) (dk dt_X11_isStation 4 rfl) rfl rfl ⟨by decide, ?_⟩
      show ATW _ _ _ _ _ _ _ _ _ _
      refine a_if_eq (pc := 4) (dk dt_X11_sight 2 rfl) (tgt := 34) rfl ⟨fun c => absurd c (by decide), fun _ => ?_⟩
      refine a_aload_n (pc := 7) (dk dt_X11_sight 3 rfl) rfl ?_
      refine a_getr (r := 13) (pc := 8) (dk dt_X11_sight 4 rfl) cls_11 fl_RX11_45 cf_1_5 ?_
      refine a_iload_n (pc := 11) (dk dt_X11_sight 5 rfl) rfl ?_
      refine a_aload_n (pc := 12) (dk dt_X11_sight 6 rfl) rfl ?_
      refine a_getr (r := 33) (pc := 13) (dk dt_X11_sight 7 rfl) cls_11 fl_RX11_75 cf_1_9 ?_
      refine a_geti (pc := 16) (dk dt_X11_sight 8 rfl) cls_0 fl_RX11_162 cf_34_4 ?_
      refine a_iload_n (pc := 19) (dk dt_X11_sight 9 rfl) rfl ?_
      refine a_if_ne (pc := 20) (dk dt_X11_sight 10 rfl) (tgt := 27) rfl ⟨fun c => ?_, fun c => ?_⟩
      · replace H := H.1 c
        refine a_iconst (pc := 27) (dk dt_X11_sight 13 rfl) (ik rfl) ?_
        refine a_callVi (as := [iv x1, iv (h 34 4), iv 0]) (st := []) (pc := 28) (dk dt_X11_sight 14 rfl) cl_RX11_165 ⟨Nat.le_of_ble_eq_true rfl, Nat.le_of_ble_eq_true rfl⟩ ⟨Nat.le_of_ble_eq_true rfl, Nat.le_of_ble_eq_true rfl⟩ cls_6 rfl cc_14 rfl rfl rfl (Nat.le_of_ble_eq_true rfl) (Call.mono H fun r1 h2 H => ?_)
        refine a_goto (pc := 31) (dk dt_X11_sight 15 rfl) (tgt := 35) rfl ?_
        exact a_iret (pc := 35) (dk dt_X11_sight 17 rfl) rfl rfl H
      · replace H := H.2 c
        refine a_iconst (pc := 23) (dk dt_X11_sight 11 rfl) (ik rfl) ?_
        refine a_goto (pc := 24) (dk dt_X11_sight 12 rfl) (tgt := 28) rfl ?_
        refine a_callVi (as := [iv x1, iv (h 34 4), iv 1]) (st := []) (pc := 28) (dk dt_X11_sight 14 rfl) cl_RX11_165 ⟨Nat.le_of_ble_eq_true rfl, Nat.le_of_ble_eq_true rfl⟩ ⟨Nat.le_of_ble_eq_true rfl, Nat.le_of_ble_eq_true rfl⟩ cls_6 rfl cc_14 rfl rfl rfl (Nat.le_of_ble_eq_true rfl) (Call.mono H fun r3 h4 H => ?_)
        refine a_goto (pc := 31) (dk dt_X11_sight 15 rfl) (tgt := 35) rfl ?_
        exact a_iret (pc := 35) (dk dt_X11_sight 17 rfl) rfl rfl H
set_option maxHeartbeats 40000000 in
theorem U_X11_power_1_0 {G : GG} {Φ : Int → Hp → Prop} {h : Hp} {x1 : Int} {x2 : Int} (H : ((x1 < 0 → Φ (-1) h) ∧ (0 ≤ x1 → ((1000000 < x1 → Φ (-1) h) ∧ (x1 ≤ 1000000 → ((x2 < 0 → Φ (-1) h) ∧ (0 ≤ x2 → ((10000 < x2 → Φ (-1) h) ∧ (x2 ≤ 10000 → Φ 1 (up (up (up h 18 0 x1) 18 1 (imin (h 18 1) x1)) 18 2 x2)))))))))) : AT G m_X11_power 0 [(0, rv 1), (1, iv x1), (2, iv x2)] [] h Φ := by
  refine a_iload_n (pc := 0) (dk dt_X11_power 0 rfl) rfl ?_
  refine a_iconst (pc := 1) (dk dt_X11_power 1 rfl) (ik rfl) ?_
  refine a_ldc (n := 1000000) (pc := 2) (dk dt_X11_power 2 rfl) (ik rfl) co_RX11_169 ?_
  refine a_callSi (as := [iv x1, iv 0, iv 1000000]) (st := []) (pc := 4) (dk dt_X11_power 3 rfl) cl_RX11_104 ⟨Nat.le_of_ble_eq_true rfl, Nat.le_of_ble_eq_true rfl⟩ ⟨Nat.le_of_ble_eq_true rfl, Nat.le_of_ble_eq_true rfl⟩ rfl rfl rfl (Nat.le_of_ble_eq_true rfl) (Call.of rfl (Nat.le_of_ble_eq_true rfl) rfl ?_)
  refine a_iload_n (pc := 0) (dk dt_X11_within 0 rfl) rfl ?_
  refine a_iload_n (pc := 1) (dk dt_X11_within 1 rfl) rfl ?_
  refine a_icmp_lt (pc := 2) (dk dt_X11_within 2 rfl) (tgt := 14) rfl ⟨fun c => ?_, fun c => ?_⟩
  · replace H := H.1 c
    refine a_iconst (pc := 14) (dk dt_X11_within 8 rfl) (ik rfl) ?_
    refine a_zret (pc := 15) (dk dt_X11_within 9 rfl) rfl rfl ⟨by decide, ?_⟩
    show ATW _ _ _ _ _ _ _ _ _ _
    refine a_if_eq (pc := 7) (dk dt_X11_power 4 rfl) (tgt := 21) rfl ⟨fun _ => ?_, fun c => absurd c (by decide)⟩
    refine a_iconst (pc := 21) (dk dt_X11_power 10 rfl) (ik rfl) ?_
    exact a_iret (pc := 22) (dk dt_X11_power 11 rfl) rfl rfl H
  · replace H := H.2 c
    refine a_iload_n (pc := 5) (dk dt_X11_within 3 rfl) rfl ?_
    refine a_iload_n (pc := 6) (dk dt_X11_within 4 rfl) rfl ?_
    refine a_icmp_gt (pc := 7) (dk dt_X11_within 5 rfl) (tgt := 14) rfl ⟨fun c => ?_, fun c => ?_⟩
    · replace H := H.1 c
      refine a_iconst (pc := 14) (dk dt_X11_within 8 rfl) (ik rfl) ?_
      refine a_zret (pc := 15) (dk dt_X11_within 9 rfl) rfl rfl ⟨by decide, ?_⟩
      show ATW _ _ _ _ _ _ _ _ _ _
      refine a_if_eq (pc := 7) (dk dt_X11_power 4 rfl) (tgt := 21) rfl ⟨fun _ => ?_, fun c => absurd c (by decide)⟩
      refine a_iconst (pc := 21) (dk dt_X11_power 10 rfl) (ik rfl) ?_
      exact a_iret (pc := 22) (dk dt_X11_power 11 rfl) rfl rfl H
    · replace H := H.2 c
      refine a_iconst (pc := 10) (dk dt_X11_within 6 rfl) (ik rfl) ?_
      refine a_goto (pc := 11) (dk dt_X11_within 7 rfl) (tgt := 15) rfl ?_
      refine a_zret (pc := 15) (dk dt_X11_within 9 rfl) rfl rfl ⟨by decide, ?_⟩
      show ATW _ _ _ _ _ _ _ _ _ _
      refine a_if_eq (pc := 7) (dk dt_X11_power 4 rfl) (tgt := 21) rfl ⟨fun c => absurd c (by decide), fun _ => ?_⟩
      refine a_iload_n (pc := 10) (dk dt_X11_power 5 rfl) rfl ?_
      refine a_iconst (pc := 11) (dk dt_X11_power 6 rfl) (ik rfl) ?_
      refine a_sipush (pc := 12) (dk dt_X11_power 7 rfl) (ik rfl) (spk rfl) ?_
      refine a_callSi (as := [iv x2, iv 0, iv 10000]) (st := []) (pc := 15) (dk dt_X11_power 8 rfl) cl_RX11_104 ⟨Nat.le_of_ble_eq_true rfl, Nat.le_of_ble_eq_true rfl⟩ ⟨Nat.le_of_ble_eq_true rfl, Nat.le_of_ble_eq_true rfl⟩ rfl rfl rfl (Nat.le_of_ble_eq_true rfl) (Call.of rfl (Nat.le_of_ble_eq_true rfl) rfl ?_)
      refine a_iload_n (pc := 0) (dk dt_X11_within 0 rfl) rfl ?_
      refine a_iload_n (pc := 1) (dk dt_X11_within 1 rfl) rfl ?_
      refine a_icmp_lt (pc := 2) (dk dt_X11_within 2 rfl) (tgt := 14) rfl ⟨fun c => ?_, fun c => ?_⟩
      · replace H := H.1 c
        refine a_iconst (pc := 14) (dk dt_X11_within 8 rfl) (ik rfl) ?_
        refine a_zret (pc := 15) (dk dt_X11_within 9 rfl) rfl rfl ⟨by decide, ?_⟩
        show ATW _ _ _ _ _ _ _ _ _ _
        refine a_if_ne (pc := 18) (dk dt_X11_power 9 rfl) (tgt := 23) rfl ⟨fun c => absurd c (by decide), fun _ => ?_⟩
        refine a_iconst (pc := 21) (dk dt_X11_power 10 rfl) (ik rfl) ?_
        exact a_iret (pc := 22) (dk dt_X11_power 11 rfl) rfl rfl H
      · replace H := H.2 c
        refine a_iload_n (pc := 5) (dk dt_X11_within 3 rfl) rfl ?_
        refine a_iload_n (pc := 6) (dk dt_X11_within 4 rfl) rfl ?_
        refine a_icmp_gt (pc := 7) (dk dt_X11_within 5 rfl) (tgt := 14) rfl ⟨fun c => ?_, fun c => ?_⟩
        · replace H := H.1 c
          refine a_iconst (pc := 14) (dk dt_X11_within 8 rfl) (ik rfl) ?_
          refine a_zret (pc := 15) (dk dt_X11_within 9 rfl) rfl rfl ⟨by decide, ?_⟩
          show ATW _ _ _ _ _ _ _ _ _ _
          refine a_if_ne (pc := 18) (dk dt_X11_power 9 rfl) (tgt := 23) rfl ⟨fun c => absurd c (by decide), fun _ => ?_⟩
          refine a_iconst (pc := 21) (dk dt_X11_power 10 rfl) (ik rfl) ?_
          exact a_iret (pc := 22) (dk dt_X11_power 11 rfl) rfl rfl H
        · replace H := H.2 c
          refine a_iconst (pc := 10) (dk dt_X11_within 6 rfl) (ik rfl) ?_
          refine a_goto (pc := 11) (dk dt_X11_within 7 rfl) (tgt := 15) rfl ?_
          refine a_zret (pc := 15) (dk dt_X11_within 9 rfl) rfl rfl ⟨by decide, ?_⟩
          show ATW _ _ _ _ _ _ _ _ _ _
          refine a_if_ne (pc := 18) (dk dt_X11_power 9 rfl) (tgt := 23) rfl ⟨fun _ => ?_, fun c => absurd c (by decide)⟩
          refine a_aload_n (pc := 23) (dk dt_X11_power 12 rfl) rfl ?_
          refine a_getr (r := 17) (pc := 24) (dk dt_X11_power 13 rfl) cls_11 fl_RX11_52 cf_1_6 ?_
          refine a_iload_n (pc := 27) (dk dt_X11_power 14 rfl) rfl ?_
          refine a_puti (pc := 28) (dk dt_X11_power 15 rfl) cls_8 fl_RX11_170 cf_18_0 rfl rfl ?_
          refine a_aload_n (pc := 31) (dk dt_X11_power 16 rfl) rfl ?_
          refine a_getr (r := 17) (pc := 32) (dk dt_X11_power 17 rfl) cls_11 fl_RX11_52 cf_1_6 ?_
          refine a_aload_n (pc := 35) (dk dt_X11_power 18 rfl) rfl ?_
          refine a_getr (r := 17) (pc := 36) (dk dt_X11_power 19 rfl) cls_11 fl_RX11_52 cf_1_6 ?_
          refine a_geti (pc := 39) (dk dt_X11_power 20 rfl) cls_8 fl_RX11_173 cf_18_1 ?_
          refine a_top (y := (h 18 1)) (by simp [up, cpy]) ?_
          refine a_iload_n (pc := 42) (dk dt_X11_power 21 rfl) rfl ?_
          refine a_mmin (pc := 43) (dk dt_X11_power 22 rfl) cl_RX11_176 ⟨Nat.le_of_ble_eq_true rfl, Nat.le_of_ble_eq_true rfl⟩ ⟨Nat.le_of_ble_eq_true rfl, Nat.le_of_ble_eq_true rfl⟩ ?_
          refine a_puti (pc := 46) (dk dt_X11_power 23 rfl) cls_8 fl_RX11_173 cf_18_1 rfl rfl ?_
          refine a_aload_n (pc := 49) (dk dt_X11_power 24 rfl) rfl ?_
          refine a_getr (r := 17) (pc := 50) (dk dt_X11_power 25 rfl) cls_11 fl_RX11_52 cf_1_6 ?_
          refine a_iload_n (pc := 53) (dk dt_X11_power 26 rfl) rfl ?_
          refine a_puti (pc := 54) (dk dt_X11_power 27 rfl) cls_8 fl_RX11_181 cf_18_2 rfl rfl ?_
          refine a_iconst (pc := 57) (dk dt_X11_power 28 rfl) (ik rfl) ?_
          exact a_iret (pc := 58) (dk dt_X11_power 29 rfl) rfl rfl H
set_option maxHeartbeats 40000000 in
theorem U_X11_load_1_0 {G : GG} {Φ : Int → Hp → Prop} {h : Hp} {x1 : Int} {x2 : Int} {x3 : Int} (H : ((x1 < 0 → Φ (-1) h) ∧ (0 ≤ x1 → ((7 < x1 → Φ (-1) h) ∧ (x1 ≤ 7 → ((x2 < 0 → Φ (-1) h) ∧ (0 ≤ x2 → ((1000 < x2 → Φ (-1) h) ∧ (x2 ≤ 1000 → ((x3 < 0 → Φ (-1) h) ∧ (0 ≤ x3 → ((9 < x3 → Φ (-1) h) ∧ (x3 ≤ 9 → (0 ≤ x1 ∧ x1 < 8) ∧ (0 ≤ x1 ∧ x1 < 8) ∧ Call G m_X8_putInOrder [rv 18] (up (up h 19 x1 x2) 20 x1 x3) (fun _ h2 => Φ 1 h2)))))))))))))) : AT G m_X11_load 0 [(0, rv 1), (1, iv x1), (2, iv x2), (3, iv x3)] [] h Φ := by
  refine a_iload_n (pc := 0) (dk dt_X11_load 0 rfl) rfl ?_
  refine a_callSi (as := [iv x1]) (st := []) (pc := 1) (dk dt_X11_load 1 rfl) cl_RX11_184 ⟨Nat.le_of_ble_eq_true rfl, Nat.le_of_ble_eq_true rfl⟩ ⟨Nat.le_of_ble_eq_true rfl, Nat.le_of_ble_eq_true rfl⟩ rfl rfl rfl (Nat.le_of_ble_eq_true rfl) (Call.of rfl (Nat.le_of_ble_eq_true rfl) rfl ?_)
  refine a_iload_n (pc := 0) (dk dt_X11_isLoad 0 rfl) rfl ?_
  refine a_iconst (pc := 1) (dk dt_X11_isLoad 1 rfl) (ik rfl) ?_
  refine a_bipush (pc := 2) (dk dt_X11_isLoad 2 rfl) (ik rfl) (bpk rfl) ?_
  refine a_callSi (as := [iv x1, iv 0, iv 7]) (st := []) (pc := 4) (dk dt_X11_isLoad 3 rfl) cl_RX11_104 ⟨Nat.le_of_ble_eq_true rfl, Nat.le_of_ble_eq_true rfl⟩ ⟨Nat.le_of_ble_eq_true rfl, Nat.le_of_ble_eq_true rfl⟩ rfl rfl rfl (Nat.le_of_ble_eq_true rfl) (Call.of rfl (Nat.le_of_ble_eq_true rfl) rfl ?_)
  refine a_iload_n (pc := 0) (dk dt_X11_within 0 rfl) rfl ?_
  refine a_iload_n (pc := 1) (dk dt_X11_within 1 rfl) rfl ?_
  refine a_icmp_lt (pc := 2) (dk dt_X11_within 2 rfl) (tgt := 14) rfl ⟨fun c => ?_, fun c => ?_⟩
  · replace H := H.1 c
    refine a_iconst (pc := 14) (dk dt_X11_within 8 rfl) (ik rfl) ?_
    refine a_zret (pc := 15) (dk dt_X11_within 9 rfl) rfl rfl ⟨by decide, ?_⟩
    show ATW _ _ _ _ _ _ _ _ _ _
    refine a_zret (pc := 7) (dk dt_X11_isLoad 4 rfl) rfl rfl ⟨by decide, ?_⟩
    show ATW _ _ _ _ _ _ _ _ _ _
    refine a_if_eq (pc := 4) (dk dt_X11_load 2 rfl) (tgt := 28) rfl ⟨fun _ => ?_, fun c => absurd c (by decide)⟩
    refine a_iconst (pc := 28) (dk dt_X11_load 13 rfl) (ik rfl) ?_
    exact a_iret (pc := 29) (dk dt_X11_load 14 rfl) rfl rfl H
  · replace H := H.2 c
    refine a_iload_n (pc := 5) (dk dt_X11_within 3 rfl) rfl ?_
    refine a_iload_n (pc := 6) (dk dt_X11_within 4 rfl) rfl ?_
    refine a_icmp_gt (pc := 7) (dk dt_X11_within 5 rfl) (tgt := 14) rfl ⟨fun c => ?_, fun c => ?_⟩
    · replace H := H.1 c
      refine a_iconst (pc := 14) (dk dt_X11_within 8 rfl) (ik rfl) ?_
      refine a_zret (pc := 15) (dk dt_X11_within 9 rfl) rfl rfl ⟨by decide, ?_⟩
      show ATW _ _ _ _ _ _ _ _ _ _
      refine a_zret (pc := 7) (dk dt_X11_isLoad 4 rfl) rfl rfl ⟨by decide, ?_⟩
      show ATW _ _ _ _ _ _ _ _ _ _
      refine a_if_eq (pc := 4) (dk dt_X11_load 2 rfl) (tgt := 28) rfl ⟨fun _ => ?_, fun c => absurd c (by decide)⟩
      refine a_iconst (pc := 28) (dk dt_X11_load 13 rfl) (ik rfl) ?_
      exact a_iret (pc := 29) (dk dt_X11_load 14 rfl) rfl rfl H
    · replace H := H.2 c
      refine a_iconst (pc := 10) (dk dt_X11_within 6 rfl) (ik rfl) ?_
      refine a_goto (pc := 11) (dk dt_X11_within 7 rfl) (tgt := 15) rfl ?_
      refine a_zret (pc := 15) (dk dt_X11_within 9 rfl) rfl rfl ⟨by decide, ?_⟩
      show ATW _ _ _ _ _ _ _ _ _ _
      refine a_zret (pc := 7) (dk dt_X11_isLoad 4 rfl) rfl rfl ⟨by decide, ?_⟩
      show ATW _ _ _ _ _ _ _ _ _ _
      refine a_if_eq (pc := 4) (dk dt_X11_load 2 rfl) (tgt := 28) rfl ⟨fun c => absurd c (by decide), fun _ => ?_⟩
      refine a_iload_n (pc := 7) (dk dt_X11_load 3 rfl) rfl ?_
      refine a_iconst (pc := 8) (dk dt_X11_load 4 rfl) (ik rfl) ?_
      refine a_sipush (pc := 9) (dk dt_X11_load 5 rfl) (ik rfl) (spk rfl) ?_
      refine a_callSi (as := [iv x2, iv 0, iv 1000]) (st := []) (pc := 12) (dk dt_X11_load 6 rfl) cl_RX11_104 ⟨Nat.le_of_ble_eq_true rfl, Nat.le_of_ble_eq_true rfl⟩ ⟨Nat.le_of_ble_eq_true rfl, Nat.le_of_ble_eq_true rfl⟩ rfl rfl rfl (Nat.le_of_ble_eq_true rfl) (Call.of rfl (Nat.le_of_ble_eq_true rfl) rfl ?_)
      refine a_iload_n (pc := 0) (dk dt_X11_within 0 rfl) rfl ?_
      refine a_iload_n (pc := 1) (dk dt_X11_within 1 rfl) rfl ?_
      refine a_icmp_lt (pc := 2) (dk dt_X11_within 2 rfl) (tgt := 14) rfl ⟨fun c => ?_, fun c => ?_⟩
      · replace H := H.1 c
        refine a_iconst (pc := 14) (dk dt_X11_within 8 rfl) (ik rfl) ?_
        refine a_zret (pc := 15) (dk dt_X11_within 9 rfl) rfl rfl ⟨by decide, ?_⟩
        show ATW _ _ _ _ _ _ _ _ _ _
        refine a_if_eq (pc := 15) (dk dt_X11_load 7 rfl) (tgt := 28) rfl ⟨fun _ => ?_, fun c => absurd c (by decide)⟩
        refine a_iconst (pc := 28) (dk dt_X11_load 13 rfl) (ik rfl) ?_
        exact a_iret (pc := 29) (dk dt_X11_load 14 rfl) rfl rfl H
      · replace H := H.2 c
        refine a_iload_n (pc := 5) (dk dt_X11_within 3 rfl) rfl ?_
        refine a_iload_n (pc := 6) (dk dt_X11_within 4 rfl) rfl ?_
        refine a_icmp_gt (pc := 7) (dk dt_X11_within 5 rfl) (tgt := 14) rfl ⟨fun c => ?_, fun c => ?_⟩
        · replace H := H.1 c
          refine a_iconst (pc := 14) (dk dt_X11_within 8 rfl) (ik rfl) ?_
          refine a_zret (pc := 15) (dk dt_X11_within 9 rfl) rfl rfl ⟨by decide, ?_⟩
          show ATW _ _ _ _ _ _ _ _ _ _
          refine a_if_eq (pc := 15) (dk dt_X11_load 7 rfl) (tgt := 28) rfl ⟨fun _ => ?_, fun c => absurd c (by decide)⟩
          refine a_iconst (pc := 28) (dk dt_X11_load 13 rfl) (ik rfl) ?_
          exact a_iret (pc := 29) (dk dt_X11_load 14 rfl) rfl rfl H
        · replace H := H.2 c
          refine a_iconst (pc := 10) (dk dt_X11_within 6 rfl) (ik rfl) ?_
          refine a_goto (pc := 11) (dk dt_X11_within 7 rfl) (tgt := 15) rfl ?_
          refine a_zret (pc := 15) (dk dt_X11_within 9 rfl) rfl rfl ⟨by decide, ?_⟩
          show ATW _ _ _ _ _ _ _ _ _ _
          refine a_if_eq (pc := 15) (dk dt_X11_load 7 rfl) (tgt := 28) rfl ⟨fun c => absurd c (by decide), fun _ => ?_⟩
          refine a_iload_n (pc := 18) (dk dt_X11_load 8 rfl) rfl ?_
          refine a_iconst (pc := 19) (dk dt_X11_load 9 rfl) (ik rfl) ?_
          refine a_bipush (pc := 20) (dk dt_X11_load 10 rfl) (ik rfl) (bpk rfl) ?_
          refine a_callSi (as := [iv x3, iv 0, iv 9]) (st := []) (pc := 22) (dk dt_X11_load 11 rfl) cl_RX11_104 ⟨Nat.le_of_ble_eq_true rfl, Nat.le_of_ble_eq_true rfl⟩ ⟨Nat.le_of_ble_eq_true rfl, Nat.le_of_ble_eq_true rfl⟩ rfl rfl rfl (Nat.le_of_ble_eq_true rfl) (Call.of rfl (Nat.le_of_ble_eq_true rfl) rfl ?_)
          refine a_iload_n (pc := 0) (dk dt_X11_within 0 rfl) rfl ?_
          refine a_iload_n (pc := 1) (dk dt_X11_within 1 rfl) rfl ?_
          refine a_icmp_lt (pc := 2) (dk dt_X11_within 2 rfl) (tgt := 14) rfl ⟨fun c => ?_, fun c => ?_⟩
          · replace H := H.1 c
            refine a_iconst (pc := 14) (dk dt_X11_within 8 rfl) (ik rfl) ?_
            refine a_zret (pc := 15) (dk dt_X11_within 9 rfl) rfl rfl ⟨by decide, ?_⟩
            show ATW _ _ _ _ _ _ _ _ _ _
            refine a_if_ne (pc := 25) (dk dt_X11_load 12 rfl) (tgt := 30) rfl ⟨fun c => absurd c (by decide), fun _ => ?_⟩
            refine a_iconst (pc := 28) (dk dt_X11_load 13 rfl) (ik rfl) ?_
            exact a_iret (pc := 29) (dk dt_X11_load 14 rfl) rfl rfl H
          · replace H := H.2 c
            refine a_iload_n (pc := 5) (dk dt_X11_within 3 rfl) rfl ?_
            refine a_iload_n (pc := 6) (dk dt_X11_within 4 rfl) rfl ?_
            refine a_icmp_gt (pc := 7) (dk dt_X11_within 5 rfl) (tgt := 14) rfl ⟨fun c => ?_, fun c => ?_⟩
            · replace H := H.1 c
              refine a_iconst (pc := 14) (dk dt_X11_within 8 rfl) (ik rfl) ?_
              refine a_zret (pc := 15) (dk dt_X11_within 9 rfl) rfl rfl ⟨by decide, ?_⟩
              show ATW _ _ _ _ _ _ _ _ _ _
              refine a_if_ne (pc := 25) (dk dt_X11_load 12 rfl) (tgt := 30) rfl ⟨fun c => absurd c (by decide), fun _ => ?_⟩
              refine a_iconst (pc := 28) (dk dt_X11_load 13 rfl) (ik rfl) ?_
              exact a_iret (pc := 29) (dk dt_X11_load 14 rfl) rfl rfl H
            · replace H := H.2 c
              refine a_iconst (pc := 10) (dk dt_X11_within 6 rfl) (ik rfl) ?_
              refine a_goto (pc := 11) (dk dt_X11_within 7 rfl) (tgt := 15) rfl ?_
              refine a_zret (pc := 15) (dk dt_X11_within 9 rfl) rfl rfl ⟨by decide, ?_⟩
              show ATW _ _ _ _ _ _ _ _ _ _
              refine a_if_ne (pc := 25) (dk dt_X11_load 12 rfl) (tgt := 30) rfl ⟨fun _ => ?_, fun c => absurd c (by decide)⟩
              refine a_aload_n (pc := 30) (dk dt_X11_load 15 rfl) rfl ?_
              refine a_getr (r := 17) (pc := 31) (dk dt_X11_load 16 rfl) cls_11 fl_RX11_52 cf_1_6 ?_
              refine a_getr (r := 18) (pc := 34) (dk dt_X11_load 17 rfl) cls_8 fl_RX11_187 cf_18_5 ?_
              refine a_iload_n (pc := 37) (dk dt_X11_load 18 rfl) rfl ?_
              refine a_iload_n (pc := 38) (dk dt_X11_load 19 rfl) rfl ?_
              refine a_iast (pc := 39) (dk dt_X11_load 20 rfl) ar_19 ⟨H.1, ?_⟩
              replace H := H.2
              refine a_aload_n (pc := 40) (dk dt_X11_load 21 rfl) rfl ?_
              refine a_getr (r := 17) (pc := 41) (dk dt_X11_load 22 rfl) cls_11 fl_RX11_52 cf_1_6 ?_
              refine a_getr (r := 19) (pc := 44) (dk dt_X11_load 23 rfl) cls_8 fl_RX11_190 cf_18_6 ?_
              refine a_iload_n (pc := 47) (dk dt_X11_load 24 rfl) rfl ?_
              refine a_iload_n (pc := 48) (dk dt_X11_load 25 rfl) rfl ?_
              refine a_iast (pc := 49) (dk dt_X11_load 26 rfl) ar_20 ⟨H.1, ?_⟩
              replace H := H.2
              refine a_aload_n (pc := 50) (dk dt_X11_load 27 rfl) rfl ?_
              refine a_getr (r := 17) (pc := 51) (dk dt_X11_load 28 rfl) cls_11 fl_RX11_52 cf_1_6 ?_
              refine a_callVv (as := []) (st := []) (pc := 54) (dk dt_X11_load 29 rfl) cl_RX11_193 ⟨Nat.le_of_ble_eq_true rfl, Nat.le_of_ble_eq_true rfl⟩ ⟨Nat.le_of_ble_eq_true rfl, Nat.le_of_ble_eq_true rfl⟩ cls_8 rfl cc_18 rfl rfl rfl (Nat.le_of_ble_eq_true rfl) (Call.mono H fun _ h2 H => ?_)
              refine a_iconst (pc := 57) (dk dt_X11_load 30 rfl) (ik rfl) ?_
              exact a_iret (pc := 58) (dk dt_X11_load 31 rfl) rfl rfl H
set_option maxHeartbeats 40000000 in
theorem U_X11_program_1_0 {G : GG} {Φ : Int → Hp → Prop} {h : Hp} {x1 : Int} (H : ((x1 < 0 → Φ (-1) h) ∧ (0 ≤ x1 → ((7 < x1 → Φ (-1) h) ∧ (x1 ≤ 7 → Call G m_X3_readProgram [rv 4, rv 2] h (fun r1 h2 => Call G m_X10_closes [rv 2] h2 (fun r3 h4 => ((r3 ≠ 0 → Call G m_X0_install [rv 34, iv x1, rv 4, iv 0] h4 (fun _ h6 => Φ r1 h6)) ∧ (r3 = 0 → Φ (w32 ((-1000) - (h4 2 3))) h4))))))))) : AT G m_X11_program 0 [(0, rv 1), (1, iv x1)] [] h Φ := by
  refine a_iload_n (pc := 0) (dk dt_X11_program 0 rfl) rfl ?_
  refine a_callSi (as := [iv x1]) (st := []) (pc := 1) (dk dt_X11_program 1 rfl) cl_RX11_196 ⟨Nat.le_of_ble_eq_true rfl, Nat.le_of_ble_eq_true rfl⟩ ⟨Nat.le_of_ble_eq_true rfl, Nat.le_of_ble_eq_true rfl⟩ rfl rfl rfl (Nat.le_of_ble_eq_true rfl) (Call.of rfl (Nat.le_of_ble_eq_true rfl) rfl ?_)
  refine a_iload_n (pc := 0) (dk dt_X11_isProgram 0 rfl) rfl ?_
  refine a_iconst (pc := 1) (dk dt_X11_isProgram 1 rfl) (ik rfl) ?_
  refine a_bipush (pc := 2) (dk dt_X11_isProgram 2 rfl) (ik rfl) (bpk rfl) ?_
  refine a_callSi (as := [iv x1, iv 0, iv 7]) (st := []) (pc := 4) (dk dt_X11_isProgram 3 rfl) cl_RX11_104 ⟨Nat.le_of_ble_eq_true rfl, Nat.le_of_ble_eq_true rfl⟩ ⟨Nat.le_of_ble_eq_true rfl, Nat.le_of_ble_eq_true rfl⟩ rfl rfl rfl (Nat.le_of_ble_eq_true rfl) (Call.of rfl (Nat.le_of_ble_eq_true rfl) rfl ?_)
  refine a_iload_n (pc := 0) (dk dt_X11_within 0 rfl) rfl ?_
  refine a_iload_n (pc := 1) (dk dt_X11_within 1 rfl) rfl ?_
  refine a_icmp_lt (pc := 2) (dk dt_X11_within 2 rfl) (tgt := 14) rfl ⟨fun c => ?_, fun c => ?_⟩
  · replace H := H.1 c
    refine a_iconst (pc := 14) (dk dt_X11_within 8 rfl) (ik rfl) ?_
    refine a_zret (pc := 15) (dk dt_X11_within 9 rfl) rfl rfl ⟨by decide, ?_⟩
    show ATW _ _ _ _ _ _ _ _ _ _
    refine a_zret (pc := 7) (dk dt_X11_isProgram 4 rfl) rfl rfl ⟨by decide, ?_⟩
    show ATW _ _ _ _ _ _ _ _ _ _
    refine a_if_ne (pc := 4) (dk dt_X11_program 2 rfl) (tgt := 9) rfl ⟨fun c => absurd c (by decide), fun _ => ?_⟩
    refine a_iconst (pc := 7) (dk dt_X11_program 3 rfl) (ik rfl) ?_
    exact a_iret (pc := 8) (dk dt_X11_program 4 rfl) rfl rfl H
  · replace H := H.2 c
    refine a_iload_n (pc := 5) (dk dt_X11_within 3 rfl) rfl ?_
    refine a_iload_n (pc := 6) (dk dt_X11_within 4 rfl) rfl ?_
    refine a_icmp_gt (pc := 7) (dk dt_X11_within 5 rfl) (tgt := 14) rfl ⟨fun c => ?_, fun c => ?_⟩
    · replace H := H.1 c
      refine a_iconst (pc := 14) (dk dt_X11_within 8 rfl) (ik rfl) ?_
      refine a_zret (pc := 15) (dk dt_X11_within 9 rfl) rfl rfl ⟨by decide, ?_⟩
      show ATW _ _ _ _ _ _ _ _ _ _
      refine a_zret (pc := 7) (dk dt_X11_isProgram 4 rfl) rfl rfl ⟨by decide, ?_⟩
      show ATW _ _ _ _ _ _ _ _ _ _
      refine a_if_ne (pc := 4) (dk dt_X11_program 2 rfl) (tgt := 9) rfl ⟨fun c => absurd c (by decide), fun _ => ?_⟩
      refine a_iconst (pc := 7) (dk dt_X11_program 3 rfl) (ik rfl) ?_
      exact a_iret (pc := 8) (dk dt_X11_program 4 rfl) rfl rfl H
    · replace H := H.2 c
      refine a_iconst (pc := 10) (dk dt_X11_within 6 rfl) (ik rfl) ?_
      refine a_goto (pc := 11) (dk dt_X11_within 7 rfl) (tgt := 15) rfl ?_
      refine a_zret (pc := 15) (dk dt_X11_within 9 rfl) rfl rfl ⟨by decide, ?_⟩
      show ATW _ _ _ _ _ _ _ _ _ _
      refine a_zret (pc := 7) (dk dt_X11_isProgram 4 rfl) rfl rfl ⟨by decide, ?_⟩
      show ATW _ _ _ _ _ _ _ _ _ _
      refine a_if_ne (pc := 4) (dk dt_X11_program 2 rfl) (tgt := 9) rfl ⟨fun _ => ?_, fun c => absurd c (by decide)⟩
      refine a_aload_n (pc := 9) (dk dt_X11_program 5 rfl) rfl ?_
      refine a_getr (r := 3) (pc := 10) (dk dt_X11_program 6 rfl) cls_11 fl_RX11_21 cf_1_1 ?_
      refine a_aload_n (pc := 13) (dk dt_X11_program 7 rfl) rfl ?_
      refine a_getr (r := 1) (pc := 14) (dk dt_X11_program 8 rfl) cls_11 fl_RX11_10 cf_1_0 ?_
      refine a_callVi (as := [rv 2]) (st := []) (pc := 17) (dk dt_X11_program 9 rfl) cl_RX11_199 ⟨Nat.le_of_ble_eq_true rfl, Nat.le_of_ble_eq_true rfl⟩ ⟨Nat.le_of_ble_eq_true rfl, Nat.le_of_ble_eq_true rfl⟩ cls_3 rfl cc_4 rfl rfl rfl (Nat.le_of_ble_eq_true rfl) (Call.mono H fun r1 h2 H => ?_)
      refine a_istore_n (pc := 20) (dk dt_X11_program 10 rfl) (by decide) rfl rfl ?_
      refine a_aload_n (pc := 21) (dk dt_X11_program 11 rfl) rfl ?_
      refine a_getr (r := 1) (pc := 22) (dk dt_X11_program 12 rfl) cls_11 fl_RX11_10 cf_1_0 ?_
      refine a_callVi (as := []) (st := []) (pc := 25) (dk dt_X11_program 13 rfl) cl_RX11_119 ⟨Nat.le_of_ble_eq_true rfl, Nat.le_of_ble_eq_true rfl⟩ ⟨Nat.le_of_ble_eq_true rfl, Nat.le_of_ble_eq_true rfl⟩ cls_10 rfl cc_2 rfl rfl rfl (Nat.le_of_ble_eq_true rfl) (Call.mono H fun r3 h4 H => ?_)
      refine a_if_ne (pc := 28) (dk dt_X11_program 14 rfl) (tgt := 39) rfl ⟨fun c => ?_, fun c => ?_⟩
      · replace H := H.1 c
        refine a_aload_n (pc := 39) (dk dt_X11_program 19 rfl) rfl ?_
        refine a_getr (r := 33) (pc := 40) (dk dt_X11_program 20 rfl) cls_11 fl_RX11_75 cf_1_9 ?_
        refine a_iload_n (pc := 43) (dk dt_X11_program 21 rfl) rfl ?_
        refine a_aload_n (pc := 44) (dk dt_X11_program 22 rfl) rfl ?_
        refine a_getr (r := 3) (pc := 45) (dk dt_X11_program 23 rfl) cls_11 fl_RX11_21 cf_1_1 ?_
        refine a_iconst (pc := 48) (dk dt_X11_program 24 rfl) (ik rfl) ?_
        refine a_callVv (as := [iv x1, rv 4, iv 0]) (st := []) (pc := 49) (dk dt_X11_program 25 rfl) cl_RX11_202 ⟨Nat.le_of_ble_eq_true rfl, Nat.le_of_ble_eq_true rfl⟩ ⟨Nat.le_of_ble_eq_true rfl, Nat.le_of_ble_eq_true rfl⟩ cls_0 rfl cc_34 rfl rfl rfl (Nat.le_of_ble_eq_true rfl) (Call.mono H fun _ h6 H => ?_)
        refine a_iload_n (pc := 52) (dk dt_X11_program 26 rfl) rfl ?_
        exact a_iret (pc := 53) (dk dt_X11_program 27 rfl) rfl rfl H
      · replace H := H.2 c
        refine a_aload_n (pc := 31) (dk dt_X11_program 15 rfl) rfl ?_
        refine a_getr (r := 1) (pc := 32) (dk dt_X11_program 16 rfl) cls_11 fl_RX11_10 cf_1_0 ?_
        refine a_callVi (as := []) (st := []) (pc := 35) (dk dt_X11_program 17 rfl) cl_RX11_123 ⟨Nat.le_of_ble_eq_true rfl, Nat.le_of_ble_eq_true rfl⟩ ⟨Nat.le_of_ble_eq_true rfl, Nat.le_of_ble_eq_true rfl⟩ cls_10 rfl cc_2 rfl rfl rfl (Nat.le_of_ble_eq_true rfl) (Call.of rfl (Nat.le_of_ble_eq_true rfl) rfl ?_)
        refine a_sipush (pc := 0) (dk dt_X10_wrong 0 rfl) (ik rfl) (spk rfl) ?_
        refine a_aload_n (pc := 3) (dk dt_X10_wrong 1 rfl) rfl ?_
        refine a_geti (pc := 4) (dk dt_X10_wrong 2 rfl) cls_10 fl_RX10_15 cf_2_3 ?_
        refine a_isub (pc := 7) (dk dt_X10_wrong 3 rfl) ?_
        refine a_iret (pc := 8) (dk dt_X10_wrong 4 rfl) rfl rfl ?_
        show ATW _ _ _ _ _ _ _ _ _ _
        exact a_iret (pc := 38) (dk dt_X11_program 18 rfl) rfl rfl H
set_option maxHeartbeats 40000000 in
theorem U_X11_due_1_0 {G : GG} {Φ : Int → Hp → Prop} {h : Hp} {x1 : Int} {x2 : Int} (H : ((x2 < 0 → Φ (-1) h) ∧ (0 ≤ x2 → ((7 < x2 → Φ (-1) h) ∧ (x2 ≤ 7 → (((h 34 4) < x1 → Call G m_X0_addDue [rv 34, iv x1, iv x2] h (fun r1 h2 => Φ r1 h2)) ∧ (x1 ≤ (h 34 4) → Φ (-1) h))))))) : AT G m_X11_due 0 [(0, rv 1), (1, iv x1), (2, iv x2)] [] h Φ := by
  refine a_iload_n (pc := 0) (dk dt_X11_due 0 rfl) rfl ?_
  refine a_callSi (as := [iv x2]) (st := []) (pc := 1) (dk dt_X11_due 1 rfl) cl_RX11_196 ⟨Nat.le_of_ble_eq_true rfl, Nat.le_of_ble_eq_true rfl⟩ ⟨Nat.le_of_ble_eq_true rfl, Nat.le_of_ble_eq_true rfl⟩ rfl rfl rfl (Nat.le_of_ble_eq_true rfl) (Call.of rfl (Nat.le_of_ble_eq_true rfl) rfl ?_)
  refine a_iload_n (pc := 0) (dk dt_X11_isProgram 0 rfl) rfl ?_
  refine a_iconst (pc := 1) (dk dt_X11_isProgram 1 rfl) (ik rfl) ?_
  refine a_bipush (pc := 2) (dk dt_X11_isProgram 2 rfl) (ik rfl) (bpk rfl) ?_
  refine a_callSi (as := [iv x2, iv 0, iv 7]) (st := []) (pc := 4) (dk dt_X11_isProgram 3 rfl) cl_RX11_104 ⟨Nat.le_of_ble_eq_true rfl, Nat.le_of_ble_eq_true rfl⟩ ⟨Nat.le_of_ble_eq_true rfl, Nat.le_of_ble_eq_true rfl⟩ rfl rfl rfl (Nat.le_of_ble_eq_true rfl) (Call.of rfl (Nat.le_of_ble_eq_true rfl) rfl ?_)
  refine a_iload_n (pc := 0) (dk dt_X11_within 0 rfl) rfl ?_
  refine a_iload_n (pc := 1) (dk dt_X11_within 1 rfl) rfl ?_
  refine a_icmp_lt (pc := 2) (dk dt_X11_within 2 rfl) (tgt := 14) rfl ⟨fun c => ?_, fun c => ?_⟩
  · replace H := H.1 c
    refine a_iconst (pc := 14) (dk dt_X11_within 8 rfl) (ik rfl) ?_
    refine a_zret (pc := 15) (dk dt_X11_within 9 rfl) rfl rfl ⟨by decide, ?_⟩
    show ATW _ _ _ _ _ _ _ _ _ _
    refine a_zret (pc := 7) (dk dt_X11_isProgram 4 rfl) rfl rfl ⟨by decide, ?_⟩
    show ATW _ _ _ _ _ _ _ _ _ _
    refine a_if_eq (pc := 4) (dk dt_X11_due 2 rfl) (tgt := 18) rfl ⟨fun _ => ?_, fun c => absurd c (by decide)⟩
    refine a_iconst (pc := 18) (dk dt_X11_due 8 rfl) (ik rfl) ?_
    exact a_iret (pc := 19) (dk dt_X11_due 9 rfl) rfl rfl H
  · replace H := H.2 c
    refine a_iload_n (pc := 5) (dk dt_X11_within 3 rfl) rfl ?_
    refine a_iload_n (pc := 6) (dk dt_X11_within 4 rfl) rfl ?_
    refine a_icmp_gt (pc := 7) (dk dt_X11_within 5 rfl) (tgt := 14) rfl ⟨fun c => ?_, fun c => ?_⟩
    · replace H := H.1 c
      refine a_iconst (pc := 14) (dk dt_X11_within 8 rfl) (ik rfl) ?_
      refine a_zret (pc := 15) (dk dt_X11_within 9 rfl) rfl rfl ⟨by decide, ?_⟩
      show ATW _ _ _ _ _ _ _ _ _ _
      refine a_zret (pc := 7) (dk dt_X11_isProgram 4 rfl) rfl rfl ⟨by decide, ?_⟩
      show ATW _ _ _ _ _ _ _ _ _ _
      refine a_if_eq (pc := 4) (dk dt_X11_due 2 rfl) (tgt := 18) rfl ⟨fun _ => ?_, fun c => absurd c (by decide)⟩
      refine a_iconst (pc := 18) (dk dt_X11_due 8 rfl) (ik rfl) ?_
      exact a_iret (pc := 19) (dk dt_X11_due 9 rfl) rfl rfl H
    · replace H := H.2 c
      refine a_iconst (pc := 10) (dk dt_X11_within 6 rfl) (ik rfl) ?_
      refine a_goto (pc := 11) (dk dt_X11_within 7 rfl) (tgt := 15) rfl ?_
      refine a_zret (pc := 15) (dk dt_X11_within 9 rfl) rfl rfl ⟨by decide, ?_⟩
      show ATW _ _ _ _ _ _ _ _ _ _
      refine a_zret (pc := 7) (dk dt_X11_isProgram 4 rfl) rfl rfl ⟨by decide, ?_⟩
      show ATW _ _ _ _ _ _ _ _ _ _
      refine a_if_eq (pc := 4) (dk dt_X11_due 2 rfl) (tgt := 18) rfl ⟨fun c => absurd c (by decide), fun _ => ?_⟩
      refine a_iload_n (pc := 7) (dk dt_X11_due 3 rfl) rfl ?_
      refine a_aload_n (pc := 8) (dk dt_X11_due 4 rfl) rfl ?_
      refine a_getr (r := 33) (pc := 9) (dk dt_X11_due 5 rfl) cls_11 fl_RX11_75 cf_1_9 ?_
      refine a_geti (pc := 12) (dk dt_X11_due 6 rfl) cls_0 fl_RX11_162 cf_34_4 ?_
      refine a_icmp_gt (pc := 15) (dk dt_X11_due 7 rfl) (tgt := 20) rfl ⟨fun c => ?_, fun c => ?_⟩
      · replace H := H.1 c
        refine a_aload_n (pc := 20) (dk dt_X11_due 10 rfl) rfl ?_
        refine a_getr (r := 33) (pc := 21) (dk dt_X11_due 11 rfl) cls_11 fl_RX11_75 cf_1_9 ?_
        refine a_iload_n (pc := 24) (dk dt_X11_due 12 rfl) rfl ?_
        refine a_iload_n (pc := 25) (dk dt_X11_due 13 rfl) rfl ?_
        refine a_callVi (as := [iv x1, iv x2]) (st := []) (pc := 26) (dk dt_X11_due 14 rfl) cl_RX11_206 ⟨Nat.le_of_ble_eq_true rfl, Nat.le_of_ble_eq_true rfl⟩ ⟨Nat.le_of_ble_eq_true rfl, Nat.le_of_ble_eq_true rfl⟩ cls_0 rfl cc_34 rfl rfl rfl (Nat.le_of_ble_eq_true rfl) (Call.mono H fun r1 h2 H => ?_)
        exact a_iret (pc := 29) (dk dt_X11_due 15 rfl) rfl rfl H
      · replace H := H.2 c
        refine a_iconst (pc := 18) (dk dt_X11_due 8 rfl) (ik rfl) ?_
        exact a_iret (pc := 19) (dk dt_X11_due 9 rfl) rfl rfl H
set_option maxHeartbeats 40000000 in
theorem U_X11_mode_1_0 {G : GG} {Φ : Int → Hp → Prop} {h : Hp} {x1 : Int} {x2 : Int} {x3 : Int} (H : ((x1 < 0 → Φ (-1) h) ∧ (0 ≤ x1 → ((3 < x1 → Φ (-1) h) ∧ (x1 ≤ 3 → ((x2 < 0 → Φ (-1) h) ∧ (0 ≤ x2 → ((255 < x2 → Φ (-1) h) ∧ (x2 ≤ 255 → ((x3 < 0 → Φ (-1) h) ∧ (0 ≤ x3 → ((255 < x3 → Φ (-1) h) ∧ (x3 ≤ 255 → (0 ≤ x1 ∧ x1 < 8) ∧ (0 ≤ (w32 (4 + x1)) ∧ (w32 (4 + x1)) < 8) ∧ Φ 1 (up (up h 35 x1 x2) 35 (w32 (4 + x1)) x3)))))))))))))) : AT G m_X11_mode 0 [(0, rv 1), (1, iv x1), (2, iv x2), (3, iv x3)] [] h Φ := by
  refine a_iload_n (pc := 0) (dk dt_X11_mode 0 rfl) rfl ?_
  refine a_iconst (pc := 1) (dk dt_X11_mode 1 rfl) (ik rfl) ?_
  refine a_iconst (pc := 2) (dk dt_X11_mode 2 rfl) (ik rfl) ?_
  refine a_callSi (as := [iv x1, iv 0, iv 3]) (st := []) (pc := 3) (dk dt_X11_mode 3 rfl) cl_RX11_104 ⟨Nat.le_of_ble_eq_true rfl, Nat.le_of_ble_eq_true rfl⟩ ⟨Nat.le_of_ble_eq_true rfl, Nat.le_of_ble_eq_true rfl⟩ rfl rfl rfl (Nat.le_of_ble_eq_true rfl) (Call.of rfl (Nat.le_of_ble_eq_true rfl) rfl ?_)
  refine a_iload_n (pc := 0) (dk dt_X11_within 0 rfl) rfl ?_
  refine a_iload_n (pc := 1) (dk dt_X11_within 1 rfl) rfl ?_
  refine a_icmp_lt (pc := 2) (dk dt_X11_within 2 rfl) (tgt := 14) rfl ⟨fun c => ?_, fun c => ?_⟩
  · replace H := H.1 c
    refine a_iconst (pc := 14) (dk dt_X11_within 8 rfl) (ik rfl) ?_
    refine a_zret (pc := 15) (dk dt_X11_within 9 rfl) rfl rfl ⟨by decide, ?_⟩
    show ATW _ _ _ _ _ _ _ _ _ _
    refine a_if_eq (pc := 6) (dk dt_X11_mode 4 rfl) (tgt := 31) rfl ⟨fun _ => ?_, fun c => absurd c (by decide)⟩
    refine a_iconst (pc := 31) (dk dt_X11_mode 15 rfl) (ik rfl) ?_
    exact a_iret (pc := 32) (dk dt_X11_mode 16 rfl) rfl rfl H
  · replace H := H.2 c
    refine a_iload_n (pc := 5) (dk dt_X11_within 3 rfl) rfl ?_
    refine a_iload_n (pc := 6) (dk dt_X11_within 4 rfl) rfl ?_
    refine a_icmp_gt (pc := 7) (dk dt_X11_within 5 rfl) (tgt := 14) rfl ⟨fun c => ?_, fun c => ?_⟩
    · replace H := H.1 c
      refine a_iconst (pc := 14) (dk dt_X11_within 8 rfl) (ik rfl) ?_
      refine a_zret (pc := 15) (dk dt_X11_within 9 rfl) rfl rfl ⟨by decide, ?_⟩
      show ATW _ _ _ _ _ _ _ _ _ _
      refine a_if_eq (pc := 6) (dk dt_X11_mode 4 rfl) (tgt := 31) rfl ⟨fun _ => ?_, fun c => absurd c (by decide)⟩
      refine a_iconst (pc := 31) (dk dt_X11_mode 15 rfl) (ik rfl) ?_
      exact a_iret (pc := 32) (dk dt_X11_mode 16 rfl) rfl rfl H
    · replace H := H.2 c
      refine a_iconst (pc := 10) (dk dt_X11_within 6 rfl) (ik rfl) ?_
      refine a_goto (pc := 11) (dk dt_X11_within 7 rfl) (tgt := 15) rfl ?_
      refine a_zret (pc := 15) (dk dt_X11_within 9 rfl) rfl rfl ⟨by decide, ?_⟩
      show ATW _ _ _ _ _ _ _ _ _ _
      refine a_if_eq (pc := 6) (dk dt_X11_mode 4 rfl) (tgt := 31) rfl ⟨fun c => absurd c (by decide), fun _ => ?_⟩
      refine a_iload_n (pc := 9) (dk dt_X11_mode 5 rfl) rfl ?_
      refine a_iconst (pc := 10) (dk dt_X11_mode 6 rfl) (ik rfl) ?_
      refine a_sipush (pc := 11) (dk dt_X11_mode 7 rfl) (ik rfl) (spk rfl) ?_
      refine a_callSi (as := [iv x2, iv 0, iv 255]) (st := []) (pc := 14) (dk dt_X11_mode 8 rfl) cl_RX11_104 ⟨Nat.le_of_ble_eq_true rfl, Nat.le_of_ble_eq_true rfl⟩ ⟨Nat.le_of_ble_eq_true rfl, Nat.le_of_ble_eq_true rfl⟩ rfl rfl rfl (Nat.le_of_ble_eq_true rfl) (Call.of rfl (Nat.le_of_ble_eq_true rfl) rfl ?_)
      refine a_iload_n (pc := 0) (dk dt_X11_within 0 rfl) rfl ?_
      refine a_iload_n (pc := 1) (dk dt_X11_within 1 rfl) rfl ?_
      refine a_icmp_lt (pc := 2) (dk dt_X11_within 2 rfl) (tgt := 14) rfl ⟨fun c => ?_, fun c => ?_⟩
      · replace H := H.1 c
        refine a_iconst (pc := 14) (dk dt_X11_within 8 rfl) (ik rfl) ?_
        refine a_zret (pc := 15) (dk dt_X11_within 9 rfl) rfl rfl ⟨by decide, ?_⟩
        show ATW _ _ _ _ _ _ _ _ _ _
        refine a_if_eq (pc := 17) (dk dt_X11_mode 9 rfl) (tgt := 31) rfl ⟨fun _ => ?_, fun c => absurd c (by decide)⟩
        refine a_iconst (pc := 31) (dk dt_X11_mode 15 rfl) (ik rfl) ?_
        exact a_iret (pc := 32) (dk dt_X11_mode 16 rfl) rfl rfl H
      · replace H := H.2 c
        refine a_iload_n (pc := 5) (dk dt_X11_within 3 rfl) rfl ?_
        refine a_iload_n (pc := 6) (dk dt_X11_within 4 rfl) rfl ?_
        refine a_icmp_gt (pc := 7) (dk dt_X11_within 5 rfl) (tgt := 14) rfl ⟨fun c => ?_, fun c => ?_⟩
        · replace H := H.1 c
          refine a_iconst (pc := 14) (dk dt_X11_within 8 rfl) (ik rfl) ?_
          refine a_zret (pc := 15) (dk dt_X11_within 9 rfl) rfl rfl ⟨by decide, ?_⟩
          show ATW _ _ _ _ _ _ _ _ _ _
          refine a_if_eq (pc := 17) (dk dt_X11_mode 9 rfl) (tgt := 31) rfl ⟨fun _ => ?_, fun c => absurd c (by decide)⟩
          refine a_iconst (pc := 31) (dk dt_X11_mode 15 rfl) (ik rfl) ?_
          exact a_iret (pc := 32) (dk dt_X11_mode 16 rfl) rfl rfl H
        · replace H := H.2 c
          refine a_iconst (pc := 10) (dk dt_X11_within 6 rfl) (ik rfl) ?_
          refine a_goto (pc := 11) (dk dt_X11_within 7 rfl) (tgt := 15) rfl ?_
          refine a_zret (pc := 15) (dk dt_X11_within 9 rfl) rfl rfl ⟨by decide, ?_⟩
          show ATW _ _ _ _ _ _ _ _ _ _
          refine a_if_eq (pc := 17) (dk dt_X11_mode 9 rfl) (tgt := 31) rfl ⟨fun c => absurd c (by decide), fun _ => ?_⟩
          refine a_iload_n (pc := 20) (dk dt_X11_mode 10 rfl) rfl ?_
          refine a_iconst (pc := 21) (dk dt_X11_mode 11 rfl) (ik rfl) ?_
          refine a_sipush (pc := 22) (dk dt_X11_mode 12 rfl) (ik rfl) (spk rfl) ?_
          refine a_callSi (as := [iv x3, iv 0, iv 255]) (st := []) (pc := 25) (dk dt_X11_mode 13 rfl) cl_RX11_104 ⟨Nat.le_of_ble_eq_true rfl, Nat.le_of_ble_eq_true rfl⟩ ⟨Nat.le_of_ble_eq_true rfl, Nat.le_of_ble_eq_true rfl⟩ rfl rfl rfl (Nat.le_of_ble_eq_true rfl) (Call.of rfl (Nat.le_of_ble_eq_true rfl) rfl ?_)
          refine a_iload_n (pc := 0) (dk dt_X11_within 0 rfl) rfl ?_
          refine a_iload_n (pc := 1) (dk dt_X11_within 1 rfl) rfl ?_
          refine a_icmp_lt (pc := 2) (dk dt_X11_within 2 rfl) (tgt := 14) rfl ⟨fun c => ?_, fun c => ?_⟩
          · replace H := H.1 c
            refine a_iconst (pc := 14) (dk dt_X11_within 8 rfl) (ik rfl) ?_
            refine a_zret (pc := 15) (dk dt_X11_within 9 rfl) rfl rfl ⟨by decide, ?_⟩
            show ATW _ _ _ _ _ _ _ _ _ _
            refine a_if_ne (pc := 28) (dk dt_X11_mode 14 rfl) (tgt := 33) rfl ⟨fun c => absurd c (by decide), fun _ => ?_⟩
            refine a_iconst (pc := 31) (dk dt_X11_mode 15 rfl) (ik rfl) ?_
            exact a_iret (pc := 32) (dk dt_X11_mode 16 rfl) rfl rfl H
          · replace H := H.2 c
            refine a_iload_n (pc := 5) (dk dt_X11_within 3 rfl) rfl ?_
            refine a_iload_n (pc := 6) (dk dt_X11_within 4 rfl) rfl ?_
            refine a_icmp_gt (pc := 7) (dk dt_X11_within 5 rfl) (tgt := 14) rfl ⟨fun c => ?_, fun c => ?_⟩
            · replace H := H.1 c
              refine a_iconst (pc := 14) (dk dt_X11_within 8 rfl) (ik rfl) ?_
              refine a_zret (pc := 15) (dk dt_X11_within 9 rfl) rfl rfl ⟨by decide, ?_⟩
              show ATW _ _ _ _ _ _ _ _ _ _
              refine a_if_ne (pc := 28) (dk dt_X11_mode 14 rfl) (tgt := 33) rfl ⟨fun c => absurd c (by decide), fun _ => ?_⟩
              refine a_iconst (pc := 31) (dk dt_X11_mode 15 rfl) (ik rfl) ?_
              exact a_iret (pc := 32) (dk dt_X11_mode 16 rfl) rfl rfl H
            · replace H := H.2 c
              refine a_iconst (pc := 10) (dk dt_X11_within 6 rfl) (ik rfl) ?_
              refine a_goto (pc := 11) (dk dt_X11_within 7 rfl) (tgt := 15) rfl ?_
              refine a_zret (pc := 15) (dk dt_X11_within 9 rfl) rfl rfl ⟨by decide, ?_⟩
              show ATW _ _ _ _ _ _ _ _ _ _
              refine a_if_ne (pc := 28) (dk dt_X11_mode 14 rfl) (tgt := 33) rfl ⟨fun _ => ?_, fun c => absurd c (by decide)⟩
              refine a_aload_n (pc := 33) (dk dt_X11_mode 17 rfl) rfl ?_
              refine a_getr (r := 33) (pc := 34) (dk dt_X11_mode 18 rfl) cls_11 fl_RX11_75 cf_1_9 ?_
              refine a_getr (r := 34) (pc := 37) (dk dt_X11_mode 19 rfl) cls_0 fl_RX11_209 cf_34_7 ?_
              refine a_iload_n (pc := 40) (dk dt_X11_mode 20 rfl) rfl ?_
              refine a_iload_n (pc := 41) (dk dt_X11_mode 21 rfl) rfl ?_
              refine a_iast (pc := 42) (dk dt_X11_mode 22 rfl) ar_35 ⟨H.1, ?_⟩
              replace H := H.2
              refine a_aload_n (pc := 43) (dk dt_X11_mode 23 rfl) rfl ?_
              refine a_getr (r := 33) (pc := 44) (dk dt_X11_mode 24 rfl) cls_11 fl_RX11_75 cf_1_9 ?_
              refine a_getr (r := 34) (pc := 47) (dk dt_X11_mode 25 rfl) cls_0 fl_RX11_209 cf_34_7 ?_
              refine a_iconst (pc := 50) (dk dt_X11_mode 26 rfl) (ik rfl) ?_
              refine a_iload_n (pc := 51) (dk dt_X11_mode 27 rfl) rfl ?_
              refine a_iadd (pc := 52) (dk dt_X11_mode 28 rfl) ?_
              refine a_iload_n (pc := 53) (dk dt_X11_mode 29 rfl) rfl ?_
              refine a_iast (pc := 54) (dk dt_X11_mode 30 rfl) ar_35 ⟨H.1, ?_⟩
              replace H := H.2
              refine a_iconst (pc := 55) (dk dt_X11_mode 31 rfl) (ik rfl) ?_
              exact a_iret (pc := 56) (dk dt_X11_mode 32 rfl) rfl rfl H
set_option maxHeartbeats 40000000 in
theorem U_X11_monitor_1_0 {G : GG} {Φ : Int → Hp → Prop} {h : Hp} {x1 : Int} {x2 : Int} {x3 : Int} (H : ((x1 < 0 → Φ (-1) h) ∧ (0 ≤ x1 → ((7 < x1 → Φ (-1) h) ∧ (x1 ≤ 7 → ((x2 < 1 → Φ (-1) h) ∧ (1 ≤ x2 → ((99 < x2 → Φ (-1) h) ∧ (x2 ≤ 99 → ((x3 < 0 → Φ (-1) h) ∧ (0 ≤ x3 → ((8 < x3 → Φ (-1) h) ∧ (x3 ≤ 8 → (((h 2 1) ≤ 0 → Call G m_X3_readMonitor [rv 4, rv 2] h (fun _ h2 => Call G m_X10_closes [rv 2] h2 (fun r3 h4 => ((r3 ≠ 0 → Call G m_X0_setMonitor [rv 34, iv x1, iv x2, iv x3, rv 0] h4 (fun _ h6 => Φ 1 h6)) ∧ (r3 = 0 → Φ (w32 ((-1000) - (h4 2 3))) h4))))) ∧ (0 < (h 2 1) → Call G m_X3_readMonitor [rv 4, rv 2] h (fun _ h8 => Call G m_X10_closes [rv 2] h8 (fun r9 h10 => ((r9 ≠ 0 → Call G m_X0_setMonitor [rv 34, iv x1, iv x2, iv x3, rv 4] h10 (fun _ h12 => Φ 1 h12)) ∧ (r9 = 0 → Φ (w32 ((-1000) - (h10 2 3))) h10))))))))))))))))))) : AT G m_X11_monitor 0 [(0, rv 1), (1, iv x1), (2, iv x2), (3, iv x3)] [] h Φ := by
  refine a_iload_n (pc := 0) (dk dt_X11_monitor 0 rfl) rfl ?_
  refine a_iconst (pc := 1) (dk dt_X11_monitor 1 rfl) (ik rfl) ?_
  refine a_bipush (pc := 2) (dk dt_X11_monitor 2 rfl) (ik rfl) (bpk rfl) ?_
  refine a_callSi (as := [iv x1, iv 0, iv 7]) (st := []) (pc := 4) (dk dt_X11_monitor 3 rfl) cl_RX11_104 ⟨Nat.le_of_ble_eq_true rfl, Nat.le_of_ble_eq_true rfl⟩ ⟨Nat.le_of_ble_eq_true rfl, Nat.le_of_ble_eq_true rfl⟩ rfl rfl rfl (Nat.le_of_ble_eq_true rfl) (Call.of rfl (Nat.le_of_ble_eq_true rfl) rfl ?_)
  refine a_iload_n (pc := 0) (dk dt_X11_within 0 rfl) rfl ?_
  refine a_iload_n (pc := 1) (dk dt_X11_within 1 rfl) rfl ?_
  refine a_icmp_lt (pc := 2) (dk dt_X11_within 2 rfl) (tgt := 14) rfl ⟨fun c => ?_, fun c => ?_⟩
  · replace H := H.1 c
    refine a_iconst (pc := 14) (dk dt_X11_within 8 rfl) (ik rfl) ?_
    refine a_zret (pc := 15) (dk dt_X11_within 9 rfl) rfl rfl ⟨by decide, ?_⟩
    show ATW _ _ _ _ _ _ _ _ _ _
    refine a_if_eq (pc := 7) (dk dt_X11_monitor 4 rfl) (tgt := 30) rfl ⟨fun _ => ?_, fun c => absurd c (by decide)⟩
    refine a_iconst (pc := 30) (dk dt_X11_monitor 15 rfl) (ik rfl) ?_
    exact a_iret (pc := 31) (dk dt_X11_monitor 16 rfl) rfl rfl H
  · replace H := H.2 c
    refine a_iload_n (pc := 5) (dk dt_X11_within 3 rfl) rfl ?_
    refine a_iload_n (pc := 6) (dk dt_X11_within 4 rfl) rfl ?_
    refine a_icmp_gt (pc := 7) (dk dt_X11_within 5 rfl) (tgt := 14) rfl ⟨fun c => ?_, fun c => ?_⟩
    · replace H := H.1 c
      refine a_iconst (pc := 14) (dk dt_X11_within 8 rfl) (ik rfl) ?_
      refine a_zret (pc := 15) (dk dt_X11_within 9 rfl) rfl rfl ⟨by decide, ?_⟩
      show ATW _ _ _ _ _ _ _ _ _ _
      refine a_if_eq (pc := 7) (dk dt_X11_monitor 4 rfl) (tgt := 30) rfl ⟨fun _ => ?_, fun c => absurd c (by decide)⟩
      refine a_iconst (pc := 30) (dk dt_X11_monitor 15 rfl) (ik rfl) ?_
      exact a_iret (pc := 31) (dk dt_X11_monitor 16 rfl) rfl rfl H
    · replace H := H.2 c
      refine a_iconst (pc := 10) (dk dt_X11_within 6 rfl) (ik rfl) ?_
      refine a_goto (pc := 11) (dk dt_X11_within 7 rfl) (tgt := 15) rfl ?_
      refine a_zret (pc := 15) (dk dt_X11_within 9 rfl) rfl rfl ⟨by decide, ?_⟩
      show ATW _ _ _ _ _ _ _ _ _ _
      refine a_if_eq (pc := 7) (dk dt_X11_monitor 4 rfl) (tgt := 30) rfl ⟨fun c => absurd c (by decide), fun _ => ?_⟩
      refine a_iload_n (pc := 10) (dk dt_X11_monitor 5 rfl) rfl ?_
      refine a_iconst (pc := 11) (dk dt_X11_monitor 6 rfl) (ik rfl) ?_
      refine a_bipush (pc := 12) (dk dt_X11_monitor 7 rfl) (ik rfl) (bpk rfl) ?_
      refine a_callSi (as := [iv x2, iv 1, iv 99]) (st := []) (pc := 14) (dk dt_X11_monitor 8 rfl) cl_RX11_104 ⟨Nat.le_of_ble_eq_true rfl, Nat.le_of_ble_eq_true rfl⟩ ⟨Nat.le_of_ble_eq_true rfl, Nat.le_of_ble_eq_true rfl⟩ rfl rfl rfl (Nat.le_of_ble_eq_true rfl) (Call.of rfl (Nat.le_of_ble_eq_true rfl) rfl ?_)
      refine a_iload_n (pc := 0) (dk dt_X11_within 0 rfl) rfl ?_
      refine a_iload_n (pc := 1) (dk dt_X11_within 1 rfl) rfl ?_
      refine a_icmp_lt (pc := 2) (dk dt_X11_within 2 rfl) (tgt := 14) rfl ⟨fun c => ?_, fun c => ?_⟩
      · replace H := H.1 c
        refine a_iconst (pc := 14) (dk dt_X11_within 8 rfl) (ik rfl) ?_
        refine a_zret (pc := 15) (dk dt_X11_within 9 rfl) rfl rfl ⟨by decide, ?_⟩
        show ATW _ _ _ _ _ _ _ _ _ _
        refine a_if_eq (pc := 17) (dk dt_X11_monitor 9 rfl) (tgt := 30) rfl ⟨fun _ => ?_, fun c => absurd c (by decide)⟩
        refine a_iconst (pc := 30) (dk dt_X11_monitor 15 rfl) (ik rfl) ?_
        exact a_iret (pc := 31) (dk dt_X11_monitor 16 rfl) rfl rfl H
      · replace H := H.2 c
        refine a_iload_n (pc := 5) (dk dt_X11_within 3 rfl) rfl ?_
        refine a_iload_n (pc := 6) (dk dt_X11_within 4 rfl) rfl ?_
        refine a_icmp_gt (pc := 7) (dk dt_X11_within 5 rfl) (tgt := 14) rfl ⟨fun c => ?_, fun c => ?_⟩
        · replace H := H.1 c
          refine a_iconst (pc := 14) (dk dt_X11_within 8 rfl) (ik rfl) ?_
          refine a_zret (pc := 15) (dk dt_X11_within 9 rfl) rfl rfl ⟨by decide, ?_⟩
          show ATW _ _ _ _ _ _ _ _ _ _
          refine a_if_eq (pc := 17) (dk dt_X11_monitor 9 rfl) (tgt := 30) rfl ⟨fun _ => ?_, fun c => absurd c (by decide)⟩
          refine a_iconst (pc := 30) (dk dt_X11_monitor 15 rfl) (ik rfl) ?_
          exact a_iret (pc := 31) (dk dt_X11_monitor 16 rfl) rfl rfl H
        · replace H := H.2 c
          refine a_iconst (pc := 10) (dk dt_X11_within 6 rfl) (ik rfl) ?_
          refine a_goto (pc := 11) (dk dt_X11_within 7 rfl) (tgt := 15) rfl ?_
          refine a_zret (pc := 15) (dk dt_X11_within 9 rfl) rfl rfl ⟨by decide, ?_⟩
          show ATW _ _ _ _ _ _ _ _ _ _
          refine a_if_eq (pc := 17) (dk dt_X11_monitor 9 rfl) (tgt := 30) rfl ⟨fun c => absurd c (by decide), fun _ => ?_⟩
          refine a_iload_n (pc := 20) (dk dt_X11_monitor 10 rfl) rfl ?_
          refine a_iconst (pc := 21) (dk dt_X11_monitor 11 rfl) (ik rfl) ?_
          refine a_bipush (pc := 22) (dk dt_X11_monitor 12 rfl) (ik rfl) (bpk rfl) ?_
          refine a_callSi (as := [iv x3, iv 0, iv 8]) (st := []) (pc := 24) (dk dt_X11_monitor 13 rfl) cl_RX11_104 ⟨Nat.le_of_ble_eq_true rfl, Nat.le_of_ble_eq_true rfl⟩ ⟨Nat.le_of_ble_eq_true rfl, Nat.le_of_ble_eq_true rfl⟩ rfl rfl rfl (Nat.le_of_ble_eq_true rfl) (Call.of rfl (Nat.le_of_ble_eq_true rfl) rfl ?_)
          refine a_iload_n (pc := 0) (dk dt_X11_within 0 rfl) rfl ?_
          refine a_iload_n (pc := 1) (dk dt_X11_within 1 rfl) rfl ?_
          refine a_icmp_lt (pc := 2) (dk dt_X11_within 2 rfl) (tgt := 14) rfl ⟨fun c => ?_, fun c => ?_⟩
          · replace H := H.1 c
            refine a_iconst (pc := 14) (dk dt_X11_within 8 rfl) (ik rfl) ?_
            refine a_zret (pc := 15) (dk dt_X11_within 9 rfl) rfl rfl ⟨by decide, ?_⟩
            show ATW _ _ _ _ _ _ _ _ _ _
            refine a_if_ne (pc := 27) (dk dt_X11_monitor 14 rfl) (tgt := 32) rfl ⟨fun c => absurd c (by decide), fun _ => ?_⟩
            refine a_iconst (pc := 30) (dk dt_X11_monitor 15 rfl) (ik rfl) ?_
            exact a_iret (pc := 31) (dk dt_X11_monitor 16 rfl) rfl rfl H
          · replace H := H.2 c
            refine a_iload_n (pc := 5) (dk dt_X11_within 3 rfl) rfl ?_
            refine a_iload_n (pc := 6) (dk dt_X11_within 4 rfl) rfl ?_
            refine a_icmp_gt (pc := 7) (dk dt_X11_within 5 rfl) (tgt := 14) rfl ⟨fun c => ?_, fun c => ?_⟩
            · replace H := H.1 c
              refine a_iconst (pc := 14) (dk dt_X11_within 8 rfl) (ik rfl) ?_
              refine a_zret (pc := 15) (dk dt_X11_within 9 rfl) rfl rfl ⟨by decide, ?_⟩
              show ATW _ _ _ _ _ _ _ _ _ _
              refine a_if_ne (pc := 27) (dk dt_X11_monitor 14 rfl) (tgt := 32) rfl ⟨fun c => absurd c (by decide), fun _ => ?_⟩
              refine a_iconst (pc := 30) (dk dt_X11_monitor 15 rfl) (ik rfl) ?_
              exact a_iret (pc := 31) (dk dt_X11_monitor 16 rfl) rfl rfl H
            · replace H := H.2 c
              refine a_iconst (pc := 10) (dk dt_X11_within 6 rfl) (ik rfl) ?_
              refine a_goto (pc := 11) (dk dt_X11_within 7 rfl) (tgt := 15) rfl ?_
              refine a_zret (pc := 15) (dk dt_X11_within 9 rfl) rfl rfl ⟨by decide, ?_⟩
              show ATW _ _ _ _ _ _ _ _ _ _
              refine a_if_ne (pc := 27) (dk dt_X11_monitor 14 rfl) (tgt := 32) rfl ⟨fun _ => ?_, fun c => absurd c (by decide)⟩
              refine a_aload_n (pc := 32) (dk dt_X11_monitor 17 rfl) rfl ?_
              refine a_getr (r := 1) (pc := 33) (dk dt_X11_monitor 18 rfl) cls_11 fl_RX11_10 cf_1_0 ?_
              refine a_geti (pc := 36) (dk dt_X11_monitor 19 rfl) cls_10 fl_RX11_98 cf_2_1 ?_
              refine a_if_le (pc := 39) (dk dt_X11_monitor 20 rfl) (tgt := 46) rfl ⟨fun c => ?_, fun c => ?_⟩
              · replace H := H.1 c
                refine a_iconst (pc := 46) (dk dt_X11_monitor 23 rfl) (ik rfl) ?_
                refine a_istore (pc := 47) (dk dt_X11_monitor 24 rfl) (by decide) rfl rfl ?_
                refine a_aload_n (pc := 49) (dk dt_X11_monitor 25 rfl) rfl ?_
                refine a_getr (r := 3) (pc := 50) (dk dt_X11_monitor 26 rfl) cls_11 fl_RX11_21 cf_1_1 ?_
                refine a_aload_n (pc := 53) (dk dt_X11_monitor 27 rfl) rfl ?_
                refine a_getr (r := 1) (pc := 54) (dk dt_X11_monitor 28 rfl) cls_11 fl_RX11_10 cf_1_0 ?_
                refine a_callVv (as := [rv 2]) (st := []) (pc := 57) (dk dt_X11_monitor 29 rfl) cl_RX11_212 ⟨Nat.le_of_ble_eq_true rfl, Nat.le_of_ble_eq_true rfl⟩ ⟨Nat.le_of_ble_eq_true rfl, Nat.le_of_ble_eq_true rfl⟩ cls_3 rfl cc_4 rfl rfl rfl (Nat.le_of_ble_eq_true rfl) (Call.mono H fun _ h2 H => ?_)
                refine a_aload_n (pc := 60) (dk dt_X11_monitor 30 rfl) rfl ?_
                refine a_getr (r := 1) (pc := 61) (dk dt_X11_monitor 31 rfl) cls_11 fl_RX11_10 cf_1_0 ?_
                refine a_callVi (as := []) (st := []) (pc := 64) (dk dt_X11_monitor 32 rfl) cl_RX11_119 ⟨Nat.le_of_ble_eq_true rfl, Nat.le_of_ble_eq_true rfl⟩ ⟨Nat.le_of_ble_eq_true rfl, Nat.le_of_ble_eq_true rfl⟩ cls_10 rfl cc_2 rfl rfl rfl (Nat.le_of_ble_eq_true rfl) (Call.mono H fun r3 h4 H => ?_)
                refine a_if_ne (pc := 67) (dk dt_X11_monitor 33 rfl) (tgt := 78) rfl ⟨fun c => ?_, fun c => ?_⟩
                · replace H := H.1 c
                  refine a_aload_n (pc := 78) (dk dt_X11_monitor 38 rfl) rfl ?_
                  refine a_getr (r := 33) (pc := 79) (dk dt_X11_monitor 39 rfl) cls_11 fl_RX11_75 cf_1_9 ?_
                  refine a_iload_n (pc := 82) (dk dt_X11_monitor 40 rfl) rfl ?_
                  refine a_iload_n (pc := 83) (dk dt_X11_monitor 41 rfl) rfl ?_
                  refine a_iload_n (pc := 84) (dk dt_X11_monitor 42 rfl) rfl ?_
                  refine a_iload (pc := 85) (dk dt_X11_monitor 43 rfl) rfl ?_
                  refine a_if_eq (pc := 87) (dk dt_X11_monitor 44 rfl) (tgt := 97) rfl ⟨fun _ => ?_, fun c => absurd c (by decide)⟩
                  refine a_null (pc := 97) (dk dt_X11_monitor 48 rfl) ?_
                  refine a_callVv (as := [iv x1, iv x2, iv x3, rv 0]) (st := []) (pc := 98) (dk dt_X11_monitor 49 rfl) cl_RX11_216 ⟨Nat.le_of_ble_eq_true rfl, Nat.le_of_ble_eq_true rfl⟩ ⟨Nat.le_of_ble_eq_true rfl, Nat.le_of_ble_eq_true rfl⟩ cls_0 rfl cc_34 rfl rfl rfl (Nat.le_of_ble_eq_true rfl) (Call.mono H fun _ h6 H => ?_)
                  refine a_iconst (pc := 101) (dk dt_X11_monitor 50 rfl) (ik rfl) ?_
                  exact a_iret (pc := 102) (dk dt_X11_monitor 51 rfl) rfl rfl H
                · replace H := H.2 c
                  refine a_aload_n (pc := 70) (dk dt_X11_monitor 34 rfl) rfl ?_
                  refine a_getr (r := 1) (pc := 71) (dk dt_X11_monitor 35 rfl) cls_11 fl_RX11_10 cf_1_0 ?_
                  refine a_callVi (as := []) (st := []) (pc := 74) (dk dt_X11_monitor 36 rfl) cl_RX11_123 ⟨Nat.le_of_ble_eq_true rfl, Nat.le_of_ble_eq_true rfl⟩ ⟨Nat.le_of_ble_eq_true rfl, Nat.le_of_ble_eq_true rfl⟩ cls_10 rfl cc_2 rfl rfl rfl (Nat.le_of_ble_eq_true rfl) (Call.of rfl (Nat.le_of_ble_eq_true rfl) rfl ?_)
                  refine a_sipush (pc := 0) (dk dt_X10_wrong 0 rfl) (ik rfl) (spk rfl) ?_
                  refine a_aload_n (pc := 3) (dk dt_X10_wrong 1 rfl) rfl ?_
                  refine a_geti (pc := 4) (dk dt_X10_wrong 2 rfl) cls_10 fl_RX10_15 cf_2_3 ?_
                  refine a_isub (pc := 7) (dk dt_X10_wrong 3 rfl) ?_
                  refine a_iret (pc := 8) (dk dt_X10_wrong 4 rfl) rfl rfl ?_
                  show ATW _ _ _ _ _ _ _ _ _ _
                  exact a_iret (pc := 77) (dk dt_X11_monitor 37 rfl) rfl rfl H
              · replace H := H.2 c
                refine a_iconst (pc := 42) (dk dt_X11_monitor 21 rfl) (ik rfl) ?_
                refine a_goto (pc := 43) (dk dt_X11_monitor 22 rfl) (tgt := 47) rfl ?_
                refine a_istore (pc := 47) (dk dt_X11_monitor 24 rfl) (by decide) rfl rfl ?_
                refine a_aload_n (pc := 49) (dk dt_X11_monitor 25 rfl) rfl ?_
                refine a_getr (r := 3) (pc := 50) (dk dt_X11_monitor 26 rfl) cls_11 fl_RX11_21 cf_1_1 ?_
                refine a_aload_n (pc := 53) (dk dt_X11_monitor 27 rfl) rfl ?_
                refine a_getr (r := 1) (pc := 54) (dk dt_X11_monitor 28 rfl) cls_11 fl_RX11_10 cf_1_0 ?_
                refine a_callVv (as := [rv 2]) (st := []) (pc := 57) (dk dt_X11_monitor 29 rfl) cl_RX11_212 ⟨Nat.le_of_ble_eq_true rfl, Nat.le_of_ble_eq_true rfl⟩ ⟨Nat.le_of_ble_eq_true rfl, Nat.le_of_ble_eq_true rfl⟩ cls_3 rfl cc_4 rfl rfl rfl (Nat.le_of_ble_eq_true rfl) (Call.mono H fun _ h8 H => ?_)
                refine a_aload_n (pc := 60) (dk dt_X11_monitor 30 rfl) rfl ?_
                refine a_getr (r := 1) (pc := 61) (dk dt_X11_monitor 31 rfl) cls_11 fl_RX11_10 cf_1_0 ?_
                refine a_callVi (as := []) (st := []) (pc := 64) (dk dt_X11_monitor 32 rfl) cl_RX11_119 ⟨Nat.le_of_ble_eq_true rfl, Nat.le_of_ble_eq_true rfl⟩ ⟨Nat.le_of_ble_eq_true rfl, Nat.le_of_ble_eq_true rfl⟩ cls_10 rfl cc_2 rfl rfl rfl (Nat.le_of_ble_eq_true rfl) (Call.mono H fun r9 h10 H => ?_)
                refine a_if_ne (pc := 67) (dk dt_X11_monitor 33 rfl) (tgt := 78) rfl ⟨fun c => ?_, fun c => ?_⟩
                · replace H := H.1 c
                  refine a_aload_n (pc := 78) (dk dt_X11_monitor 38 rfl) rfl ?_
                  refine a_getr (r := 33) (pc := 79) (dk dt_X11_monitor 39 rfl) cls_11 fl_RX11_75 cf_1_9 ?_
                  refine a_iload_n (pc := 82) (dk dt_X11_monitor 40 rfl) rfl ?_
                  refine a_iload_n (pc := 83) (dk dt_X11_monitor 41 rfl) rfl ?_
                  refine a_iload_n (pc := 84) (dk dt_X11_monitor 42 rfl) rfl ?_
                  refine a_iload (pc := 85) (dk dt_X11_monitor 43 rfl) rfl ?_
                  refine a_if_eq (pc := 87) (dk dt_X11_monitor 44 rfl) (tgt := 97) rfl ⟨fun c => absurd c (by decide), fun _ => ?_⟩
                  refine a_aload_n (pc := 90) (dk dt_X11_monitor 45 rfl) rfl ?_
                  refine a_getr (r := 3) (pc := 91) (dk dt_X11_monitor 46 rfl) cls_11 fl_RX11_21 cf_1_1 ?_
                  refine a_goto (pc := 94) (dk dt_X11_monitor 47 rfl) (tgt := 98) rfl ?_
                  refine a_callVv (as := [iv x1, iv x2, iv x3, rv 4]) (st := []) (pc := 98) (dk dt_X11_monitor 49 rfl) cl_RX11_216 ⟨Nat.le_of_ble_eq_true rfl, Nat.le_of_ble_eq_true rfl⟩ ⟨Nat.le_of_ble_eq_true rfl, Nat.le_of_ble_eq_true rfl⟩ cls_0 rfl cc_34 rfl rfl rfl (Nat.le_of_ble_eq_true rfl) (Call.mono H fun _ h12 H => ?_)
                  refine a_iconst (pc := 101) (dk dt_X11_monitor 50 rfl) (ik rfl) ?_
                  exact a_iret (pc := 102) (dk dt_X11_monitor 51 rfl) rfl rfl H
                · replace H := H.2 c
                  refine a_aload_n (pc := 70) (dk dt_X11_monitor 34 rfl) rfl ?_
                  refine a_getr (r := 1) (pc := 71) (dk dt_X11_monitor 35 rfl) cls_11 fl_RX11_10 cf_1_0 ?_
                  refine a_callVi (as := []) (st := []) (pc := 74) (dk dt_X11_monitor 36 rfl) cl_RX11_123 ⟨Nat.le_of_ble_eq_true rfl, Nat.le_of_ble_eq_true rfl⟩ ⟨Nat.le_of_ble_eq_true rfl, Nat.le_of_ble_eq_true rfl⟩ cls_10 rfl cc_2 rfl rfl rfl (Nat.le_of_ble_eq_true rfl) (Call.of rfl (Nat.le_of_ble_eq_true rfl) rfl ?_)
                  refine a_sipush (pc := 0) (dk dt_X10_wrong 0 rfl) (ik rfl) (spk rfl) ?_
                  refine a_aload_n (pc := 3) (dk dt_X10_wrong 1 rfl) rfl ?_
                  refine a_geti (pc := 4) (dk dt_X10_wrong 2 rfl) cls_10 fl_RX10_15 cf_2_3 ?_
                  refine a_isub (pc := 7) (dk dt_X10_wrong 3 rfl) ?_
                  refine a_iret (pc := 8) (dk dt_X10_wrong 4 rfl) rfl rfl ?_
                  show ATW _ _ _ _ _ _ _ _ _ _
                  exact a_iret (pc := 77) (dk dt_X11_monitor 37 rfl) rfl rfl H
set_option maxHeartbeats 40000000 in
theorem U_X11_flip_1_0 {G : GG} {Φ : Int → Hp → Prop} {h : Hp} {x1 : Int} {x2 : Int} (H : ((x1 < 0 → Φ (-1) h) ∧ (0 ≤ x1 → ((63 < x1 → Φ (-1) h) ∧ (x1 ≤ 63 → ((x2 < 0 → Φ (-1) h) ∧ (0 ≤ x2 → ((12 < x2 → Φ (-1) h) ∧ (x2 ≤ 12 → (0 ≤ x1 ∧ x1 < 64) ∧ (0 ≤ x1 ∧ x1 < 64) ∧ (0 ≤ x1 ∧ x1 < 64) ∧ Φ (bxor (h 25 x1) (bshl 1 x2)) (up h 25 x1 (bxor (h 25 x1) (bshl 1 x2)))))))))))) : AT G m_X11_flip 0 [(0, rv 1), (1, iv x1), (2, iv x2)] [] h Φ := by
  refine a_iload_n (pc := 0) (dk dt_X11_flip 0 rfl) rfl ?_
  refine a_callSi (as := [iv x1]) (st := []) (pc := 1) (dk dt_X11_flip 1 rfl) cl_RX11_220 ⟨Nat.le_of_ble_eq_true rfl, Nat.le_of_ble_eq_true rfl⟩ ⟨Nat.le_of_ble_eq_true rfl, Nat.le_of_ble_eq_true rfl⟩ rfl rfl rfl (Nat.le_of_ble_eq_true rfl) (Call.of rfl (Nat.le_of_ble_eq_true rfl) rfl ?_)
  refine a_iload_n (pc := 0) (dk dt_X11_isWord 0 rfl) rfl ?_
  refine a_iconst (pc := 1) (dk dt_X11_isWord 1 rfl) (ik rfl) ?_
  refine a_bipush (pc := 2) (dk dt_X11_isWord 2 rfl) (ik rfl) (bpk rfl) ?_
  refine a_callSi (as := [iv x1, iv 0, iv 63]) (st := []) (pc := 4) (dk dt_X11_isWord 3 rfl) cl_RX11_104 ⟨Nat.le_of_ble_eq_true rfl, Nat.le_of_ble_eq_true rfl⟩ ⟨Nat.le_of_ble_eq_true rfl, Nat.le_of_ble_eq_true rfl⟩ rfl rfl rfl (Nat.le_of_ble_eq_true rfl) (Call.of rfl (Nat.le_of_ble_eq_true rfl) rfl ?_)
  refine a_iload_n (pc := 0) (dk dt_X11_within 0 rfl) rfl ?_
  refine a_iload_n (pc := 1) (dk dt_X11_within 1 rfl) rfl ?_
  refine a_icmp_lt (pc := 2) (dk dt_X11_within 2 rfl) (tgt := 14) rfl ⟨fun c => ?_, fun c => ?_⟩
  · replace H := H.1 c
    refine a_iconst (pc := 14) (dk dt_X11_within 8 rfl) (ik rfl) ?_
    refine a_zret (pc := 15) (dk dt_X11_within 9 rfl) rfl rfl ⟨by decide, ?_⟩
    show ATW _ _ _ _ _ _ _ _ _ _
    refine a_zret (pc := 7) (dk dt_X11_isWord 4 rfl) rfl rfl ⟨by decide, ?_⟩
    show ATW _ _ _ _ _ _ _ _ _ _
    refine a_if_eq (pc := 4) (dk dt_X11_flip 2 rfl) (tgt := 17) rfl ⟨fun _ => ?_, fun c => absurd c (by decide)⟩
    refine a_iconst (pc := 17) (dk dt_X11_flip 8 rfl) (ik rfl) ?_
    exact a_iret (pc := 18) (dk dt_X11_flip 9 rfl) rfl rfl H
  · replace H := H.2 c
    refine a_iload_n (pc := 5) (dk dt_X11_within 3 rfl) rfl ?_
    refine a_iload_n (pc := 6) (dk dt_X11_within 4 rfl) rfl ?_
    refine a_icmp_gt (pc := 7) (dk dt_X11_within 5 rfl) (tgt := 14) rfl ⟨fun c => ?_, fun c => ?_⟩
    · replace H := H.1 c
      refine a_iconst (pc := 14) (dk dt_X11_within 8 rfl) (ik rfl) ?_
      refine a_zret (pc := 15) (dk dt_X11_within 9 rfl) rfl rfl ⟨by decide, ?_⟩
      show ATW _ _ _ _ _ _ _ _ _ _
      refine a_zret (pc := 7) (dk dt_X11_isWord 4 rfl) rfl rfl ⟨by decide, ?_⟩
      show ATW _ _ _ _ _ _ _ _ _ _
      refine a_if_eq (pc := 4) (dk dt_X11_flip 2 rfl) (tgt := 17) rfl ⟨fun _ => ?_, fun c => absurd c (by decide)⟩
      refine a_iconst (pc := 17) (dk dt_X11_flip 8 rfl) (ik rfl) ?_
      exact a_iret (pc := 18) (dk dt_X11_flip 9 rfl) rfl rfl H
    · replace H := H.2 c
      refine a_iconst (pc := 10) (dk dt_X11_within 6 rfl) (ik rfl) ?_
      refine a_goto (pc := 11) (dk dt_X11_within 7 rfl) (tgt := 15) rfl ?_
      refine a_zret (pc := 15) (dk dt_X11_within 9 rfl) rfl rfl ⟨by decide, ?_⟩
      show ATW _ _ _ _ _ _ _ _ _ _
      refine a_zret (pc := 7) (dk dt_X11_isWord 4 rfl) rfl rfl ⟨by decide, ?_⟩
      show ATW _ _ _ _ _ _ _ _ _ _
      refine a_if_eq (pc := 4) (dk dt_X11_flip 2 rfl) (tgt := 17) rfl ⟨fun c => absurd c (by decide), fun _ => ?_⟩
      refine a_iload_n (pc := 7) (dk dt_X11_flip 3 rfl) rfl ?_
      refine a_iconst (pc := 8) (dk dt_X11_flip 4 rfl) (ik rfl) ?_
      refine a_bipush (pc := 9) (dk dt_X11_flip 5 rfl) (ik rfl) (bpk rfl) ?_
      refine a_callSi (as := [iv x2, iv 0, iv 12]) (st := []) (pc := 11) (dk dt_X11_flip 6 rfl) cl_RX11_104 ⟨Nat.le_of_ble_eq_true rfl, Nat.le_of_ble_eq_true rfl⟩ ⟨Nat.le_of_ble_eq_true rfl, Nat.le_of_ble_eq_true rfl⟩ rfl rfl rfl (Nat.le_of_ble_eq_true rfl) (Call.of rfl (Nat.le_of_ble_eq_true rfl) rfl ?_)
      refine a_iload_n (pc := 0) (dk dt_X11_within 0 rfl) rfl ?_
      refine a_iload_n (pc := 1) (dk dt_X11_within 1 rfl) rfl ?_
      refine a_icmp_lt (pc := 2) (dk dt_X11_within 2 rfl) (tgt := 14) rfl ⟨fun c => ?_, fun c => ?_⟩
      · replace H := H.1 c
        refine a_iconst (pc := 14) (dk dt_X11_within 8 rfl) (ik rfl) ?_
        refine a_zret (pc := 15) (dk dt_X11_within 9 rfl) rfl rfl ⟨by decide, ?_⟩
        show ATW _ _ _ _ _ _ _ _ _ _
        refine a_if_ne (pc := 14) (dk dt_X11_flip 7 rfl) (tgt := 19) rfl ⟨fun c => absurd c (by decide), fun _ => ?_⟩
        refine a_iconst (pc := 17) (dk dt_X11_flip 8 rfl) (ik rfl) ?_
        exact a_iret (pc := 18) (dk dt_X11_flip 9 rfl) rfl rfl H
      · replace H := H.2 c
        refine a_iload_n (pc := 5) (dk dt_X11_within 3 rfl) rfl ?_
        refine a_iload_n (pc := 6) (dk dt_X11_within 4 rfl) rfl ?_
        refine a_icmp_gt (pc := 7) (dk dt_X11_within 5 rfl) (tgt := 14) rfl ⟨fun c => ?_, fun c => ?_⟩
        · replace H := H.1 c
          refine a_iconst (pc := 14) (dk dt_X11_within 8 rfl) (ik rfl) ?_
          refine a_zret (pc := 15) (dk dt_X11_within 9 rfl) rfl rfl ⟨by decide, ?_⟩
          show ATW _ _ _ _ _ _ _ _ _ _
          refine a_if_ne (pc := 14) (dk dt_X11_flip 7 rfl) (tgt := 19) rfl ⟨fun c => absurd c (by decide), fun _ => ?_⟩
          refine a_iconst (pc := 17) (dk dt_X11_flip 8 rfl) (ik rfl) ?_
          exact a_iret (pc := 18) (dk dt_X11_flip 9 rfl) rfl rfl H
        · replace H := H.2 c
          refine a_iconst (pc := 10) (dk dt_X11_within 6 rfl) (ik rfl) ?_
          refine a_goto (pc := 11) (dk dt_X11_within 7 rfl) (tgt := 15) rfl ?_
          refine a_zret (pc := 15) (dk dt_X11_within 9 rfl) rfl rfl ⟨by decide, ?_⟩
          show ATW _ _ _ _ _ _ _ _ _ _
          refine a_if_ne (pc := 14) (dk dt_X11_flip 7 rfl) (tgt := 19) rfl ⟨fun _ => ?_, fun c => absurd c (by decide)⟩
          refine a_aload_n (pc := 19) (dk dt_X11_flip 10 rfl) rfl ?_
          refine a_getr (r := 23) (pc := 20) (dk dt_X11_flip 11 rfl) cls_11 fl_RX11_59 cf_1_7 ?_
          refine a_getr (r := 24) (pc := 23) (dk dt_X11_flip 12 rfl) cls_5 fl_RX11_223 cf_24_0 ?_
          refine a_iload_n (pc := 26) (dk dt_X11_flip 13 rfl) rfl ?_
          refine a_dup2 (pc := 27) (dk dt_X11_flip 14 rfl) rfl rfl ?_
          refine a_iald (pc := 28) (dk dt_X11_flip 15 rfl) ar_25 ⟨H.1, ?_⟩
          replace H := H.2
          refine a_iconst (pc := 29) (dk dt_X11_flip 16 rfl) (ik rfl) ?_
          refine a_iload_n (pc := 30) (dk dt_X11_flip 17 rfl) rfl ?_
          refine a_ishl (pc := 31) (dk dt_X11_flip 18 rfl) ?_
          refine a_ixor (pc := 32) (dk dt_X11_flip 19 rfl) ?_
          refine a_iast (pc := 33) (dk dt_X11_flip 20 rfl) ar_25 ⟨H.1, ?_⟩
          replace H := H.2
          refine a_aload_n (pc := 34) (dk dt_X11_flip 21 rfl) rfl ?_
          refine a_getr (r := 23) (pc := 35) (dk dt_X11_flip 22 rfl) cls_11 fl_RX11_59 cf_1_7 ?_
          refine a_getr (r := 24) (pc := 38) (dk dt_X11_flip 23 rfl) cls_5 fl_RX11_223 cf_24_0 ?_
          refine a_iload_n (pc := 41) (dk dt_X11_flip 24 rfl) rfl ?_
          refine a_iald (pc := 42) (dk dt_X11_flip 25 rfl) ar_25 ⟨H.1, ?_⟩
          replace H := H.2
          refine a_top (y := (bxor (h 25 x1) (bshl 1 x2))) (by simp [up, cpy]) ?_
          exact a_iret (pc := 43) (dk dt_X11_flip 26 rfl) rfl rfl H
set_option maxHeartbeats 40000000 in
theorem U_X11_tick_1_0 {G : GG} {Φ : Int → Hp → Prop} {h : Hp} {x1 : Int} (H : ((x1 < 0 → Φ (-1) h) ∧ (0 ≤ x1 → ((500 < x1 → Φ (-1) h) ∧ (x1 ≤ 500 → AT G m_X11_tick 15 [(0, rv 1), (1, iv x1), (2, iv 0)] [] h Φ))))) : AT G m_X11_tick 0 [(0, rv 1), (1, iv x1)] [] h Φ := by
  refine a_iload_n (pc := 0) (dk dt_X11_tick 0 rfl) rfl ?_
  refine a_iconst (pc := 1) (dk dt_X11_tick 1 rfl) (ik rfl) ?_
  refine a_sipush (pc := 2) (dk dt_X11_tick 2 rfl) (ik rfl) (spk rfl) ?_
  refine a_callSi (as := [iv x1, iv 0, iv 500]) (st := []) (pc := 5) (dk dt_X11_tick 3 rfl) cl_RX11_104 ⟨Nat.le_of_ble_eq_true rfl, Nat.le_of_ble_eq_true rfl⟩ ⟨Nat.le_of_ble_eq_true rfl, Nat.le_of_ble_eq_true rfl⟩ rfl rfl rfl (Nat.le_of_ble_eq_true rfl) (Call.of rfl (Nat.le_of_ble_eq_true rfl) rfl ?_)
  refine a_iload_n (pc := 0) (dk dt_X11_within 0 rfl) rfl ?_
  refine a_iload_n (pc := 1) (dk dt_X11_within 1 rfl) rfl ?_
  refine a_icmp_lt (pc := 2) (dk dt_X11_within 2 rfl) (tgt := 14) rfl ⟨fun c => ?_, fun c => ?_⟩
  · replace H := H.1 c
    refine a_iconst (pc := 14) (dk dt_X11_within 8 rfl) (ik rfl) ?_
    refine a_zret (pc := 15) (dk dt_X11_within 9 rfl) rfl rfl ⟨by decide, ?_⟩
    show ATW _ _ _ _ _ _ _ _ _ _
    refine a_if_ne (pc := 8) (dk dt_X11_tick 4 rfl) (tgt := 13) rfl ⟨fun c => absurd c (by decide), fun _ => ?_⟩
    refine a_iconst (pc := 11) (dk dt_X11_tick 5 rfl) (ik rfl) ?_
    exact a_iret (pc := 12) (dk dt_X11_tick 6 rfl) rfl rfl H
  · replace H := H.2 c
    refine a_iload_n (pc := 5) (dk dt_X11_within 3 rfl) rfl ?_
    refine a_iload_n (pc := 6) (dk dt_X11_within 4 rfl) rfl ?_
    refine a_icmp_gt (pc := 7) (dk dt_X11_within 5 rfl) (tgt := 14) rfl ⟨fun c => ?_, fun c => ?_⟩
    · replace H := H.1 c
      refine a_iconst (pc := 14) (dk dt_X11_within 8 rfl) (ik rfl) ?_
      refine a_zret (pc := 15) (dk dt_X11_within 9 rfl) rfl rfl ⟨by decide, ?_⟩
      show ATW _ _ _ _ _ _ _ _ _ _
      refine a_if_ne (pc := 8) (dk dt_X11_tick 4 rfl) (tgt := 13) rfl ⟨fun c => absurd c (by decide), fun _ => ?_⟩
      refine a_iconst (pc := 11) (dk dt_X11_tick 5 rfl) (ik rfl) ?_
      exact a_iret (pc := 12) (dk dt_X11_tick 6 rfl) rfl rfl H
    · replace H := H.2 c
      refine a_iconst (pc := 10) (dk dt_X11_within 6 rfl) (ik rfl) ?_
      refine a_goto (pc := 11) (dk dt_X11_within 7 rfl) (tgt := 15) rfl ?_
      refine a_zret (pc := 15) (dk dt_X11_within 9 rfl) rfl rfl ⟨by decide, ?_⟩
      show ATW _ _ _ _ _ _ _ _ _ _
      refine a_if_ne (pc := 8) (dk dt_X11_tick 4 rfl) (tgt := 13) rfl ⟨fun _ => ?_, fun c => absurd c (by decide)⟩
      refine a_iconst (pc := 13) (dk dt_X11_tick 7 rfl) (ik rfl) ?_
      refine a_istore_n (pc := 14) (dk dt_X11_tick 8 rfl) (by decide) rfl rfl ?_
      exact a_pick [0, 1, 2] rfl H
set_option maxHeartbeats 40000000 in
theorem U_X11_tick_1_15 {G : GG} {Φ : Int → Hp → Prop} {h : Hp} {x1 : Int} {x2 : Int} (H : ((x1 ≤ x2 → Φ (h 34 4) h) ∧ (x2 < x1 → Call G m_X0_doSecond [rv 34] h (fun _ h2 => AT G m_X11_tick 15 [(0, rv 1), (1, iv x1), (2, iv (w32 (x2 + 1)))] [] h2 Φ)))) : AT G m_X11_tick 15 [(0, rv 1), (1, iv x1), (2, iv x2)] [] h Φ := by
  refine a_iload_n (pc := 15) (dk dt_X11_tick 9 rfl) rfl ?_
  refine a_iload_n (pc := 16) (dk dt_X11_tick 10 rfl) rfl ?_
  refine a_icmp_ge (pc := 17) (dk dt_X11_tick 11 rfl) (tgt := 33) rfl ⟨fun c => ?_, fun c => ?_⟩
  · replace H := H.1 c
    refine a_aload_n (pc := 33) (dk dt_X11_tick 17 rfl) rfl ?_
    refine a_getr (r := 33) (pc := 34) (dk dt_X11_tick 18 rfl) cls_11 fl_RX11_75 cf_1_9 ?_
    refine a_geti (pc := 37) (dk dt_X11_tick 19 rfl) cls_0 fl_RX11_162 cf_34_4 ?_
    exact a_iret (pc := 40) (dk dt_X11_tick 20 rfl) rfl rfl H
  · replace H := H.2 c
    refine a_aload_n (pc := 20) (dk dt_X11_tick 12 rfl) rfl ?_
    refine a_getr (r := 33) (pc := 21) (dk dt_X11_tick 13 rfl) cls_11 fl_RX11_75 cf_1_9 ?_
    refine a_callVv (as := []) (st := []) (pc := 24) (dk dt_X11_tick 14 rfl) cl_RX11_226 ⟨Nat.le_of_ble_eq_true rfl, Nat.le_of_ble_eq_true rfl⟩ ⟨Nat.le_of_ble_eq_true rfl, Nat.le_of_ble_eq_true rfl⟩ cls_0 rfl cc_34 rfl rfl rfl (Nat.le_of_ble_eq_true rfl) (Call.mono H fun _ h2 H => ?_)
    refine a_iinc (pc := 27) (dk dt_X11_tick 15 rfl) (by decide) rfl rfl rfl ?_
    refine a_goto (pc := 30) (dk dt_X11_tick 16 rfl) (tgt := 15) rfl ?_
    exact a_pick [0, 1, 2] rfl H
set_option maxHeartbeats 40000000 in
theorem U_X11_ship_1_0 {G : GG} {Φ : Int → Hp → Prop} {h : Hp} {x1 : Int} (H : (((x1 = 0) → Φ (h 34 4) h) ∧ ((x1 = 1) → Call G m_X6_angle [rv 14, iv (h 34 4)] h (fun r1 h2 => Φ r1 h2)) ∧ ((x1 = 2) → Call G m_X6_isInShadow [rv 14, iv (h 34 4)] h (fun r3 h4 => ((r3 = 0 → Φ 0 h4) ∧ (r3 ≠ 0 → Φ 1 h4)))) ∧ ((x1 = 3) → Φ (h 18 1) h) ∧ ((x1 = 4) → Φ (h 18 4) h) ∧ ((x1 = 5) → Φ (h 34 6) h) ∧ ((x1 = 6) → Φ (h 34 5) h) ∧ ((x1 = 7) → Φ (h 24 1) h) ∧ ((x1 = 8) → Φ (h 24 2) h) ∧ ((x1 = 9) → Φ (h 26 3) h) ∧ ((x1 = 10) → Call G m_X4_recordedPackets [rv 26] h (fun r5 h6 => Φ r5 h6)) ∧ ((x1 = 11) → Φ (h 26 13) h) ∧ ((x1 = 12) → Φ (h 26 14) h) ∧ ((x1 = 13) → Φ (h 34 14) h) ∧ ((x1 = 14) → Φ (h 26 11) h) ∧ (((x1 < 0 ∨ 14 < x1)) → Φ (-1) h))) : AT G m_X11_ship 0 [(0, rv 1), (1, iv x1)] [] h Φ := by
  refine a_iload_n (pc := 0) (dk dt_X11_ship 0 rfl) rfl ?_
  have B0 : (x1 = 0) → AT G m_X11_ship 76 [(0, rv 1), (1, iv x1)] [] h Φ := by
    intro c
    replace H := H.1 c
    refine a_aload_n (pc := 76) (dk dt_X11_ship 2 rfl) rfl ?_
    refine a_getr (r := 33) (pc := 77) (dk dt_X11_ship 3 rfl) cls_11 fl_RX11_75 cf_1_9 ?_
    refine a_geti (pc := 80) (dk dt_X11_ship 4 rfl) cls_0 fl_RX11_162 cf_34_4 ?_
    exact a_iret (pc := 83) (dk dt_X11_ship 5 rfl) rfl rfl H
  have B1 : (x1 = 1) → AT G m_X11_ship 84 [(0, rv 1), (1, iv x1)] [] h Φ := by
    intro c
    replace H := H.2.1 c
    refine a_aload_n (pc := 84) (dk dt_X11_ship 6 rfl) rfl ?_
    refine a_getr (r := 13) (pc := 85) (dk dt_X11_ship 7 rfl) cls_11 fl_RX11_45 cf_1_5 ?_
    refine a_aload_n (pc := 88) (dk dt_X11_ship 8 rfl) rfl ?_
    refine a_getr (r := 33) (pc := 89) (dk dt_X11_ship 9 rfl) cls_11 fl_RX11_75 cf_1_9 ?_
    refine a_geti (pc := 92) (dk dt_X11_ship 10 rfl) cls_0 fl_RX11_162 cf_34_4 ?_
    refine a_callVi (as := [iv (h 34 4)]) (st := []) (pc := 95) (dk dt_X11_ship 11 rfl) cl_RX11_229 ⟨Nat.le_of_ble_eq_true rfl, Nat.le_of_ble_eq_true rfl⟩ ⟨Nat.le_of_ble_eq_true rfl, Nat.le_of_ble_eq_true rfl⟩ cls_6 rfl cc_14 rfl rfl rfl (Nat.le_of_ble_eq_true rfl) (Call.mono H fun r1 h2 H => ?_)
    exact a_iret (pc := 98) (dk dt_X11_ship 12 rfl) rfl rfl H
  have B2 : (x1 = 2) → AT G m_X11_ship 99 [(0, rv 1), (1, iv x1)] [] h Φ := by
    intro c
    replace H := H.2.2.1 c
    refine a_aload_n (pc := 99) (dk dt_X11_ship 13 rfl) rfl ?_
    refine a_getr (r := 13) (pc := 100) (dk dt_X11_ship 14 rfl) cls_11 fl_RX11_45 cf_1_5 ?_
    refine a_aload_n (pc := 103) (dk dt_X11_ship 15 rfl) rfl ?_
    refine a_getr (r := 33) (pc := 104) (dk dt_X11_ship 16 rfl) cls_11 fl_RX11_75 cf_1_9 ?_
    refine a_geti (pc := 107) (dk dt_X11_ship 17 rfl) cls_0 fl_RX11_162 cf_34_4 ?_
    refine a_callVi (as := [iv (h 34 4)]) (st := []) (pc := 110) (dk dt_X11_ship 18 rfl) cl_RX11_233 ⟨Nat.le_of_ble_eq_true rfl, Nat.le_of_ble_eq_true rfl⟩ ⟨Nat.le_of_ble_eq_true rfl, Nat.le_of_ble_eq_true rfl⟩ cls_6 rfl cc_14 rfl rfl rfl (Nat.le_of_ble_eq_true rfl) (Call.mono H fun r3 h4 H => ?_)
    refine a_callSi (as := [iv r3]) (st := []) (pc := 113) (dk dt_X11_ship 19 rfl) cl_RX11_236 ⟨Nat.le_of_ble_eq_true rfl, Nat.le_of_ble_eq_true rfl⟩ ⟨Nat.le_of_ble_eq_true rfl, Nat.le_of_ble_eq_true rfl⟩ rfl rfl rfl (Nat.le_of_ble_eq_true rfl) (Call.of rfl (Nat.le_of_ble_eq_true rfl) rfl ?_)
    refine a_iload_n (pc := 0) (dk dt_X11_bit 0 rfl) rfl ?_
    refine a_if_eq (pc := 1) (dk dt_X11_bit 1 rfl) (tgt := 8) rfl ⟨fun c => ?_, fun c => ?_⟩
    · replace H := H.1 c
      refine a_iconst (pc := 8) (dk dt_X11_bit 4 rfl) (ik rfl) ?_
      refine a_iret (pc := 9) (dk dt_X11_bit 5 rfl) rfl rfl ?_
      show ATW _ _ _ _ _ _ _ _ _ _
      exact a_iret (pc := 116) (dk dt_X11_ship 20 rfl) rfl rfl H
    · replace H := H.2 c
      refine a_iconst (pc := 4) (dk dt_X11_bit 2 rfl) (ik rfl) ?_
      refine a_goto (pc := 5) (dk dt_X11_bit 3 rfl) (tgt := 9) rfl ?_
      refine a_iret (pc := 9) (dk dt_X11_bit 5 rfl) rfl rfl ?_
      show ATW _ _ _ _ _ _ _ _ _ _
      exact a_iret (pc := 116) (dk dt_X11_ship 20 rfl) rfl rfl H
  have B3 : (x1 = 3) → AT G m_X11_ship 117 [(0, rv 1), (1, iv x1)] [] h Φ := by
    intro c
    replace H := H.2.2.2.1 c
    refine a_aload_n (pc := 117) (dk dt_X11_ship 21 rfl) rfl ?_
    refine a_getr (r := 17) (pc := 118) (dk dt_X11_ship 22 rfl) cls_11 fl_RX11_52 cf_1_6 ?_
    refine a_geti (pc := 121) (dk dt_X11_ship 23 rfl) cls_8 fl_RX11_173 cf_18_1 ?_
    exact a_iret (pc := 124) (dk dt_X11_ship 24 rfl) rfl rfl H
  have B4 : (x1 = 4) → AT G m_X11_ship 125 [(0, rv 1), (1, iv x1)] [] h Φ := by
    intro c
    replace H := H.2.2.2.2.1 c
    refine a_aload_n (pc := 125) (dk dt_X11_ship 25 rfl) rfl ?_
    refine a_getr (r := 17) (pc := 126) (dk dt_X11_ship 26 rfl) cls_11 fl_RX11_52 cf_1_6 ?_
    refine a_geti (pc := 129) (dk dt_X11_ship 27 rfl) cls_8 fl_RX11_240 cf_18_4 ?_
    exact a_iret (pc := 132) (dk dt_X11_ship 28 rfl) rfl rfl H
  have B5 : (x1 = 5) → AT G m_X11_ship 133 [(0, rv 1), (1, iv x1)] [] h Φ := by
    intro c
    replace H := H.2.2.2.2.2.1 c
    refine a_aload_n (pc := 133) (dk dt_X11_ship 29 rfl) rfl ?_
    refine a_getr (r := 33) (pc := 134) (dk dt_X11_ship 30 rfl) cls_11 fl_RX11_75 cf_1_9 ?_
    refine a_geti (pc := 137) (dk dt_X11_ship 31 rfl) cls_0 fl_RX11_243 cf_34_6 ?_
    exact a_iret (pc := 140) (dk dt_X11_ship 32 rfl) rfl rfl H
  have B6 : (x1 = 6) → AT G m_X11_ship 141 [(0, rv 1), (1, iv x1)] [] h Φ := by
    intro c
    replace H := H.2.2.2.2.2.2.1 c
    refine a_aload_n (pc := 141) (dk dt_X11_ship 33 rfl) rfl ?_
    refine a_getr (r := 33) (pc := 142) (dk dt_X11_ship 34 rfl) cls_11 fl_RX11_75 cf_1_9 ?_
    refine a_geti (pc := 145) (dk dt_X11_ship 35 rfl) cls_0 fl_RX11_246 cf_34_5 ?_
    exact a_iret (pc := 148) (dk dt_X11_ship 36 rfl) rfl rfl H
  have B7 : (x1 = 7) → AT G m_X11_ship 149 [(0, rv 1), (1, iv x1)] [] h Φ := by
    intro c
    replace H := H.2.2.2.2.2.2.2.1 c
    refine a_aload_n (pc := 149) (dk dt_X11_ship 37 rfl) rfl ?_
    refine a_getr (r := 23) (pc := 150) (dk dt_X11_ship 38 rfl) cls_11 fl_RX11_59 cf_1_7 ?_
    refine a_geti (pc := 153) (dk dt_X11_ship 39 rfl) cls_5 fl_RX11_249 cf_24_1 ?_
    exact a_iret (pc := 156) (dk dt_X11_ship 40 rfl) rfl rfl H
  have B8 : (x1 = 8) → AT G m_X11_ship 157 [(0, rv 1), (1, iv x1)] [] h Φ := by
    intro c
    replace H := H.2.2.2.2.2.2.2.2.1 c
    refine a_aload_n (pc := 157) (dk dt_X11_ship 41 rfl) rfl ?_
    refine a_getr (r := 23) (pc := 158) (dk dt_X11_ship 42 rfl) cls_11 fl_RX11_59 cf_1_7 ?_
    refine a_geti (pc := 161) (dk dt_X11_ship 43 rfl) cls_5 fl_RX11_252 cf_24_2 ?_
    exact a_iret (pc := 164) (dk dt_X11_ship 44 rfl) rfl rfl H
  have B9 : (x1 = 9) → AT G m_X11_ship 165 [(0, rv 1), (1, iv x1)] [] h Φ := by
    intro c
    replace H := H.2.2.2.2.2.2.2.2.2.1 c
    refine a_aload_n (pc := 165) (dk dt_X11_ship 45 rfl) rfl ?_
    refine a_getr (r := 25) (pc := 166) (dk dt_X11_ship 46 rfl) cls_11 fl_RX11_66 cf_1_8 ?_
    refine a_geti (pc := 169) (dk dt_X11_ship 47 rfl) cls_4 fl_RX11_255 cf_26_3 ?_
    exact a_iret (pc := 172) (dk dt_X11_ship 48 rfl) rfl rfl H
  have B10 : (x1 = 10) → AT G m_X11_ship 173 [(0, rv 1), (1, iv x1)] [] h Φ := by
    intro c
    replace H := H.2.2.2.2.2.2.2.2.2.2.1 c
    refine a_aload_n (pc := 173) (dk dt_X11_ship 49 rfl) rfl ?_
    refine a_getr (r := 25) (pc := 174) (dk dt_X11_ship 50 rfl) cls_11 fl_RX11_66 cf_1_8 ?_
    refine a_callVi (as := []) (st := []) (pc := 177) (dk dt_X11_ship 51 rfl) cl_RX11_258 ⟨Nat.le_of_ble_eq_true rfl, Nat.le_of_ble_eq_true rfl⟩ ⟨Nat.le_of_ble_eq_true rfl, Nat.le_of_ble_eq_true rfl⟩ cls_4 rfl cc_26 rfl rfl rfl (Nat.le_of_ble_eq_true rfl) (Call.mono H fun r5 h6 H => ?_)
    exact a_iret (pc := 180) (dk dt_X11_ship 52 rfl) rfl rfl H
  have B11 : (x1 = 11) → AT G m_X11_ship 181 [(0, rv 1), (1, iv x1)] [] h Φ := by
    intro c
    replace H := H.2.2.2.2.2.2.2.2.2.2.2.1 c
    refine a_aload_n (pc := 181) (dk dt_X11_ship 53 rfl) rfl ?_
    refine a_getr (r := 25) (pc := 182) (dk dt_X11_ship 54 rfl) cls_11 fl_RX11_66 cf_1_8 ?_
    refine a_geti (pc := 185) (dk dt_X11_ship 55 rfl) cls_4 fl_RX11_261 cf_26_13 ?_
    exact a_iret (pc := 188) (dk dt_X11_ship 56 rfl) rfl rfl H
  have B12 : (x1 = 12) → AT G m_X11_ship 189 [(0, rv 1), (1, iv x1)] [] h Φ := by
    intro c
    replace H := H.2.2.2.2.2.2.2.2.2.2.2.2.1 c
    refine a_aload_n (pc := 189) (dk dt_X11_ship 57 rfl) rfl ?_
    refine a_getr (r := 25) (pc := 190) (dk dt_X11_ship 58 rfl) cls_11 fl_RX11_66 cf_1_8 ?_
    refine a_geti (pc := 193) (dk dt_X11_ship 59 rfl) cls_4 fl_RX11_264 cf_26_14 ?_
    exact a_iret (pc := 196) (dk dt_X11_ship 60 rfl) rfl rfl H
  have B13 : (x1 = 13) → AT G m_X11_ship 197 [(0, rv 1), (1, iv x1)] [] h Φ := by
    intro c
    replace H := H.2.2.2.2.2.2.2.2.2.2.2.2.2.1 c
    refine a_aload_n (pc := 197) (dk dt_X11_ship 61 rfl) rfl ?_
    refine a_getr (r := 33) (pc := 198) (dk dt_X11_ship 62 rfl) cls_11 fl_RX11_75 cf_1_9 ?_
    refine a_geti (pc := 201) (dk dt_X11_ship 63 rfl) cls_0 fl_RX11_267 cf_34_14 ?_
    exact a_iret (pc := 204) (dk dt_X11_ship 64 rfl) rfl rfl H
  have B14 : (x1 = 14) → AT G m_X11_ship 205 [(0, rv 1), (1, iv x1)] [] h Φ := by
    intro c
    replace H := H.2.2.2.2.2.2.2.2.2.2.2.2.2.2.1 c
    refine a_aload_n (pc := 205) (dk dt_X11_ship 65 rfl) rfl ?_
    refine a_getr (r := 25) (pc := 206) (dk dt_X11_ship 66 rfl) cls_11 fl_RX11_66 cf_1_8 ?_
    refine a_geti (pc := 209) (dk dt_X11_ship 67 rfl) cls_4 fl_RX11_270 cf_26_11 ?_
    exact a_iret (pc := 212) (dk dt_X11_ship 68 rfl) rfl rfl H
  have BD : ((x1 < 0 ∨ 14 < x1)) → AT G m_X11_ship 213 [(0, rv 1), (1, iv x1)] [] h Φ := by
    intro c
    replace H := H.2.2.2.2.2.2.2.2.2.2.2.2.2.2.2 c
    refine a_iconst (pc := 213) (dk dt_X11_ship 69 rfl) (ik rfl) ?_
    exact a_iret (pc := 214) (dk dt_X11_ship 70 rfl) rfl rfl H
  exact a_tsw [76, 84, 99, 117, 125, 133, 141, 149, 157, 165, 173, 181, 189, 197, 205] (pc := 1) (dk dt_X11_ship 1 rfl) (by decide) (dt := 213) rfl (by decide) ⟨⟨fun c => B0 (c), fun c => B1 (c), fun c => B2 (c), fun c => B3 (c), fun c => B4 (c), fun c => B5 (c), fun c => B6 (c), fun c => B7 (c), fun c => B8 (c), fun c => B9 (c), fun c => B10 (c), fun c => B11 (c), fun c => B12 (c), fun c => B13 (c), fun c => B14 (c), trivial⟩, fun c => BD (c)⟩
set_option maxHeartbeats 40000000 in
theorem U_X11_served_1_0 {G : GG} {Φ : Int → Hp → Prop} {h : Hp} {x1 : Int} {x2 : Int} (H : ((x1 < 0 → Φ (-1) h) ∧ (0 ≤ x1 → ((7 < x1 → Φ (-1) h) ∧ (x1 ≤ 7 → ((x2 < 0 → Φ (-1) h) ∧ (0 ≤ x2 → ((1 < x2 → Φ (-1) h) ∧ (x2 ≤ 1 → ((x2 ≠ 0 → (0 ≤ x1 ∧ x1 < 8) ∧ (((h 22 x1) = 0 → Φ 0 h) ∧ ((h 22 x1) ≠ 0 → Φ 1 h))) ∧ (x2 = 0 → (0 ≤ x1 ∧ x1 < 8) ∧ (((h 21 x1) = 0 → Φ 0 h) ∧ ((h 21 x1) ≠ 0 → Φ 1 h))))))))))))) : AT G m_X11_served 0 [(0, rv 1), (1, iv x1), (2, iv x2)] [] h Φ := by
  refine a_iload_n (pc := 0) (dk dt_X11_served 0 rfl) rfl ?_
  refine a_callSi (as := [iv x1]) (st := []) (pc := 1) (dk dt_X11_served 1 rfl) cl_RX11_184 ⟨Nat.le_of_ble_eq_true rfl, Nat.le_of_ble_eq_true rfl⟩ ⟨Nat.le_of_ble_eq_true rfl, Nat.le_of_ble_eq_true rfl⟩ rfl rfl rfl (Nat.le_of_ble_eq_true rfl) (Call.of rfl (Nat.le_of_ble_eq_true rfl) rfl ?_)
  refine a_iload_n (pc := 0) (dk dt_X11_isLoad 0 rfl) rfl ?_
  refine a_iconst (pc := 1) (dk dt_X11_isLoad 1 rfl) (ik rfl) ?_
  refine a_bipush (pc := 2) (dk dt_X11_isLoad 2 rfl) (ik rfl) (bpk rfl) ?_
  refine a_callSi (as := [iv x1, iv 0, iv 7]) (st := []) (pc := 4) (dk dt_X11_isLoad 3 rfl) cl_RX11_104 ⟨Nat.le_of_ble_eq_true rfl, Nat.le_of_ble_eq_true rfl⟩ ⟨Nat.le_of_ble_eq_true rfl, Nat.le_of_ble_eq_true rfl⟩ rfl rfl rfl (Nat.le_of_ble_eq_true rfl) (Call.of rfl (Nat.le_of_ble_eq_true rfl) rfl ?_)
  refine a_iload_n (pc := 0) (dk dt_X11_within 0 rfl) rfl ?_
  refine a_iload_n (pc := 1) (dk dt_X11_within 1 rfl) rfl ?_
  refine a_icmp_lt (pc := 2) (dk dt_X11_within 2 rfl) (tgt := 14) rfl ⟨fun c => ?_, fun c => ?_⟩
  · replace H := H.1 c
    refine a_iconst (pc := 14) (dk dt_X11_within 8 rfl) (ik rfl) ?_
    refine a_zret (pc := 15) (dk dt_X11_within 9 rfl) rfl rfl ⟨by decide, ?_⟩
    show ATW _ _ _ _ _ _ _ _ _ _
    refine a_zret (pc := 7) (dk dt_X11_isLoad 4 rfl) rfl rfl ⟨by decide, ?_⟩
    show ATW _ _ _ _ _ _ _ _ _ _
    refine a_if_eq (pc := 4) (dk dt_X11_served 2 rfl) (tgt := 16) rfl ⟨fun _ => ?_, fun c => absurd c (by decide)⟩
    refine a_iconst (pc := 16) (dk dt_X11_served 8 rfl) (ik rfl) ?_
    exact a_iret (pc := 17) (dk dt_X11_served 9 rfl) rfl rfl H
  · replace H := H.2 c
    refine a_iload_n (pc := 5) (dk dt_X11_within 3 rfl) rfl ?_
    refine a_iload_n (pc := 6) (dk dt_X11_within 4 rfl) rfl ?_
    refine a_icmp_gt (pc := 7) (dk dt_X11_within 5 rfl) (tgt := 14) rfl ⟨fun c => ?_, fun c => ?_⟩
    · replace H := H.1 c
      refine a_iconst (pc := 14) (dk dt_X11_within 8 rfl) (ik rfl) ?_
      refine a_zret (pc := 15) (dk dt_X11_within 9 rfl) rfl rfl ⟨by decide, ?_⟩
      show ATW _ _ _ _ _ _ _ _ _ _
      refine a_zret (pc := 7) (dk dt_X11_isLoad 4 rfl) rfl rfl ⟨by decide, ?_⟩
      show ATW _ _ _ _ _ _ _ _ _ _
      refine a_if_eq (pc := 4) (dk dt_X11_served 2 rfl) (tgt := 16) rfl ⟨fun _ => ?_, fun c => absurd c (by decide)⟩
      refine a_iconst (pc := 16) (dk dt_X11_served 8 rfl) (ik rfl) ?_
      exact a_iret (pc := 17) (dk dt_X11_served 9 rfl) rfl rfl H
    · replace H := H.2 c
      refine a_iconst (pc := 10) (dk dt_X11_within 6 rfl) (ik rfl) ?_
      refine a_goto (pc := 11) (dk dt_X11_within 7 rfl) (tgt := 15) rfl ?_
      refine a_zret (pc := 15) (dk dt_X11_within 9 rfl) rfl rfl ⟨by decide, ?_⟩
      show ATW _ _ _ _ _ _ _ _ _ _
      refine a_zret (pc := 7) (dk dt_X11_isLoad 4 rfl) rfl rfl ⟨by decide, ?_⟩
      show ATW _ _ _ _ _ _ _ _ _ _
      refine a_if_eq (pc := 4) (dk dt_X11_served 2 rfl) (tgt := 16) rfl ⟨fun c => absurd c (by decide), fun _ => ?_⟩
      refine a_iload_n (pc := 7) (dk dt_X11_served 3 rfl) rfl ?_
      refine a_iconst (pc := 8) (dk dt_X11_served 4 rfl) (ik rfl) ?_
      refine a_iconst (pc := 9) (dk dt_X11_served 5 rfl) (ik rfl) ?_
      refine a_callSi (as := [iv x2, iv 0, iv 1]) (st := []) (pc := 10) (dk dt_X11_served 6 rfl) cl_RX11_104 ⟨Nat.le_of_ble_eq_true rfl, Nat.le_of_ble_eq_true rfl⟩ ⟨Nat.le_of_ble_eq_true rfl, Nat.le_of_ble_eq_true rfl⟩ rfl rfl rfl (Nat.le_of_ble_eq_true rfl) (Call.of rfl (Nat.le_of_ble_eq_true rfl) rfl ?_)
      refine a_iload_n (pc := 0) (dk dt_X11_within 0 rfl) rfl ?_
      refine a_iload_n (pc := 1) (dk dt_X11_within 1 rfl) rfl ?_
      refine a_icmp_lt (pc := 2) (dk dt_X11_within 2 rfl) (tgt := 14) rfl ⟨fun c => ?_, fun c => ?_⟩
      · replace H := H.1 c
        refine a_iconst (pc := 14) (dk dt_X11_within 8 rfl) (ik rfl) ?_
        refine a_zret (pc := 15) (dk dt_X11_within 9 rfl) rfl rfl ⟨by decide, ?_⟩
        show ATW _ _ _ _ _ _ _ _ _ _
        refine a_if_ne (pc := 13) (dk dt_X11_served 7 rfl) (tgt := 18) rfl ⟨fun c => absurd c (by decide), fun _ => ?_⟩
        refine a_iconst (pc := 16) (dk dt_X11_served 8 rfl) (ik rfl) ?_
        exact a_iret (pc := 17) (dk dt_X11_served 9 rfl) rfl rfl H
      · replace H := H.2 c
        refine a_iload_n (pc := 5) (dk dt_X11_within 3 rfl) rfl ?_
        refine a_iload_n (pc := 6) (dk dt_X11_within 4 rfl) rfl ?_
        refine a_icmp_gt (pc := 7) (dk dt_X11_within 5 rfl) (tgt := 14) rfl ⟨fun c => ?_, fun c => ?_⟩
        · replace H := H.1 c
          refine a_iconst (pc := 14) (dk dt_X11_within 8 rfl) (ik rfl) ?_
          refine a_zret (pc := 15) (dk dt_X11_within 9 rfl) rfl rfl ⟨by decide, ?_⟩
          show ATW _ _ _ _ _ _ _ _ _ _
          refine a_if_ne (pc := 13) (dk dt_X11_served 7 rfl) (tgt := 18) rfl ⟨fun c => absurd c (by decide), fun _ => ?_⟩
          refine a_iconst (pc := 16) (dk dt_X11_served 8 rfl) (ik rfl) ?_
          exact a_iret (pc := 17) (dk dt_X11_served 9 rfl) rfl rfl H
        · replace H := H.2 c
          refine a_iconst (pc := 10) (dk dt_X11_within 6 rfl) (ik rfl) ?_
          refine a_goto (pc := 11) (dk dt_X11_within 7 rfl) (tgt := 15) rfl ?_
          refine a_zret (pc := 15) (dk dt_X11_within 9 rfl) rfl rfl ⟨by decide, ?_⟩
          show ATW _ _ _ _ _ _ _ _ _ _
          refine a_if_ne (pc := 13) (dk dt_X11_served 7 rfl) (tgt := 18) rfl ⟨fun _ => ?_, fun c => absurd c (by decide)⟩
          refine a_iload_n (pc := 18) (dk dt_X11_served 10 rfl) rfl ?_
          refine a_if_ne (pc := 19) (dk dt_X11_served 11 rfl) (tgt := 34) rfl ⟨fun c => ?_, fun c => ?_⟩
          · replace H := H.1 c
            refine a_aload_n (pc := 34) (dk dt_X11_served 18 rfl) rfl ?_
            refine a_getr (r := 17) (pc := 35) (dk dt_X11_served 19 rfl) cls_11 fl_RX11_52 cf_1_6 ?_
            refine a_getr (r := 21) (pc := 38) (dk dt_X11_served 20 rfl) cls_8 fl_RX11_277 cf_18_8 ?_
            refine a_iload_n (pc := 41) (dk dt_X11_served 21 rfl) rfl ?_
            refine a_zald (pc := 42) (dk dt_X11_served 22 rfl) ar_22 ⟨H.1, ?_⟩
            replace H := H.2
            refine a_callSi (as := [iv (h 22 x1)]) (st := []) (pc := 43) (dk dt_X11_served 23 rfl) cl_RX11_236 ⟨Nat.le_of_ble_eq_true rfl, Nat.le_of_ble_eq_true rfl⟩ ⟨Nat.le_of_ble_eq_true rfl, Nat.le_of_ble_eq_true rfl⟩ rfl rfl rfl (Nat.le_of_ble_eq_true rfl) (Call.of rfl (Nat.le_of_ble_eq_true rfl) rfl ?_)
            refine a_iload_n (pc := 0) (dk dt_X11_bit 0 rfl) rfl ?_
            refine a_if_eq (pc := 1) (dk dt_X11_bit 1 rfl) (tgt := 8) rfl ⟨fun c => ?_, fun c => ?_⟩
            · replace H := H.1 c
              refine a_iconst (pc := 8) (dk dt_X11_bit 4 rfl) (ik rfl) ?_
              refine a_iret (pc := 9) (dk dt_X11_bit 5 rfl) rfl rfl ?_
              show ATW _ _ _ _ _ _ _ _ _ _
              exact a_iret (pc := 46) (dk dt_X11_served 24 rfl) rfl rfl H
            · replace H := H.2 c
              refine a_iconst (pc := 4) (dk dt_X11_bit 2 rfl) (ik rfl) ?_
              refine a_goto (pc := 5) (dk dt_X11_bit 3 rfl) (tgt := 9) rfl ?_
              refine a_iret (pc := 9) (dk dt_X11_bit 5 rfl) rfl rfl ?_
              show ATW _ _ _ _ _ _ _ _ _ _
              exact a_iret (pc := 46) (dk dt_X11_served 24 rfl) rfl rfl H
          · replace H := H.2 c
            refine a_aload_n (pc := 22) (dk dt_X11_served 12 rfl) rfl ?_
            refine a_getr (r := 17) (pc := 23) (dk dt_X11_served 13 rfl) cls_11 fl_RX11_52 cf_1_6 ?_
            refine a_getr (r := 20) (pc := 26) (dk dt_X11_served 14 rfl) cls_8 fl_RX11_273 cf_18_7 ?_
            refine a_iload_n (pc := 29) (dk dt_X11_served 15 rfl) rfl ?_
            refine a_zald (pc := 30) (dk dt_X11_served 16 rfl) ar_21 ⟨H.1, ?_⟩
            replace H := H.2
            refine a_goto (pc := 31) (dk dt_X11_served 17 rfl) (tgt := 43) rfl ?_
            refine a_callSi (as := [iv (h 21 x1)]) (st := []) (pc := 43) (dk dt_X11_served 23 rfl) cl_RX11_236 ⟨Nat.le_of_ble_eq_true rfl, Nat.le_of_ble_eq_true rfl⟩ ⟨Nat.le_of_ble_eq_true rfl, Nat.le_of_ble_eq_true rfl⟩ rfl rfl rfl (Nat.le_of_ble_eq_true rfl) (Call.of rfl (Nat.le_of_ble_eq_true rfl) rfl ?_)
            refine a_iload_n (pc := 0) (dk dt_X11_bit 0 rfl) rfl ?_
            refine a_if_eq (pc := 1) (dk dt_X11_bit 1 rfl) (tgt := 8) rfl ⟨fun c => ?_, fun c => ?_⟩
            · replace H := H.1 c
              refine a_iconst (pc := 8) (dk dt_X11_bit 4 rfl) (ik rfl) ?_
              refine a_iret (pc := 9) (dk dt_X11_bit 5 rfl) rfl rfl ?_
              show ATW _ _ _ _ _ _ _ _ _ _
              exact a_iret (pc := 46) (dk dt_X11_served 24 rfl) rfl rfl H
            · replace H := H.2 c
              refine a_iconst (pc := 4) (dk dt_X11_bit 2 rfl) (ik rfl) ?_
              refine a_goto (pc := 5) (dk dt_X11_bit 3 rfl) (tgt := 9) rfl ?_
              refine a_iret (pc := 9) (dk dt_X11_bit 5 rfl) rfl rfl ?_
              show ATW _ _ _ _ _ _ _ _ _ _
              exact a_iret (pc := 46) (dk dt_X11_served 24 rfl) rfl rfl H
set_option maxHeartbeats 40000000 in
theorem U_X11_runs_1_0 {G : GG} {Φ : Int → Hp → Prop} {h : Hp} {x1 : Int} {x2 : Int} (H : ((x1 < 0 → Φ (-1) h) ∧ (0 ≤ x1 → ((7 < x1 → Φ (-1) h) ∧ (x1 ≤ 7 → (((x2 = 0) → Call G m_X3_countFrom [rv 36, iv (w32 (x1 * 30))] h (fun r1 h2 => Φ r1 h2)) ∧ ((x2 = 1) → (0 ≤ x1 ∧ x1 < 8) ∧ (((h 50 x1) = (-1) → Φ 0 h) ∧ ((h 50 x1) ≠ (-1) → Φ 1 h))) ∧ ((x2 = 2) → (0 ≤ x1 ∧ x1 < 8) ∧ Φ (h 50 x1) h) ∧ ((x2 = 3) → (0 ≤ x1 ∧ x1 < 8) ∧ Φ (h 51 x1) h) ∧ (((x2 < 0 ∨ 3 < x2)) → Φ (-1) h))))))) : AT G m_X11_runs 0 [(0, rv 1), (1, iv x1), (2, iv x2)] [] h Φ := by
  refine a_iload_n (pc := 0) (dk dt_X11_runs 0 rfl) rfl ?_
  refine a_callSi (as := [iv x1]) (st := []) (pc := 1) (dk dt_X11_runs 1 rfl) cl_RX11_196 ⟨Nat.le_of_ble_eq_true rfl, Nat.le_of_ble_eq_true rfl⟩ ⟨Nat.le_of_ble_eq_true rfl, Nat.le_of_ble_eq_true rfl⟩ rfl rfl rfl (Nat.le_of_ble_eq_true rfl) (Call.of rfl (Nat.le_of_ble_eq_true rfl) rfl ?_)
  refine a_iload_n (pc := 0) (dk dt_X11_isProgram 0 rfl) rfl ?_
  refine a_iconst (pc := 1) (dk dt_X11_isProgram 1 rfl) (ik rfl) ?_
  refine a_bipush (pc := 2) (dk dt_X11_isProgram 2 rfl) (ik rfl) (bpk rfl) ?_
  refine a_callSi (as := [iv x1, iv 0, iv 7]) (st := []) (pc := 4) (dk dt_X11_isProgram 3 rfl) cl_RX11_104 ⟨Nat.le_of_ble_eq_true rfl, Nat.le_of_ble_eq_true rfl⟩ ⟨Nat.le_of_ble_eq_true rfl, Nat.le_of_ble_eq_true rfl⟩ rfl rfl rfl (Nat.le_of_ble_eq_true rfl) (Call.of rfl (Nat.le_of_ble_eq_true rfl) rfl ?_)
  refine a_iload_n (pc := 0) (dk dt_X11_within 0 rfl) rfl ?_
  refine a_iload_n (pc := 1) (dk dt_X11_within 1 rfl) rfl ?_
  refine a_icmp_lt (pc := 2) (dk dt_X11_within 2 rfl) (tgt := 14) rfl ⟨fun c => ?_, fun c => ?_⟩
  · replace H := H.1 c
    refine a_iconst (pc := 14) (dk dt_X11_within 8 rfl) (ik rfl) ?_
    refine a_zret (pc := 15) (dk dt_X11_within 9 rfl) rfl rfl ⟨by decide, ?_⟩
    show ATW _ _ _ _ _ _ _ _ _ _
    refine a_zret (pc := 7) (dk dt_X11_isProgram 4 rfl) rfl rfl ⟨by decide, ?_⟩
    show ATW _ _ _ _ _ _ _ _ _ _
    refine a_if_ne (pc := 4) (dk dt_X11_runs 2 rfl) (tgt := 9) rfl ⟨fun c => absurd c (by decide), fun _ => ?_⟩
    refine a_iconst (pc := 7) (dk dt_X11_runs 3 rfl) (ik rfl) ?_
    exact a_iret (pc := 8) (dk dt_X11_runs 4 rfl) rfl rfl H
  · replace H := H.2 c
    refine a_iload_n (pc := 5) (dk dt_X11_within 3 rfl) rfl ?_
    refine a_iload_n (pc := 6) (dk dt_X11_within 4 rfl) rfl ?_
    refine a_icmp_gt (pc := 7) (dk dt_X11_within 5 rfl) (tgt := 14) rfl ⟨fun c => ?_, fun c => ?_⟩
    · replace H := H.1 c
      refine a_iconst (pc := 14) (dk dt_X11_within 8 rfl) (ik rfl) ?_
      refine a_zret (pc := 15) (dk dt_X11_within 9 rfl) rfl rfl ⟨by decide, ?_⟩
      show ATW _ _ _ _ _ _ _ _ _ _
      refine a_zret (pc := 7) (dk dt_X11_isProgram 4 rfl) rfl rfl ⟨by decide, ?_⟩
      show ATW _ _ _ _ _ _ _ _ _ _
      refine a_if_ne (pc := 4) (dk dt_X11_runs 2 rfl) (tgt := 9) rfl ⟨fun c => absurd c (by decide), fun _ => ?_⟩
      refine a_iconst (pc := 7) (dk dt_X11_runs 3 rfl) (ik rfl) ?_
      exact a_iret (pc := 8) (dk dt_X11_runs 4 rfl) rfl rfl H
    · replace H := H.2 c
      refine a_iconst (pc := 10) (dk dt_X11_within 6 rfl) (ik rfl) ?_
      refine a_goto (pc := 11) (dk dt_X11_within 7 rfl) (tgt := 15) rfl ?_
      refine a_zret (pc := 15) (dk dt_X11_within 9 rfl) rfl rfl ⟨by decide, ?_⟩
      show ATW _ _ _ _ _ _ _ _ _ _
      refine a_zret (pc := 7) (dk dt_X11_isProgram 4 rfl) rfl rfl ⟨by decide, ?_⟩
      show ATW _ _ _ _ _ _ _ _ _ _
      refine a_if_ne (pc := 4) (dk dt_X11_runs 2 rfl) (tgt := 9) rfl ⟨fun _ => ?_, fun c => absurd c (by decide)⟩
      refine a_iload_n (pc := 9) (dk dt_X11_runs 5 rfl) rfl ?_
      have B0 : (x2 = 0) → AT G m_X11_runs 40 [(0, rv 1), (1, iv x1), (2, iv x2)] [] h Φ := by
        intro c
        replace H := H.1 c
        refine a_aload_n (pc := 40) (dk dt_X11_runs 7 rfl) rfl ?_
        refine a_getr (r := 33) (pc := 41) (dk dt_X11_runs 8 rfl) cls_11 fl_RX11_75 cf_1_9 ?_
        refine a_getr (r := 35) (pc := 44) (dk dt_X11_runs 9 rfl) cls_0 fl_RX11_280 cf_34_8 ?_
        refine a_iload_n (pc := 47) (dk dt_X11_runs 10 rfl) rfl ?_
        refine a_bipush (pc := 48) (dk dt_X11_runs 11 rfl) (ik rfl) (bpk rfl) ?_
        refine a_imul (pc := 50) (dk dt_X11_runs 12 rfl) ?_
        refine a_callVi (as := [iv (w32 (x1 * 30))]) (st := []) (pc := 51) (dk dt_X11_runs 13 rfl) cl_RX11_283 ⟨Nat.le_of_ble_eq_true rfl, Nat.le_of_ble_eq_true rfl⟩ ⟨Nat.le_of_ble_eq_true rfl, Nat.le_of_ble_eq_true rfl⟩ cls_3 rfl cc_36 rfl rfl rfl (Nat.le_of_ble_eq_true rfl) (Call.mono H fun r1 h2 H => ?_)
        exact a_iret (pc := 54) (dk dt_X11_runs 14 rfl) rfl rfl H
      have B1 : (x2 = 1) → AT G m_X11_runs 55 [(0, rv 1), (1, iv x1), (2, iv x2)] [] h Φ := by
        intro c
        replace H := H.2.1 c
        refine a_aload_n (pc := 55) (dk dt_X11_runs 15 rfl) rfl ?_
        refine a_getr (r := 33) (pc := 56) (dk dt_X11_runs 16 rfl) cls_11 fl_RX11_75 cf_1_9 ?_
        refine a_getr (r := 49) (pc := 59) (dk dt_X11_runs 17 rfl) cls_0 fl_RX11_286 cf_34_10 ?_
        refine a_iload_n (pc := 62) (dk dt_X11_runs 18 rfl) rfl ?_
        refine a_iald (pc := 63) (dk dt_X11_runs 19 rfl) ar_50 ⟨H.1, ?_⟩
        replace H := H.2
        refine a_iconst (pc := 64) (dk dt_X11_runs 20 rfl) (ik rfl) ?_
        refine a_icmp_eq (pc := 65) (dk dt_X11_runs 21 rfl) (tgt := 72) rfl ⟨fun c => ?_, fun c => ?_⟩
        · replace H := H.1 c
          refine a_iconst (pc := 72) (dk dt_X11_runs 24 rfl) (ik rfl) ?_
          refine a_callSi (as := [iv 0]) (st := []) (pc := 73) (dk dt_X11_runs 25 rfl) cl_RX11_236 ⟨Nat.le_of_ble_eq_true rfl, Nat.le_of_ble_eq_true rfl⟩ ⟨Nat.le_of_ble_eq_true rfl, Nat.le_of_ble_eq_true rfl⟩ rfl rfl rfl (Nat.le_of_ble_eq_true rfl) (Call.of rfl (Nat.le_of_ble_eq_true rfl) rfl ?_)
          refine a_iload_n (pc := 0) (dk dt_X11_bit 0 rfl) rfl ?_
          refine a_if_eq (pc := 1) (dk dt_X11_bit 1 rfl) (tgt := 8) rfl ⟨fun _ => ?_, fun c => absurd c (by decide)⟩
          refine a_iconst (pc := 8) (dk dt_X11_bit 4 rfl) (ik rfl) ?_
          refine a_iret (pc := 9) (dk dt_X11_bit 5 rfl) rfl rfl ?_
          show ATW _ _ _ _ _ _ _ _ _ _
          exact a_iret (pc := 76) (dk dt_X11_runs 26 rfl) rfl rfl H
        · replace H := H.2 c
          refine a_iconst (pc := 68) (dk dt_X11_runs 22 rfl) (ik rfl) ?_
          refine a_goto (pc := 69) (dk dt_X11_runs 23 rfl) (tgt := 73) rfl ?_
          refine a_callSi (as := [iv 1]) (st := []) (pc := 73) (dk dt_X11_runs 25 rfl) cl_RX11_236 ⟨Nat.le_of_ble_eq_true rfl, Nat.le_of_ble_eq_true rfl⟩ ⟨Nat.le_of_ble_eq_true rfl, Nat.le_of_ble_eq_true rfl⟩ rfl rfl rfl (Nat.le_of_ble_eq_true rfl) (Call.of rfl (Nat.le_of_ble_eq_true rfl) rfl ?_)
          refine a_iload_n (pc := 0) (dk dt_X11_bit 0 rfl) rfl ?_
          refine a_if_eq (pc := 1) (dk dt_X11_bit 1 rfl) (tgt := 8) rfl ⟨fun c => absurd c (by decide), fun _ => ?_⟩
          refine a_iconst (pc := 4) (dk dt_X11_bit 2 rfl) (ik rfl) ?_
          refine a_goto (pc := 5) (dk dt_X11_bit 3 rfl) (tgt := 9) rfl ?_
          refine a_iret (pc := 9) (dk dt_X11_bit 5 rfl) rfl rfl ?_
          show ATW _ _ _ _ _ _ _ _ _ _
          exact a_iret (pc := 76) (dk dt_X11_runs 26 rfl) rfl rfl H
      have B2 : (x2 = 2) → AT G m_X11_runs 77 [(0, rv 1), (1, iv x1), (2, iv x2)] [] h Φ := by
        intro c
        replace H := H.2.2.1 c
        refine a_aload_n (pc := 77) (dk dt_X11_runs 27 rfl) rfl ?_
        refine a_getr (r := 33) (pc := 78) (dk dt_X11_runs 28 rfl) cls_11 fl_RX11_75 cf_1_9 ?_
        refine a_getr (r := 49) (pc := 81) (dk dt_X11_runs 29 rfl) cls_0 fl_RX11_286 cf_34_10 ?_
        refine a_iload_n (pc := 84) (dk dt_X11_runs 30 rfl) rfl ?_
        refine a_iald (pc := 85) (dk dt_X11_runs 31 rfl) ar_50 ⟨H.1, ?_⟩
        replace H := H.2
        exact a_iret (pc := 86) (dk dt_X11_runs 32 rfl) rfl rfl H
      have B3 : (x2 = 3) → AT G m_X11_runs 87 [(0, rv 1), (1, iv x1), (2, iv x2)] [] h Φ := by
        intro c
        replace H := H.2.2.2.1 c
        refine a_aload_n (pc := 87) (dk dt_X11_runs 33 rfl) rfl ?_
        refine a_getr (r := 33) (pc := 88) (dk dt_X11_runs 34 rfl) cls_11 fl_RX11_75 cf_1_9 ?_
        refine a_getr (r := 50) (pc := 91) (dk dt_X11_runs 35 rfl) cls_0 fl_RX11_289 cf_34_11 ?_
        refine a_iload_n (pc := 94) (dk dt_X11_runs 36 rfl) rfl ?_
        refine a_iald (pc := 95) (dk dt_X11_runs 37 rfl) ar_51 ⟨H.1, ?_⟩
        replace H := H.2
        exact a_iret (pc := 96) (dk dt_X11_runs 38 rfl) rfl rfl H
      have BD : ((x2 < 0 ∨ 3 < x2)) → AT G m_X11_runs 97 [(0, rv 1), (1, iv x1), (2, iv x2)] [] h Φ := by
        intro c
        replace H := H.2.2.2.2 c
        refine a_iconst (pc := 97) (dk dt_X11_runs 39 rfl) (ik rfl) ?_
        exact a_iret (pc := 98) (dk dt_X11_runs 40 rfl) rfl rfl H
      exact a_tsw [40, 55, 77, 87] (pc := 10) (dk dt_X11_runs 6 rfl) (by decide) (dt := 97) rfl (by decide) ⟨⟨fun c => B0 (c), fun c => B1 (c), fun c => B2 (c), fun c => B3 (c), trivial⟩, fun c => BD (c)⟩
set_option maxHeartbeats 40000000 in
theorem U_X11_word_1_0 {G : GG} {Φ : Int → Hp → Prop} {h : Hp} {x1 : Int} {x2 : Int} (H : ((x1 < 0 → Φ (-1) h) ∧ (0 ≤ x1 → ((63 < x1 → Φ (-1) h) ∧ (x1 ≤ 63 → ((x2 < 0 → Φ (-1) h) ∧ (0 ≤ x2 → ((1 < x2 → Φ (-1) h) ∧ (x2 ≤ 1 → ((x2 ≠ 0 → Call G m_X5_byteOf [rv 24, iv x1] h (fun r1 h2 => Φ r1 h2)) ∧ (x2 = 0 → (0 ≤ x1 ∧ x1 < 64) ∧ Φ (h 25 x1) h))))))))))) : AT G m_X11_word 0 [(0, rv 1), (1, iv x1), (2, iv x2)] [] h Φ := by
  refine a_iload_n (pc := 0) (dk dt_X11_word 0 rfl) rfl ?_
  refine a_callSi (as := [iv x1]) (st := []) (pc := 1) (dk dt_X11_word 1 rfl) cl_RX11_220 ⟨Nat.le_of_ble_eq_true rfl, Nat.le_of_ble_eq_true rfl⟩ ⟨Nat.le_of_ble_eq_true rfl, Nat.le_of_ble_eq_true rfl⟩ rfl rfl rfl (Nat.le_of_ble_eq_true rfl) (Call.of rfl (Nat.le_of_ble_eq_true rfl) rfl ?_)
  refine a_iload_n (pc := 0) (dk dt_X11_isWord 0 rfl) rfl ?_
  refine a_iconst (pc := 1) (dk dt_X11_isWord 1 rfl) (ik rfl) ?_
  refine a_bipush (pc := 2) (dk dt_X11_isWord 2 rfl) (ik rfl) (bpk rfl) ?_
  refine a_callSi (as := [iv x1, iv 0, iv 63]) (st := []) (pc := 4) (dk dt_X11_isWord 3 rfl) cl_RX11_104 ⟨Nat.le_of_ble_eq_true rfl, Nat.le_of_ble_eq_true rfl⟩ ⟨Nat.le_of_ble_eq_true rfl, Nat.le_of_ble_eq_true rfl⟩ rfl rfl rfl (Nat.le_of_ble_eq_true rfl) (Call.of rfl (Nat.le_of_ble_eq_true rfl) rfl ?_)
  refine a_iload_n (pc := 0) (dk dt_X11_within 0 rfl) rfl ?_
  refine a_iload_n (pc := 1) (dk dt_X11_within 1 rfl) rfl ?_
  refine a_icmp_lt (pc := 2) (dk dt_X11_within 2 rfl) (tgt := 14) rfl ⟨fun c => ?_, fun c => ?_⟩
  · replace H := H.1 c
    refine a_iconst (pc := 14) (dk dt_X11_within 8 rfl) (ik rfl) ?_
    refine a_zret (pc := 15) (dk dt_X11_within 9 rfl) rfl rfl ⟨by decide, ?_⟩
    show ATW _ _ _ _ _ _ _ _ _ _
    refine a_zret (pc := 7) (dk dt_X11_isWord 4 rfl) rfl rfl ⟨by decide, ?_⟩
    show ATW _ _ _ _ _ _ _ _ _ _
    refine a_if_eq (pc := 4) (dk dt_X11_word 2 rfl) (tgt := 16) rfl ⟨fun _ => ?_, fun c => absurd c (by decide)⟩
    refine a_iconst (pc := 16) (dk dt_X11_word 8 rfl) (ik rfl) ?_
    exact a_iret (pc := 17) (dk dt_X11_word 9 rfl) rfl rfl H
  · replace H := H.2 c
    refine a_iload_n (pc := 5) (dk dt_X11_within 3 rfl) rfl ?_
    refine a_iload_n (pc := 6) (dk dt_X11_within 4 rfl) rfl ?_
    refine a_icmp_gt (pc := 7) (dk dt_X11_within 5 rfl) (tgt := 14) rfl ⟨fun c => ?_, fun c => ?_⟩
    · replace H := H.1 c
      refine a_iconst (pc := 14) (dk dt_X11_within 8 rfl) (ik rfl) ?_
      refine a_zret (pc := 15) (dk dt_X11_within 9 rfl) rfl rfl ⟨by decide, ?_⟩
      show ATW _ _ _ _ _ _ _ _ _ _
      refine a_zret (pc := 7) (dk dt_X11_isWord 4 rfl) rfl rfl ⟨by decide, ?_⟩
      show ATW _ _ _ _ _ _ _ _ _ _
      refine a_if_eq (pc := 4) (dk dt_X11_word 2 rfl) (tgt := 16) rfl ⟨fun _ => ?_, fun c => absurd c (by decide)⟩
      refine a_iconst (pc := 16) (dk dt_X11_word 8 rfl) (ik rfl) ?_
      exact a_iret (pc := 17) (dk dt_X11_word 9 rfl) rfl rfl H
    · replace H := H.2 c
      refine a_iconst (pc := 10) (dk dt_X11_within 6 rfl) (ik rfl) ?_
      refine a_goto (pc := 11) (dk dt_X11_within 7 rfl) (tgt := 15) rfl ?_
      refine a_zret (pc := 15) (dk dt_X11_within 9 rfl) rfl rfl ⟨by decide, ?_⟩
      show ATW _ _ _ _ _ _ _ _ _ _
      refine a_zret (pc := 7) (dk dt_X11_isWord 4 rfl) rfl rfl ⟨by decide, ?_⟩
      show ATW _ _ _ _ _ _ _ _ _ _
      refine a_if_eq (pc := 4) (dk dt_X11_word 2 rfl) (tgt := 16) rfl ⟨fun c => absurd c (by decide), fun _ => ?_⟩
      refine a_iload_n (pc := 7) (dk dt_X11_word 3 rfl) rfl ?_
      refine a_iconst (pc := 8) (dk dt_X11_word 4 rfl) (ik rfl) ?_
      refine a_iconst (pc := 9) (dk dt_X11_word 5 rfl) (ik rfl) ?_
      refine a_callSi (as := [iv x2, iv 0, iv 1]) (st := []) (pc := 10) (dk dt_X11_word 6 rfl) cl_RX11_104 ⟨Nat.le_of_ble_eq_true rfl, Nat.le_of_ble_eq_true rfl⟩ ⟨Nat.le_of_ble_eq_true rfl, Nat.le_of_ble_eq_true rfl⟩ rfl rfl rfl (Nat.le_of_ble_eq_true rfl) (Call.of rfl (Nat.le_of_ble_eq_true rfl) rfl ?_)
      refine a_iload_n (pc := 0) (dk dt_X11_within 0 rfl) rfl ?_
      refine a_iload_n (pc := 1) (dk dt_X11_within 1 rfl) rfl ?_
      refine a_icmp_lt (pc := 2) (dk dt_X11_within 2 rfl) (tgt := 14) rfl ⟨fun c => ?_, fun c => ?_⟩
      · replace H := H.1 c
        refine a_iconst (pc := 14) (dk dt_X11_within 8 rfl) (ik rfl) ?_
        refine a_zret (pc := 15) (dk dt_X11_within 9 rfl) rfl rfl ⟨by decide, ?_⟩
        show ATW _ _ _ _ _ _ _ _ _ _
        refine a_if_ne (pc := 13) (dk dt_X11_word 7 rfl) (tgt := 18) rfl ⟨fun c => absurd c (by decide), fun _ => ?_⟩
        refine a_iconst (pc := 16) (dk dt_X11_word 8 rfl) (ik rfl) ?_
        exact a_iret (pc := 17) (dk dt_X11_word 9 rfl) rfl rfl H
      · replace H := H.2 c
        refine a_iload_n (pc := 5) (dk dt_X11_within 3 rfl) rfl ?_
        refine a_iload_n (pc := 6) (dk dt_X11_within 4 rfl) rfl ?_
        refine a_icmp_gt (pc := 7) (dk dt_X11_within 5 rfl) (tgt := 14) rfl ⟨fun c => ?_, fun c => ?_⟩
        · replace H := H.1 c
          refine a_iconst (pc := 14) (dk dt_X11_within 8 rfl) (ik rfl) ?_
          refine a_zret (pc := 15) (dk dt_X11_within 9 rfl) rfl rfl ⟨by decide, ?_⟩
          show ATW _ _ _ _ _ _ _ _ _ _
          refine a_if_ne (pc := 13) (dk dt_X11_word 7 rfl) (tgt := 18) rfl ⟨fun c => absurd c (by decide), fun _ => ?_⟩
          refine a_iconst (pc := 16) (dk dt_X11_word 8 rfl) (ik rfl) ?_
          exact a_iret (pc := 17) (dk dt_X11_word 9 rfl) rfl rfl H
        · replace H := H.2 c
          refine a_iconst (pc := 10) (dk dt_X11_within 6 rfl) (ik rfl) ?_
          refine a_goto (pc := 11) (dk dt_X11_within 7 rfl) (tgt := 15) rfl ?_
          refine a_zret (pc := 15) (dk dt_X11_within 9 rfl) rfl rfl ⟨by decide, ?_⟩
          show ATW _ _ _ _ _ _ _ _ _ _
          refine a_if_ne (pc := 13) (dk dt_X11_word 7 rfl) (tgt := 18) rfl ⟨fun _ => ?_, fun c => absurd c (by decide)⟩
          refine a_iload_n (pc := 18) (dk dt_X11_word 10 rfl) rfl ?_
          refine a_if_ne (pc := 19) (dk dt_X11_word 11 rfl) (tgt := 34) rfl ⟨fun c => ?_, fun c => ?_⟩
          · replace H := H.1 c
            refine a_aload_n (pc := 34) (dk dt_X11_word 18 rfl) rfl ?_
            refine a_getr (r := 23) (pc := 35) (dk dt_X11_word 19 rfl) cls_11 fl_RX11_59 cf_1_7 ?_
            refine a_iload_n (pc := 38) (dk dt_X11_word 20 rfl) rfl ?_
            refine a_callVi (as := [iv x1]) (st := []) (pc := 39) (dk dt_X11_word 21 rfl) cl_RX11_292 ⟨Nat.le_of_ble_eq_true rfl, Nat.le_of_ble_eq_true rfl⟩ ⟨Nat.le_of_ble_eq_true rfl, Nat.le_of_ble_eq_true rfl⟩ cls_5 rfl cc_24 rfl rfl rfl (Nat.le_of_ble_eq_true rfl) (Call.mono H fun r1 h2 H => ?_)
            exact a_iret (pc := 42) (dk dt_X11_word 22 rfl) rfl rfl H
          · replace H := H.2 c
            refine a_aload_n (pc := 22) (dk dt_X11_word 12 rfl) rfl ?_
            refine a_getr (r := 23) (pc := 23) (dk dt_X11_word 13 rfl) cls_11 fl_RX11_59 cf_1_7 ?_
            refine a_getr (r := 24) (pc := 26) (dk dt_X11_word 14 rfl) cls_5 fl_RX11_223 cf_24_0 ?_
            refine a_iload_n (pc := 29) (dk dt_X11_word 15 rfl) rfl ?_
            refine a_iald (pc := 30) (dk dt_X11_word 16 rfl) ar_25 ⟨H.1, ?_⟩
            replace H := H.2
            refine a_goto (pc := 31) (dk dt_X11_word 17 rfl) (tgt := 42) rfl ?_
            exact a_iret (pc := 42) (dk dt_X11_word 22 rfl) rfl rfl H
set_option maxHeartbeats 40000000 in
theorem U_X11_noise_1_0 {G : GG} {Φ : Int → Hp → Prop} {h : Hp} {x1 : Int} {x2 : Int} (H : (((h 26 11) = 0 → Φ (-1) h) ∧ ((h 26 11) ≠ 0 → ((x1 < 0 → Φ (-1) h) ∧ (0 ≤ x1 → ((23 < x1 → Φ (-1) h) ∧ (x1 ≤ 23 → (0 ≤ (w32 ((w32 ((h 26 10) * 24)) + x1)) ∧ (w32 ((w32 ((h 26 10) * 24)) + x1)) < 744) ∧ (0 ≤ (w32 ((w32 ((h 26 10) * 24)) + x1)) ∧ (w32 ((w32 ((h 26 10) * 24)) + x1)) < 744) ∧ (0 ≤ (w32 ((w32 ((h 26 10) * 24)) + x1)) ∧ (w32 ((w32 ((h 26 10) * 24)) + x1)) < 744) ∧ Φ (bxor (h 33 (w32 ((w32 ((h 26 10) * 24)) + x1))) (band x2 255)) (up h 33 (w32 ((w32 ((h 26 10) * 24)) + x1)) (bxor (h 33 (w32 ((w32 ((h 26 10) * 24)) + x1))) (band x2 255)))))))))) : AT G m_X11_noise 0 [(0, rv 1), (1, iv x1), (2, iv x2)] [] h Φ := by
  refine a_aload_n (pc := 0) (dk dt_X11_noise 0 rfl) rfl ?_
  refine a_getr (r := 25) (pc := 1) (dk dt_X11_noise 1 rfl) cls_11 fl_RX11_66 cf_1_8 ?_
  refine a_geti (pc := 4) (dk dt_X11_noise 2 rfl) cls_4 fl_RX11_270 cf_26_11 ?_
  refine a_if_eq (pc := 7) (dk dt_X11_noise 3 rfl) (tgt := 20) rfl ⟨fun c => ?_, fun c => ?_⟩
  · replace H := H.1 c
    refine a_iconst (pc := 20) (dk dt_X11_noise 9 rfl) (ik rfl) ?_
    exact a_iret (pc := 21) (dk dt_X11_noise 10 rfl) rfl rfl H
  · replace H := H.2 c
    refine a_iload_n (pc := 10) (dk dt_X11_noise 4 rfl) rfl ?_
    refine a_iconst (pc := 11) (dk dt_X11_noise 5 rfl) (ik rfl) ?_
    refine a_bipush (pc := 12) (dk dt_X11_noise 6 rfl) (ik rfl) (bpk rfl) ?_
    refine a_callSi (as := [iv x1, iv 0, iv 23]) (st := []) (pc := 14) (dk dt_X11_noise 7 rfl) cl_RX11_104 ⟨Nat.le_of_ble_eq_true rfl, Nat.le_of_ble_eq_true rfl⟩ ⟨Nat.le_of_ble_eq_true rfl, Nat.le_of_ble_eq_true rfl⟩ rfl rfl rfl (Nat.le_of_ble_eq_true rfl) (Call.of rfl (Nat.le_of_ble_eq_true rfl) rfl ?_)
    refine a_iload_n (pc := 0) (dk dt_X11_within 0 rfl) rfl ?_
    refine a_iload_n (pc := 1) (dk dt_X11_within 1 rfl) rfl ?_
    refine a_icmp_lt (pc := 2) (dk dt_X11_within 2 rfl) (tgt := 14) rfl ⟨fun c => ?_, fun c => ?_⟩
    · replace H := H.1 c
      refine a_iconst (pc := 14) (dk dt_X11_within 8 rfl) (ik rfl) ?_
      refine a_zret (pc := 15) (dk dt_X11_within 9 rfl) rfl rfl ⟨by decide, ?_⟩
      show ATW _ _ _ _ _ _ _ _ _ _
      refine a_if_ne (pc := 17) (dk dt_X11_noise 8 rfl) (tgt := 22) rfl ⟨fun c => absurd c (by decide), fun _ => ?_⟩
      refine a_iconst (pc := 20) (dk dt_X11_noise 9 rfl) (ik rfl) ?_
      exact a_iret (pc := 21) (dk dt_X11_noise 10 rfl) rfl rfl H
    · replace H := H.2 c
      refine a_iload_n (pc := 5) (dk dt_X11_within 3 rfl) rfl ?_
      refine a_iload_n (pc := 6) (dk dt_X11_within 4 rfl) rfl ?_
      refine a_icmp_gt (pc := 7) (dk dt_X11_within 5 rfl) (tgt := 14) rfl ⟨fun c => ?_, fun c => ?_⟩
      · replace H := H.1 c
        refine a_iconst (pc := 14) (dk dt_X11_within 8 rfl) (ik rfl) ?_
        refine a_zret (pc := 15) (dk dt_X11_within 9 rfl) rfl rfl ⟨by decide, ?_⟩
        show ATW _ _ _ _ _ _ _ _ _ _
        refine a_if_ne (pc := 17) (dk dt_X11_noise 8 rfl) (tgt := 22) rfl ⟨fun c => absurd c (by decide), fun _ => ?_⟩
        refine a_iconst (pc := 20) (dk dt_X11_noise 9 rfl) (ik rfl) ?_
        exact a_iret (pc := 21) (dk dt_X11_noise 10 rfl) rfl rfl H
      · replace H := H.2 c
        refine a_iconst (pc := 10) (dk dt_X11_within 6 rfl) (ik rfl) ?_
        refine a_goto (pc := 11) (dk dt_X11_within 7 rfl) (tgt := 15) rfl ?_
        refine a_zret (pc := 15) (dk dt_X11_within 9 rfl) rfl rfl ⟨by decide, ?_⟩
        show ATW _ _ _ _ _ _ _ _ _ _
        refine a_if_ne (pc := 17) (dk dt_X11_noise 8 rfl) (tgt := 22) rfl ⟨fun _ => ?_, fun c => absurd c (by decide)⟩
        refine a_aload_n (pc := 22) (dk dt_X11_noise 11 rfl) rfl ?_
        refine a_getr (r := 25) (pc := 23) (dk dt_X11_noise 12 rfl) cls_11 fl_RX11_66 cf_1_8 ?_
        refine a_callVi (as := []) (st := []) (pc := 26) (dk dt_X11_noise 13 rfl) cl_RX11_295 ⟨Nat.le_of_ble_eq_true rfl, Nat.le_of_ble_eq_true rfl⟩ ⟨Nat.le_of_ble_eq_true rfl, Nat.le_of_ble_eq_true rfl⟩ cls_4 rfl cc_26 rfl rfl rfl (Nat.le_of_ble_eq_true rfl) (Call.of rfl (Nat.le_of_ble_eq_true rfl) rfl ?_)
        refine a_aload_n (pc := 0) (dk dt_X4_oldestFrame 0 rfl) rfl ?_
        refine a_geti (pc := 1) (dk dt_X4_oldestFrame 1 rfl) cls_4 fl_RX4_58 cf_26_10 ?_
        refine a_bipush (pc := 4) (dk dt_X4_oldestFrame 2 rfl) (ik rfl) (bpk rfl) ?_
        refine a_imul (pc := 6) (dk dt_X4_oldestFrame 3 rfl) ?_
        refine a_iret (pc := 7) (dk dt_X4_oldestFrame 4 rfl) rfl rfl ?_
        show ATW _ _ _ _ _ _ _ _ _ _
        refine a_iload_n (pc := 29) (dk dt_X11_noise 14 rfl) rfl ?_
        refine a_iadd (pc := 30) (dk dt_X11_noise 15 rfl) ?_
        refine a_istore_n (pc := 31) (dk dt_X11_noise 16 rfl) (by decide) rfl rfl ?_
        refine a_aload_n (pc := 32) (dk dt_X11_noise 17 rfl) rfl ?_
        refine a_getr (r := 25) (pc := 33) (dk dt_X11_noise 18 rfl) cls_11 fl_RX11_66 cf_1_8 ?_
        refine a_getr (r := 32) (pc := 36) (dk dt_X11_noise 19 rfl) cls_4 fl_RX11_298 cf_26_9 ?_
        refine a_iload_n (pc := 39) (dk dt_X11_noise 20 rfl) rfl ?_
        refine a_dup2 (pc := 40) (dk dt_X11_noise 21 rfl) rfl rfl ?_
        refine a_iald (pc := 41) (dk dt_X11_noise 22 rfl) ar_33 ⟨H.1, ?_⟩
        replace H := H.2
        refine a_iload_n (pc := 42) (dk dt_X11_noise 23 rfl) rfl ?_
        refine a_sipush (pc := 43) (dk dt_X11_noise 24 rfl) (ik rfl) (spk rfl) ?_
        refine a_iand (pc := 46) (dk dt_X11_noise 25 rfl) ?_
        refine a_ixor (pc := 47) (dk dt_X11_noise 26 rfl) ?_
        refine a_iast (pc := 48) (dk dt_X11_noise 27 rfl) ar_33 ⟨H.1, ?_⟩
        replace H := H.2
        refine a_aload_n (pc := 49) (dk dt_X11_noise 28 rfl) rfl ?_
        refine a_getr (r := 25) (pc := 50) (dk dt_X11_noise 29 rfl) cls_11 fl_RX11_66 cf_1_8 ?_
        refine a_getr (r := 32) (pc := 53) (dk dt_X11_noise 30 rfl) cls_4 fl_RX11_298 cf_26_9 ?_
        refine a_iload_n (pc := 56) (dk dt_X11_noise 31 rfl) rfl ?_
        refine a_iald (pc := 57) (dk dt_X11_noise 32 rfl) ar_33 ⟨H.1, ?_⟩
        replace H := H.2
        refine a_top (y := (bxor (h 33 (w32 ((w32 ((h 26 10) * 24)) + x1))) (band x2 255))) (by simp [up, cpy]) ?_
        exact a_iret (pc := 58) (dk dt_X11_noise 33 rfl) rfl rfl H
set_option maxHeartbeats 40000000 in
theorem U_X11_lose_1_0 {G : GG} {Φ : Int → Hp → Prop} {h : Hp} (H : (((h 26 11) ≠ 0 → Call G m_X4_dropFrame [rv 26] h (fun _ h2 => Φ (h2 26 11) h2)) ∧ ((h 26 11) = 0 → Φ (-1) h))) : AT G m_X11_lose 0 [(0, rv 1)] [] h Φ := by
  refine a_aload_n (pc := 0) (dk dt_X11_lose 0 rfl) rfl ?_
  refine a_getr (r := 25) (pc := 1) (dk dt_X11_lose 1 rfl) cls_11 fl_RX11_66 cf_1_8 ?_
  refine a_geti (pc := 4) (dk dt_X11_lose 2 rfl) cls_4 fl_RX11_270 cf_26_11 ?_
  refine a_if_ne (pc := 7) (dk dt_X11_lose 3 rfl) (tgt := 12) rfl ⟨fun c => ?_, fun c => ?_⟩
  · replace H := H.1 c
    refine a_aload_n (pc := 12) (dk dt_X11_lose 6 rfl) rfl ?_
    refine a_getr (r := 25) (pc := 13) (dk dt_X11_lose 7 rfl) cls_11 fl_RX11_66 cf_1_8 ?_
    refine a_callVv (as := []) (st := []) (pc := 16) (dk dt_X11_lose 8 rfl) cl_RX11_301 ⟨Nat.le_of_ble_eq_true rfl, Nat.le_of_ble_eq_true rfl⟩ ⟨Nat.le_of_ble_eq_true rfl, Nat.le_of_ble_eq_true rfl⟩ cls_4 rfl cc_26 rfl rfl rfl (Nat.le_of_ble_eq_true rfl) (Call.mono H fun _ h2 H => ?_)
    refine a_aload_n (pc := 19) (dk dt_X11_lose 9 rfl) rfl ?_
    refine a_getr (r := 25) (pc := 20) (dk dt_X11_lose 10 rfl) cls_11 fl_RX11_66 cf_1_8 ?_
    refine a_geti (pc := 23) (dk dt_X11_lose 11 rfl) cls_4 fl_RX11_270 cf_26_11 ?_
    exact a_iret (pc := 26) (dk dt_X11_lose 12 rfl) rfl rfl H
  · replace H := H.2 c
    refine a_iconst (pc := 10) (dk dt_X11_lose 4 rfl) (ik rfl) ?_
    exact a_iret (pc := 11) (dk dt_X11_lose 5 rfl) rfl rfl H
set_option maxHeartbeats 40000000 in
theorem U_X11_receive_1_0 {G : GG} {Φ : Int → Hp → Prop} {h : Hp} (H : (((h 26 11) ≠ 0 → Call G m_X2_takeFrame [rv 65, rv 33, iv (w32 ((h 26 10) * 24))] h (fun r1 h2 => Call G m_X4_dropFrame [rv 26] h2 (fun _ h4 => Φ r1 h4))) ∧ ((h 26 11) = 0 → Φ (-1) h))) : AT G m_X11_receive 0 [(0, rv 1)] [] h Φ := by
  refine a_aload_n (pc := 0) (dk dt_X11_receive 0 rfl) rfl ?_
  refine a_getr (r := 25) (pc := 1) (dk dt_X11_receive 1 rfl) cls_11 fl_RX11_66 cf_1_8 ?_
  refine a_geti (pc := 4) (dk dt_X11_receive 2 rfl) cls_4 fl_RX11_270 cf_26_11 ?_
  refine a_if_ne (pc := 7) (dk dt_X11_receive 3 rfl) (tgt := 12) rfl ⟨fun c => ?_, fun c => ?_⟩
  · replace H := H.1 c
    refine a_aload_n (pc := 12) (dk dt_X11_receive 6 rfl) rfl ?_
    refine a_getr (r := 64) (pc := 13) (dk dt_X11_receive 7 rfl) cls_11 fl_RX11_82 cf_1_10 ?_
    refine a_aload_n (pc := 16) (dk dt_X11_receive 8 rfl) rfl ?_
    refine a_getr (r := 25) (pc := 17) (dk dt_X11_receive 9 rfl) cls_11 fl_RX11_66 cf_1_8 ?_
    refine a_getr (r := 32) (pc := 20) (dk dt_X11_receive 10 rfl) cls_4 fl_RX11_298 cf_26_9 ?_
    refine a_aload_n (pc := 23) (dk dt_X11_receive 11 rfl) rfl ?_
    refine a_getr (r := 25) (pc := 24) (dk dt_X11_receive 12 rfl) cls_11 fl_RX11_66 cf_1_8 ?_
    refine a_callVi (as := []) (st := [rv 33, rv 65]) (pc := 27) (dk dt_X11_receive 13 rfl) cl_RX11_295 ⟨Nat.le_of_ble_eq_true rfl, Nat.le_of_ble_eq_true rfl⟩ ⟨Nat.le_of_ble_eq_true rfl, Nat.le_of_ble_eq_true rfl⟩ cls_4 rfl cc_26 rfl rfl rfl (Nat.le_of_ble_eq_true rfl) (Call.of rfl (Nat.le_of_ble_eq_true rfl) rfl ?_)
    refine a_aload_n (pc := 0) (dk dt_X4_oldestFrame 0 rfl) rfl ?_
    refine a_geti (pc := 1) (dk dt_X4_oldestFrame 1 rfl) cls_4 fl_RX4_58 cf_26_10 ?_
    refine a_bipush (pc := 4) (dk dt_X4_oldestFrame 2 rfl) (ik rfl) (bpk rfl) ?_
    refine a_imul (pc := 6) (dk dt_X4_oldestFrame 3 rfl) ?_
    refine a_iret (pc := 7) (dk dt_X4_oldestFrame 4 rfl) rfl rfl ?_
    show ATW _ _ _ _ _ _ _ _ _ _
    refine a_callVi (as := [rv 33, iv (w32 ((h 26 10) * 24))]) (st := []) (pc := 30) (dk dt_X11_receive 14 rfl) cl_RX11_304 ⟨Nat.le_of_ble_eq_true rfl, Nat.le_of_ble_eq_true rfl⟩ ⟨Nat.le_of_ble_eq_true rfl, Nat.le_of_ble_eq_true rfl⟩ cls_2 rfl cc_65 rfl rfl rfl (Nat.le_of_ble_eq_true rfl) (Call.mono H fun r1 h2 H => ?_)
    refine a_istore_n (pc := 33) (dk dt_X11_receive 15 rfl) (by decide) rfl rfl ?_
    refine a_aload_n (pc := 34) (dk dt_X11_receive 16 rfl) rfl ?_
    refine a_getr (r := 25) (pc := 35) (dk dt_X11_receive 17 rfl) cls_11 fl_RX11_66 cf_1_8 ?_
    refine a_callVv (as := []) (st := []) (pc := 38) (dk dt_X11_receive 18 rfl) cl_RX11_301 ⟨Nat.le_of_ble_eq_true rfl, Nat.le_of_ble_eq_true rfl⟩ ⟨Nat.le_of_ble_eq_true rfl, Nat.le_of_ble_eq_true rfl⟩ cls_4 rfl cc_26 rfl rfl rfl (Nat.le_of_ble_eq_true rfl) (Call.mono H fun _ h4 H => ?_)
    refine a_iload_n (pc := 41) (dk dt_X11_receive 19 rfl) rfl ?_
    exact a_iret (pc := 42) (dk dt_X11_receive 20 rfl) rfl rfl H
  · replace H := H.2 c
    refine a_iconst (pc := 10) (dk dt_X11_receive 4 rfl) (ik rfl) ?_
    exact a_iret (pc := 11) (dk dt_X11_receive 5 rfl) rfl rfl H
set_option maxHeartbeats 40000000 in
theorem U_X11_packet_1_0 {G : GG} {Φ : Int → Hp → Prop} {h : Hp} {x1 : Int} (H : ((x1 < 0 → Φ (-1) h) ∧ (0 ≤ x1 → (((w32 ((h 65 7) - 1)) < x1 → Φ (-1) h) ∧ (x1 ≤ (w32 ((h 65 7) - 1)) → Call G m_X2_writePacket [rv 65, iv x1, rv 11] h (fun r1 h2 => Φ r1 (up h2 1 3 r1))))))) : AT G m_X11_packet 0 [(0, rv 1), (1, iv x1)] [] h Φ := by
  refine a_iload_n (pc := 0) (dk dt_X11_packet 0 rfl) rfl ?_
  refine a_iconst (pc := 1) (dk dt_X11_packet 1 rfl) (ik rfl) ?_
  refine a_aload_n (pc := 2) (dk dt_X11_packet 2 rfl) rfl ?_
  refine a_getr (r := 64) (pc := 3) (dk dt_X11_packet 3 rfl) cls_11 fl_RX11_82 cf_1_10 ?_
  refine a_geti (pc := 6) (dk dt_X11_packet 4 rfl) cls_2 fl_RX11_308 cf_65_7 ?_
  refine a_iconst (pc := 9) (dk dt_X11_packet 5 rfl) (ik rfl) ?_
  refine a_isub (pc := 10) (dk dt_X11_packet 6 rfl) ?_
  refine a_callSi (as := [iv x1, iv 0, iv (w32 ((h 65 7) - 1))]) (st := []) (pc := 11) (dk dt_X11_packet 7 rfl) cl_RX11_104 ⟨Nat.le_of_ble_eq_true rfl, Nat.le_of_ble_eq_true rfl⟩ ⟨Nat.le_of_ble_eq_true rfl, Nat.le_of_ble_eq_true rfl⟩ rfl rfl rfl (Nat.le_of_ble_eq_true rfl) (Call.of rfl (Nat.le_of_ble_eq_true rfl) rfl ?_)
  refine a_iload_n (pc := 0) (dk dt_X11_within 0 rfl) rfl ?_
  refine a_iload_n (pc := 1) (dk dt_X11_within 1 rfl) rfl ?_
  refine a_icmp_lt (pc := 2) (dk dt_X11_within 2 rfl) (tgt := 14) rfl ⟨fun c => ?_, fun c => ?_⟩
  · replace H := H.1 c
    refine a_iconst (pc := 14) (dk dt_X11_within 8 rfl) (ik rfl) ?_
    refine a_zret (pc := 15) (dk dt_X11_within 9 rfl) rfl rfl ⟨by decide, ?_⟩
    show ATW _ _ _ _ _ _ _ _ _ _
    refine a_if_ne (pc := 14) (dk dt_X11_packet 8 rfl) (tgt := 19) rfl ⟨fun c => absurd c (by decide), fun _ => ?_⟩
    refine a_iconst (pc := 17) (dk dt_X11_packet 9 rfl) (ik rfl) ?_
    exact a_iret (pc := 18) (dk dt_X11_packet 10 rfl) rfl rfl H
  · replace H := H.2 c
    refine a_iload_n (pc := 5) (dk dt_X11_within 3 rfl) rfl ?_
    refine a_iload_n (pc := 6) (dk dt_X11_within 4 rfl) rfl ?_
    refine a_icmp_gt (pc := 7) (dk dt_X11_within 5 rfl) (tgt := 14) rfl ⟨fun c => ?_, fun c => ?_⟩
    · replace H := H.1 c
      refine a_iconst (pc := 14) (dk dt_X11_within 8 rfl) (ik rfl) ?_
      refine a_zret (pc := 15) (dk dt_X11_within 9 rfl) rfl rfl ⟨by decide, ?_⟩
      show ATW _ _ _ _ _ _ _ _ _ _
      refine a_if_ne (pc := 14) (dk dt_X11_packet 8 rfl) (tgt := 19) rfl ⟨fun c => absurd c (by decide), fun _ => ?_⟩
      refine a_iconst (pc := 17) (dk dt_X11_packet 9 rfl) (ik rfl) ?_
      exact a_iret (pc := 18) (dk dt_X11_packet 10 rfl) rfl rfl H
    · replace H := H.2 c
      refine a_iconst (pc := 10) (dk dt_X11_within 6 rfl) (ik rfl) ?_
      refine a_goto (pc := 11) (dk dt_X11_within 7 rfl) (tgt := 15) rfl ?_
      refine a_zret (pc := 15) (dk dt_X11_within 9 rfl) rfl rfl ⟨by decide, ?_⟩
      show ATW _ _ _ _ _ _ _ _ _ _
      refine a_if_ne (pc := 14) (dk dt_X11_packet 8 rfl) (tgt := 19) rfl ⟨fun _ => ?_, fun c => absurd c (by decide)⟩
      refine a_aload_n (pc := 19) (dk dt_X11_packet 11 rfl) rfl ?_
      refine a_aload_n (pc := 20) (dk dt_X11_packet 12 rfl) rfl ?_
      refine a_getr (r := 64) (pc := 21) (dk dt_X11_packet 13 rfl) cls_11 fl_RX11_82 cf_1_10 ?_
      refine a_iload_n (pc := 24) (dk dt_X11_packet 14 rfl) rfl ?_
      refine a_aload_n (pc := 25) (dk dt_X11_packet 15 rfl) rfl ?_
      refine a_getr (r := 10) (pc := 26) (dk dt_X11_packet 16 rfl) cls_11 fl_RX11_27 cf_1_2 ?_
      refine a_callVi (as := [iv x1, rv 11]) (st := [rv 1]) (pc := 29) (dk dt_X11_packet 17 rfl) cl_RX11_311 ⟨Nat.le_of_ble_eq_true rfl, Nat.le_of_ble_eq_true rfl⟩ ⟨Nat.le_of_ble_eq_true rfl, Nat.le_of_ble_eq_true rfl⟩ cls_2 rfl cc_65 rfl rfl rfl (Nat.le_of_ble_eq_true rfl) (Call.mono H fun r1 h2 H => ?_)
      refine a_puti (pc := 32) (dk dt_X11_packet 18 rfl) cls_11 fl_RX11_31 cf_1_3 rfl rfl ?_
      refine a_aload_n (pc := 35) (dk dt_X11_packet 19 rfl) rfl ?_
      refine a_geti (pc := 36) (dk dt_X11_packet 20 rfl) cls_11 fl_RX11_31 cf_1_3 ?_
      refine a_top (y := r1) (by simp [up, cpy]) ?_
      exact a_iret (pc := 39) (dk dt_X11_packet 21 rfl) rfl rfl H
set_option maxHeartbeats 40000000 in
theorem U_X11_command_1_0 {G : GG} {Φ : Int → Hp → Prop} {h : Hp} (H : (((h 65 9) ≠ 8 → Call G m_X3_readCommand [rv 4, rv 2] h (fun _ h2 => Call G m_X10_closes [rv 2] h2 (fun r3 h4 => ((r3 ≠ 0 → Call G m_X2_keep [rv 65, rv 4] h4 (fun r5 h6 => Φ r5 h6)) ∧ (r3 = 0 → Φ (w32 ((-1000) - (h4 2 3))) h4))))) ∧ ((h 65 9) = 8 → Φ (-4) h))) : AT G m_X11_command 0 [(0, rv 1)] [] h Φ := by
  refine a_aload_n (pc := 0) (dk dt_X11_command 0 rfl) rfl ?_
  refine a_getr (r := 64) (pc := 1) (dk dt_X11_command 1 rfl) cls_11 fl_RX11_82 cf_1_10 ?_
  refine a_callVi (as := []) (st := []) (pc := 4) (dk dt_X11_command 2 rfl) cl_RX11_314 ⟨Nat.le_of_ble_eq_true rfl, Nat.le_of_ble_eq_true rfl⟩ ⟨Nat.le_of_ble_eq_true rfl, Nat.le_of_ble_eq_true rfl⟩ cls_2 rfl cc_65 rfl rfl rfl (Nat.le_of_ble_eq_true rfl) (Call.of rfl (Nat.le_of_ble_eq_true rfl) rfl ?_)
  refine a_aload_n (pc := 0) (dk dt_X2_isFull 0 rfl) rfl ?_
  refine a_geti (pc := 1) (dk dt_X2_isFull 1 rfl) cls_2 fl_RX2_78 cf_65_9 ?_
  refine a_bipush (pc := 4) (dk dt_X2_isFull 2 rfl) (ik rfl) (bpk rfl) ?_
  refine a_icmp_ne (pc := 6) (dk dt_X2_isFull 3 rfl) (tgt := 13) rfl ⟨fun c => ?_, fun c => ?_⟩
  · replace H := H.1 c
    refine a_iconst (pc := 13) (dk dt_X2_isFull 6 rfl) (ik rfl) ?_
    refine a_zret (pc := 14) (dk dt_X2_isFull 7 rfl) rfl rfl ⟨by decide, ?_⟩
    show ATW _ _ _ _ _ _ _ _ _ _
    refine a_if_eq (pc := 7) (dk dt_X11_command 3 rfl) (tgt := 13) rfl ⟨fun _ => ?_, fun c => absurd c (by decide)⟩
    refine a_aload_n (pc := 13) (dk dt_X11_command 6 rfl) rfl ?_
    refine a_getr (r := 3) (pc := 14) (dk dt_X11_command 7 rfl) cls_11 fl_RX11_21 cf_1_1 ?_
    refine a_aload_n (pc := 17) (dk dt_X11_command 8 rfl) rfl ?_
    refine a_getr (r := 1) (pc := 18) (dk dt_X11_command 9 rfl) cls_11 fl_RX11_10 cf_1_0 ?_
    refine a_callVv (as := [rv 2]) (st := []) (pc := 21) (dk dt_X11_command 10 rfl) cl_RX11_317 ⟨Nat.le_of_ble_eq_true rfl, Nat.le_of_ble_eq_true rfl⟩ ⟨Nat.le_of_ble_eq_true rfl, Nat.le_of_ble_eq_true rfl⟩ cls_3 rfl cc_4 rfl rfl rfl (Nat.le_of_ble_eq_true rfl) (Call.mono H fun _ h2 H => ?_)
    refine a_aload_n (pc := 24) (dk dt_X11_command 11 rfl) rfl ?_
    refine a_getr (r := 1) (pc := 25) (dk dt_X11_command 12 rfl) cls_11 fl_RX11_10 cf_1_0 ?_
    refine a_callVi (as := []) (st := []) (pc := 28) (dk dt_X11_command 13 rfl) cl_RX11_119 ⟨Nat.le_of_ble_eq_true rfl, Nat.le_of_ble_eq_true rfl⟩ ⟨Nat.le_of_ble_eq_true rfl, Nat.le_of_ble_eq_true rfl⟩ cls_10 rfl cc_2 rfl rfl rfl (Nat.le_of_ble_eq_true rfl) (Call.mono H fun r3 h4 H => ?_)
    refine a_if_ne (pc := 31) (dk dt_X11_command 14 rfl) (tgt := 42) rfl ⟨fun c => ?_, fun c => ?_⟩
    · replace H := H.1 c
      refine a_aload_n (pc := 42) (dk dt_X11_command 19 rfl) rfl ?_
      refine a_getr (r := 64) (pc := 43) (dk dt_X11_command 20 rfl) cls_11 fl_RX11_82 cf_1_10 ?_
      refine a_aload_n (pc := 46) (dk dt_X11_command 21 rfl) rfl ?_
      refine a_getr (r := 3) (pc := 47) (dk dt_X11_command 22 rfl) cls_11 fl_RX11_21 cf_1_1 ?_
      refine a_callVi (as := [rv 4]) (st := []) (pc := 50) (dk dt_X11_command 23 rfl) cl_RX11_320 ⟨Nat.le_of_ble_eq_true rfl, Nat.le_of_ble_eq_true rfl⟩ ⟨Nat.le_of_ble_eq_true rfl, Nat.le_of_ble_eq_true rfl⟩ cls_2 rfl cc_65 rfl rfl rfl (Nat.le_of_ble_eq_true rfl) (Call.mono H fun r5 h6 H => ?_)
      exact a_iret (pc := 53) (dk dt_X11_command 24 rfl) rfl rfl H
    · replace H := H.2 c
      refine a_aload_n (pc := 34) (dk dt_X11_command 15 rfl) rfl ?_
      refine a_getr (r := 1) (pc := 35) (dk dt_X11_command 16 rfl) cls_11 fl_RX11_10 cf_1_0 ?_
      refine a_callVi (as := []) (st := []) (pc := 38) (dk dt_X11_command 17 rfl) cl_RX11_123 ⟨Nat.le_of_ble_eq_true rfl, Nat.le_of_ble_eq_true rfl⟩ ⟨Nat.le_of_ble_eq_true rfl, Nat.le_of_ble_eq_true rfl⟩ cls_10 rfl cc_2 rfl rfl rfl (Nat.le_of_ble_eq_true rfl) (Call.of rfl (Nat.le_of_ble_eq_true rfl) rfl ?_)
      refine a_sipush (pc := 0) (dk dt_X10_wrong 0 rfl) (ik rfl) (spk rfl) ?_
      refine a_aload_n (pc := 3) (dk dt_X10_wrong 1 rfl) rfl ?_
      refine a_geti (pc := 4) (dk dt_X10_wrong 2 rfl) cls_10 fl_RX10_15 cf_2_3 ?_
      refine a_isub (pc := 7) (dk dt_X10_wrong 3 rfl) ?_
      refine a_iret (pc := 8) (dk dt_X10_wrong 4 rfl) rfl rfl ?_
      show ATW _ _ _ _ _ _ _ _ _ _
      exact a_iret (pc := 41) (dk dt_X11_command 18 rfl) rfl rfl H
  · replace H := H.2 c
    refine a_iconst (pc := 9) (dk dt_X2_isFull 4 rfl) (ik rfl) ?_
    refine a_goto (pc := 10) (dk dt_X2_isFull 5 rfl) (tgt := 14) rfl ?_
    refine a_zret (pc := 14) (dk dt_X2_isFull 7 rfl) rfl rfl ⟨by decide, ?_⟩
    show ATW _ _ _ _ _ _ _ _ _ _
    refine a_if_eq (pc := 7) (dk dt_X11_command 3 rfl) (tgt := 13) rfl ⟨fun c => absurd c (by decide), fun _ => ?_⟩
    refine a_bipush (pc := 10) (dk dt_X11_command 4 rfl) (ik rfl) (bpk rfl) ?_
    exact a_iret (pc := 12) (dk dt_X11_command 5 rfl) rfl rfl H
set_option maxHeartbeats 40000000 in
theorem U_X11_send_1_0 {G : GG} {Φ : Int → Hp → Prop} {h : Hp} {x1 : Int} (H : ((x1 < 0 → Φ (-1) h) ∧ (0 ≤ x1 → ((2 < x1 → Φ (-1) h) ∧ (x1 ≤ 2 → (((w32 ((h 65 9) - (h 65 10))) = 0 → Φ (-1) h) ∧ ((w32 ((h 65 9) - (h 65 10))) ≠ 0 → Call G m_X6_isSeen [rv 14, iv (h 34 4)] h (fun r1 h2 => ((r1 ≠ 0 → Call G m_X2_nextToSend [rv 65] h2 (fun r3 h4 => ((x1 = 1 → ((x1 ≠ 2 → Φ 0 (up h4 65 10 (w32 ((h4 65 10) + 1)))) ∧ (x1 = 2 → Call G m_X0_takeCommand [rv 34, iv r3, rv 68, iv (h4 65 10)] (up h4 65 10 (w32 ((h4 65 10) + 1))) (fun r5 h6 => Φ 0 h6)))) ∧ (x1 ≠ 1 → Call G m_X0_takeCommand [rv 34, iv r3, rv 68, iv (h4 65 10)] (up h4 65 10 (w32 ((h4 65 10) + 1))) (fun r7 h8 => ((r7 = 0 → ((x1 ≠ 2 → Φ 0 h8) ∧ (x1 = 2 → Call G m_X0_takeCommand [rv 34, iv r3, rv 68, iv (h4 65 10)] h8 (fun r9 h10 => Φ 0 h10)))) ∧ (r7 ≠ 0 → ((x1 ≠ 2 → Φ 1 h8) ∧ (x1 = 2 → Call G m_X0_takeCommand [rv 34, iv r3, rv 68, iv (h4 65 10)] h8 (fun r11 h12 => Φ 1 h12)))))))))) ∧ (r1 = 0 → Φ (-1) h2)))))))))) : AT G m_X11_send 0 [(0, rv 1), (1, iv x1)] [] h Φ := by
  refine a_iload_n (pc := 0) (dk dt_X11_send 0 rfl) rfl ?_
  refine a_iconst (pc := 1) (dk dt_X11_send 1 rfl) (ik rfl) ?_
  refine a_iconst (pc := 2) (dk dt_X11_send 2 rfl) (ik rfl) ?_
  refine a_callSi (as := [iv x1, iv 0, iv 2]) (st := []) (pc := 3) (dk dt_X11_send 3 rfl) cl_RX11_104 ⟨Nat.le_of_ble_eq_true rfl, Nat.le_of_ble_eq_true rfl⟩ ⟨Nat.le_of_ble_eq_true rfl, Nat.le_of_ble_eq_true rfl⟩ rfl rfl rfl (Nat.le_of_ble_eq_true rfl) (Call.of rfl (Nat.le_of_ble_eq_true rfl) rfl ?_)
  refine a_iload_n (pc := 0) (dk dt_X11_within 0 rfl) rfl ?_
  refine a_iload_n (pc := 1) (dk dt_X11_within 1 rfl) rfl ?_
  refine a_icmp_lt (pc := 2) (dk dt_X11_within 2 rfl) (tgt := 14) rfl ⟨fun c => ?_, fun c => ?_⟩
  · replace H := H.1 c
    refine a_iconst (pc := 14) (dk dt_X11_within 8 rfl) (ik rfl) ?_
    refine a_zret (pc := 15) (dk dt_X11_within 9 rfl) rfl rfl ⟨by decide, ?_⟩
    show ATW _ _ _ _ _ _ _ _ _ _
    refine a_if_eq (pc := 6) (dk dt_X11_send 4 rfl) (tgt := 36) rfl ⟨fun _ => ?_, fun c => absurd c (by decide)⟩
    refine a_iconst (pc := 36) (dk dt_X11_send 16 rfl) (ik rfl) ?_
    exact a_iret (pc := 37) (dk dt_X11_send 17 rfl) rfl rfl H
  · replace H := H.2 c
    refine a_iload_n (pc := 5) (dk dt_X11_within 3 rfl) rfl ?_
    refine a_iload_n (pc := 6) (dk dt_X11_within 4 rfl) rfl ?_
    refine a_icmp_gt (pc := 7) (dk dt_X11_within 5 rfl) (tgt := 14) rfl ⟨fun c => ?_, fun c => ?_⟩
    · replace H := H.1 c
      refine a_iconst (pc := 14) (dk dt_X11_within 8 rfl) (ik rfl) ?_
      refine a_zret (pc := 15) (dk dt_X11_within 9 rfl) rfl rfl ⟨by decide, ?_⟩
      show ATW _ _ _ _ _ _ _ _ _ _
      refine a_if_eq (pc := 6) (dk dt_X11_send 4 rfl) (tgt := 36) rfl ⟨fun _ => ?_, fun c => absurd c (by decide)⟩
      refine a_iconst (pc := 36) (dk dt_X11_send 16 rfl) (ik rfl) ?_
      exact a_iret (pc := 37) (dk dt_X11_send 17 rfl) rfl rfl H
    · replace H := H.2 c
      refine a_iconst (pc := 10) (dk dt_X11_within 6 rfl) (ik rfl) ?_
      refine a_goto (pc := 11) (dk dt_X11_within 7 rfl) (tgt := 15) rfl ?_
      refine a_zret (pc := 15) (dk dt_X11_within 9 rfl) rfl rfl ⟨by decide, ?_⟩
      show ATW _ _ _ _ _ _ _ _ _ _
      refine a_if_eq (pc := 6) (dk dt_X11_send 4 rfl) (tgt := 36) rfl ⟨fun c => absurd c (by decide), fun _ => ?_⟩
      refine a_aload_n (pc := 9) (dk dt_X11_send 5 rfl) rfl ?_
      refine a_getr (r := 64) (pc := 10) (dk dt_X11_send 6 rfl) cls_11 fl_RX11_82 cf_1_10 ?_
      refine a_callVi (as := []) (st := []) (pc := 13) (dk dt_X11_send 7 rfl) cl_RX11_324 ⟨Nat.le_of_ble_eq_true rfl, Nat.le_of_ble_eq_true rfl⟩ ⟨Nat.le_of_ble_eq_true rfl, Nat.le_of_ble_eq_true rfl⟩ cls_2 rfl cc_65 rfl rfl rfl (Nat.le_of_ble_eq_true rfl) (Call.of rfl (Nat.le_of_ble_eq_true rfl) rfl ?_)
      refine a_aload_n (pc := 0) (dk dt_X2_toSend 0 rfl) rfl ?_
      refine a_geti (pc := 1) (dk dt_X2_toSend 1 rfl) cls_2 fl_RX2_78 cf_65_9 ?_
      refine a_aload_n (pc := 4) (dk dt_X2_toSend 2 rfl) rfl ?_
      refine a_geti (pc := 5) (dk dt_X2_toSend 3 rfl) cls_2 fl_RX2_88 cf_65_10 ?_
      refine a_isub (pc := 8) (dk dt_X2_toSend 4 rfl) ?_
      refine a_iret (pc := 9) (dk dt_X2_toSend 5 rfl) rfl rfl ?_
      show ATW _ _ _ _ _ _ _ _ _ _
      refine a_if_eq (pc := 16) (dk dt_X11_send 8 rfl) (tgt := 36) rfl ⟨fun c => ?_, fun c => ?_⟩
      · replace H := H.1 c
        refine a_iconst (pc := 36) (dk dt_X11_send 16 rfl) (ik rfl) ?_
        exact a_iret (pc := 37) (dk dt_X11_send 17 rfl) rfl rfl H
      · replace H := H.2 c
        refine a_aload_n (pc := 19) (dk dt_X11_send 9 rfl) rfl ?_
        refine a_getr (r := 13) (pc := 20) (dk dt_X11_send 10 rfl) cls_11 fl_RX11_45 cf_1_5 ?_
        refine a_aload_n (pc := 23) (dk dt_X11_send 11 rfl) rfl ?_
        refine a_getr (r := 33) (pc := 24) (dk dt_X11_send 12 rfl) cls_11 fl_RX11_75 cf_1_9 ?_
        refine a_geti (pc := 27) (dk dt_X11_send 13 rfl) cls_0 fl_RX11_162 cf_34_4 ?_
        refine a_callVi (as := [iv (h 34 4)]) (st := []) (pc := 30) (dk dt_X11_send 14 rfl) cl_RX11_327 ⟨Nat.le_of_ble_eq_true rfl, Nat.le_of_ble_eq_true rfl⟩ ⟨Nat.le_of_ble_eq_true rfl, Nat.le_of_ble_eq_true rfl⟩ cls_6 rfl cc_14 rfl rfl rfl (Nat.le_of_ble_eq_true rfl) (Call.mono H fun r1 h2 H => ?_)
        refine a_if_ne (pc := 33) (dk dt_X11_send 15 rfl) (tgt := 38) rfl ⟨fun c => ?_, fun c => ?_⟩
        · replace H := H.1 c
          refine a_aload_n (pc := 38) (dk dt_X11_send 18 rfl) rfl ?_
          refine a_getr (r := 64) (pc := 39) (dk dt_X11_send 19 rfl) cls_11 fl_RX11_82 cf_1_10 ?_
          refine a_callVi (as := []) (st := []) (pc := 42) (dk dt_X11_send 20 rfl) cl_RX11_330 ⟨Nat.le_of_ble_eq_true rfl, Nat.le_of_ble_eq_true rfl⟩ ⟨Nat.le_of_ble_eq_true rfl, Nat.le_of_ble_eq_true rfl⟩ cls_2 rfl cc_65 rfl rfl rfl (Nat.le_of_ble_eq_true rfl) (Call.mono H fun r3 h4 H => ?_)
          refine a_istore_n (pc := 45) (dk dt_X11_send 21 rfl) (by decide) rfl rfl ?_
          refine a_aload_n (pc := 46) (dk dt_X11_send 22 rfl) rfl ?_
          refine a_getr (r := 64) (pc := 47) (dk dt_X11_send 23 rfl) cls_11 fl_RX11_82 cf_1_10 ?_
          refine a_geti (pc := 50) (dk dt_X11_send 24 rfl) cls_2 fl_RX11_333 cf_65_10 ?_
          refine a_istore_n (pc := 53) (dk dt_X11_send 25 rfl) (by decide) rfl rfl ?_
          refine a_aload_n (pc := 54) (dk dt_X11_send 26 rfl) rfl ?_
          refine a_getr (r := 64) (pc := 55) (dk dt_X11_send 27 rfl) cls_11 fl_RX11_82 cf_1_10 ?_
          refine a_dup (pc := 58) (dk dt_X11_send 28 rfl) rfl ?_
          refine a_geti (pc := 59) (dk dt_X11_send 29 rfl) cls_2 fl_RX11_333 cf_65_10 ?_
          refine a_iconst (pc := 62) (dk dt_X11_send 30 rfl) (ik rfl) ?_
          refine a_iadd (pc := 63) (dk dt_X11_send 31 rfl) ?_
          refine a_puti (pc := 64) (dk dt_X11_send 32 rfl) cls_2 fl_RX11_333 cf_65_10 rfl rfl ?_
          refine a_iload_n (pc := 67) (dk dt_X11_send 33 rfl) rfl ?_
          refine a_iconst (pc := 68) (dk dt_X11_send 34 rfl) (ik rfl) ?_
          refine a_icmp_eq (pc := 69) (dk dt_X11_send 35 rfl) (tgt := 95) rfl ⟨fun c => ?_, fun c => ?_⟩
          · replace H := H.1 c
            refine a_iconst (pc := 95) (dk dt_X11_send 47 rfl) (ik rfl) ?_
            refine a_istore (pc := 96) (dk dt_X11_send 48 rfl) (by decide) rfl rfl ?_
            refine a_iload_n (pc := 98) (dk dt_X11_send 49 rfl) rfl ?_
            refine a_iconst (pc := 99) (dk dt_X11_send 50 rfl) (ik rfl) ?_
            refine a_icmp_ne (pc := 100) (dk dt_X11_send 51 rfl) (tgt := 120) rfl ⟨fun c => ?_, fun c => ?_⟩
            · replace H := H.1 c
              refine a_iload (pc := 120) (dk dt_X11_send 61 rfl) rfl ?_
              refine a_callSi (as := [iv 0]) (st := []) (pc := 122) (dk dt_X11_send 62 rfl) cl_RX11_236 ⟨Nat.le_of_ble_eq_true rfl, Nat.le_of_ble_eq_true rfl⟩ ⟨Nat.le_of_ble_eq_true rfl, Nat.le_of_ble_eq_true rfl⟩ rfl rfl rfl (Nat.le_of_ble_eq_true rfl) (Call.of rfl (Nat.le_of_ble_eq_true rfl) rfl ?_)
              refine a_iload_n (pc := 0) (dk dt_X11_bit 0 rfl) rfl ?_
              refine a_if_eq (pc := 1) (dk dt_X11_bit 1 rfl) (tgt := 8) rfl ⟨fun _ => ?_, fun c => absurd c (by decide)⟩
              refine a_iconst (pc := 8) (dk dt_X11_bit 4 rfl) (ik rfl) ?_
              refine a_iret (pc := 9) (dk dt_X11_bit 5 rfl) rfl rfl ?_
              show ATW _ _ _ _ _ _ _ _ _ _
              exact a_iret (pc := 125) (dk dt_X11_send 63 rfl) rfl rfl H
            · replace H := H.2 c
              refine a_aload_n (pc := 103) (dk dt_X11_send 52 rfl) rfl ?_
              refine a_getr (r := 33) (pc := 104) (dk dt_X11_send 53 rfl) cls_11 fl_RX11_75 cf_1_9 ?_
              refine a_iload_n (pc := 107) (dk dt_X11_send 54 rfl) rfl ?_
              refine a_aload_n (pc := 108) (dk dt_X11_send 55 rfl) rfl ?_
              refine a_getr (r := 64) (pc := 109) (dk dt_X11_send 56 rfl) cls_11 fl_RX11_82 cf_1_10 ?_
              refine a_getr (r := 67) (pc := 112) (dk dt_X11_send 57 rfl) cls_2 fl_RX11_336 cf_65_8 ?_
              refine a_iload_n (pc := 115) (dk dt_X11_send 58 rfl) rfl ?_
              refine a_callVi (as := [iv r3, rv 68, iv (h4 65 10)]) (st := []) (pc := 116) (dk dt_X11_send 59 rfl) cl_RX11_339 ⟨Nat.le_of_ble_eq_true rfl, Nat.le_of_ble_eq_true rfl⟩ ⟨Nat.le_of_ble_eq_true rfl, Nat.le_of_ble_eq_true rfl⟩ cls_0 rfl cc_34 rfl rfl rfl (Nat.le_of_ble_eq_true rfl) (Call.mono H fun r5 h6 H => ?_)
              refine a_pop (pc := 119) (dk dt_X11_send 60 rfl) rfl ?_
              refine a_iload (pc := 120) (dk dt_X11_send 61 rfl) rfl ?_
              refine a_callSi (as := [iv 0]) (st := []) (pc := 122) (dk dt_X11_send 62 rfl) cl_RX11_236 ⟨Nat.le_of_ble_eq_true rfl, Nat.le_of_ble_eq_true rfl⟩ ⟨Nat.le_of_ble_eq_true rfl, Nat.le_of_ble_eq_true rfl⟩ rfl rfl rfl (Nat.le_of_ble_eq_true rfl) (Call.of rfl (Nat.le_of_ble_eq_true rfl) rfl ?_)
              refine a_iload_n (pc := 0) (dk dt_X11_bit 0 rfl) rfl ?_
              refine a_if_eq (pc := 1) (dk dt_X11_bit 1 rfl) (tgt := 8) rfl ⟨fun _ => ?_, fun c => absurd c (by decide)⟩
              refine a_iconst (pc := 8) (dk dt_X11_bit 4 rfl) (ik rfl) ?_
              refine a_iret (pc := 9) (dk dt_X11_bit 5 rfl) rfl rfl ?_
              show ATW _ _ _ _ _ _ _ _ _ _
              exact a_iret (pc := 125) (dk dt_X11_send 63 rfl) rfl rfl H
          · replace H := H.2 c
            refine a_aload_n (pc := 72) (dk dt_X11_send 36 rfl) rfl ?_
            refine a_getr (r := 33) (pc := 73) (dk dt_X11_send 37 rfl) cls_11 fl_RX11_75 cf_1_9 ?_
            refine a_iload_n (pc := 76) (dk dt_X11_send 38 rfl) rfl ?_
            refine a_aload_n (pc := 77) (dk dt_X11_send 39 rfl) rfl ?_
            refine a_getr (r := 64) (pc := 78) (dk dt_X11_send 40 rfl) cls_11 fl_RX11_82 cf_1_10 ?_
            refine a_getr (r := 67) (pc := 81) (dk dt_X11_send 41 rfl) cls_2 fl_RX11_336 cf_65_8 ?_
            refine a_iload_n (pc := 84) (dk dt_X11_send 42 rfl) rfl ?_
            refine a_callVi (as := [iv r3, rv 68, iv (h4 65 10)]) (st := []) (pc := 85) (dk dt_X11_send 43 rfl) cl_RX11_339 ⟨Nat.le_of_ble_eq_true rfl, Nat.le_of_ble_eq_true rfl⟩ ⟨Nat.le_of_ble_eq_true rfl, Nat.le_of_ble_eq_true rfl⟩ cls_0 rfl cc_34 rfl rfl rfl (Nat.le_of_ble_eq_true rfl) (Call.mono H fun r7 h8 H => ?_)
            refine a_if_eq (pc := 88) (dk dt_X11_send 44 rfl) (tgt := 95) rfl ⟨fun c => ?_, fun c => ?_⟩
            · replace H := H.1 c
              refine a_iconst (pc := 95) (dk dt_X11_send 47 rfl) (ik rfl) ?_
              refine a_istore (pc := 96) (dk dt_X11_send 48 rfl) (by decide) rfl rfl ?_
              refine a_iload_n (pc := 98) (dk dt_X11_send 49 rfl) rfl ?_
              refine a_iconst (pc := 99) (dk dt_X11_send 50 rfl) (ik rfl) ?_
              refine a_icmp_ne (pc := 100) (dk dt_X11_send 51 rfl) (tgt := 120) rfl ⟨fun c => ?_, fun c => ?_⟩
              · replace H := H.1 c
                refine a_iload (pc := 120) (dk dt_X11_send 61 rfl) rfl ?_
                refine a_callSi (as := [iv 0]) (st := []) (pc := 122) (dk dt_X11_send 62 rfl) cl_RX11_236 ⟨Nat.le_of_ble_eq_true rfl, Nat.le_of_ble_eq_true rfl⟩ ⟨Nat.le_of_ble_eq_true rfl, Nat.le_of_ble_eq_true rfl⟩ rfl rfl rfl (Nat.le_of_ble_eq_true rfl) (Call.of rfl (Nat.le_of_ble_eq_true rfl) rfl ?_)
                refine a_iload_n (pc := 0) (dk dt_X11_bit 0 rfl) rfl ?_
                refine a_if_eq (pc := 1) (dk dt_X11_bit 1 rfl) (tgt := 8) rfl ⟨fun _ => ?_, fun c => absurd c (by decide)⟩
                refine a_iconst (pc := 8) (dk dt_X11_bit 4 rfl) (ik rfl) ?_
                refine a_iret (pc := 9) (dk dt_X11_bit 5 rfl) rfl rfl ?_
                show ATW _ _ _ _ _ _ _ _ _ _
                exact a_iret (pc := 125) (dk dt_X11_send 63 rfl) rfl rfl H
              · replace H := H.2 c
                refine a_aload_n (pc := 103) (dk dt_X11_send 52 rfl) rfl ?_
                refine a_getr (r := 33) (pc := 104) (dk dt_X11_send 53 rfl) cls_11 fl_RX11_75 cf_1_9 ?_
                refine a_iload_n (pc := 107) (dk dt_X11_send 54 rfl) rfl ?_
                refine a_aload_n (pc := 108) (dk dt_X11_send 55 rfl) rfl ?_
                refine a_getr (r := 64) (pc := 109) (dk dt_X11_send 56 rfl) cls_11 fl_RX11_82 cf_1_10 ?_
                refine a_getr (r := 67) (pc := 112) (dk dt_X11_send 57 rfl) cls_2 fl_RX11_336 cf_65_8 ?_
                refine a_iload_n (pc := 115) (dk dt_X11_send 58 rfl) rfl ?_
                refine a_callVi (as := [iv r3, rv 68, iv (h4 65 10)]) (st := []) (pc := 116) (dk dt_X11_send 59 rfl) cl_RX11_339 ⟨Nat.le_of_ble_eq_true rfl, Nat.le_of_ble_eq_true rfl⟩ ⟨Nat.le_of_ble_eq_true rfl, Nat.le_of_ble_eq_true rfl⟩ cls_0 rfl cc_34 rfl rfl rfl (Nat.le_of_ble_eq_true rfl) (Call.mono H fun r9 h10 H => ?_)
                refine a_pop (pc := 119) (dk dt_X11_send 60 rfl) rfl ?_
                refine a_iload (pc := 120) (dk dt_X11_send 61 rfl) rfl ?_
                refine a_callSi (as := [iv 0]) (st := []) (pc := 122) (dk dt_X11_send 62 rfl) cl_RX11_236 ⟨Nat.le_of_ble_eq_true rfl, Nat.le_of_ble_eq_true rfl⟩ ⟨Nat.le_of_ble_eq_true rfl, Nat.le_of_ble_eq_true rfl⟩ rfl rfl rfl (Nat.le_of_ble_eq_true rfl) (Call.of rfl (Nat.le_of_ble_eq_true rfl) rfl ?_)
                refine a_iload_n (pc := 0) (dk dt_X11_bit 0 rfl) rfl ?_
                refine a_if_eq (pc := 1) (dk dt_X11_bit 1 rfl) (tgt := 8) rfl ⟨fun _ => ?_, fun c => absurd c (by decide)⟩
                refine a_iconst (pc := 8) (dk dt_X11_bit 4 rfl) (ik rfl) ?_
                refine a_iret (pc := 9) (dk dt_X11_bit 5 rfl) rfl rfl ?_
                show ATW _ _ _ _ _ _ _ _ _ _
                exact a_iret (pc := 125) (dk dt_X11_send 63 rfl) rfl rfl H
            · replace H := H.2 c
              refine a_iconst (pc := 91) (dk dt_X11_send 45 rfl) (ik rfl) ?_
              refine a_goto (pc := 92) (dk dt_X11_send 46 rfl) (tgt := 96) rfl ?_
              refine a_istore (pc := 96) (dk dt_X11_send 48 rfl) (by decide) rfl rfl ?_
              refine a_iload_n (pc := 98) (dk dt_X11_send 49 rfl) rfl ?_
              refine a_iconst (pc := 99) (dk dt_X11_send 50 rfl) (ik rfl) ?_
              refine a_icmp_ne (pc := 100) (dk dt_X11_send 51 rfl) (tgt := 120) rfl ⟨fun c => ?_, fun c => ?_⟩
              · replace H := H.1 c
                refine a_iload (pc := 120) (dk dt_X11_send 61 rfl) rfl ?_
                refine a_callSi (as := [iv 1]) (st := []) (pc := 122) (dk dt_X11_send 62 rfl) cl_RX11_236 ⟨Nat.le_of_ble_eq_true rfl, Nat.le_of_ble_eq_true rfl⟩ ⟨Nat.le_of_ble_eq_true rfl, Nat.le_of_ble_eq_true rfl⟩ rfl rfl rfl (Nat.le_of_ble_eq_true rfl) (Call.of rfl (Nat.le_of_ble_eq_true rfl) rfl ?_)
                refine a_iload_n (pc := 0) (dk dt_X11_bit 0 rfl) rfl ?_
                refine a_if_eq (pc := 1) (dk dt_X11_bit 1 rfl) (tgt := 8) rfl ⟨fun c => absurd c (by decide), fun _ => ?_⟩
                refine a_iconst (pc := 4) (dk dt_X11_bit 2 rfl) (ik rfl) ?_
                refine a_goto (pc := 5) (dk dt_X11_bit 3 rfl) (tgt := 9) rfl ?_
                refine a_iret (pc := 9) (dk dt_X11_bit 5 rfl) rfl rfl ?_
                show ATW _ _ _ _ _ _ _ _ _ _
                exact a_iret (pc := 125) (dk dt_X11_send 63 rfl) rfl rfl H
              · replace H := H.2 c
                refine a_aload_n (pc := 103) (dk dt_X11_send 52 rfl) rfl ?_
                refine a_getr (r := 33) (pc := 104) (dk dt_X11_send 53 rfl) cls_11 fl_RX11_75 cf_1_9 ?_
                refine a_iload_n (pc := 107) (dk dt_X11_send 54 rfl) rfl ?_
                refine a_aload_n (pc := 108) (dk dt_X11_send 55 rfl) rfl ?_
                refine a_getr (r := 64) (pc := 109) (dk dt_X11_send 56 rfl) cls_11 fl_RX11_82 cf_1_10 ?_
                refine a_getr (r := 67) (pc := 112) (dk dt_X11_send 57 rfl) cls_2 fl_RX11_336 cf_65_8 ?_
                refine a_iload_n (pc := 115) (dk dt_X11_send 58 rfl) rfl ?_
                refine a_callVi (as := [iv r3, rv 68, iv (h4 65 10)]) (st := []) (pc := 116) (dk dt_X11_send 59 rfl) cl_RX11_339 ⟨Nat.le_of_ble_eq_true rfl, Nat.le_of_ble_eq_true rfl⟩ ⟨Nat.le_of_ble_eq_true rfl, Nat.le_of_ble_eq_true rfl⟩ cls_0 rfl cc_34 rfl rfl rfl (Nat.le_of_ble_eq_true rfl) (Call.mono H fun r11 h12 H => ?_)
                refine a_pop (pc := 119) (dk dt_X11_send 60 rfl) rfl ?_
                refine a_iload (pc := 120) (dk dt_X11_send 61 rfl) rfl ?_
                refine a_callSi (as := [iv 1]) (st := []) (pc := 122) (dk dt_X11_send 62 rfl) cl_RX11_236 ⟨Nat.le_of_ble_eq_true rfl, Nat.le_of_ble_eq_true rfl⟩ ⟨Nat.le_of_ble_eq_true rfl, Nat.le_of_ble_eq_true rfl⟩ rfl rfl rfl (Nat.le_of_ble_eq_true rfl) (Call.of rfl (Nat.le_of_ble_eq_true rfl) rfl ?_)
                refine a_iload_n (pc := 0) (dk dt_X11_bit 0 rfl) rfl ?_
                refine a_if_eq (pc := 1) (dk dt_X11_bit 1 rfl) (tgt := 8) rfl ⟨fun c => absurd c (by decide), fun _ => ?_⟩
                refine a_iconst (pc := 4) (dk dt_X11_bit 2 rfl) (ik rfl) ?_
                refine a_goto (pc := 5) (dk dt_X11_bit 3 rfl) (tgt := 9) rfl ?_
                refine a_iret (pc := 9) (dk dt_X11_bit 5 rfl) rfl rfl ?_
                show ATW _ _ _ _ _ _ _ _ _ _
                exact a_iret (pc := 125) (dk dt_X11_send 63 rfl) rfl rfl H
        · replace H := H.2 c
          refine a_iconst (pc := 36) (dk dt_X11_send 16 rfl) (ik rfl) ?_
          exact a_iret (pc := 37) (dk dt_X11_send 17 rfl) rfl rfl H
set_option maxHeartbeats 40000000 in
theorem U_X11_ground_1_0 {G : GG} {Φ : Int → Hp → Prop} {h : Hp} {x1 : Int} (H : (((x1 = 0) → Φ (h 65 0) h) ∧ ((x1 = 1) → Φ (h 65 1) h) ∧ ((x1 = 2) → Φ (h 65 7) h) ∧ ((x1 = 3) → Φ (h 65 9) h) ∧ ((x1 = 4) → Φ (w32 ((h 65 9) - (h 65 10))) h) ∧ ((x1 = 5) → Φ (h 65 11) h) ∧ (((x1 < 0 ∨ 5 < x1)) → Φ (-1) h))) : AT G m_X11_ground 0 [(0, rv 1), (1, iv x1)] [] h Φ := by
  refine a_iload_n (pc := 0) (dk dt_X11_ground 0 rfl) rfl ?_
  have B0 : (x1 = 0) → AT G m_X11_ground 40 [(0, rv 1), (1, iv x1)] [] h Φ := by
    intro c
    replace H := H.1 c
    refine a_aload_n (pc := 40) (dk dt_X11_ground 2 rfl) rfl ?_
    refine a_getr (r := 64) (pc := 41) (dk dt_X11_ground 3 rfl) cls_11 fl_RX11_82 cf_1_10 ?_
    refine a_geti (pc := 44) (dk dt_X11_ground 4 rfl) cls_2 fl_RX11_343 cf_65_0 ?_
    exact a_iret (pc := 47) (dk dt_X11_ground 5 rfl) rfl rfl H
  have B1 : (x1 = 1) → AT G m_X11_ground 48 [(0, rv 1), (1, iv x1)] [] h Φ := by
    intro c
    replace H := H.2.1 c
    refine a_aload_n (pc := 48) (dk dt_X11_ground 6 rfl) rfl ?_
    refine a_getr (r := 64) (pc := 49) (dk dt_X11_ground 7 rfl) cls_11 fl_RX11_82 cf_1_10 ?_
    refine a_geti (pc := 52) (dk dt_X11_ground 8 rfl) cls_2 fl_RX11_346 cf_65_1 ?_
    exact a_iret (pc := 55) (dk dt_X11_ground 9 rfl) rfl rfl H
  have B2 : (x1 = 2) → AT G m_X11_ground 56 [(0, rv 1), (1, iv x1)] [] h Φ := by
    intro c
    replace H := H.2.2.1 c
    refine a_aload_n (pc := 56) (dk dt_X11_ground 10 rfl) rfl ?_
    refine a_getr (r := 64) (pc := 57) (dk dt_X11_ground 11 rfl) cls_11 fl_RX11_82 cf_1_10 ?_
    refine a_geti (pc := 60) (dk dt_X11_ground 12 rfl) cls_2 fl_RX11_308 cf_65_7 ?_
    exact a_iret (pc := 63) (dk dt_X11_ground 13 rfl) rfl rfl H
  have B3 : (x1 = 3) → AT G m_X11_ground 64 [(0, rv 1), (1, iv x1)] [] h Φ := by
    intro c
    replace H := H.2.2.2.1 c
    refine a_aload_n (pc := 64) (dk dt_X11_ground 14 rfl) rfl ?_
    refine a_getr (r := 64) (pc := 65) (dk dt_X11_ground 15 rfl) cls_11 fl_RX11_82 cf_1_10 ?_
    refine a_geti (pc := 68) (dk dt_X11_ground 16 rfl) cls_2 fl_RX11_349 cf_65_9 ?_
    exact a_iret (pc := 71) (dk dt_X11_ground 17 rfl) rfl rfl H
  have B4 : (x1 = 4) → AT G m_X11_ground 72 [(0, rv 1), (1, iv x1)] [] h Φ := by
    intro c
    replace H := H.2.2.2.2.1 c
    refine a_aload_n (pc := 72) (dk dt_X11_ground 18 rfl) rfl ?_
    refine a_getr (r := 64) (pc := 73) (dk dt_X11_ground 19 rfl) cls_11 fl_RX11_82 cf_1_10 ?_
    refine a_callVi (as := []) (st := []) (pc := 76) (dk dt_X11_ground 20 rfl) cl_RX11_324 ⟨Nat.le_of_ble_eq_true rfl, Nat.le_of_ble_eq_true rfl⟩ ⟨Nat.le_of_ble_eq_true rfl, Nat.le_of_ble_eq_true rfl⟩ cls_2 rfl cc_65 rfl rfl rfl (Nat.le_of_ble_eq_true rfl) (Call.of rfl (Nat.le_of_ble_eq_true rfl) rfl ?_)
    refine a_aload_n (pc := 0) (dk dt_X2_toSend 0 rfl) rfl ?_
    refine a_geti (pc := 1) (dk dt_X2_toSend 1 rfl) cls_2 fl_RX2_78 cf_65_9 ?_
    refine a_aload_n (pc := 4) (dk dt_X2_toSend 2 rfl) rfl ?_
    refine a_geti (pc := 5) (dk dt_X2_toSend 3 rfl) cls_2 fl_RX2_88 cf_65_10 ?_
    refine a_isub (pc := 8) (dk dt_X2_toSend 4 rfl) ?_
    refine a_iret (pc := 9) (dk dt_X2_toSend 5 rfl) rfl rfl ?_
    show ATW _ _ _ _ _ _ _ _ _ _
    exact a_iret (pc := 79) (dk dt_X11_ground 21 rfl) rfl rfl H
  have B5 : (x1 = 5) → AT G m_X11_ground 80 [(0, rv 1), (1, iv x1)] [] h Φ := by
    intro c
    replace H := H.2.2.2.2.2.1 c
    refine a_aload_n (pc := 80) (dk dt_X11_ground 22 rfl) rfl ?_
    refine a_getr (r := 64) (pc := 81) (dk dt_X11_ground 23 rfl) cls_11 fl_RX11_82 cf_1_10 ?_
    refine a_geti (pc := 84) (dk dt_X11_ground 24 rfl) cls_2 fl_RX11_352 cf_65_11 ?_
    exact a_iret (pc := 87) (dk dt_X11_ground 25 rfl) rfl rfl H
  have BD : ((x1 < 0 ∨ 5 < x1)) → AT G m_X11_ground 88 [(0, rv 1), (1, iv x1)] [] h Φ := by
    intro c
    replace H := H.2.2.2.2.2.2 c
    refine a_iconst (pc := 88) (dk dt_X11_ground 26 rfl) (ik rfl) ?_
    exact a_iret (pc := 89) (dk dt_X11_ground 27 rfl) rfl rfl H
  exact a_tsw [40, 48, 56, 64, 72, 80] (pc := 1) (dk dt_X11_ground 1 rfl) (by decide) (dt := 88) rfl (by decide) ⟨⟨fun c => B0 (c), fun c => B1 (c), fun c => B2 (c), fun c => B3 (c), fun c => B4 (c), fun c => B5 (c), trivial⟩, fun c => BD (c)⟩
set_option maxHeartbeats 40000000 in
theorem U_X11_pass_1_0 {G : GG} {Φ : Int → Hp → Prop} {h : Hp} {x1 : Int} {x2 : Int} {x3 : Int} {x4 : Int} (H : ((x1 < 0 → Φ (-1) h) ∧ (0 ≤ x1 → ((3 < x1 → Φ (-1) h) ∧ (x1 ≤ 3 → ((x2 < 0 → Φ (-1) h) ∧ (0 ≤ x2 → ((99999 < x2 → Φ (-1) h) ∧ (x2 ≤ 99999 → ((x3 < 0 → Φ (-1) h) ∧ (0 ≤ x3 → ((99999 < x3 → Φ (-1) h) ∧ (x3 ≤ 99999 → ((x3 ≤ x2 → Φ (-1) h) ∧ (x2 < x3 → ((x4 < 1 → Φ (-1) h) ∧ (1 ≤ x4 → ((99 < x4 → Φ (-1) h) ∧ (x4 ≤ 99 → Call G m_X7_add [rv 75, iv x1, iv x2, iv x3, iv x4] h (fun r1 h2 => Φ r1 h2)))))))))))))))))))) : AT G m_X11_pass 0 [(0, rv 1), (1, iv x1), (2, iv x2), (3, iv x3), (4, iv x4)] [] h Φ := by
  refine a_iload_n (pc := 0) (dk dt_X11_pass 0 rfl) rfl ?_
  refine a_callSi (as := [iv x1]) (st := []) (pc := 1) (dk dt_X11_pass 1 rfl) cl_RX11_150 ⟨Nat.le_of_ble_eq_true rfl, Nat.le_of_ble_eq_true rfl⟩ ⟨Nat.le_of_ble_eq_true rfl, Nat.le_of_ble_eq_true rfl⟩ rfl rfl rfl (Nat.le_of_ble_eq_true rfl) (Call.of rfl (Nat.le_of_ble_eq_true rfl) rfl ?_)
  refine a_iload_n (pc := 0) (dk dt_X11_isStation 0 rfl) rfl ?_
  refine a_iconst (pc := 1) (dk dt_X11_isStation 1 rfl) (ik rfl) ?_
  refine a_iconst (pc := 2) (dk dt_X11_isStation 2 rfl) (ik rfl) ?_
  refine a_callSi (as := [iv x1, iv 0, iv 3]) (st := []) (pc := 3) (dk dt_X11_isStation 3 rfl) cl_RX11_104 ⟨Nat.le_of_ble_eq_true rfl, Nat.le_of_ble_eq_true rfl⟩ ⟨Nat.le_of_ble_eq_true rfl, Nat.le_of_ble_eq_true rfl⟩ rfl rfl rfl (Nat.le_of_ble_eq_true rfl) (Call.of rfl (Nat.le_of_ble_eq_true rfl) rfl ?_)
  refine a_iload_n (pc := 0) (dk dt_X11_within 0 rfl) rfl ?_
  refine a_iload_n (pc := 1) (dk dt_X11_within 1 rfl) rfl ?_
  refine a_icmp_lt (pc := 2) (dk dt_X11_within 2 rfl) (tgt := 14) rfl ⟨fun c => ?_, fun c => ?_⟩
  · replace H := H.1 c
    refine a_iconst (pc := 14) (dk dt_X11_within 8 rfl) (ik rfl) ?_
    refine a_zret (pc := 15) (dk dt_X11_within 9 rfl) rfl rfl ⟨by decide, ?_⟩
    show ATW _ _ _ _ _ _ _ _ _ _
    refine a_zret (pc := 6) (dk dt_X11_isStation 4 rfl) rfl rfl ⟨by decide, ?_⟩
    show ATW _ _ _ _ _ _ _ _ _ _
    refine a_if_eq (pc := 4) (dk dt_X11_pass 2 rfl) (tgt := 45) rfl ⟨fun _ => ?_, fun c => absurd c (by decide)⟩
    refine a_iconst (pc := 45) (dk dt_X11_pass 21 rfl) (ik rfl) ?_
    exact a_iret (pc := 46) (dk dt_X11_pass 22 rfl) rfl rfl H
  · replace H := H.2 c
    refine a_iload_n (pc := 5) (dk dt_X11_within 3 rfl) rfl ?_
    refine a_iload_n (pc := 6) (dk dt_X11_within 4 rfl) rfl ?_
    refine a_icmp_gt (pc := 7) (dk dt_X11_within 5 rfl) (tgt := 14) rfl ⟨fun c => ?_, fun c => ?_⟩
    · replace H := H.1 c
      refine a_iconst (pc := 14) (dk dt_X11_within 8 rfl) (ik rfl) ?_
      refine a_zret (pc := 15) (dk dt_X11_within 9 rfl) rfl rfl ⟨by decide, ?_⟩
      show ATW _ _ _ _ _ _ _ _ _ _
      refine a_zret (pc := 6) (dk dt_X11_isStation 4 rfl) rfl rfl ⟨by decide, ?_⟩
      show ATW _ _ _ _ _ _ _ _ _ _
      refine a_if_eq (pc := 4) (dk dt_X11_pass 2 rfl) (tgt := 45) rfl ⟨fun _ => ?_, fun c => absurd c (by decide)⟩
      refine a_iconst (pc := 45) (dk dt_X11_pass 21 rfl) (ik rfl) ?_
      exact a_iret (pc := 46) (dk dt_X11_pass 22 rfl) rfl rfl H
    · replace H := H.2 c
      refine a_iconst (pc := 10) (dk dt_X11_within 6 rfl) (ik rfl) ?_
      refine a_goto (pc := 11) (dk dt_X11_within 7 rfl) (tgt := 15) rfl ?_
      refine a_zret (pc := 15) (dk dt_X11_within 9 rfl) rfl rfl ⟨by decide, ?_⟩
      show ATW _ _ _ _ _ _ _ _ _ _
      refine a_zret (pc := 6) (dk dt_X11_isStation 4 rfl) rfl rfl ⟨by decide, ?_⟩
      show ATW _ _ _ _ _ _ _ _ _ _
      refine a_if_eq (pc := 4) (dk dt_X11_pass 2 rfl) (tgt := 45) rfl ⟨fun c => absurd c (by decide), fun _ => ?_⟩
      refine a_iload_n (pc := 7) (dk dt_X11_pass 3 rfl) rfl ?_
      refine a_iconst (pc := 8) (dk dt_X11_pass 4 rfl) (ik rfl) ?_
      refine a_ldcw (n := 99999) (pc := 9) (dk dt_X11_pass 5 rfl) (ik rfl) co_RX11_355 ?_
      refine a_callSi (as := [iv x2, iv 0, iv 99999]) (st := []) (pc := 12) (dk dt_X11_pass 6 rfl) cl_RX11_104 ⟨Nat.le_of_ble_eq_true rfl, Nat.le_of_ble_eq_true rfl⟩ ⟨Nat.le_of_ble_eq_true rfl, Nat.le_of_ble_eq_true rfl⟩ rfl rfl rfl (Nat.le_of_ble_eq_true rfl) (Call.of rfl (Nat.le_of_ble_eq_true rfl) rfl ?_)
      refine a_iload_n (pc := 0) (dk dt_X11_within 0 rfl) rfl ?_
      refine a_iload_n (pc := 1) (dk dt_X11_within 1 rfl) rfl ?_
      refine a_icmp_lt (pc := 2) (dk dt_X11_within 2 rfl) (tgt := 14) rfl ⟨fun c => ?_, fun c => ?_⟩
      · replace H := H.1 c
        refine a_iconst (pc := 14) (dk dt_X11_within 8 rfl) (ik rfl) ?_
        refine a_zret (pc := 15) (dk dt_X11_within 9 rfl) rfl rfl ⟨by decide, ?_⟩
        show ATW _ _ _ _ _ _ _ _ _ _
        refine a_if_eq (pc := 15) (dk dt_X11_pass 7 rfl) (tgt := 45) rfl ⟨fun _ => ?_, fun c => absurd c (by decide)⟩
        refine a_iconst (pc := 45) (dk dt_X11_pass 21 rfl) (ik rfl) ?_
        exact a_iret (pc := 46) (dk dt_X11_pass 22 rfl) rfl rfl H
      · replace H := H.2 c
        refine a_iload_n (pc := 5) (dk dt_X11_within 3 rfl) rfl ?_
        refine a_iload_n (pc := 6) (dk dt_X11_within 4 rfl) rfl ?_
        refine a_icmp_gt (pc := 7) (dk dt_X11_within 5 rfl) (tgt := 14) rfl ⟨fun c => ?_, fun c => ?_⟩
        · replace H := H.1 c
          refine a_iconst (pc := 14) (dk dt_X11_within 8 rfl) (ik rfl) ?_
          refine a_zret (pc := 15) (dk dt_X11_within 9 rfl) rfl rfl ⟨by decide, ?_⟩
          show ATW _ _ _ _ _ _ _ _ _ _
          refine a_if_eq (pc := 15) (dk dt_X11_pass 7 rfl) (tgt := 45) rfl ⟨fun _ => ?_, fun c => absurd c (by decide)⟩
          refine a_iconst (pc := 45) (dk dt_X11_pass 21 rfl) (ik rfl) ?_
          exact a_iret (pc := 46) (dk dt_X11_pass 22 rfl) rfl rfl H
        · replace H := H.2 c
          refine a_iconst (pc := 10) (dk dt_X11_within 6 rfl) (ik rfl) ?_
          refine a_goto (pc := 11) (dk dt_X11_within 7 rfl) (tgt := 15) rfl ?_
          refine a_zret (pc := 15) (dk dt_X11_within 9 rfl) rfl rfl ⟨by decide, ?_⟩
          show ATW _ _ _ _ _ _ _ _ _ _
          refine a_if_eq (pc := 15) (dk dt_X11_pass 7 rfl) (tgt := 45) rfl ⟨fun c => absurd c (by decide), fun _ => ?_⟩
          refine a_iload_n (pc := 18) (dk dt_X11_pass 8 rfl) rfl ?_
          refine a_iconst (pc := 19) (dk dt_X11_pass 9 rfl) (ik rfl) ?_
          refine a_ldcw (n := 99999) (pc := 20) (dk dt_X11_pass 10 rfl) (ik rfl) co_RX11_355 ?_
          refine a_callSi (as := [iv x3, iv 0, iv 99999]) (st := []) (pc := 23) (dk dt_X11_pass 11 rfl) cl_RX11_104 ⟨Nat.le_of_ble_eq_true rfl, Nat.le_of_ble_eq_true rfl⟩ ⟨Nat.le_of_ble_eq_true rfl, Nat.le_of_ble_eq_true rfl⟩ rfl rfl rfl (Nat.le_of_ble_eq_true rfl) (Call.of rfl (Nat.le_of_ble_eq_true rfl) rfl ?_)
          refine a_iload_n (pc := 0) (dk dt_X11_within 0 rfl) rfl ?_
          refine a_iload_n (pc := 1) (dk dt_X11_within 1 rfl) rfl ?_
          refine a_icmp_lt (pc := 2) (dk dt_X11_within 2 rfl) (tgt := 14) rfl ⟨fun c => ?_, fun c => ?_⟩
          · replace H := H.1 c
            refine a_iconst (pc := 14) (dk dt_X11_within 8 rfl) (ik rfl) ?_
            refine a_zret (pc := 15) (dk dt_X11_within 9 rfl) rfl rfl ⟨by decide, ?_⟩
            show ATW _ _ _ _ _ _ _ _ _ _
            refine a_if_eq (pc := 26) (dk dt_X11_pass 12 rfl) (tgt := 45) rfl ⟨fun _ => ?_, fun c => absurd c (by decide)⟩
            refine a_iconst (pc := 45) (dk dt_X11_pass 21 rfl) (ik rfl) ?_
            exact a_iret (pc := 46) (dk dt_X11_pass 22 rfl) rfl rfl H
          · replace H := H.2 c
            refine a_iload_n (pc := 5) (dk dt_X11_within 3 rfl) rfl ?_
            refine a_iload_n (pc := 6) (dk dt_X11_within 4 rfl) rfl ?_
            refine a_icmp_gt (pc := 7) (dk dt_X11_within 5 rfl) (tgt := 14) rfl ⟨fun c => ?_, fun c => ?_⟩
            · replace H := H.1 c
              refine a_iconst (pc := 14) (dk dt_X11_within 8 rfl) (ik rfl) ?_
              refine a_zret (pc := 15) (dk dt_X11_within 9 rfl) rfl rfl ⟨by decide, ?_⟩
              show ATW _ _ _ _ _ _ _ _ _ _
              refine a_if_eq (pc := 26) (dk dt_X11_pass 12 rfl) (tgt := 45) rfl ⟨fun _ => ?_, fun c => absurd c (by decide)⟩
              refine a_iconst (pc := 45) (dk dt_X11_pass 21 rfl) (ik rfl) ?_
              exact a_iret (pc := 46) (dk dt_X11_pass 22 rfl) rfl rfl H
            · replace H := H.2 c
              refine a_iconst (pc := 10) (dk dt_X11_within 6 rfl) (ik rfl) ?_
              refine a_goto (pc := 11) (dk dt_X11_within 7 rfl) (tgt := 15) rfl ?_
              refine a_zret (pc := 15) (dk dt_X11_within 9 rfl) rfl rfl ⟨by decide, ?_⟩
              show ATW _ _ _ _ _ _ _ _ _ _
              refine a_if_eq (pc := 26) (dk dt_X11_pass 12 rfl) (tgt := 45) rfl ⟨fun c => absurd c (by decide), fun _ => ?_⟩
              refine a_iload_n (pc := 29) (dk dt_X11_pass 13 rfl) rfl ?_
              refine a_iload_n (pc := 30) (dk dt_X11_pass 14 rfl) rfl ?_
              refine a_icmp_le (pc := 31) (dk dt_X11_pass 15 rfl) (tgt := 45) rfl ⟨fun c => ?_, fun c => ?_⟩
              · replace H := H.1 c
                refine a_iconst (pc := 45) (dk dt_X11_pass 21 rfl) (ik rfl) ?_
                exact a_iret (pc := 46) (dk dt_X11_pass 22 rfl) rfl rfl H
              · replace H := H.2 c
                refine a_iload (pc := 34) (dk dt_X11_pass 16 rfl) rfl ?_
                refine a_iconst (pc := 36) (dk dt_X11_pass 17 rfl) (ik rfl) ?_
                refine a_bipush (pc := 37) (dk dt_X11_pass 18 rfl) (ik rfl) (bpk rfl) ?_
                refine a_callSi (as := [iv x4, iv 1, iv 99]) (st := []) (pc := 39) (dk dt_X11_pass 19 rfl) cl_RX11_104 ⟨Nat.le_of_ble_eq_true rfl, Nat.le_of_ble_eq_true rfl⟩ ⟨Nat.le_of_ble_eq_true rfl, Nat.le_of_ble_eq_true rfl⟩ rfl rfl rfl (Nat.le_of_ble_eq_true rfl) (Call.of rfl (Nat.le_of_ble_eq_true rfl) rfl ?_)
                refine a_iload_n (pc := 0) (dk dt_X11_within 0 rfl) rfl ?_
                refine a_iload_n (pc := 1) (dk dt_X11_within 1 rfl) rfl ?_
                refine a_icmp_lt (pc := 2) (dk dt_X11_within 2 rfl) (tgt := 14) rfl ⟨fun c => ?_, fun c => ?_⟩
                · replace H := H.1 c
                  refine a_iconst (pc := 14) (dk dt_X11_within 8 rfl) (ik rfl) ?_
                  refine a_zret (pc := 15) (dk dt_X11_within 9 rfl) rfl rfl ⟨by decide, ?_⟩
                  show ATW _ _ _ _ _ _ _ _ _ _
                  refine a_if_ne (pc := 42) (dk dt_X11_pass 20 rfl) (tgt := 47) rfl ⟨fun c => absurd c (by decide), fun _ => ?_⟩
                  refine a_iconst (pc := 45) (dk dt_X11_pass 21 rfl) (ik rfl) ?_
                  exact a_iret (pc := 46) (dk dt_X11_pass 22 rfl) rfl rfl H
                · replace H := H.2 c
                  refine a_iload_n (pc := 5) (dk dt_X11_within 3 rfl) rfl ?_
                  refine a_iload_n (pc := 6) (dk dt_X11_within 4 rfl) rfl ?_
                  refine a_icmp_gt (pc := 7) (dk dt_X11_within 5 rfl) (tgt := 14) rfl ⟨fun c => ?_, fun c => ?_⟩
                  · replace H := H.1 c
                    refine a_iconst (pc := 14) (dk dt_X11_within 8 rfl) (ik rfl) ?_
                    refine a_zret (pc := 15) (dk dt_X11_within 9 rfl) rfl rfl ⟨by decide, ?_⟩
                    show ATW _ _ _ _ _ _ _ _ _ _
                    refine a_if_ne (pc := 42) (dk dt_X11_pass 20 rfl) (tgt := 47) rfl ⟨fun c => absurd c (by decide), fun _ => ?_⟩
                    refine a_iconst (pc := 45) (dk dt_X11_pass 21 rfl) (ik rfl) ?_
                    exact a_iret (pc := 46) (dk dt_X11_pass 22 rfl) rfl rfl H
                  · replace H := H.2 c
                    refine a_iconst (pc := 10) (dk dt_X11_within 6 rfl) (ik rfl) ?_
                    refine a_goto (pc := 11) (dk dt_X11_within 7 rfl) (tgt := 15) rfl ?_
                    refine a_zret (pc := 15) (dk dt_X11_within 9 rfl) rfl rfl ⟨by decide, ?_⟩
                    show ATW _ _ _ _ _ _ _ _ _ _
                    refine a_if_ne (pc := 42) (dk dt_X11_pass 20 rfl) (tgt := 47) rfl ⟨fun _ => ?_, fun c => absurd c (by decide)⟩
                    refine a_aload_n (pc := 47) (dk dt_X11_pass 23 rfl) rfl ?_
                    refine a_getr (r := 74) (pc := 48) (dk dt_X11_pass 24 rfl) cls_11 fl_RX11_89 cf_1_11 ?_
                    refine a_iload_n (pc := 51) (dk dt_X11_pass 25 rfl) rfl ?_
                    refine a_iload_n (pc := 52) (dk dt_X11_pass 26 rfl) rfl ?_
                    refine a_iload_n (pc := 53) (dk dt_X11_pass 27 rfl) rfl ?_
                    refine a_iload (pc := 54) (dk dt_X11_pass 28 rfl) rfl ?_
                    refine a_callVi (as := [iv x1, iv x2, iv x3, iv x4]) (st := []) (pc := 56) (dk dt_X11_pass 29 rfl) cl_RX11_356 ⟨Nat.le_of_ble_eq_true rfl, Nat.le_of_ble_eq_true rfl⟩ ⟨Nat.le_of_ble_eq_true rfl, Nat.le_of_ble_eq_true rfl⟩ cls_7 rfl cc_75 rfl rfl rfl (Nat.le_of_ble_eq_true rfl) (Call.mono H fun r1 h2 H => ?_)
                    exact a_iret (pc := 59) (dk dt_X11_pass 30 rfl) rfl rfl H
set_option maxHeartbeats 40000000 in
theorem U_X11_gap_1_0 {G : GG} {Φ : Int → Hp → Prop} {h : Hp} {x1 : Int} (H : ((x1 < 0 → Φ (-1) h) ∧ (0 ≤ x1 → ((999 < x1 → Φ (-1) h) ∧ (x1 ≤ 999 → Φ (h 75 6) (up (up h 75 6 x1) 75 7 0)))))) : AT G m_X11_gap 0 [(0, rv 1), (1, iv x1)] [] h Φ := by
  refine a_iload_n (pc := 0) (dk dt_X11_gap 0 rfl) rfl ?_
  refine a_iconst (pc := 1) (dk dt_X11_gap 1 rfl) (ik rfl) ?_
  refine a_sipush (pc := 2) (dk dt_X11_gap 2 rfl) (ik rfl) (spk rfl) ?_
  refine a_callSi (as := [iv x1, iv 0, iv 999]) (st := []) (pc := 5) (dk dt_X11_gap 3 rfl) cl_RX11_104 ⟨Nat.le_of_ble_eq_true rfl, Nat.le_of_ble_eq_true rfl⟩ ⟨Nat.le_of_ble_eq_true rfl, Nat.le_of_ble_eq_true rfl⟩ rfl rfl rfl (Nat.le_of_ble_eq_true rfl) (Call.of rfl (Nat.le_of_ble_eq_true rfl) rfl ?_)
  refine a_iload_n (pc := 0) (dk dt_X11_within 0 rfl) rfl ?_
  refine a_iload_n (pc := 1) (dk dt_X11_within 1 rfl) rfl ?_
  refine a_icmp_lt (pc := 2) (dk dt_X11_within 2 rfl) (tgt := 14) rfl ⟨fun c => ?_, fun c => ?_⟩
  · replace H := H.1 c
    refine a_iconst (pc := 14) (dk dt_X11_within 8 rfl) (ik rfl) ?_
    refine a_zret (pc := 15) (dk dt_X11_within 9 rfl) rfl rfl ⟨by decide, ?_⟩
    show ATW _ _ _ _ _ _ _ _ _ _
    refine a_if_ne (pc := 8) (dk dt_X11_gap 4 rfl) (tgt := 13) rfl ⟨fun c => absurd c (by decide), fun _ => ?_⟩
    refine a_iconst (pc := 11) (dk dt_X11_gap 5 rfl) (ik rfl) ?_
    exact a_iret (pc := 12) (dk dt_X11_gap 6 rfl) rfl rfl H
  · replace H := H.2 c
    refine a_iload_n (pc := 5) (dk dt_X11_within 3 rfl) rfl ?_
    refine a_iload_n (pc := 6) (dk dt_X11_within 4 rfl) rfl ?_
    refine a_icmp_gt (pc := 7) (dk dt_X11_within 5 rfl) (tgt := 14) rfl ⟨fun c => ?_, fun c => ?_⟩
    · replace H := H.1 c
      refine a_iconst (pc := 14) (dk dt_X11_within 8 rfl) (ik rfl) ?_
      refine a_zret (pc := 15) (dk dt_X11_within 9 rfl) rfl rfl ⟨by decide, ?_⟩
      show ATW _ _ _ _ _ _ _ _ _ _
      refine a_if_ne (pc := 8) (dk dt_X11_gap 4 rfl) (tgt := 13) rfl ⟨fun c => absurd c (by decide), fun _ => ?_⟩
      refine a_iconst (pc := 11) (dk dt_X11_gap 5 rfl) (ik rfl) ?_
      exact a_iret (pc := 12) (dk dt_X11_gap 6 rfl) rfl rfl H
    · replace H := H.2 c
      refine a_iconst (pc := 10) (dk dt_X11_within 6 rfl) (ik rfl) ?_
      refine a_goto (pc := 11) (dk dt_X11_within 7 rfl) (tgt := 15) rfl ?_
      refine a_zret (pc := 15) (dk dt_X11_within 9 rfl) rfl rfl ⟨by decide, ?_⟩
      show ATW _ _ _ _ _ _ _ _ _ _
      refine a_if_ne (pc := 8) (dk dt_X11_gap 4 rfl) (tgt := 13) rfl ⟨fun _ => ?_, fun c => absurd c (by decide)⟩
      refine a_aload_n (pc := 13) (dk dt_X11_gap 7 rfl) rfl ?_
      refine a_getr (r := 74) (pc := 14) (dk dt_X11_gap 8 rfl) cls_11 fl_RX11_89 cf_1_11 ?_
      refine a_geti (pc := 17) (dk dt_X11_gap 9 rfl) cls_7 fl_RX11_360 cf_75_6 ?_
      refine a_istore_n (pc := 20) (dk dt_X11_gap 10 rfl) (by decide) rfl rfl ?_
      refine a_aload_n (pc := 21) (dk dt_X11_gap 11 rfl) rfl ?_
      refine a_getr (r := 74) (pc := 22) (dk dt_X11_gap 12 rfl) cls_11 fl_RX11_89 cf_1_11 ?_
      refine a_iload_n (pc := 25) (dk dt_X11_gap 13 rfl) rfl ?_
      refine a_puti (pc := 26) (dk dt_X11_gap 14 rfl) cls_7 fl_RX11_360 cf_75_6 rfl rfl ?_
      refine a_aload_n (pc := 29) (dk dt_X11_gap 15 rfl) rfl ?_
      refine a_getr (r := 74) (pc := 30) (dk dt_X11_gap 16 rfl) cls_11 fl_RX11_89 cf_1_11 ?_
      refine a_iconst (pc := 33) (dk dt_X11_gap 17 rfl) (ik rfl) ?_
      refine a_putz (pc := 34) (dk dt_X11_gap 18 rfl) cls_7 fl_RX11_363 cf_75_7 rfl rfl ⟨by decide, ?_⟩
      refine a_iload_n (pc := 37) (dk dt_X11_gap 19 rfl) rfl ?_
      exact a_iret (pc := 38) (dk dt_X11_gap 20 rfl) rfl rfl H
set_option maxHeartbeats 40000000 in
theorem U_X11_clear_1_0 {G : GG} {Φ : Int → Hp → Prop} {h : Hp} (H : Φ (h 75 5) (up (up h 75 5 0) 75 7 0)) : AT G m_X11_clear 0 [(0, rv 1)] [] h Φ := by
  refine a_aload_n (pc := 0) (dk dt_X11_clear 0 rfl) rfl ?_
  refine a_getr (r := 74) (pc := 1) (dk dt_X11_clear 1 rfl) cls_11 fl_RX11_89 cf_1_11 ?_
  refine a_geti (pc := 4) (dk dt_X11_clear 2 rfl) cls_7 fl_RX11_367 cf_75_5 ?_
  refine a_istore_n (pc := 7) (dk dt_X11_clear 3 rfl) (by decide) rfl rfl ?_
  refine a_aload_n (pc := 8) (dk dt_X11_clear 4 rfl) rfl ?_
  refine a_getr (r := 74) (pc := 9) (dk dt_X11_clear 5 rfl) cls_11 fl_RX11_89 cf_1_11 ?_
  refine a_iconst (pc := 12) (dk dt_X11_clear 6 rfl) (ik rfl) ?_
  refine a_puti (pc := 13) (dk dt_X11_clear 7 rfl) cls_7 fl_RX11_367 cf_75_5 rfl rfl ?_
  refine a_aload_n (pc := 16) (dk dt_X11_clear 8 rfl) rfl ?_
  refine a_getr (r := 74) (pc := 17) (dk dt_X11_clear 9 rfl) cls_11 fl_RX11_89 cf_1_11 ?_
  refine a_iconst (pc := 20) (dk dt_X11_clear 10 rfl) (ik rfl) ?_
  refine a_putz (pc := 21) (dk dt_X11_clear 11 rfl) cls_7 fl_RX11_363 cf_75_7 rfl rfl ⟨by decide, ?_⟩
  refine a_iload_n (pc := 24) (dk dt_X11_clear 12 rfl) rfl ?_
  exact a_iret (pc := 25) (dk dt_X11_clear 13 rfl) rfl rfl H
set_option maxHeartbeats 40000000 in
theorem U_X11_best_1_0 {G : GG} {Φ : Int → Hp → Prop} {h : Hp} {x1 : Int} (H : Call G m_X7_choose [rv 75] h (fun _ h2 => ((x1 ≠ 100 → ((x1 ≠ 101 → ((x1 < 0 → Φ (-1) h2) ∧ (0 ≤ x1 → (((w32 ((h2 75 5) - 1)) < x1 → Φ (-1) h2) ∧ (x1 ≤ (w32 ((h2 75 5) - 1)) → Φ (band (bshr (h2 75 8) x1) 1) h2))))) ∧ (x1 = 101 → Call G m_J6_bitCount_0f7a4 [iv (h2 75 8)] h2 (fun r3 h4 => Φ r3 h4)))) ∧ (x1 = 100 → Φ (h2 75 9) h2)))) : AT G m_X11_best 0 [(0, rv 1), (1, iv x1)] [] h Φ := by
  refine a_aload_n (pc := 0) (dk dt_X11_best 0 rfl) rfl ?_
  refine a_getr (r := 74) (pc := 1) (dk dt_X11_best 1 rfl) cls_11 fl_RX11_89 cf_1_11 ?_
  refine a_callVv (as := []) (st := []) (pc := 4) (dk dt_X11_best 2 rfl) cl_RX11_370 ⟨Nat.le_of_ble_eq_true rfl, Nat.le_of_ble_eq_true rfl⟩ ⟨Nat.le_of_ble_eq_true rfl, Nat.le_of_ble_eq_true rfl⟩ cls_7 rfl cc_75 rfl rfl rfl (Nat.le_of_ble_eq_true rfl) (Call.mono H fun _ h2 H => ?_)
  refine a_iload_n (pc := 7) (dk dt_X11_best 3 rfl) rfl ?_
  refine a_bipush (pc := 8) (dk dt_X11_best 4 rfl) (ik rfl) (bpk rfl) ?_
  refine a_icmp_ne (pc := 10) (dk dt_X11_best 5 rfl) (tgt := 21) rfl ⟨fun c => ?_, fun c => ?_⟩
  · replace H := H.1 c
    refine a_iload_n (pc := 21) (dk dt_X11_best 10 rfl) rfl ?_
    refine a_bipush (pc := 22) (dk dt_X11_best 11 rfl) (ik rfl) (bpk rfl) ?_
    refine a_icmp_ne (pc := 24) (dk dt_X11_best 12 rfl) (tgt := 38) rfl ⟨fun c => ?_, fun c => ?_⟩
    · replace H := H.1 c
      refine a_iload_n (pc := 38) (dk dt_X11_best 18 rfl) rfl ?_
      refine a_iconst (pc := 39) (dk dt_X11_best 19 rfl) (ik rfl) ?_
      refine a_aload_n (pc := 40) (dk dt_X11_best 20 rfl) rfl ?_
      refine a_getr (r := 74) (pc := 41) (dk dt_X11_best 21 rfl) cls_11 fl_RX11_89 cf_1_11 ?_
      refine a_geti (pc := 44) (dk dt_X11_best 22 rfl) cls_7 fl_RX11_367 cf_75_5 ?_
      refine a_iconst (pc := 47) (dk dt_X11_best 23 rfl) (ik rfl) ?_
      refine a_isub (pc := 48) (dk dt_X11_best 24 rfl) ?_
      refine a_callSi (as := [iv x1, iv 0, iv (w32 ((h2 75 5) - 1))]) (st := []) (pc := 49) (dk dt_X11_best 25 rfl) cl_RX11_104 ⟨Nat.le_of_ble_eq_true rfl, Nat.le_of_ble_eq_true rfl⟩ ⟨Nat.le_of_ble_eq_true rfl, Nat.le_of_ble_eq_true rfl⟩ rfl rfl rfl (Nat.le_of_ble_eq_true rfl) (Call.of rfl (Nat.le_of_ble_eq_true rfl) rfl ?_)
      refine a_iload_n (pc := 0) (dk dt_X11_within 0 rfl) rfl ?_
      refine a_iload_n (pc := 1) (dk dt_X11_within 1 rfl) rfl ?_
      refine a_icmp_lt (pc := 2) (dk dt_X11_within 2 rfl) (tgt := 14) rfl ⟨fun c => ?_, fun c => ?_⟩
      · replace H := H.1 c
        refine a_iconst (pc := 14) (dk dt_X11_within 8 rfl) (ik rfl) ?_
        refine a_zret (pc := 15) (dk dt_X11_within 9 rfl) rfl rfl ⟨by decide, ?_⟩
        show ATW _ _ _ _ _ _ _ _ _ _
        refine a_if_eq (pc := 52) (dk dt_X11_best 26 rfl) (tgt := 69) rfl ⟨fun _ => ?_, fun c => absurd c (by decide)⟩
        refine a_iconst (pc := 69) (dk dt_X11_best 35 rfl) (ik rfl) ?_
        exact a_iret (pc := 70) (dk dt_X11_best 36 rfl) rfl rfl H
      · replace H := H.2 c
        refine a_iload_n (pc := 5) (dk dt_X11_within 3 rfl) rfl ?_
        refine a_iload_n (pc := 6) (dk dt_X11_within 4 rfl) rfl ?_
        refine a_icmp_gt (pc := 7) (dk dt_X11_within 5 rfl) (tgt := 14) rfl ⟨fun c => ?_, fun c => ?_⟩
        · replace H := H.1 c
          refine a_iconst (pc := 14) (dk dt_X11_within 8 rfl) (ik rfl) ?_
          refine a_zret (pc := 15) (dk dt_X11_within 9 rfl) rfl rfl ⟨by decide, ?_⟩
          show ATW _ _ _ _ _ _ _ _ _ _
          refine a_if_eq (pc := 52) (dk dt_X11_best 26 rfl) (tgt := 69) rfl ⟨fun _ => ?_, fun c => absurd c (by decide)⟩
          refine a_iconst (pc := 69) (dk dt_X11_best 35 rfl) (ik rfl) ?_
          exact a_iret (pc := 70) (dk dt_X11_best 36 rfl) rfl rfl H
        · replace H := H.2 c
          refine a_iconst (pc := 10) (dk dt_X11_within 6 rfl) (ik rfl) ?_
          refine a_goto (pc := 11) (dk dt_X11_within 7 rfl) (tgt := 15) rfl ?_
          refine a_zret (pc := 15) (dk dt_X11_within 9 rfl) rfl rfl ⟨by decide, ?_⟩
          show ATW _ _ _ _ _ _ _ _ _ _
          refine a_if_eq (pc := 52) (dk dt_X11_best 26 rfl) (tgt := 69) rfl ⟨fun c => absurd c (by decide), fun _ => ?_⟩
          refine a_aload_n (pc := 55) (dk dt_X11_best 27 rfl) rfl ?_
          refine a_getr (r := 74) (pc := 56) (dk dt_X11_best 28 rfl) cls_11 fl_RX11_89 cf_1_11 ?_
          refine a_geti (pc := 59) (dk dt_X11_best 29 rfl) cls_7 fl_RX11_376 cf_75_8 ?_
          refine a_iload_n (pc := 62) (dk dt_X11_best 30 rfl) rfl ?_
          refine a_ishr (pc := 63) (dk dt_X11_best 31 rfl) ?_
          refine a_iconst (pc := 64) (dk dt_X11_best 32 rfl) (ik rfl) ?_
          refine a_iand (pc := 65) (dk dt_X11_best 33 rfl) ?_
          refine a_goto (pc := 66) (dk dt_X11_best 34 rfl) (tgt := 70) rfl ?_
          exact a_iret (pc := 70) (dk dt_X11_best 36 rfl) rfl rfl H
    · replace H := H.2 c
      refine a_aload_n (pc := 27) (dk dt_X11_best 13 rfl) rfl ?_
      refine a_getr (r := 74) (pc := 28) (dk dt_X11_best 14 rfl) cls_11 fl_RX11_89 cf_1_11 ?_
      refine a_geti (pc := 31) (dk dt_X11_best 15 rfl) cls_7 fl_RX11_376 cf_75_8 ?_
      refine a_callSi (as := [iv (h2 75 8)]) (st := []) (pc := 34) (dk dt_X11_best 16 rfl) cl_RX11_379 ⟨Nat.le_of_ble_eq_true rfl, Nat.le_of_ble_eq_true rfl⟩ ⟨Nat.le_of_ble_eq_true rfl, Nat.le_of_ble_eq_true rfl⟩ rfl rfl rfl (Nat.le_of_ble_eq_true rfl) (Call.mono H fun r3 h4 H => ?_)
      exact a_iret (pc := 37) (dk dt_X11_best 17 rfl) rfl rfl H
  · replace H := H.2 c
    refine a_aload_n (pc := 13) (dk dt_X11_best 6 rfl) rfl ?_
    refine a_getr (r := 74) (pc := 14) (dk dt_X11_best 7 rfl) cls_11 fl_RX11_89 cf_1_11 ?_
    refine a_geti (pc := 17) (dk dt_X11_best 8 rfl) cls_7 fl_RX11_373 cf_75_9 ?_
    exact a_iret (pc := 20) (dk dt_X11_best 9 rfl) rfl rfl H
set_option maxHeartbeats 40000000 in
theorem U_X11_bar_1_0 {G : GG} {Φ : Int → Hp → Prop} {h : Hp} {x1 : Int} {x2 : Int} {x3 : Int} (H : ((x1 < 0 → Φ (-1) h) ∧ (0 ≤ x1 → ((23 < x1 → Φ (-1) h) ∧ (x1 ≤ 23 → ((x2 < 0 → Φ (-1) h) ∧ (0 ≤ x2 → ((11 < x2 → Φ (-1) h) ∧ (x2 ≤ 11 → (0 ≤ (w32 ((w32 (x2 * 24)) + x1)) ∧ (w32 ((w32 (x2 * 24)) + x1)) < 288) ∧ (((h 82 (w32 ((w32 (x2 * 24)) + x1))) = 0 → (0 ≤ (w32 ((w32 (x2 * 24)) + x1)) ∧ (w32 ((w32 (x2 * 24)) + x1)) < 288) ∧ (x3 = 0 ∨ x3 = 1) ∧ Φ 0 (up h 82 (w32 ((w32 (x2 * 24)) + x1)) x3)) ∧ ((h 82 (w32 ((w32 (x2 * 24)) + x1))) ≠ 0 → (0 ≤ (w32 ((w32 (x2 * 24)) + x1)) ∧ (w32 ((w32 (x2 * 24)) + x1)) < 288) ∧ (x3 = 0 ∨ x3 = 1) ∧ Φ 1 (up h 82 (w32 ((w32 (x2 * 24)) + x1)) x3)))))))))))) : AT G m_X11_bar 0 [(0, rv 1), (1, iv x1), (2, iv x2), (3, iv x3)] [] h Φ := by
  refine a_iload_n (pc := 0) (dk dt_X11_bar 0 rfl) rfl ?_
  refine a_iload_n (pc := 1) (dk dt_X11_bar 1 rfl) rfl ?_
  refine a_callSi (as := [iv x1, iv x2]) (st := []) (pc := 2) (dk dt_X11_bar 2 rfl) cl_RX11_384 ⟨Nat.le_of_ble_eq_true rfl, Nat.le_of_ble_eq_true rfl⟩ ⟨Nat.le_of_ble_eq_true rfl, Nat.le_of_ble_eq_true rfl⟩ rfl rfl rfl (Nat.le_of_ble_eq_true rfl) (Call.of rfl (Nat.le_of_ble_eq_true rfl) rfl ?_)
  refine a_iload_n (pc := 0) (dk dt_X11_isField 0 rfl) rfl ?_
  refine a_iconst (pc := 1) (dk dt_X11_isField 1 rfl) (ik rfl) ?_
  refine a_bipush (pc := 2) (dk dt_X11_isField 2 rfl) (ik rfl) (bpk rfl) ?_
  refine a_callSi (as := [iv x1, iv 0, iv 23]) (st := []) (pc := 4) (dk dt_X11_isField 3 rfl) cl_RX11_104 ⟨Nat.le_of_ble_eq_true rfl, Nat.le_of_ble_eq_true rfl⟩ ⟨Nat.le_of_ble_eq_true rfl, Nat.le_of_ble_eq_true rfl⟩ rfl rfl rfl (Nat.le_of_ble_eq_true rfl) (Call.of rfl (Nat.le_of_ble_eq_true rfl) rfl ?_)
  refine a_iload_n (pc := 0) (dk dt_X11_within 0 rfl) rfl ?_
  refine a_iload_n (pc := 1) (dk dt_X11_within 1 rfl) rfl ?_
  refine a_icmp_lt (pc := 2) (dk dt_X11_within 2 rfl) (tgt := 14) rfl ⟨fun c => ?_, fun c => ?_⟩
  · replace H := H.1 c
    refine a_iconst (pc := 14) (dk dt_X11_within 8 rfl) (ik rfl) ?_
    refine a_zret (pc := 15) (dk dt_X11_within 9 rfl) rfl rfl ⟨by decide, ?_⟩
    show ATW _ _ _ _ _ _ _ _ _ _
    refine a_if_eq (pc := 7) (dk dt_X11_isField 4 rfl) (tgt := 24) rfl ⟨fun _ => ?_, fun c => absurd c (by decide)⟩
    refine a_iconst (pc := 24) (dk dt_X11_isField 12 rfl) (ik rfl) ?_
    refine a_zret (pc := 25) (dk dt_X11_isField 13 rfl) rfl rfl ⟨by decide, ?_⟩
    show ATW _ _ _ _ _ _ _ _ _ _
    refine a_if_ne (pc := 5) (dk dt_X11_bar 3 rfl) (tgt := 10) rfl ⟨fun c => absurd c (by decide), fun _ => ?_⟩
    refine a_iconst (pc := 8) (dk dt_X11_bar 4 rfl) (ik rfl) ?_
    exact a_iret (pc := 9) (dk dt_X11_bar 5 rfl) rfl rfl H
  · replace H := H.2 c
    refine a_iload_n (pc := 5) (dk dt_X11_within 3 rfl) rfl ?_
    refine a_iload_n (pc := 6) (dk dt_X11_within 4 rfl) rfl ?_
    refine a_icmp_gt (pc := 7) (dk dt_X11_within 5 rfl) (tgt := 14) rfl ⟨fun c => ?_, fun c => ?_⟩
    · replace H := H.1 c
      refine a_iconst (pc := 14) (dk dt_X11_within 8 rfl) (ik rfl) ?_
      refine a_zret (pc := 15) (dk dt_X11_within 9 rfl) rfl rfl ⟨by decide, ?_⟩
      show ATW _ _ _ _ _ _ _ _ _ _
      refine a_if_eq (pc := 7) (dk dt_X11_isField 4 rfl) (tgt := 24) rfl ⟨fun _ => ?_, fun c => absurd c (by decide)⟩
      refine a_iconst (pc := 24) (dk dt_X11_isField 12 rfl) (ik rfl) ?_
      refine a_zret (pc := 25) (dk dt_X11_isField 13 rfl) rfl rfl ⟨by decide, ?_⟩
      show ATW _ _ _ _ _ _ _ _ _ _
      refine a_if_ne (pc := 5) (dk dt_X11_bar 3 rfl) (tgt := 10) rfl ⟨fun c => absurd c (by decide), fun _ => ?_⟩
      refine a_iconst (pc := 8) (dk dt_X11_bar 4 rfl) (ik rfl) ?_
      exact a_iret (pc := 9) (dk dt_X11_bar 5 rfl) rfl rfl H
    · replace H := H.2 c
      refine a_iconst (pc := 10) (dk dt_X11_within 6 rfl) (ik rfl) ?_
      refine a_goto (pc := 11) (dk dt_X11_within 7 rfl) (tgt := 15) rfl ?_
      refine a_zret (pc := 15) (dk dt_X11_within 9 rfl) rfl rfl ⟨by decide, ?_⟩
      show ATW _ _ _ _ _ _ _ _ _ _
      refine a_if_eq (pc := 7) (dk dt_X11_isField 4 rfl) (tgt := 24) rfl ⟨fun c => absurd c (by decide), fun _ => ?_⟩
      refine a_iload_n (pc := 10) (dk dt_X11_isField 5 rfl) rfl ?_
      refine a_iconst (pc := 11) (dk dt_X11_isField 6 rfl) (ik rfl) ?_
      refine a_bipush (pc := 12) (dk dt_X11_isField 7 rfl) (ik rfl) (bpk rfl) ?_
      refine a_callSi (as := [iv x2, iv 0, iv 11]) (st := []) (pc := 14) (dk dt_X11_isField 8 rfl) cl_RX11_104 ⟨Nat.le_of_ble_eq_true rfl, Nat.le_of_ble_eq_true rfl⟩ ⟨Nat.le_of_ble_eq_true rfl, Nat.le_of_ble_eq_true rfl⟩ rfl rfl rfl (Nat.le_of_ble_eq_true rfl) (Call.of rfl (Nat.le_of_ble_eq_true rfl) rfl ?_)
      refine a_iload_n (pc := 0) (dk dt_X11_within 0 rfl) rfl ?_
      refine a_iload_n (pc := 1) (dk dt_X11_within 1 rfl) rfl ?_
      refine a_icmp_lt (pc := 2) (dk dt_X11_within 2 rfl) (tgt := 14) rfl ⟨fun c => ?_, fun c => ?_⟩
      · replace H := H.1 c
        refine a_iconst (pc := 14) (dk dt_X11_within 8 rfl) (ik rfl) ?_
        refine a_zret (pc := 15) (dk dt_X11_within 9 rfl) rfl rfl ⟨by decide, ?_⟩
        show ATW _ _ _ _ _ _ _ _ _ _
        refine a_if_eq (pc := 17) (dk dt_X11_isField 9 rfl) (tgt := 24) rfl ⟨fun _ => ?_, fun c => absurd c (by decide)⟩
        refine a_iconst (pc := 24) (dk dt_X11_isField 12 rfl) (ik rfl) ?_
        refine a_zret (pc := 25) (dk dt_X11_isField 13 rfl) rfl rfl ⟨by decide, ?_⟩
        show ATW _ _ _ _ _ _ _ _ _ _
        refine a_if_ne (pc := 5) (dk dt_X11_bar 3 rfl) (tgt := 10) rfl ⟨fun c => absurd c (by decide), fun _ => ?_⟩
        refine a_iconst (pc := 8) (dk dt_X11_bar 4 rfl) (ik rfl) ?_
        exact a_iret (pc := 9) (dk dt_X11_bar 5 rfl) rfl rfl H
      · replace H := H.2 c
        refine a_iload_n (pc := 5) (dk dt_X11_within 3 rfl) rfl ?_
        refine a_iload_n (pc := 6) (dk dt_X11_within 4 rfl) rfl ?_
        refine a_icmp_gt (pc := 7) (dk dt_X11_within 5 rfl) (tgt := 14) rfl ⟨fun c => ?_, fun c => ?_⟩
        · replace H := H.1 c
          refine a_iconst (pc := 14) (dk dt_X11_within 8 rfl) (ik rfl) ?_
          refine a_zret (pc := 15) (dk dt_X11_within 9 rfl) rfl rfl ⟨by decide, ?_⟩
          show ATW _ _ _ _ _ _ _ _ _ _
          refine a_if_eq (pc := 17) (dk dt_X11_isField 9 rfl) (tgt := 24) rfl ⟨fun _ => ?_, fun c => absurd c (by decide)⟩
          refine a_iconst (pc := 24) (dk dt_X11_isField 12 rfl) (ik rfl) ?_
          refine a_zret (pc := 25) (dk dt_X11_isField 13 rfl) rfl rfl ⟨by decide, ?_⟩
          show ATW _ _ _ _ _ _ _ _ _ _
          refine a_if_ne (pc := 5) (dk dt_X11_bar 3 rfl) (tgt := 10) rfl ⟨fun c => absurd c (by decide), fun _ => ?_⟩
          refine a_iconst (pc := 8) (dk dt_X11_bar 4 rfl) (ik rfl) ?_
          exact a_iret (pc := 9) (dk dt_X11_bar 5 rfl) rfl rfl H
        · replace H := H.2 c
          refine a_iconst (pc := 10) (dk dt_X11_within 6 rfl) (ik rfl) ?_
          refine a_goto (pc := 11) (dk dt_X11_within 7 rfl) (tgt := 15) rfl ?_
          refine a_zret (pc := 15) (dk dt_X11_within 9 rfl) rfl rfl ⟨by decide, ?_⟩
          show ATW _ _ _ _ _ _ _ _ _ _
          refine a_if_eq (pc := 17) (dk dt_X11_isField 9 rfl) (tgt := 24) rfl ⟨fun c => absurd c (by decide), fun _ => ?_⟩
          refine a_iconst (pc := 20) (dk dt_X11_isField 10 rfl) (ik rfl) ?_
          refine a_goto (pc := 21) (dk dt_X11_isField 11 rfl) (tgt := 25) rfl ?_
          refine a_zret (pc := 25) (dk dt_X11_isField 13 rfl) rfl rfl ⟨by decide, ?_⟩
          show ATW _ _ _ _ _ _ _ _ _ _
          refine a_if_ne (pc := 5) (dk dt_X11_bar 3 rfl) (tgt := 10) rfl ⟨fun _ => ?_, fun c => absurd c (by decide)⟩
          refine a_iload_n (pc := 10) (dk dt_X11_bar 6 rfl) rfl ?_
          refine a_bipush (pc := 11) (dk dt_X11_bar 7 rfl) (ik rfl) (bpk rfl) ?_
          refine a_imul (pc := 13) (dk dt_X11_bar 8 rfl) ?_
          refine a_iload_n (pc := 14) (dk dt_X11_bar 9 rfl) rfl ?_
          refine a_iadd (pc := 15) (dk dt_X11_bar 10 rfl) ?_
          refine a_istore (pc := 16) (dk dt_X11_bar 11 rfl) (by decide) rfl rfl ?_
          refine a_aload_n (pc := 18) (dk dt_X11_bar 12 rfl) rfl ?_
          refine a_getr (r := 80) (pc := 19) (dk dt_X11_bar 13 rfl) cls_11 fl_RX11_94 cf_1_12 ?_
          refine a_getr (r := 81) (pc := 22) (dk dt_X11_bar 14 rfl) cls_9 fl_RX11_388 cf_81_0 ?_
          refine a_iload (pc := 25) (dk dt_X11_bar 15 rfl) rfl ?_
          refine a_zald (pc := 27) (dk dt_X11_bar 16 rfl) ar_82 ⟨H.1, ?_⟩
          replace H := H.2
          refine a_callSi (as := [iv (h 82 (w32 ((w32 (x2 * 24)) + x1)))]) (st := []) (pc := 28) (dk dt_X11_bar 17 rfl) cl_RX11_236 ⟨Nat.le_of_ble_eq_true rfl, Nat.le_of_ble_eq_true rfl⟩ ⟨Nat.le_of_ble_eq_true rfl, Nat.le_of_ble_eq_true rfl⟩ rfl rfl rfl (Nat.le_of_ble_eq_true rfl) (Call.of rfl (Nat.le_of_ble_eq_true rfl) rfl ?_)
          refine a_iload_n (pc := 0) (dk dt_X11_bit 0 rfl) rfl ?_
          refine a_if_eq (pc := 1) (dk dt_X11_bit 1 rfl) (tgt := 8) rfl ⟨fun c => ?_, fun c => ?_⟩
          · replace H := H.1 c
            refine a_iconst (pc := 8) (dk dt_X11_bit 4 rfl) (ik rfl) ?_
            refine a_iret (pc := 9) (dk dt_X11_bit 5 rfl) rfl rfl ?_
            show ATW _ _ _ _ _ _ _ _ _ _
            refine a_istore (pc := 31) (dk dt_X11_bar 18 rfl) (by decide) rfl rfl ?_
            refine a_aload_n (pc := 33) (dk dt_X11_bar 19 rfl) rfl ?_
            refine a_getr (r := 80) (pc := 34) (dk dt_X11_bar 20 rfl) cls_11 fl_RX11_94 cf_1_12 ?_
            refine a_getr (r := 81) (pc := 37) (dk dt_X11_bar 21 rfl) cls_9 fl_RX11_388 cf_81_0 ?_
            refine a_iload (pc := 40) (dk dt_X11_bar 22 rfl) rfl ?_
            refine a_iload_n (pc := 42) (dk dt_X11_bar 23 rfl) rfl ?_
            refine a_zast (pc := 43) (dk dt_X11_bar 24 rfl) ar_82 ⟨H.1, H.2.1, ?_⟩
            replace H := H.2.2
            refine a_iload (pc := 44) (dk dt_X11_bar 25 rfl) rfl ?_
            exact a_iret (pc := 46) (dk dt_X11_bar 26 rfl) rfl rfl H
          · replace H := H.2 c
            refine a_iconst (pc := 4) (dk dt_X11_bit 2 rfl) (ik rfl) ?_
            refine a_goto (pc := 5) (dk dt_X11_bit 3 rfl) (tgt := 9) rfl ?_
            refine a_iret (pc := 9) (dk dt_X11_bit 5 rfl) rfl rfl ?_
            show ATW _ _ _ _ _ _ _ _ _ _
            refine a_istore (pc := 31) (dk dt_X11_bar 18 rfl) (by decide) rfl rfl ?_
            refine a_aload_n (pc := 33) (dk dt_X11_bar 19 rfl) rfl ?_
            refine a_getr (r := 80) (pc := 34) (dk dt_X11_bar 20 rfl) cls_11 fl_RX11_94 cf_1_12 ?_
            refine a_getr (r := 81) (pc := 37) (dk dt_X11_bar 21 rfl) cls_9 fl_RX11_388 cf_81_0 ?_
            refine a_iload (pc := 40) (dk dt_X11_bar 22 rfl) rfl ?_
            refine a_iload_n (pc := 42) (dk dt_X11_bar 23 rfl) rfl ?_
            refine a_zast (pc := 43) (dk dt_X11_bar 24 rfl) ar_82 ⟨H.1, H.2.1, ?_⟩
            replace H := H.2.2
            refine a_iload (pc := 44) (dk dt_X11_bar 25 rfl) rfl ?_
            exact a_iret (pc := 46) (dk dt_X11_bar 26 rfl) rfl rfl H
set_option maxHeartbeats 40000000 in
theorem U_X11_way_1_0 {G : GG} {Φ : Int → Hp → Prop} {h : Hp} {x1 : Int} {x2 : Int} {x3 : Int} {x4 : Int} (H : ((x1 < 0 → Φ (-1) h) ∧ (0 ≤ x1 → ((23 < x1 → Φ (-1) h) ∧ (x1 ≤ 23 → ((x2 < 0 → Φ (-1) h) ∧ (0 ≤ x2 → ((11 < x2 → Φ (-1) h) ∧ (x2 ≤ 11 → ((x3 < 0 → Φ (-1) h) ∧ (0 ≤ x3 → ((23 < x3 → Φ (-1) h) ∧ (x3 ≤ 23 → ((x4 < 0 → Φ (-1) h) ∧ (0 ≤ x4 → ((11 < x4 → Φ (-1) h) ∧ (x4 ≤ 11 → Call G m_X9_turnsTo [rv 81, iv (w32 ((w32 (x2 * 24)) + x1)), iv (w32 ((w32 (x4 * 24)) + x3))] h (fun r1 h2 => ((r1 ≠ (-1) → Call G m_X9_writeTurns [rv 81, iv (w32 ((w32 (x2 * 24)) + x1)), iv r1, rv 11] h2 (fun _ h4 => Φ r1 (up h4 1 3 r1))) ∧ (r1 = (-1) → Φ (-1) h2)))))))))))))))))))) : AT G m_X11_way 0 [(0, rv 1), (1, iv x1), (2, iv x2), (3, iv x3), (4, iv x4)] [] h Φ := by
  refine a_iload_n (pc := 0) (dk dt_X11_way 0 rfl) rfl ?_
  refine a_iload_n (pc := 1) (dk dt_X11_way 1 rfl) rfl ?_
  refine a_callSi (as := [iv x1, iv x2]) (st := []) (pc := 2) (dk dt_X11_way 2 rfl) cl_RX11_384 ⟨Nat.le_of_ble_eq_true rfl, Nat.le_of_ble_eq_true rfl⟩ ⟨Nat.le_of_ble_eq_true rfl, Nat.le_of_ble_eq_true rfl⟩ rfl rfl rfl (Nat.le_of_ble_eq_true rfl) (Call.of rfl (Nat.le_of_ble_eq_true rfl) rfl ?_)
  refine a_iload_n (pc := 0) (dk dt_X11_isField 0 rfl) rfl ?_
  refine a_iconst (pc := 1) (dk dt_X11_isField 1 rfl) (ik rfl) ?_
  refine a_bipush (pc := 2) (dk dt_X11_isField 2 rfl) (ik rfl) (bpk rfl) ?_
  refine a_callSi (as := [iv x1, iv 0, iv 23]) (st := []) (pc := 4) (dk dt_X11_isField 3 rfl) cl_RX11_104 ⟨Nat.le_of_ble_eq_true rfl, Nat.le_of_ble_eq_true rfl⟩ ⟨Nat.le_of_ble_eq_true rfl, Nat.le_of_ble_eq_true rfl⟩ rfl rfl rfl (Nat.le_of_ble_eq_true rfl) (Call.of rfl (Nat.le_of_ble_eq_true rfl) rfl ?_)
  refine a_iload_n (pc := 0) (dk dt_X11_within 0 rfl) rfl ?_
  refine a_iload_n (pc := 1) (dk dt_X11_within 1 rfl) rfl ?_
  refine a_icmp_lt (pc := 2) (dk dt_X11_within 2 rfl) (tgt := 14) rfl ⟨fun c => ?_, fun c => ?_⟩
  · replace H := H.1 c
    refine a_iconst (pc := 14) (dk dt_X11_within 8 rfl) (ik rfl) ?_
    refine a_zret (pc := 15) (dk dt_X11_within 9 rfl) rfl rfl ⟨by decide, ?_⟩
    show ATW _ _ _ _ _ _ _ _ _ _
    refine a_if_eq (pc := 7) (dk dt_X11_isField 4 rfl) (tgt := 24) rfl ⟨fun _ => ?_, fun c => absurd c (by decide)⟩
    refine a_iconst (pc := 24) (dk dt_X11_isField 12 rfl) (ik rfl) ?_
    refine a_zret (pc := 25) (dk dt_X11_isField 13 rfl) rfl rfl ⟨by decide, ?_⟩
    show ATW _ _ _ _ _ _ _ _ _ _
    refine a_if_eq (pc := 5) (dk dt_X11_way 3 rfl) (tgt := 17) rfl ⟨fun _ => ?_, fun c => absurd c (by decide)⟩
    refine a_iconst (pc := 17) (dk dt_X11_way 8 rfl) (ik rfl) ?_
    exact a_iret (pc := 18) (dk dt_X11_way 9 rfl) rfl rfl H
  · replace H := H.2 c
    refine a_iload_n (pc := 5) (dk dt_X11_within 3 rfl) rfl ?_
    refine a_iload_n (pc := 6) (dk dt_X11_within 4 rfl) rfl ?_
    refine a_icmp_gt (pc := 7) (dk dt_X11_within 5 rfl) (tgt := 14) rfl ⟨fun c => ?_, fun c => ?_⟩
    · replace H := H.1 c
      refine a_iconst (pc := 14) (dk dt_X11_within 8 rfl) (ik rfl) ?_
      refine a_zret (pc := 15) (dk dt_X11_within 9 rfl) rfl rfl ⟨by decide, ?_⟩
      show ATW _ _ _ _ _ _ _ _ _ _
      refine a_if_eq (pc := 7) (dk dt_X11_isField 4 rfl) (tgt := 24) rfl ⟨fun _ => ?_, fun c => absurd c (by decide)⟩
      refine a_iconst (pc := 24) (dk dt_X11_isField 12 rfl) (ik rfl) ?_
      refine a_zret (pc := 25) (dk dt_X11_isField 13 rfl) rfl rfl ⟨by decide, ?_⟩
      show ATW _ _ _ _ _ _ _ _ _ _
      refine a_if_eq (pc := 5) (dk dt_X11_way 3 rfl) (tgt := 17) rfl ⟨fun _ => ?_, fun c => absurd c (by decide)⟩
      refine a_iconst (pc := 17) (dk dt_X11_way 8 rfl) (ik rfl) ?_
      exact a_iret (pc := 18) (dk dt_X11_way 9 rfl) rfl rfl H
    · replace H := H.2 c
      refine a_iconst (pc := 10) (dk dt_X11_within 6 rfl) (ik rfl) ?_
      refine a_goto (pc := 11) (dk dt_X11_within 7 rfl) (tgt := 15) rfl ?_
      refine a_zret (pc := 15) (dk dt_X11_within 9 rfl) rfl rfl ⟨by decide, ?_⟩
      show ATW _ _ _ _ _ _ _ _ _ _
      refine a_if_eq (pc := 7) (dk dt_X11_isField 4 rfl) (tgt := 24) rfl ⟨fun c => absurd c (by decide), fun _ => ?_⟩
      refine a_iload_n (pc := 10) (dk dt_X11_isField 5 rfl) rfl ?_
      refine a_iconst (pc := 11) (dk dt_X11_isField 6 rfl) (ik rfl) ?_
      refine a_bipush (pc := 12) (dk dt_X11_isField 7 rfl) (ik rfl) (bpk rfl) ?_
      refine a_callSi (as := [iv x2, iv 0, iv 11]) (st := []) (pc := 14) (dk dt_X11_isField 8 rfl) cl_RX11_104 ⟨Nat.le_of_ble_eq_true rfl, Nat.le_of_ble_eq_true rfl⟩ ⟨Nat.le_of_ble_eq_true rfl, Nat.le_of_ble_eq_true rfl⟩ rfl rfl rfl (Nat.le_of_ble_eq_true rfl) (Call.of rfl (Nat.le_of_ble_eq_true rfl) rfl ?_)
      refine a_iload_n (pc := 0) (dk dt_X11_within 0 rfl) rfl ?_
      refine a_iload_n (pc := 1) (dk dt_X11_within 1 rfl) rfl ?_
      refine a_icmp_lt (pc := 2) (dk dt_X11_within 2 rfl) (tgt := 14) rfl ⟨fun c => ?_, fun c => ?_⟩
      · replace H := H.1 c
        refine a_iconst (pc := 14) (dk dt_X11_within 8 rfl) (ik rfl) ?_
        refine a_zret (pc := 15) (dk dt_X11_within 9 rfl) rfl rfl ⟨by decide, ?_⟩
        show ATW _ _ _ _ _ _ _ _ _ _
        refine a_if_eq (pc := 17) (dk dt_X11_isField 9 rfl) (tgt := 24) rfl ⟨fun _ => ?_, fun c => absurd c (by decide)⟩
        refine a_iconst (pc := 24) (dk dt_X11_isField 12 rfl) (ik rfl) ?_
        refine a_zret (pc := 25) (dk dt_X11_isField 13 rfl) rfl rfl ⟨by decide, ?_⟩
        show ATW _ _ _ _ _ _ _ _ _ _
        refine a_if_eq (pc := 5) (dk dt_X11_way 3 rfl) (tgt := 17) rfl ⟨fun _ => ?_, fun c => absurd c (by decide)⟩
        refine a_iconst (pc := 17) (dk dt_X11_way 8 rfl) (ik rfl) ?_
        exact a_iret (pc := 18) (dk dt_X11_way 9 rfl) rfl rfl H
      · replace H := H.2 c
        refine a_iload_n (pc := 5) (dk dt_X11_within 3 rfl) rfl ?_
        refine a_iload_n (pc := 6) (dk dt_X11_within 4 rfl) rfl ?_
        refine a_icmp_gt (pc := 7) (dk dt_X11_within 5 rfl) (tgt := 14) rfl ⟨fun c => ?_, fun c => ?_⟩
        · replace H := H.1 c
          refine a_iconst (pc := 14) (dk dt_X11_within 8 rfl) (ik rfl) ?_
          refine a_zret (pc := 15) (dk dt_X11_within 9 rfl) rfl rfl ⟨by decide, ?_⟩
          show ATW _ _ _ _ _ _ _ _ _ _
          refine a_if_eq (pc := 17) (dk dt_X11_isField 9 rfl) (tgt := 24) rfl ⟨fun _ => ?_, fun c => absurd c (by decide)⟩
          refine a_iconst (pc := 24) (dk dt_X11_isField 12 rfl) (ik rfl) ?_
          refine a_zret (pc := 25) (dk dt_X11_isField 13 rfl) rfl rfl ⟨by decide, ?_⟩
          show ATW _ _ _ _ _ _ _ _ _ _
          refine a_if_eq (pc := 5) (dk dt_X11_way 3 rfl) (tgt := 17) rfl ⟨fun _ => ?_, fun c => absurd c (by decide)⟩
          refine a_iconst (pc := 17) (dk dt_X11_way 8 rfl) (ik rfl) ?_
          exact a_iret (pc := 18) (dk dt_X11_way 9 rfl) rfl rfl H
        · replace H := H.2 c
          refine a_iconst (pc := 10) (dk dt_X11_within 6 rfl) (ik rfl) ?_
          refine a_goto (pc := 11) (dk dt_X11_within 7 rfl) (tgt := 15) rfl ?_
          refine a_zret (pc := 15) (dk dt_X11_within 9 rfl) rfl rfl ⟨by decide, ?_⟩
          show ATW _ _ _ _ _ _ _ _ _ _
          refine a_if_eq (pc := 17) (dk dt_X11_isField 9 rfl) (tgt := 24) rfl ⟨fun c => absurd c (by decide), fun _ => ?_⟩
          refine a_iconst (pc := 20) (dk dt_X11_isField 10 rfl) (ik rfl) ?_
          refine a_goto (pc := 21) (dk dt_X11_isField 11 rfl) (tgt := 25) rfl ?_
          refine a_zret (pc := 25) (dk dt_X11_isField 13 rfl) rfl rfl ⟨by decide, ?_⟩
          show ATW _ _ _ _ _ _ _ _ _ _
          refine a_if_eq (pc := 5) (dk dt_X11_way 3 rfl) (tgt := 17) rfl ⟨fun c => absurd c (by decide), fun _ => ?_⟩
          refine a_iload_n (pc := 8) (dk dt_X11_way 4 rfl) rfl ?_
          refine a_iload (pc := 9) (dk dt_X11_way 5 rfl) rfl ?_
          refine a_callSi (as := [iv x3, iv x4]) (st := []) (pc := 11) (dk dt_X11_way 6 rfl) cl_RX11_384 ⟨Nat.le_of_ble_eq_true rfl, Nat.le_of_ble_eq_true rfl⟩ ⟨Nat.le_of_ble_eq_true rfl, Nat.le_of_ble_eq_true rfl⟩ rfl rfl rfl (Nat.le_of_ble_eq_true rfl) (Call.of rfl (Nat.le_of_ble_eq_true rfl) rfl ?_)
          refine a_iload_n (pc := 0) (dk dt_X11_isField 0 rfl) rfl ?_
          refine a_iconst (pc := 1) (dk dt_X11_isField 1 rfl) (ik rfl) ?_
          refine a_bipush (pc := 2) (dk dt_X11_isField 2 rfl) (ik rfl) (bpk rfl) ?_
          refine a_callSi (as := [iv x3, iv 0, iv 23]) (st := []) (pc := 4) (dk dt_X11_isField 3 rfl) cl_RX11_104 ⟨Nat.le_of_ble_eq_true rfl, Nat.le_of_ble_eq_true rfl⟩ ⟨Nat.le_of_ble_eq_true rfl, Nat.le_of_ble_eq_true rfl⟩ rfl rfl rfl (Nat.le_of_ble_eq_true rfl) (Call.of rfl (Nat.le_of_ble_eq_true rfl) rfl ?_)
          refine a_iload_n (pc := 0) (dk dt_X11_within 0 rfl) rfl ?_
          refine a_iload_n (pc := 1) (dk dt_X11_within 1 rfl) rfl ?_
          refine a_icmp_lt (pc := 2) (dk dt_X11_within 2 rfl) (tgt := 14) rfl ⟨fun c => ?_, fun c => ?_⟩
          · replace H := H.1 c
            refine a_iconst (pc := 14) (dk dt_X11_within 8 rfl) (ik rfl) ?_
            refine a_zret (pc := 15) (dk dt_X11_within 9 rfl) rfl rfl ⟨by decide, ?_⟩
            show ATW _ _ _ _ _ _ _ _ _ _
            refine a_if_eq (pc := 7) (dk dt_X11_isField 4 rfl) (tgt := 24) rfl ⟨fun _ => ?_, fun c => absurd c (by decide)⟩
            refine a_iconst (pc := 24) (dk dt_X11_isField 12 rfl) (ik rfl) ?_
            refine a_zret (pc := 25) (dk dt_X11_isField 13 rfl) rfl rfl ⟨by decide, ?_⟩
            show ATW _ _ _ _ _ _ _ _ _ _
            refine a_if_ne (pc := 14) (dk dt_X11_way 7 rfl) (tgt := 19) rfl ⟨fun c => absurd c (by decide), fun _ => ?_⟩
            refine a_iconst (pc := 17) (dk dt_X11_way 8 rfl) (ik rfl) ?_
            exact a_iret (pc := 18) (dk dt_X11_way 9 rfl) rfl rfl H
          · replace H := H.2 c
            refine a_iload_n (pc := 5) (dk dt_X11_within 3 rfl) rfl ?_
            refine a_iload_n (pc := 6) (dk dt_X11_within 4 rfl) rfl ?_
            refine a_icmp_gt (pc := 7) (dk dt_X11_within 5 rfl) (tgt := 14) rfl ⟨fun c => ?_, fun c => ?_⟩
            · replace H := H.1 c
              refine a_iconst (pc := 14) (dk dt_X11_within 8 rfl) (ik rfl) ?_
              refine a_zret (pc := 15) (dk dt_X11_within 9 rfl) rfl rfl ⟨by decide, ?_⟩
              show ATW _ _ _ _ _ _ _ _ _ _
              refine a_if_eq (pc := 7) (dk dt_X11_isField 4 rfl) (tgt := 24) rfl ⟨fun _ => ?_, fun c => absurd c (by decide)⟩
              refine a_iconst (pc := 24) (dk dt_X11_isField 12 rfl) (ik rfl) ?_
              refine a_zret (pc := 25) (dk dt_X11_isField 13 rfl) rfl rfl ⟨by decide, ?_⟩
              show ATW _ _ _ _ _ _ _ _ _ _
              refine a_if_ne (pc := 14) (dk dt_X11_way 7 rfl) (tgt := 19) rfl ⟨fun c => absurd c (by decide), fun _ => ?_⟩
              refine a_iconst (pc := 17) (dk dt_X11_way 8 rfl) (ik rfl) ?_
              exact a_iret (pc := 18) (dk dt_X11_way 9 rfl) rfl rfl H
            · replace H := H.2 c
              refine a_iconst (pc := 10) (dk dt_X11_within 6 rfl) (ik rfl) ?_
              refine a_goto (pc := 11) (dk dt_X11_within 7 rfl) (tgt := 15) rfl ?_
              refine a_zret (pc := 15) (dk dt_X11_within 9 rfl) rfl rfl ⟨by decide, ?_⟩
              show ATW _ _ _ _ _ _ _ _ _ _
              refine a_if_eq (pc := 7) (dk dt_X11_isField 4 rfl) (tgt := 24) rfl ⟨fun c => absurd c (by decide), fun _ => ?_⟩
              refine a_iload_n (pc := 10) (dk dt_X11_isField 5 rfl) rfl ?_
              refine a_iconst (pc := 11) (dk dt_X11_isField 6 rfl) (ik rfl) ?_
              refine a_bipush (pc := 12) (dk dt_X11_isField 7 rfl) (ik rfl) (bpk rfl) ?_
              refine a_callSi (as := [iv x4, iv 0, iv 11]) (st := []) (pc := 14) (dk dt_X11_isField 8 rfl) cl_RX11_104 ⟨Nat.le_of_ble_eq_true rfl, Nat.le_of_ble_eq_true rfl⟩ ⟨Nat.le_of_ble_eq_true rfl, Nat.le_of_ble_eq_true rfl⟩ rfl rfl rfl (Nat.le_of_ble_eq_true rfl) (Call.of rfl (Nat.le_of_ble_eq_true rfl) rfl ?_)
              refine a_iload_n (pc := 0) (dk dt_X11_within 0 rfl) rfl ?_
              refine a_iload_n (pc := 1) (dk dt_X11_within 1 rfl) rfl ?_
              refine a_icmp_lt (pc := 2) (dk dt_X11_within 2 rfl) (tgt := 14) rfl ⟨fun c => ?_, fun c => ?_⟩
              · replace H := H.1 c
                refine a_iconst (pc := 14) (dk dt_X11_within 8 rfl) (ik rfl) ?_
                refine a_zret (pc := 15) (dk dt_X11_within 9 rfl) rfl rfl ⟨by decide, ?_⟩
                show ATW _ _ _ _ _ _ _ _ _ _
                refine a_if_eq (pc := 17) (dk dt_X11_isField 9 rfl) (tgt := 24) rfl ⟨fun _ => ?_, fun c => absurd c (by decide)⟩
                refine a_iconst (pc := 24) (dk dt_X11_isField 12 rfl) (ik rfl) ?_
                refine a_zret (pc := 25) (dk dt_X11_isField 13 rfl) rfl rfl ⟨by decide, ?_⟩
                show ATW _ _ _ _ _ _ _ _ _ _
                refine a_if_ne (pc := 14) (dk dt_X11_way 7 rfl) (tgt := 19) rfl ⟨fun c => absurd c (by decide), fun _ => ?_⟩
                refine a_iconst (pc := 17) (dk dt_X11_way 8 rfl) (ik rfl) ?_
                exact a_iret (pc := 18) (dk dt_X11_way 9 rfl) rfl rfl H
              · replace H := H.2 c
                refine a_iload_n (pc := 5) (dk dt_X11_within 3 rfl) rfl ?_
                refine a_iload_n (pc := 6) (dk dt_X11_within 4 rfl) rfl ?_
                refine a_icmp_gt (pc := 7) (dk dt_X11_within 5 rfl) (tgt := 14) rfl ⟨fun c => ?_, fun c => ?_⟩
                · replace H := H.1 c
                  refine a_iconst (pc := 14) (dk dt_X11_within 8 rfl) (ik rfl) ?_
                  refine a_zret (pc := 15) (dk dt_X11_within 9 rfl) rfl rfl ⟨by decide, ?_⟩
                  show ATW _ _ _ _ _ _ _ _ _ _
                  refine a_if_eq (pc := 17) (dk dt_X11_isField 9 rfl) (tgt := 24) rfl ⟨fun _ => ?_, fun c => absurd c (by decide)⟩
                  refine a_iconst (pc := 24) (dk dt_X11_isField 12 rfl) (ik rfl) ?_
                  refine a_zret (pc := 25) (dk dt_X11_isField 13 rfl) rfl rfl ⟨by decide, ?_⟩
                  show ATW _ _ _ _ _ _ _ _ _ _
                  refine a_if_ne (pc := 14) (dk dt_X11_way 7 rfl) (tgt := 19) rfl ⟨fun c => absurd c (by decide), fun _ => ?_⟩
                  refine a_iconst (pc := 17) (dk dt_X11_way 8 rfl) (ik rfl) ?_
                  exact a_iret (pc := 18) (dk dt_X11_way 9 rfl) rfl rfl H
                · replace H := H.2 c
                  refine a_iconst (pc := 10) (dk dt_X11_within 6 rfl) (ik rfl) ?_
                  refine a_goto (pc := 11) (dk dt_X11_within 7 rfl) (tgt := 15) rfl ?_
                  refine a_zret (pc := 15) (dk dt_X11_within 9 rfl) rfl rfl ⟨by decide, ?_⟩
                  show ATW _ _ _ _ _ _ _ _ _ _
                  refine a_if_eq (pc := 17) (dk dt_X11_isField 9 rfl) (tgt := 24) rfl ⟨fun c => absurd c (by decide), fun _ => ?_⟩
                  refine a_iconst (pc := 20) (dk dt_X11_isField 10 rfl) (ik rfl) ?_
                  refine a_goto (pc := 21) (dk dt_X11_isField 11 rfl) (tgt := 25) rfl ?_
                  refine a_zret (pc := 25) (dk dt_X11_isField 13 rfl) rfl rfl ⟨by decide, ?_⟩
                  show ATW _ _ _ _ _ _ _ _ _ _
                  refine a_if_ne (pc := 14) (dk dt_X11_way 7 rfl) (tgt := 19) rfl ⟨fun _ => ?_, fun c => absurd c (by decide)⟩
                  refine a_iload_n (pc := 19) (dk dt_X11_way 10 rfl) rfl ?_
                  refine a_bipush (pc := 20) (dk dt_X11_way 11 rfl) (ik rfl) (bpk rfl) ?_
                  refine a_imul (pc := 22) (dk dt_X11_way 12 rfl) ?_
                  refine a_iload_n (pc := 23) (dk dt_X11_way 13 rfl) rfl ?_
                  refine a_iadd (pc := 24) (dk dt_X11_way 14 rfl) ?_
                  refine a_istore (pc := 25) (dk dt_X11_way 15 rfl) (by decide) rfl rfl ?_
                  refine a_aload_n (pc := 27) (dk dt_X11_way 16 rfl) rfl ?_
                  refine a_getr (r := 80) (pc := 28) (dk dt_X11_way 17 rfl) cls_11 fl_RX11_94 cf_1_12 ?_
                  refine a_iload (pc := 31) (dk dt_X11_way 18 rfl) rfl ?_
                  refine a_iload (pc := 33) (dk dt_X11_way 19 rfl) rfl ?_
                  refine a_bipush (pc := 35) (dk dt_X11_way 20 rfl) (ik rfl) (bpk rfl) ?_
                  refine a_imul (pc := 37) (dk dt_X11_way 21 rfl) ?_
                  refine a_iload_n (pc := 38) (dk dt_X11_way 22 rfl) rfl ?_
                  refine a_iadd (pc := 39) (dk dt_X11_way 23 rfl) ?_
                  refine a_callVi (as := [iv (w32 ((w32 (x2 * 24)) + x1)), iv (w32 ((w32 (x4 * 24)) + x3))]) (st := []) (pc := 40) (dk dt_X11_way 24 rfl) cl_RX11_391 ⟨Nat.le_of_ble_eq_true rfl, Nat.le_of_ble_eq_true rfl⟩ ⟨Nat.le_of_ble_eq_true rfl, Nat.le_of_ble_eq_true rfl⟩ cls_9 rfl cc_81 rfl rfl rfl (Nat.le_of_ble_eq_true rfl) (Call.mono H fun r1 h2 H => ?_)
                  refine a_istore (pc := 43) (dk dt_X11_way 25 rfl) (by decide) rfl rfl ?_
                  refine a_iload (pc := 45) (dk dt_X11_way 26 rfl) rfl ?_
                  refine a_iconst (pc := 47) (dk dt_X11_way 27 rfl) (ik rfl) ?_
                  refine a_icmp_ne (pc := 48) (dk dt_X11_way 28 rfl) (tgt := 53) rfl ⟨fun c => ?_, fun c => ?_⟩
                  · replace H := H.1 c
                    refine a_aload_n (pc := 53) (dk dt_X11_way 31 rfl) rfl ?_
                    refine a_getr (r := 80) (pc := 54) (dk dt_X11_way 32 rfl) cls_11 fl_RX11_94 cf_1_12 ?_
                    refine a_iload (pc := 57) (dk dt_X11_way 33 rfl) rfl ?_
                    refine a_iload (pc := 59) (dk dt_X11_way 34 rfl) rfl ?_
                    refine a_aload_n (pc := 61) (dk dt_X11_way 35 rfl) rfl ?_
                    refine a_getr (r := 10) (pc := 62) (dk dt_X11_way 36 rfl) cls_11 fl_RX11_27 cf_1_2 ?_
                    refine a_callVv (as := [iv (w32 ((w32 (x2 * 24)) + x1)), iv r1, rv 11]) (st := []) (pc := 65) (dk dt_X11_way 37 rfl) cl_RX11_394 ⟨Nat.le_of_ble_eq_true rfl, Nat.le_of_ble_eq_true rfl⟩ ⟨Nat.le_of_ble_eq_true rfl, Nat.le_of_ble_eq_true rfl⟩ cls_9 rfl cc_81 rfl rfl rfl (Nat.le_of_ble_eq_true rfl) (Call.mono H fun _ h4 H => ?_)
                    refine a_aload_n (pc := 68) (dk dt_X11_way 38 rfl) rfl ?_
                    refine a_iload (pc := 69) (dk dt_X11_way 39 rfl) rfl ?_
                    refine a_puti (pc := 71) (dk dt_X11_way 40 rfl) cls_11 fl_RX11_31 cf_1_3 rfl rfl ?_
                    refine a_iload (pc := 74) (dk dt_X11_way 41 rfl) rfl ?_
                    exact a_iret (pc := 76) (dk dt_X11_way 42 rfl) rfl rfl H
                  · replace H := H.2 c
                    refine a_iconst (pc := 51) (dk dt_X11_way 29 rfl) (ik rfl) ?_
                    exact a_iret (pc := 52) (dk dt_X11_way 30 rfl) rfl rfl H
