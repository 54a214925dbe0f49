set_option maxHeartbeats 40000000 in
theorem U_X12_feed_85_0 {G : GG} {Φ : Int → Hp → Prop} {h : Hp} {x1 : Int} {x2 : Int} {x3 : Int} {x4 : Int} {x5 : Int} (H : (((w32 ((h 85 3) + 20)) ≤ 1600 → Call G m_X12_four [rv 85, iv x1] h (fun _ h2 => Call G m_X12_four [rv 85, iv x2] h2 (fun _ h4 => Call G m_X12_four [rv 85, iv x3] h4 (fun _ h6 => Call G m_X12_four [rv 85, iv x4] h6 (fun _ h8 => Call G m_X12_four [rv 85, iv x5] h8 (fun _ h10 => Φ (h10 85 3) h10)))))) ∧ (1600 < (w32 ((h 85 3) + 20)) → Φ (-4) h))) : AT G m_X12_feed 0 [(0, rv 85), (1, iv x1), (2, iv x2), (3, iv x3), (4, iv x4), (5, iv x5)] [] h Φ := by
  refine a_aload_n (pc := 0) (dk dt_X12_feed 0 rfl) rfl ?_
  refine a_geti (pc := 1) (dk dt_X12_feed 1 rfl) cls_12 fl_RX12_292 cf_85_3 ?_
  refine a_bipush (pc := 4) (dk dt_X12_feed 2 rfl) (ik rfl) (bpk rfl) ?_
  refine a_iadd (pc := 6) (dk dt_X12_feed 3 rfl) ?_
  refine a_sipush (pc := 7) (dk dt_X12_feed 4 rfl) (ik rfl) (spk rfl) ?_
  refine a_icmp_le (pc := 10) (dk dt_X12_feed 5 rfl) (tgt := 16) rfl ⟨fun c => ?_, fun c => ?_⟩
  · replace H := H.1 c
    refine a_aload_n (pc := 16) (dk dt_X12_feed 8 rfl) rfl ?_
    refine a_iload_n (pc := 17) (dk dt_X12_feed 9 rfl) rfl ?_
    refine a_callVv (as := [iv x1]) (st := []) (pc := 18) (dk dt_X12_feed 10 rfl) cl_RX12_295 ⟨Nat.le_of_ble_eq_true rfl, Nat.le_of_ble_eq_true rfl⟩ ⟨Nat.le_of_ble_eq_true rfl, Nat.le_of_ble_eq_true rfl⟩ cls_12 rfl cc_85 rfl rfl rfl (Nat.le_of_ble_eq_true rfl) (Call.mono H fun _ h2 H => ?_)
    refine a_aload_n (pc := 21) (dk dt_X12_feed 11 rfl) rfl ?_
    refine a_iload_n (pc := 22) (dk dt_X12_feed 12 rfl) rfl ?_
    refine a_callVv (as := [iv x2]) (st := []) (pc := 23) (dk dt_X12_feed 13 rfl) cl_RX12_295 ⟨Nat.le_of_ble_eq_true rfl, Nat.le_of_ble_eq_true rfl⟩ ⟨Nat.le_of_ble_eq_true rfl, Nat.le_of_ble_eq_true rfl⟩ cls_12 rfl cc_85 rfl rfl rfl (Nat.le_of_ble_eq_true rfl) (Call.mono H fun _ h4 H => ?_)
    refine a_aload_n (pc := 26) (dk dt_X12_feed 14 rfl) rfl ?_
    refine a_iload_n (pc := 27) (dk dt_X12_feed 15 rfl) rfl ?_
    refine a_callVv (as := [iv x3]) (st := []) (pc := 28) (dk dt_X12_feed 16 rfl) cl_RX12_295 ⟨Nat.le_of_ble_eq_true rfl, Nat.le_of_ble_eq_true rfl⟩ ⟨Nat.le_of_ble_eq_true rfl, Nat.le_of_ble_eq_true rfl⟩ cls_12 rfl cc_85 rfl rfl rfl (Nat.le_of_ble_eq_true rfl) (Call.mono H fun _ h6 H => ?_)
    refine a_aload_n (pc := 31) (dk dt_X12_feed 17 rfl) rfl ?_
    refine a_iload (pc := 32) (dk dt_X12_feed 18 rfl) rfl ?_
    refine a_callVv (as := [iv x4]) (st := []) (pc := 34) (dk dt_X12_feed 19 rfl) cl_RX12_295 ⟨Nat.le_of_ble_eq_true rfl, Nat.le_of_ble_eq_true rfl⟩ ⟨Nat.le_of_ble_eq_true rfl, Nat.le_of_ble_eq_true rfl⟩ cls_12 rfl cc_85 rfl rfl rfl (Nat.le_of_ble_eq_true rfl) (Call.mono H fun _ h8 H => ?_)
    refine a_aload_n (pc := 37) (dk dt_X12_feed 20 rfl) rfl ?_
    refine a_iload (pc := 38) (dk dt_X12_feed 21 rfl) rfl ?_
    refine a_callVv (as := [iv x5]) (st := []) (pc := 40) (dk dt_X12_feed 22 rfl) cl_RX12_295 ⟨Nat.le_of_ble_eq_true rfl, Nat.le_of_ble_eq_true rfl⟩ ⟨Nat.le_of_ble_eq_true rfl, Nat.le_of_ble_eq_true rfl⟩ cls_12 rfl cc_85 rfl rfl rfl (Nat.le_of_ble_eq_true rfl) (Call.mono H fun _ h10 H => ?_)
    refine a_aload_n (pc := 43) (dk dt_X12_feed 23 rfl) rfl ?_
    refine a_geti (pc := 44) (dk dt_X12_feed 24 rfl) cls_12 fl_RX12_292 cf_85_3 ?_
    exact a_iret (pc := 47) (dk dt_X12_feed 25 rfl) rfl rfl H
  · replace H := H.2 c
    refine a_bipush (pc := 13) (dk dt_X12_feed 6 rfl) (ik rfl) (bpk rfl) ?_
    exact a_iret (pc := 15) (dk dt_X12_feed 7 rfl) rfl rfl H
set_option maxHeartbeats 40000000 in
theorem U_X12_end_85_0 {G : GG} {Φ : Int → Hp → Prop} {h : Hp} {x1 : Int} (H : ((x1 < 0 → Φ (-1) h) ∧ (0 ≤ x1 → ((x1 ≤ (h 85 3) → Φ x1 (up h 85 3 x1)) ∧ ((h 85 3) < x1 → Φ (-1) h))))) : AT G m_X12_end 0 [(0, rv 85), (1, iv x1)] [] h Φ := by
  refine a_iload_n (pc := 0) (dk dt_X12_end 0 rfl) rfl ?_
  refine a_if_lt (pc := 1) (dk dt_X12_end 1 rfl) (tgt := 12) rfl ⟨fun c => ?_, fun c => ?_⟩
  · replace H := H.1 c
    refine a_iconst (pc := 12) (dk dt_X12_end 6 rfl) (ik rfl) ?_
    exact a_iret (pc := 13) (dk dt_X12_end 7 rfl) rfl rfl H
  · replace H := H.2 c
    refine a_iload_n (pc := 4) (dk dt_X12_end 2 rfl) rfl ?_
    refine a_aload_n (pc := 5) (dk dt_X12_end 3 rfl) rfl ?_
    refine a_geti (pc := 6) (dk dt_X12_end 4 rfl) cls_12 fl_RX12_292 cf_85_3 ?_
    refine a_icmp_le (pc := 9) (dk dt_X12_end 5 rfl) (tgt := 14) rfl ⟨fun c => ?_, fun c => ?_⟩
    · replace H := H.1 c
      refine a_aload_n (pc := 14) (dk dt_X12_end 8 rfl) rfl ?_
      refine a_iload_n (pc := 15) (dk dt_X12_end 9 rfl) rfl ?_
      refine a_puti (pc := 16) (dk dt_X12_end 10 rfl) cls_12 fl_RX12_292 cf_85_3 rfl rfl ?_
      refine a_iload_n (pc := 19) (dk dt_X12_end 11 rfl) rfl ?_
      exact a_iret (pc := 20) (dk dt_X12_end 12 rfl) rfl rfl H
    · replace H := H.2 c
      refine a_iconst (pc := 12) (dk dt_X12_end 6 rfl) (ik rfl) ?_
      exact a_iret (pc := 13) (dk dt_X12_end 7 rfl) rfl rfl H
set_option maxHeartbeats 40000000 in
theorem U_X12_out_85_0 {G : GG} {Φ : Int → Hp → Prop} {h : Hp} {x1 : Int} (H : ((x1 < 0 → Φ (-1) h) ∧ (0 ≤ x1 → (((w32 ((h 85 7) - 1)) < x1 → Φ (-1) h) ∧ (x1 ≤ (w32 ((h 85 7) - 1)) → (0 ≤ x1 ∧ x1 < 288) ∧ Φ (h 88 x1) h))))) : AT G m_X12_out 0 [(0, rv 85), (1, iv x1)] [] h Φ := by
  refine a_iload_n (pc := 0) (dk dt_X12_out 0 rfl) rfl ?_
  refine a_iconst (pc := 1) (dk dt_X12_out 1 rfl) (ik rfl) ?_
  refine a_aload_n (pc := 2) (dk dt_X12_out 2 rfl) rfl ?_
  refine a_geti (pc := 3) (dk dt_X12_out 3 rfl) cls_12 fl_RX12_299 cf_85_7 ?_
  refine a_iconst (pc := 6) (dk dt_X12_out 4 rfl) (ik rfl) ?_
  refine a_isub (pc := 7) (dk dt_X12_out 5 rfl) ?_
  refine a_callSi (as := [iv x1, iv 0, iv (w32 ((h 85 7) - 1))]) (st := []) (pc := 8) (dk dt_X12_out 6 rfl) cl_RX12_302 ⟨Nat.le_of_ble_eq_true rfl, Nat.le_of_ble_eq_true rfl⟩ ⟨Nat.le_of_ble_eq_true rfl, Nat.le_of_ble_eq_true rfl⟩ rfl rfl rfl (Nat.le_of_ble_eq_true rfl) (Call.of rfl (Nat.le_of_ble_eq_true rfl) rfl ?_)
  refine a_iload_n (pc := 0) (dk dt_X12_is 0 rfl) rfl ?_
  refine a_iload_n (pc := 1) (dk dt_X12_is 1 rfl) rfl ?_
  refine a_icmp_lt (pc := 2) (dk dt_X12_is 2 rfl) (tgt := 14) rfl ⟨fun c => ?_, fun c => ?_⟩
  · replace H := H.1 c
    refine a_iconst (pc := 14) (dk dt_X12_is 8 rfl) (ik rfl) ?_
    refine a_zret (pc := 15) (dk dt_X12_is 9 rfl) rfl rfl ⟨by decide, ?_⟩
    show ATW _ _ _ _ _ _ _ _ _ _
    refine a_if_eq (pc := 11) (dk dt_X12_out 7 rfl) (tgt := 23) rfl ⟨fun _ => ?_, fun c => absurd c (by decide)⟩
    refine a_iconst (pc := 23) (dk dt_X12_out 13 rfl) (ik rfl) ?_
    exact a_iret (pc := 24) (dk dt_X12_out 14 rfl) rfl rfl H
  · replace H := H.2 c
    refine a_iload_n (pc := 5) (dk dt_X12_is 3 rfl) rfl ?_
    refine a_iload_n (pc := 6) (dk dt_X12_is 4 rfl) rfl ?_
    refine a_icmp_gt (pc := 7) (dk dt_X12_is 5 rfl) (tgt := 14) rfl ⟨fun c => ?_, fun c => ?_⟩
    · replace H := H.1 c
      refine a_iconst (pc := 14) (dk dt_X12_is 8 rfl) (ik rfl) ?_
      refine a_zret (pc := 15) (dk dt_X12_is 9 rfl) rfl rfl ⟨by decide, ?_⟩
      show ATW _ _ _ _ _ _ _ _ _ _
      refine a_if_eq (pc := 11) (dk dt_X12_out 7 rfl) (tgt := 23) rfl ⟨fun _ => ?_, fun c => absurd c (by decide)⟩
      refine a_iconst (pc := 23) (dk dt_X12_out 13 rfl) (ik rfl) ?_
      exact a_iret (pc := 24) (dk dt_X12_out 14 rfl) rfl rfl H
    · replace H := H.2 c
      refine a_iconst (pc := 10) (dk dt_X12_is 6 rfl) (ik rfl) ?_
      refine a_goto (pc := 11) (dk dt_X12_is 7 rfl) (tgt := 15) rfl ?_
      refine a_zret (pc := 15) (dk dt_X12_is 9 rfl) rfl rfl ⟨by decide, ?_⟩
      show ATW _ _ _ _ _ _ _ _ _ _
      refine a_if_eq (pc := 11) (dk dt_X12_out 7 rfl) (tgt := 23) rfl ⟨fun c => absurd c (by decide), fun _ => ?_⟩
      refine a_aload_n (pc := 14) (dk dt_X12_out 8 rfl) rfl ?_
      refine a_getr (r := 87) (pc := 15) (dk dt_X12_out 9 rfl) cls_12 fl_RX12_16 cf_85_2 ?_
      refine a_iload_n (pc := 18) (dk dt_X12_out 10 rfl) rfl ?_
      refine a_iald (pc := 19) (dk dt_X12_out 11 rfl) ar_88 ⟨H.1, ?_⟩
      replace H := H.2
      refine a_goto (pc := 20) (dk dt_X12_out 12 rfl) (tgt := 24) rfl ?_
      exact a_iret (pc := 24) (dk dt_X12_out 14 rfl) rfl rfl H
set_option maxHeartbeats 40000000 in
theorem U_X12_leap_85_0 {G : GG} {Φ : Int → Hp → Prop} {h : Hp} {x1 : Int} {x2 : Int} (H : ((x1 < 2000 → Φ (-1) h) ∧ (2000 ≤ x1 → ((2059 < x1 → Φ (-1) h) ∧ (x1 ≤ 2059 → ((x2 = 6 → Call G m_X12_dayOf [iv x1, iv x2] h (fun r1 h2 => Call G m_X12_days [iv x1, iv x2] h2 (fun r3 h4 => (((h4 85 9) ≤ 0 → (((h4 85 9) ≠ 10 → (0 ≤ (h4 85 9) ∧ (h4 85 9) < 10) ∧ Φ (w32 ((h4 85 9) + 1)) (up (up h4 89 (h4 85 9) (w32 ((w32 (r1 + r3)) - 1))) 85 9 (w32 ((h4 85 9) + 1)))) ∧ ((h4 85 9) = 10 → Φ (-4) h4))) ∧ (0 < (h4 85 9) → (0 ≤ (w32 ((h4 85 9) - 1)) ∧ (w32 ((h4 85 9) - 1)) < 10) ∧ (((h4 89 (w32 ((h4 85 9) - 1))) < (w32 ((w32 (r1 + r3)) - 1)) → (((h4 85 9) ≠ 10 → (0 ≤ (h4 85 9) ∧ (h4 85 9) < 10) ∧ Φ (w32 ((h4 85 9) + 1)) (up (up h4 89 (h4 85 9) (w32 ((w32 (r1 + r3)) - 1))) 85 9 (w32 ((h4 85 9) + 1)))) ∧ ((h4 85 9) = 10 → Φ (-4) h4))) ∧ ((w32 ((w32 (r1 + r3)) - 1)) ≤ (h4 89 (w32 ((h4 85 9) - 1))) → Φ (-1) h4))))))) ∧ (x2 ≠ 6 → ((x2 = 12 → Call G m_X12_dayOf [iv x1, iv x2] h (fun r5 h6 => Call G m_X12_days [iv x1, iv x2] h6 (fun r7 h8 => (((h8 85 9) ≤ 0 → (((h8 85 9) ≠ 10 → (0 ≤ (h8 85 9) ∧ (h8 85 9) < 10) ∧ Φ (w32 ((h8 85 9) + 1)) (up (up h8 89 (h8 85 9) (w32 ((w32 (r5 + r7)) - 1))) 85 9 (w32 ((h8 85 9) + 1)))) ∧ ((h8 85 9) = 10 → Φ (-4) h8))) ∧ (0 < (h8 85 9) → (0 ≤ (w32 ((h8 85 9) - 1)) ∧ (w32 ((h8 85 9) - 1)) < 10) ∧ (((h8 89 (w32 ((h8 85 9) - 1))) < (w32 ((w32 (r5 + r7)) - 1)) → (((h8 85 9) ≠ 10 → (0 ≤ (h8 85 9) ∧ (h8 85 9) < 10) ∧ Φ (w32 ((h8 85 9) + 1)) (up (up h8 89 (h8 85 9) (w32 ((w32 (r5 + r7)) - 1))) 85 9 (w32 ((h8 85 9) + 1)))) ∧ ((h8 85 9) = 10 → Φ (-4) h8))) ∧ ((w32 ((w32 (r5 + r7)) - 1)) ≤ (h8 89 (w32 ((h8 85 9) - 1))) → Φ (-1) h8))))))) ∧ (x2 ≠ 12 → Φ (-1) h))))))))) : AT G m_X12_leap 0 [(0, rv 85), (1, iv x1), (2, iv x2)] [] h Φ := by
  refine a_iload_n (pc := 0) (dk dt_X12_leap 0 rfl) rfl ?_
  refine a_sipush (pc := 1) (dk dt_X12_leap 1 rfl) (ik rfl) (spk rfl) ?_
  refine a_sipush (pc := 4) (dk dt_X12_leap 2 rfl) (ik rfl) (spk rfl) ?_
  refine a_callSi (as := [iv x1, iv 2000, iv 2059]) (st := []) (pc := 7) (dk dt_X12_leap 3 rfl) cl_RX12_302 ⟨Nat.le_of_ble_eq_true rfl, Nat.le_of_ble_eq_true rfl⟩ ⟨Nat.le_of_ble_eq_true rfl, Nat.le_of_ble_eq_true rfl⟩ rfl rfl rfl (Nat.le_of_ble_eq_true rfl) (Call.of rfl (Nat.le_of_ble_eq_true rfl) rfl ?_)
  refine a_iload_n (pc := 0) (dk dt_X12_is 0 rfl) rfl ?_
  refine a_iload_n (pc := 1) (dk dt_X12_is 1 rfl) rfl ?_
  refine a_icmp_lt (pc := 2) (dk dt_X12_is 2 rfl) (tgt := 14) rfl ⟨fun c => ?_, fun c => ?_⟩
  · replace H := H.1 c
    refine a_iconst (pc := 14) (dk dt_X12_is 8 rfl) (ik rfl) ?_
    refine a_zret (pc := 15) (dk dt_X12_is 9 rfl) rfl rfl ⟨by decide, ?_⟩
    show ATW _ _ _ _ _ _ _ _ _ _
    refine a_if_eq (pc := 10) (dk dt_X12_leap 4 rfl) (tgt := 25) rfl ⟨fun _ => ?_, fun c => absurd c (by decide)⟩
    refine a_iconst (pc := 25) (dk dt_X12_leap 11 rfl) (ik rfl) ?_
    exact a_iret (pc := 26) (dk dt_X12_leap 12 rfl) rfl rfl H
  · replace H := H.2 c
    refine a_iload_n (pc := 5) (dk dt_X12_is 3 rfl) rfl ?_
    refine a_iload_n (pc := 6) (dk dt_X12_is 4 rfl) rfl ?_
    refine a_icmp_gt (pc := 7) (dk dt_X12_is 5 rfl) (tgt := 14) rfl ⟨fun c => ?_, fun c => ?_⟩
    · replace H := H.1 c
      refine a_iconst (pc := 14) (dk dt_X12_is 8 rfl) (ik rfl) ?_
      refine a_zret (pc := 15) (dk dt_X12_is 9 rfl) rfl rfl ⟨by decide, ?_⟩
      show ATW _ _ _ _ _ _ _ _ _ _
      refine a_if_eq (pc := 10) (dk dt_X12_leap 4 rfl) (tgt := 25) rfl ⟨fun _ => ?_, fun c => absurd c (by decide)⟩
      refine a_iconst (pc := 25) (dk dt_X12_leap 11 rfl) (ik rfl) ?_
      exact a_iret (pc := 26) (dk dt_X12_leap 12 rfl) rfl rfl H
    · replace H := H.2 c
      refine a_iconst (pc := 10) (dk dt_X12_is 6 rfl) (ik rfl) ?_
      refine a_goto (pc := 11) (dk dt_X12_is 7 rfl) (tgt := 15) rfl ?_
      refine a_zret (pc := 15) (dk dt_X12_is 9 rfl) rfl rfl ⟨by decide, ?_⟩
      show ATW _ _ _ _ _ _ _ _ _ _
      refine a_if_eq (pc := 10) (dk dt_X12_leap 4 rfl) (tgt := 25) rfl ⟨fun c => absurd c (by decide), fun _ => ?_⟩
      refine a_iload_n (pc := 13) (dk dt_X12_leap 5 rfl) rfl ?_
      refine a_bipush (pc := 14) (dk dt_X12_leap 6 rfl) (ik rfl) (bpk rfl) ?_
      refine a_icmp_eq (pc := 16) (dk dt_X12_leap 7 rfl) (tgt := 27) rfl ⟨fun c => ?_, fun c => ?_⟩
      · replace H := H.1 c
        refine a_iload_n (pc := 27) (dk dt_X12_leap 13 rfl) rfl ?_
        refine a_iload_n (pc := 28) (dk dt_X12_leap 14 rfl) rfl ?_
        refine a_callSi (as := [iv x1, iv x2]) (st := []) (pc := 29) (dk dt_X12_leap 15 rfl) cl_RX12_357 ⟨Nat.le_of_ble_eq_true rfl, Nat.le_of_ble_eq_true rfl⟩ ⟨Nat.le_of_ble_eq_true rfl, Nat.le_of_ble_eq_true rfl⟩ rfl rfl rfl (Nat.le_of_ble_eq_true rfl) (Call.mono H fun r1 h2 H => ?_)
        refine a_iload_n (pc := 32) (dk dt_X12_leap 16 rfl) rfl ?_
        refine a_iload_n (pc := 33) (dk dt_X12_leap 17 rfl) rfl ?_
        refine a_callSi (as := [iv x1, iv x2]) (st := [iv r1]) (pc := 34) (dk dt_X12_leap 18 rfl) cl_RX12_353 ⟨Nat.le_of_ble_eq_true rfl, Nat.le_of_ble_eq_true rfl⟩ ⟨Nat.le_of_ble_eq_true rfl, Nat.le_of_ble_eq_true rfl⟩ rfl rfl rfl (Nat.le_of_ble_eq_true rfl) (Call.mono H fun r3 h4 H => ?_)
        refine a_iadd (pc := 37) (dk dt_X12_leap 19 rfl) ?_
        refine a_iconst (pc := 38) (dk dt_X12_leap 20 rfl) (ik rfl) ?_
        refine a_isub (pc := 39) (dk dt_X12_leap 21 rfl) ?_
        refine a_istore_n (pc := 40) (dk dt_X12_leap 22 rfl) (by decide) rfl rfl ?_
        refine a_aload_n (pc := 41) (dk dt_X12_leap 23 rfl) rfl ?_
        refine a_geti (pc := 42) (dk dt_X12_leap 24 rfl) cls_12 fl_RX12_360 cf_85_9 ?_
        refine a_if_le (pc := 45) (dk dt_X12_leap 25 rfl) (tgt := 65) rfl ⟨fun c => ?_, fun c => ?_⟩
        · replace H := H.1 c
          refine a_aload_n (pc := 65) (dk dt_X12_leap 37 rfl) rfl ?_
          refine a_geti (pc := 66) (dk dt_X12_leap 38 rfl) cls_12 fl_RX12_360 cf_85_9 ?_
          refine a_bipush (pc := 69) (dk dt_X12_leap 39 rfl) (ik rfl) (bpk rfl) ?_
          refine a_icmp_ne (pc := 71) (dk dt_X12_leap 40 rfl) (tgt := 77) rfl ⟨fun c => ?_, fun c => ?_⟩
          · replace H := H.1 c
            refine a_aload_n (pc := 77) (dk dt_X12_leap 43 rfl) rfl ?_
            refine a_getr (r := 88) (pc := 78) (dk dt_X12_leap 44 rfl) cls_12 fl_RX12_19 cf_85_8 ?_
            refine a_aload_n (pc := 81) (dk dt_X12_leap 45 rfl) rfl ?_
            refine a_geti (pc := 82) (dk dt_X12_leap 46 rfl) cls_12 fl_RX12_360 cf_85_9 ?_
            refine a_iload_n (pc := 85) (dk dt_X12_leap 47 rfl) rfl ?_
            refine a_iast (pc := 86) (dk dt_X12_leap 48 rfl) ar_89 ⟨H.1, ?_⟩
            replace H := H.2
            refine a_aload_n (pc := 87) (dk dt_X12_leap 49 rfl) rfl ?_
            refine a_dup (pc := 88) (dk dt_X12_leap 50 rfl) rfl ?_
            refine a_geti (pc := 89) (dk dt_X12_leap 51 rfl) cls_12 fl_RX12_360 cf_85_9 ?_
            refine a_top (y := (h4 85 9)) (by simp [up, cpy]) ?_
            refine a_iconst (pc := 92) (dk dt_X12_leap 52 rfl) (ik rfl) ?_
            refine a_iadd (pc := 93) (dk dt_X12_leap 53 rfl) ?_
            refine a_puti (pc := 94) (dk dt_X12_leap 54 rfl) cls_12 fl_RX12_360 cf_85_9 rfl rfl ?_
            refine a_aload_n (pc := 97) (dk dt_X12_leap 55 rfl) rfl ?_
            refine a_geti (pc := 98) (dk dt_X12_leap 56 rfl) cls_12 fl_RX12_360 cf_85_9 ?_
            refine a_top (y := (w32 ((h4 85 9) + 1))) (by simp [up, cpy]) ?_
            exact a_iret (pc := 101) (dk dt_X12_leap 57 rfl) rfl rfl H
          · replace H := H.2 c
            refine a_bipush (pc := 74) (dk dt_X12_leap 41 rfl) (ik rfl) (bpk rfl) ?_
            exact a_iret (pc := 76) (dk dt_X12_leap 42 rfl) rfl rfl H
        · replace H := H.2 c
          refine a_iload_n (pc := 48) (dk dt_X12_leap 26 rfl) rfl ?_
          refine a_aload_n (pc := 49) (dk dt_X12_leap 27 rfl) rfl ?_
          refine a_getr (r := 88) (pc := 50) (dk dt_X12_leap 28 rfl) cls_12 fl_RX12_19 cf_85_8 ?_
          refine a_aload_n (pc := 53) (dk dt_X12_leap 29 rfl) rfl ?_
          refine a_geti (pc := 54) (dk dt_X12_leap 30 rfl) cls_12 fl_RX12_360 cf_85_9 ?_
          refine a_iconst (pc := 57) (dk dt_X12_leap 31 rfl) (ik rfl) ?_
          refine a_isub (pc := 58) (dk dt_X12_leap 32 rfl) ?_
          refine a_iald (pc := 59) (dk dt_X12_leap 33 rfl) ar_89 ⟨H.1, ?_⟩
          replace H := H.2
          refine a_icmp_gt (pc := 60) (dk dt_X12_leap 34 rfl) (tgt := 65) rfl ⟨fun c => ?_, fun c => ?_⟩
          · replace H := H.1 c
            refine a_aload_n (pc := 65) (dk dt_X12_leap 37 rfl) rfl ?_
            refine a_geti (pc := 66) (dk dt_X12_leap 38 rfl) cls_12 fl_RX12_360 cf_85_9 ?_
            refine a_bipush (pc := 69) (dk dt_X12_leap 39 rfl) (ik rfl) (bpk rfl) ?_
            refine a_icmp_ne (pc := 71) (dk dt_X12_leap 40 rfl) (tgt := 77) rfl ⟨fun c => ?_, fun c => ?_⟩
            · replace H := H.1 c
              refine a_aload_n (pc := 77) (dk dt_X12_leap 43 rfl) rfl ?_
              refine a_getr (r := 88) (pc := 78) (dk dt_X12_leap 44 rfl) cls_12 fl_RX12_19 cf_85_8 ?_
              refine a_aload_n (pc := 81) (dk dt_X12_leap 45 rfl) rfl ?_
              refine a_geti (pc := 82) (dk dt_X12_leap 46 rfl) cls_12 fl_RX12_360 cf_85_9 ?_
              refine a_iload_n (pc := 85) (dk dt_X12_leap 47 rfl) rfl ?_
              refine a_iast (pc := 86) (dk dt_X12_leap 48 rfl) ar_89 ⟨H.1, ?_⟩
              replace H := H.2
              refine a_aload_n (pc := 87) (dk dt_X12_leap 49 rfl) rfl ?_
              refine a_dup (pc := 88) (dk dt_X12_leap 50 rfl) rfl ?_
              refine a_geti (pc := 89) (dk dt_X12_leap 51 rfl) cls_12 fl_RX12_360 cf_85_9 ?_
              refine a_top (y := (h4 85 9)) (by simp [up, cpy]) ?_
              refine a_iconst (pc := 92) (dk dt_X12_leap 52 rfl) (ik rfl) ?_
              refine a_iadd (pc := 93) (dk dt_X12_leap 53 rfl) ?_
              refine a_puti (pc := 94) (dk dt_X12_leap 54 rfl) cls_12 fl_RX12_360 cf_85_9 rfl rfl ?_
              refine a_aload_n (pc := 97) (dk dt_X12_leap 55 rfl) rfl ?_
              refine a_geti (pc := 98) (dk dt_X12_leap 56 rfl) cls_12 fl_RX12_360 cf_85_9 ?_
              refine a_top (y := (w32 ((h4 85 9) + 1))) (by simp [up, cpy]) ?_
              exact a_iret (pc := 101) (dk dt_X12_leap 57 rfl) rfl rfl H
            · replace H := H.2 c
              refine a_bipush (pc := 74) (dk dt_X12_leap 41 rfl) (ik rfl) (bpk rfl) ?_
              exact a_iret (pc := 76) (dk dt_X12_leap 42 rfl) rfl rfl H
          · replace H := H.2 c
            refine a_iconst (pc := 63) (dk dt_X12_leap 35 rfl) (ik rfl) ?_
            exact a_iret (pc := 64) (dk dt_X12_leap 36 rfl) rfl rfl H
      · replace H := H.2 c
        refine a_iload_n (pc := 19) (dk dt_X12_leap 8 rfl) rfl ?_
        refine a_bipush (pc := 20) (dk dt_X12_leap 9 rfl) (ik rfl) (bpk rfl) ?_
        refine a_icmp_eq (pc := 22) (dk dt_X12_leap 10 rfl) (tgt := 27) rfl ⟨fun c => ?_, fun c => ?_⟩
        · replace H := H.1 c
          refine a_iload_n (pc := 27) (dk dt_X12_leap 13 rfl) rfl ?_
          refine a_iload_n (pc := 28) (dk dt_X12_leap 14 rfl) rfl ?_
          refine a_callSi (as := [iv x1, iv x2]) (st := []) (pc := 29) (dk dt_X12_leap 15 rfl) cl_RX12_357 ⟨Nat.le_of_ble_eq_true rfl, Nat.le_of_ble_eq_true rfl⟩ ⟨Nat.le_of_ble_eq_true rfl, Nat.le_of_ble_eq_true rfl⟩ rfl rfl rfl (Nat.le_of_ble_eq_true rfl) (Call.mono H fun r5 h6 H => ?_)
          refine a_iload_n (pc := 32) (dk dt_X12_leap 16 rfl) rfl ?_
          refine a_iload_n (pc := 33) (dk dt_X12_leap 17 rfl) rfl ?_
          refine a_callSi (as := [iv x1, iv x2]) (st := [iv r5]) (pc := 34) (dk dt_X12_leap 18 rfl) cl_RX12_353 ⟨Nat.le_of_ble_eq_true rfl, Nat.le_of_ble_eq_true rfl⟩ ⟨Nat.le_of_ble_eq_true rfl, Nat.le_of_ble_eq_true rfl⟩ rfl rfl rfl (Nat.le_of_ble_eq_true rfl) (Call.mono H fun r7 h8 H => ?_)
          refine a_iadd (pc := 37) (dk dt_X12_leap 19 rfl) ?_
          refine a_iconst (pc := 38) (dk dt_X12_leap 20 rfl) (ik rfl) ?_
          refine a_isub (pc := 39) (dk dt_X12_leap 21 rfl) ?_
          refine a_istore_n (pc := 40) (dk dt_X12_leap 22 rfl) (by decide) rfl rfl ?_
          refine a_aload_n (pc := 41) (dk dt_X12_leap 23 rfl) rfl ?_
          refine a_geti (pc := 42) (dk dt_X12_leap 24 rfl) cls_12 fl_RX12_360 cf_85_9 ?_
          refine a_if_le (pc := 45) (dk dt_X12_leap 25 rfl) (tgt := 65) rfl ⟨fun c => ?_, fun c => ?_⟩
          · replace H := H.1 c
            refine a_aload_n (pc := 65) (dk dt_X12_leap 37 rfl) rfl ?_
            refine a_geti (pc := 66) (dk dt_X12_leap 38 rfl) cls_12 fl_RX12_360 cf_85_9 ?_
            refine a_bipush (pc := 69) (dk dt_X12_leap 39 rfl) (ik rfl) (bpk rfl) ?_
            refine a_icmp_ne (pc := 71) (dk dt_X12_leap 40 rfl) (tgt := 77) rfl ⟨fun c => ?_, fun c => ?_⟩
            · replace H := H.1 c
              refine a_aload_n (pc := 77) (dk dt_X12_leap 43 rfl) rfl ?_
              refine a_getr (r := 88) (pc := 78) (dk dt_X12_leap 44 rfl) cls_12 fl_RX12_19 cf_85_8 ?_
              refine a_aload_n (pc := 81) (dk dt_X12_leap 45 rfl) rfl ?_
              refine a_geti (pc := 82) (dk dt_X12_leap 46 rfl) cls_12 fl_RX12_360 cf_85_9 ?_
              refine a_iload_n (pc := 85) (dk dt_X12_leap 47 rfl) rfl ?_
              refine a_iast (pc := 86) (dk dt_X12_leap 48 rfl) ar_89 ⟨H.1, ?_⟩
              replace H := H.2
              refine a_aload_n (pc := 87) (dk dt_X12_leap 49 rfl) rfl ?_
              refine a_dup (pc := 88) (dk dt_X12_leap 50 rfl) rfl ?_
              refine a_geti (pc := 89) (dk dt_X12_leap 51 rfl) cls_12 fl_RX12_360 cf_85_9 ?_
              refine a_top (y := (h8 85 9)) (by simp [up, cpy]) ?_
              refine a_iconst (pc := 92) (dk dt_X12_leap 52 rfl) (ik rfl) ?_
              refine a_iadd (pc := 93) (dk dt_X12_leap 53 rfl) ?_
              refine a_puti (pc := 94) (dk dt_X12_leap 54 rfl) cls_12 fl_RX12_360 cf_85_9 rfl rfl ?_
              refine a_aload_n (pc := 97) (dk dt_X12_leap 55 rfl) rfl ?_
              refine a_geti (pc := 98) (dk dt_X12_leap 56 rfl) cls_12 fl_RX12_360 cf_85_9 ?_
              refine a_top (y := (w32 ((h8 85 9) + 1))) (by simp [up, cpy]) ?_
              exact a_iret (pc := 101) (dk dt_X12_leap 57 rfl) rfl rfl H
            · replace H := H.2 c
              refine a_bipush (pc := 74) (dk dt_X12_leap 41 rfl) (ik rfl) (bpk rfl) ?_
              exact a_iret (pc := 76) (dk dt_X12_leap 42 rfl) rfl rfl H
          · replace H := H.2 c
            refine a_iload_n (pc := 48) (dk dt_X12_leap 26 rfl) rfl ?_
            refine a_aload_n (pc := 49) (dk dt_X12_leap 27 rfl) rfl ?_
            refine a_getr (r := 88) (pc := 50) (dk dt_X12_leap 28 rfl) cls_12 fl_RX12_19 cf_85_8 ?_
            refine a_aload_n (pc := 53) (dk dt_X12_leap 29 rfl) rfl ?_
            refine a_geti (pc := 54) (dk dt_X12_leap 30 rfl) cls_12 fl_RX12_360 cf_85_9 ?_
            refine a_iconst (pc := 57) (dk dt_X12_leap 31 rfl) (ik rfl) ?_
            refine a_isub (pc := 58) (dk dt_X12_leap 32 rfl) ?_
            refine a_iald (pc := 59) (dk dt_X12_leap 33 rfl) ar_89 ⟨H.1, ?_⟩
            replace H := H.2
            refine a_icmp_gt (pc := 60) (dk dt_X12_leap 34 rfl) (tgt := 65) rfl ⟨fun c => ?_, fun c => ?_⟩
            · replace H := H.1 c
              refine a_aload_n (pc := 65) (dk dt_X12_leap 37 rfl) rfl ?_
              refine a_geti (pc := 66) (dk dt_X12_leap 38 rfl) cls_12 fl_RX12_360 cf_85_9 ?_
              refine a_bipush (pc := 69) (dk dt_X12_leap 39 rfl) (ik rfl) (bpk rfl) ?_
              refine a_icmp_ne (pc := 71) (dk dt_X12_leap 40 rfl) (tgt := 77) rfl ⟨fun c => ?_, fun c => ?_⟩
              · replace H := H.1 c
                refine a_aload_n (pc := 77) (dk dt_X12_leap 43 rfl) rfl ?_
                refine a_getr (r := 88) (pc := 78) (dk dt_X12_leap 44 rfl) cls_12 fl_RX12_19 cf_85_8 ?_
                refine a_aload_n (pc := 81) (dk dt_X12_leap 45 rfl) rfl ?_
                refine a_geti (pc := 82) (dk dt_X12_leap 46 rfl) cls_12 fl_RX12_360 cf_85_9 ?_
                refine a_iload_n (pc := 85) (dk dt_X12_leap 47 rfl) rfl ?_
                refine a_iast (pc := 86) (dk dt_X12_leap 48 rfl) ar_89 ⟨H.1, ?_⟩
                replace H := H.2
                refine a_aload_n (pc := 87) (dk dt_X12_leap 49 rfl) rfl ?_
                refine a_dup (pc := 88) (dk dt_X12_leap 50 rfl) rfl ?_
                refine a_geti (pc := 89) (dk dt_X12_leap 51 rfl) cls_12 fl_RX12_360 cf_85_9 ?_
                refine a_top (y := (h8 85 9)) (by simp [up, cpy]) ?_
                refine a_iconst (pc := 92) (dk dt_X12_leap 52 rfl) (ik rfl) ?_
                refine a_iadd (pc := 93) (dk dt_X12_leap 53 rfl) ?_
                refine a_puti (pc := 94) (dk dt_X12_leap 54 rfl) cls_12 fl_RX12_360 cf_85_9 rfl rfl ?_
                refine a_aload_n (pc := 97) (dk dt_X12_leap 55 rfl) rfl ?_
                refine a_geti (pc := 98) (dk dt_X12_leap 56 rfl) cls_12 fl_RX12_360 cf_85_9 ?_
                refine a_top (y := (w32 ((h8 85 9) + 1))) (by simp [up, cpy]) ?_
                exact a_iret (pc := 101) (dk dt_X12_leap 57 rfl) rfl rfl H
              · replace H := H.2 c
                refine a_bipush (pc := 74) (dk dt_X12_leap 41 rfl) (ik rfl) (bpk rfl) ?_
                exact a_iret (pc := 76) (dk dt_X12_leap 42 rfl) rfl rfl H
            · replace H := H.2 c
              refine a_iconst (pc := 63) (dk dt_X12_leap 35 rfl) (ik rfl) ?_
              exact a_iret (pc := 64) (dk dt_X12_leap 36 rfl) rfl rfl H
        · replace H := H.2 c
          refine a_iconst (pc := 25) (dk dt_X12_leap 11 rfl) (ik rfl) ?_
          exact a_iret (pc := 26) (dk dt_X12_leap 12 rfl) rfl rfl H
set_option maxHeartbeats 40000000 in
theorem U_X12_date_85_0 {G : GG} {Φ : Int → Hp → Prop} {h : Hp} (H : Call G m_X12_take [rv 85] h (fun _ h2 => Call G m_X12_digits [rv 85, iv 4, iv 2000, iv 2059] h2 (fun r3 h4 => Call G m_X12_need [rv 85, iv 45] h4 (fun _ h6 => Call G m_X12_digits [rv 85, iv 2, iv 1, iv 12] h6 (fun r7 h8 => Call G m_X12_need [rv 85, iv 45] h8 (fun _ h10 => (((h10 85 6) < 0 → Call G m_X12_days [iv r3, iv r7] h10 (fun r11 h12 => Call G m_X12_digits [rv 85, iv 2, iv 1, iv r11] h12 (fun r13 h14 => Call G m_X12_need [rv 85, iv 84] h14 (fun _ h16 => Call G m_X12_digits [rv 85, iv 2, iv 0, iv 23] h16 (fun r17 h18 => Call G m_X12_need [rv 85, iv 58] h18 (fun _ h20 => Call G m_X12_digits [rv 85, iv 2, iv 0, iv 59] h20 (fun r21 h22 => Call G m_X12_need [rv 85, iv 58] h22 (fun _ h24 => (((h24 85 6) < 0 → Call G m_X12_dayOf [iv r3, iv r7] h24 (fun r25 h26 => ((r17 ≠ 23 → Call G m_X12_digits [rv 85, iv 2, iv 0, iv 59] h26 (fun r27 h28 => Call G m_X12_done [rv 85] h28 (fun _ h30 => (((h30 85 6) < 0 → Call G m_X12_firstSecond [rv 85, iv (w32 ((w32 (r25 + r13)) - 1))] h30 (fun r31 h32 => Φ (w32 ((w32 ((w32 (r31 + (w32 (3600 * r17)))) + (w32 (60 * r21)))) + r27)) h32)) ∧ (0 ≤ (h30 85 6) → Φ (w32 ((-1000) - (h30 85 6))) h30))))) ∧ (r17 = 23 → ((r21 ≠ 59 → Call G m_X12_digits [rv 85, iv 2, iv 0, iv 59] h26 (fun r33 h34 => Call G m_X12_done [rv 85] h34 (fun _ h36 => (((h36 85 6) < 0 → Call G m_X12_firstSecond [rv 85, iv (w32 ((w32 (r25 + r13)) - 1))] h36 (fun r37 h38 => Φ (w32 ((w32 ((w32 (r37 + (w32 (3600 * r17)))) + (w32 (60 * r21)))) + r33)) h38)) ∧ (0 ≤ (h36 85 6) → Φ (w32 ((-1000) - (h36 85 6))) h36))))) ∧ (r21 = 59 → Call G m_X12_hasLeap [rv 85, iv (w32 ((w32 (r25 + r13)) - 1))] h26 (fun r39 h40 => ((r39 = 0 → Call G m_X12_digits [rv 85, iv 2, iv 0, iv 59] h40 (fun r41 h42 => Call G m_X12_done [rv 85] h42 (fun _ h44 => (((h44 85 6) < 0 → Call G m_X12_firstSecond [rv 85, iv (w32 ((w32 (r25 + r13)) - 1))] h44 (fun r45 h46 => Φ (w32 ((w32 ((w32 (r45 + (w32 (3600 * r17)))) + (w32 (60 * r21)))) + r41)) h46)) ∧ (0 ≤ (h44 85 6) → Φ (w32 ((-1000) - (h44 85 6))) h44))))) ∧ (r39 ≠ 0 → Call G m_X12_digits [rv 85, iv 2, iv 0, iv 60] h40 (fun r47 h48 => Call G m_X12_done [rv 85] h48 (fun _ h50 => (((h50 85 6) < 0 → Call G m_X12_firstSecond [rv 85, iv (w32 ((w32 (r25 + r13)) - 1))] h50 (fun r51 h52 => Φ (w32 ((w32 ((w32 (r51 + (w32 (3600 * r17)))) + (w32 (60 * r21)))) + r47)) h52)) ∧ (0 ≤ (h50 85 6) → Φ (w32 ((-1000) - (h50 85 6))) h50))))))))))))) ∧ (0 ≤ (h24 85 6) → ((r17 ≠ 23 → Call G m_X12_digits [rv 85, iv 2, iv 0, iv 59] h24 (fun r53 h54 => Call G m_X12_done [rv 85] h54 (fun _ h56 => (((h56 85 6) < 0 → Call G m_X12_firstSecond [rv 85, iv 0] h56 (fun r57 h58 => Φ (w32 ((w32 ((w32 (r57 + (w32 (3600 * r17)))) + (w32 (60 * r21)))) + r53)) h58)) ∧ (0 ≤ (h56 85 6) → Φ (w32 ((-1000) - (h56 85 6))) h56))))) ∧ (r17 = 23 → ((r21 ≠ 59 → Call G m_X12_digits [rv 85, iv 2, iv 0, iv 59] h24 (fun r59 h60 => Call G m_X12_done [rv 85] h60 (fun _ h62 => (((h62 85 6) < 0 → Call G m_X12_firstSecond [rv 85, iv 0] h62 (fun r63 h64 => Φ (w32 ((w32 ((w32 (r63 + (w32 (3600 * r17)))) + (w32 (60 * r21)))) + r59)) h64)) ∧ (0 ≤ (h62 85 6) → Φ (w32 ((-1000) - (h62 85 6))) h62))))) ∧ (r21 = 59 → Call G m_X12_hasLeap [rv 85, iv 0] h24 (fun r65 h66 => ((r65 = 0 → Call G m_X12_digits [rv 85, iv 2, iv 0, iv 59] h66 (fun r67 h68 => Call G m_X12_done [rv 85] h68 (fun _ h70 => (((h70 85 6) < 0 → Call G m_X12_firstSecond [rv 85, iv 0] h70 (fun r71 h72 => Φ (w32 ((w32 ((w32 (r71 + (w32 (3600 * r17)))) + (w32 (60 * r21)))) + r67)) h72)) ∧ (0 ≤ (h70 85 6) → Φ (w32 ((-1000) - (h70 85 6))) h70))))) ∧ (r65 ≠ 0 → Call G m_X12_digits [rv 85, iv 2, iv 0, iv 60] h66 (fun r73 h74 => Call G m_X12_done [rv 85] h74 (fun _ h76 => (((h76 85 6) < 0 → Call G m_X12_firstSecond [rv 85, iv 0] h76 (fun r77 h78 => Φ (w32 ((w32 ((w32 (r77 + (w32 (3600 * r17)))) + (w32 (60 * r21)))) + r73)) h78)) ∧ (0 ≤ (h76 85 6) → Φ (w32 ((-1000) - (h76 85 6))) h76))))))))))))))))))))) ∧ (0 ≤ (h10 85 6) → Call G m_X12_digits [rv 85, iv 2, iv 1, iv 0] h10 (fun r79 h80 => Call G m_X12_need [rv 85, iv 84] h80 (fun _ h82 => Call G m_X12_digits [rv 85, iv 2, iv 0, iv 23] h82 (fun r83 h84 => Call G m_X12_need [rv 85, iv 58] h84 (fun _ h86 => Call G m_X12_digits [rv 85, iv 2, iv 0, iv 59] h86 (fun r87 h88 => Call G m_X12_need [rv 85, iv 58] h88 (fun _ h90 => (((h90 85 6) < 0 → Call G m_X12_dayOf [iv r3, iv r7] h90 (fun r91 h92 => ((r83 ≠ 23 → Call G m_X12_digits [rv 85, iv 2, iv 0, iv 59] h92 (fun r93 h94 => Call G m_X12_done [rv 85] h94 (fun _ h96 => (((h96 85 6) < 0 → Call G m_X12_firstSecond [rv 85, iv (w32 ((w32 (r91 + r79)) - 1))] h96 (fun r97 h98 => Φ (w32 ((w32 ((w32 (r97 + (w32 (3600 * r83)))) + (w32 (60 * r87)))) + r93)) h98)) ∧ (0 ≤ (h96 85 6) → Φ (w32 ((-1000) - (h96 85 6))) h96))))) ∧ (r83 = 23 → ((r87 ≠ 59 → Call G m_X12_digits [rv 85, iv 2, iv 0, iv 59] h92 (fun r99 h100 => Call G m_X12_done [rv 85] h100 (fun _ h102 => (((h102 85 6) < 0 → Call G m_X12_firstSecond [rv 85, iv (w32 ((w32 (r91 + r79)) - 1))] h102 (fun r103 h104 => Φ (w32 ((w32 ((w32 (r103 + (w32 (3600 * r83)))) + (w32 (60 * r87)))) + r99)) h104)) ∧ (0 ≤ (h102 85 6) → Φ (w32 ((-1000) - (h102 85 6))) h102))))) ∧ (r87 = 59 → Call G m_X12_hasLeap [rv 85, iv (w32 ((w32 (r91 + r79)) - 1))] h92 (fun r105 h106 => ((r105 = 0 → Call G m_X12_digits [rv 85, iv 2, iv 0, iv 59] h106 (fun r107 h108 => Call G m_X12_done [rv 85] h108 (fun _ h110 => (((h110 85 6) < 0 → Call G m_X12_firstSecond [rv 85, iv (w32 ((w32 (r91 + r79)) - 1))] h110 (fun r111 h112 => Φ (w32 ((w32 ((w32 (r111 + (w32 (3600 * r83)))) + (w32 (60 * r87)))) + r107)) h112)) ∧ (0 ≤ (h110 85 6) → Φ (w32 ((-1000) - (h110 85 6))) h110))))) ∧ (r105 ≠ 0 → Call G m_X12_digits [rv 85, iv 2, iv 0, iv 60] h106 (fun r113 h114 => Call G m_X12_done [rv 85] h114 (fun _ h116 => (((h116 85 6) < 0 → Call G m_X12_firstSecond [rv 85, iv (w32 ((w32 (r91 + r79)) - 1))] h116 (fun r117 h118 => Φ (w32 ((w32 ((w32 (r117 + (w32 (3600 * r83)))) + (w32 (60 * r87)))) + r113)) h118)) ∧ (0 ≤ (h116 85 6) → Φ (w32 ((-1000) - (h116 85 6))) h116))))))))))))) ∧ (0 ≤ (h90 85 6) → ((r83 ≠ 23 → Call G m_X12_digits [rv 85, iv 2, iv 0, iv 59] h90 (fun r119 h120 => Call G m_X12_done [rv 85] h120 (fun _ h122 => (((h122 85 6) < 0 → Call G m_X12_firstSecond [rv 85, iv 0] h122 (fun r123 h124 => Φ (w32 ((w32 ((w32 (r123 + (w32 (3600 * r83)))) + (w32 (60 * r87)))) + r119)) h124)) ∧ (0 ≤ (h122 85 6) → Φ (w32 ((-1000) - (h122 85 6))) h122))))) ∧ (r83 = 23 → ((r87 ≠ 59 → Call G m_X12_digits [rv 85, iv 2, iv 0, iv 59] h90 (fun r125 h126 => Call G m_X12_done [rv 85] h126 (fun _ h128 => (((h128 85 6) < 0 → Call G m_X12_firstSecond [rv 85, iv 0] h128 (fun r129 h130 => Φ (w32 ((w32 ((w32 (r129 + (w32 (3600 * r83)))) + (w32 (60 * r87)))) + r125)) h130)) ∧ (0 ≤ (h128 85 6) → Φ (w32 ((-1000) - (h128 85 6))) h128))))) ∧ (r87 = 59 → Call G m_X12_hasLeap [rv 85, iv 0] h90 (fun r131 h132 => ((r131 = 0 → Call G m_X12_digits [rv 85, iv 2, iv 0, iv 59] h132 (fun r133 h134 => Call G m_X12_done [rv 85] h134 (fun _ h136 => (((h136 85 6) < 0 → Call G m_X12_firstSecond [rv 85, iv 0] h136 (fun r137 h138 => Φ (w32 ((w32 ((w32 (r137 + (w32 (3600 * r83)))) + (w32 (60 * r87)))) + r133)) h138)) ∧ (0 ≤ (h136 85 6) → Φ (w32 ((-1000) - (h136 85 6))) h136))))) ∧ (r131 ≠ 0 → Call G m_X12_digits [rv 85, iv 2, iv 0, iv 60] h132 (fun r139 h140 => Call G m_X12_done [rv 85] h140 (fun _ h142 => (((h142 85 6) < 0 → Call G m_X12_firstSecond [rv 85, iv 0] h142 (fun r143 h144 => Φ (w32 ((w32 ((w32 (r143 + (w32 (3600 * r83)))) + (w32 (60 * r87)))) + r139)) h144)) ∧ (0 ≤ (h142 85 6) → Φ (w32 ((-1000) - (h142 85 6))) h142))))))))))))))))))))))))))) : AT G m_X12_date 0 [(0, rv 85)] [] h Φ := by
  refine a_aload_n (pc := 0) (dk dt_X12_date 0 rfl) rfl ?_
  refine a_callVv (as := []) (st := []) (pc := 1) (dk dt_X12_date 1 rfl) cl_RX12_364 ⟨Nat.le_of_ble_eq_true rfl, Nat.le_of_ble_eq_true rfl⟩ ⟨Nat.le_of_ble_eq_true rfl, Nat.le_of_ble_eq_true rfl⟩ cls_12 rfl cc_85 rfl rfl rfl (Nat.le_of_ble_eq_true rfl) (Call.mono H fun _ h2 H => ?_)
  refine a_aload_n (pc := 4) (dk dt_X12_date 2 rfl) rfl ?_
  refine a_iconst (pc := 5) (dk dt_X12_date 3 rfl) (ik rfl) ?_
  refine a_sipush (pc := 6) (dk dt_X12_date 4 rfl) (ik rfl) (spk rfl) ?_
  refine a_sipush (pc := 9) (dk dt_X12_date 5 rfl) (ik rfl) (spk rfl) ?_
  refine a_callVi (as := [iv 4, iv 2000, iv 2059]) (st := []) (pc := 12) (dk dt_X12_date 6 rfl) cl_RX12_367 ⟨Nat.le_of_ble_eq_true rfl, Nat.le_of_ble_eq_true rfl⟩ ⟨Nat.le_of_ble_eq_true rfl, Nat.le_of_ble_eq_true rfl⟩ cls_12 rfl cc_85 rfl rfl rfl (Nat.le_of_ble_eq_true rfl) (Call.mono H fun r3 h4 H => ?_)
  refine a_istore_n (pc := 15) (dk dt_X12_date 7 rfl) (by decide) rfl rfl ?_
  refine a_aload_n (pc := 16) (dk dt_X12_date 8 rfl) rfl ?_
  refine a_bipush (pc := 17) (dk dt_X12_date 9 rfl) (ik rfl) (bpk rfl) ?_
  refine a_callVv (as := [iv 45]) (st := []) (pc := 19) (dk dt_X12_date 10 rfl) cl_RX12_330 ⟨Nat.le_of_ble_eq_true rfl, Nat.le_of_ble_eq_true rfl⟩ ⟨Nat.le_of_ble_eq_true rfl, Nat.le_of_ble_eq_true rfl⟩ cls_12 rfl cc_85 rfl rfl rfl (Nat.le_of_ble_eq_true rfl) (Call.mono H fun _ h6 H => ?_)
  refine a_aload_n (pc := 22) (dk dt_X12_date 11 rfl) rfl ?_
  refine a_iconst (pc := 23) (dk dt_X12_date 12 rfl) (ik rfl) ?_
  refine a_iconst (pc := 24) (dk dt_X12_date 13 rfl) (ik rfl) ?_
  refine a_bipush (pc := 25) (dk dt_X12_date 14 rfl) (ik rfl) (bpk rfl) ?_
  refine a_callVi (as := [iv 2, iv 1, iv 12]) (st := []) (pc := 27) (dk dt_X12_date 15 rfl) cl_RX12_367 ⟨Nat.le_of_ble_eq_true rfl, Nat.le_of_ble_eq_true rfl⟩ ⟨Nat.le_of_ble_eq_true rfl, Nat.le_of_ble_eq_true rfl⟩ cls_12 rfl cc_85 rfl rfl rfl (Nat.le_of_ble_eq_true rfl) (Call.mono H fun r7 h8 H => ?_)
  refine a_istore_n (pc := 30) (dk dt_X12_date 16 rfl) (by decide) rfl rfl ?_
  refine a_aload_n (pc := 31) (dk dt_X12_date 17 rfl) rfl ?_
  refine a_bipush (pc := 32) (dk dt_X12_date 18 rfl) (ik rfl) (bpk rfl) ?_
  refine a_callVv (as := [iv 45]) (st := []) (pc := 34) (dk dt_X12_date 19 rfl) cl_RX12_330 ⟨Nat.le_of_ble_eq_true rfl, Nat.le_of_ble_eq_true rfl⟩ ⟨Nat.le_of_ble_eq_true rfl, Nat.le_of_ble_eq_true rfl⟩ cls_12 rfl cc_85 rfl rfl rfl (Nat.le_of_ble_eq_true rfl) (Call.mono H fun _ h10 H => ?_)
  refine a_aload_n (pc := 37) (dk dt_X12_date 20 rfl) rfl ?_
  refine a_iconst (pc := 38) (dk dt_X12_date 21 rfl) (ik rfl) ?_
  refine a_iconst (pc := 39) (dk dt_X12_date 22 rfl) (ik rfl) ?_
  refine a_aload_n (pc := 40) (dk dt_X12_date 23 rfl) rfl ?_
  refine a_callVi (as := []) (st := [iv 1, iv 2, rv 85]) (pc := 41) (dk dt_X12_date 24 rfl) cl_RX12_315 ⟨Nat.le_of_ble_eq_true rfl, Nat.le_of_ble_eq_true rfl⟩ ⟨Nat.le_of_ble_eq_true rfl, Nat.le_of_ble_eq_true rfl⟩ cls_12 rfl cc_85 rfl rfl rfl (Nat.le_of_ble_eq_true rfl) (Call.of rfl (Nat.le_of_ble_eq_true rfl) rfl ?_)
  refine a_aload_n (pc := 0) (dk dt_X12_bad 0 rfl) rfl ?_
  refine a_geti (pc := 1) (dk dt_X12_bad 1 rfl) cls_12 fl_RX12_312 cf_85_6 ?_
  refine a_if_lt (pc := 4) (dk dt_X12_bad 2 rfl) (tgt := 11) rfl ⟨fun c => ?_, fun c => ?_⟩
  · replace H := H.1 c
    refine a_iconst (pc := 11) (dk dt_X12_bad 5 rfl) (ik rfl) ?_
    refine a_zret (pc := 12) (dk dt_X12_bad 6 rfl) rfl rfl ⟨by decide, ?_⟩
    show ATW _ _ _ _ _ _ _ _ _ _
    refine a_if_eq (pc := 44) (dk dt_X12_date 25 rfl) (tgt := 51) rfl ⟨fun _ => ?_, fun c => absurd c (by decide)⟩
    refine a_iload_n (pc := 51) (dk dt_X12_date 28 rfl) rfl ?_
    refine a_iload_n (pc := 52) (dk dt_X12_date 29 rfl) rfl ?_
    refine a_callSi (as := [iv r3, iv r7]) (st := [iv 1, iv 2, rv 85]) (pc := 53) (dk dt_X12_date 30 rfl) cl_RX12_353 ⟨Nat.le_of_ble_eq_true rfl, Nat.le_of_ble_eq_true rfl⟩ ⟨Nat.le_of_ble_eq_true rfl, Nat.le_of_ble_eq_true rfl⟩ rfl rfl rfl (Nat.le_of_ble_eq_true rfl) (Call.mono H fun r11 h12 H => ?_)
    refine a_callVi (as := [iv 2, iv 1, iv r11]) (st := []) (pc := 56) (dk dt_X12_date 31 rfl) cl_RX12_367 ⟨Nat.le_of_ble_eq_true rfl, Nat.le_of_ble_eq_true rfl⟩ ⟨Nat.le_of_ble_eq_true rfl, Nat.le_of_ble_eq_true rfl⟩ cls_12 rfl cc_85 rfl rfl rfl (Nat.le_of_ble_eq_true rfl) (Call.mono H fun r13 h14 H => ?_)
    refine a_istore_n (pc := 59) (dk dt_X12_date 32 rfl) (by decide) rfl rfl ?_
    refine a_aload_n (pc := 60) (dk dt_X12_date 33 rfl) rfl ?_
    refine a_bipush (pc := 61) (dk dt_X12_date 34 rfl) (ik rfl) (bpk rfl) ?_
    refine a_callVv (as := [iv 84]) (st := []) (pc := 63) (dk dt_X12_date 35 rfl) cl_RX12_330 ⟨Nat.le_of_ble_eq_true rfl, Nat.le_of_ble_eq_true rfl⟩ ⟨Nat.le_of_ble_eq_true rfl, Nat.le_of_ble_eq_true rfl⟩ cls_12 rfl cc_85 rfl rfl rfl (Nat.le_of_ble_eq_true rfl) (Call.mono H fun _ h16 H => ?_)
    refine a_aload_n (pc := 66) (dk dt_X12_date 36 rfl) rfl ?_
    refine a_iconst (pc := 67) (dk dt_X12_date 37 rfl) (ik rfl) ?_
    refine a_iconst (pc := 68) (dk dt_X12_date 38 rfl) (ik rfl) ?_
    refine a_bipush (pc := 69) (dk dt_X12_date 39 rfl) (ik rfl) (bpk rfl) ?_
    refine a_callVi (as := [iv 2, iv 0, iv 23]) (st := []) (pc := 71) (dk dt_X12_date 40 rfl) cl_RX12_367 ⟨Nat.le_of_ble_eq_true rfl, Nat.le_of_ble_eq_true rfl⟩ ⟨Nat.le_of_ble_eq_true rfl, Nat.le_of_ble_eq_true rfl⟩ cls_12 rfl cc_85 rfl rfl rfl (Nat.le_of_ble_eq_true rfl) (Call.mono H fun r17 h18 H => ?_)
    refine a_istore (pc := 74) (dk dt_X12_date 41 rfl) (by decide) rfl rfl ?_
    refine a_aload_n (pc := 76) (dk dt_X12_date 42 rfl) rfl ?_
    refine a_bipush (pc := 77) (dk dt_X12_date 43 rfl) (ik rfl) (bpk rfl) ?_
    refine a_callVv (as := [iv 58]) (st := []) (pc := 79) (dk dt_X12_date 44 rfl) cl_RX12_330 ⟨Nat.le_of_ble_eq_true rfl, Nat.le_of_ble_eq_true rfl⟩ ⟨Nat.le_of_ble_eq_true rfl, Nat.le_of_ble_eq_true rfl⟩ cls_12 rfl cc_85 rfl rfl rfl (Nat.le_of_ble_eq_true rfl) (Call.mono H fun _ h20 H => ?_)
    refine a_aload_n (pc := 82) (dk dt_X12_date 45 rfl) rfl ?_
    refine a_iconst (pc := 83) (dk dt_X12_date 46 rfl) (ik rfl) ?_
    refine a_iconst (pc := 84) (dk dt_X12_date 47 rfl) (ik rfl) ?_
    refine a_bipush (pc := 85) (dk dt_X12_date 48 rfl) (ik rfl) (bpk rfl) ?_
    refine a_callVi (as := [iv 2, iv 0, iv 59]) (st := []) (pc := 87) (dk dt_X12_date 49 rfl) cl_RX12_367 ⟨Nat.le_of_ble_eq_true rfl, Nat.le_of_ble_eq_true rfl⟩ ⟨Nat.le_of_ble_eq_true rfl, Nat.le_of_ble_eq_true rfl⟩ cls_12 rfl cc_85 rfl rfl rfl (Nat.le_of_ble_eq_true rfl) (Call.mono H fun r21 h22 H => ?_)
    refine a_istore (pc := 90) (dk dt_X12_date 50 rfl) (by decide) rfl rfl ?_
    refine a_aload_n (pc := 92) (dk dt_X12_date 51 rfl) rfl ?_
    refine a_bipush (pc := 93) (dk dt_X12_date 52 rfl) (ik rfl) (bpk rfl) ?_
    refine a_callVv (as := [iv 58]) (st := []) (pc := 95) (dk dt_X12_date 53 rfl) cl_RX12_330 ⟨Nat.le_of_ble_eq_true rfl, Nat.le_of_ble_eq_true rfl⟩ ⟨Nat.le_of_ble_eq_true rfl, Nat.le_of_ble_eq_true rfl⟩ cls_12 rfl cc_85 rfl rfl rfl (Nat.le_of_ble_eq_true rfl) (Call.mono H fun _ h24 H => ?_)
    refine a_aload_n (pc := 98) (dk dt_X12_date 54 rfl) rfl ?_
    refine a_callVi (as := []) (st := []) (pc := 99) (dk dt_X12_date 55 rfl) cl_RX12_315 ⟨Nat.le_of_ble_eq_true rfl, Nat.le_of_ble_eq_true rfl⟩ ⟨Nat.le_of_ble_eq_true rfl, Nat.le_of_ble_eq_true rfl⟩ cls_12 rfl cc_85 rfl rfl rfl (Nat.le_of_ble_eq_true rfl) (Call.of rfl (Nat.le_of_ble_eq_true rfl) rfl ?_)
    refine a_aload_n (pc := 0) (dk dt_X12_bad 0 rfl) rfl ?_
    refine a_geti (pc := 1) (dk dt_X12_bad 1 rfl) cls_12 fl_RX12_312 cf_85_6 ?_
    refine a_if_lt (pc := 4) (dk dt_X12_bad 2 rfl) (tgt := 11) rfl ⟨fun c => ?_, fun c => ?_⟩
    · replace H := H.1 c
      refine a_iconst (pc := 11) (dk dt_X12_bad 5 rfl) (ik rfl) ?_
      refine a_zret (pc := 12) (dk dt_X12_bad 6 rfl) rfl rfl ⟨by decide, ?_⟩
      show ATW _ _ _ _ _ _ _ _ _ _
      refine a_if_eq (pc := 102) (dk dt_X12_date 56 rfl) (tgt := 109) rfl ⟨fun _ => ?_, fun c => absurd c (by decide)⟩
      refine a_iload_n (pc := 109) (dk dt_X12_date 59 rfl) rfl ?_
      refine a_iload_n (pc := 110) (dk dt_X12_date 60 rfl) rfl ?_
      refine a_callSi (as := [iv r3, iv r7]) (st := []) (pc := 111) (dk dt_X12_date 61 rfl) cl_RX12_357 ⟨Nat.le_of_ble_eq_true rfl, Nat.le_of_ble_eq_true rfl⟩ ⟨Nat.le_of_ble_eq_true rfl, Nat.le_of_ble_eq_true rfl⟩ rfl rfl rfl (Nat.le_of_ble_eq_true rfl) (Call.mono H fun r25 h26 H => ?_)
      refine a_iload_n (pc := 114) (dk dt_X12_date 62 rfl) rfl ?_
      refine a_iadd (pc := 115) (dk dt_X12_date 63 rfl) ?_
      refine a_iconst (pc := 116) (dk dt_X12_date 64 rfl) (ik rfl) ?_
      refine a_isub (pc := 117) (dk dt_X12_date 65 rfl) ?_
      refine a_istore (pc := 118) (dk dt_X12_date 66 rfl) (by decide) rfl rfl ?_
      refine a_aload_n (pc := 120) (dk dt_X12_date 67 rfl) rfl ?_
      refine a_iconst (pc := 121) (dk dt_X12_date 68 rfl) (ik rfl) ?_
      refine a_iconst (pc := 122) (dk dt_X12_date 69 rfl) (ik rfl) ?_
      refine a_iload (pc := 123) (dk dt_X12_date 70 rfl) rfl ?_
      refine a_bipush (pc := 125) (dk dt_X12_date 71 rfl) (ik rfl) (bpk rfl) ?_
      refine a_icmp_ne (pc := 127) (dk dt_X12_date 72 rfl) (tgt := 151) rfl ⟨fun c => ?_, fun c => ?_⟩
      · replace H := H.1 c
        refine a_bipush (pc := 151) (dk dt_X12_date 82 rfl) (ik rfl) (bpk rfl) ?_
        refine a_callVi (as := [iv 2, iv 0, iv 59]) (st := []) (pc := 153) (dk dt_X12_date 83 rfl) cl_RX12_367 ⟨Nat.le_of_ble_eq_true rfl, Nat.le_of_ble_eq_true rfl⟩ ⟨Nat.le_of_ble_eq_true rfl, Nat.le_of_ble_eq_true rfl⟩ cls_12 rfl cc_85 rfl rfl rfl (Nat.le_of_ble_eq_true rfl) (Call.mono H fun r27 h28 H => ?_)
        refine a_istore (pc := 156) (dk dt_X12_date 84 rfl) (by decide) rfl rfl ?_
        refine a_aload_n (pc := 158) (dk dt_X12_date 85 rfl) rfl ?_
        refine a_callVv (as := []) (st := []) (pc := 159) (dk dt_X12_date 86 rfl) cl_RX12_374 ⟨Nat.le_of_ble_eq_true rfl, Nat.le_of_ble_eq_true rfl⟩ ⟨Nat.le_of_ble_eq_true rfl, Nat.le_of_ble_eq_true rfl⟩ cls_12 rfl cc_85 rfl rfl rfl (Nat.le_of_ble_eq_true rfl) (Call.mono H fun _ h30 H => ?_)
        refine a_aload_n (pc := 162) (dk dt_X12_date 87 rfl) rfl ?_
        refine a_callVi (as := []) (st := []) (pc := 163) (dk dt_X12_date 88 rfl) cl_RX12_315 ⟨Nat.le_of_ble_eq_true rfl, Nat.le_of_ble_eq_true rfl⟩ ⟨Nat.le_of_ble_eq_true rfl, Nat.le_of_ble_eq_true rfl⟩ cls_12 rfl cc_85 rfl rfl rfl (Nat.le_of_ble_eq_true rfl) (Call.of rfl (Nat.le_of_ble_eq_true rfl) rfl ?_)
        refine a_aload_n (pc := 0) (dk dt_X12_bad 0 rfl) rfl ?_
        refine a_geti (pc := 1) (dk dt_X12_bad 1 rfl) cls_12 fl_RX12_312 cf_85_6 ?_
        refine a_if_lt (pc := 4) (dk dt_X12_bad 2 rfl) (tgt := 11) rfl ⟨fun c => ?_, fun c => ?_⟩
        · replace H := H.1 c
          refine a_iconst (pc := 11) (dk dt_X12_bad 5 rfl) (ik rfl) ?_
          refine a_zret (pc := 12) (dk dt_X12_bad 6 rfl) rfl rfl ⟨by decide, ?_⟩
          show ATW _ _ _ _ _ _ _ _ _ _
          refine a_if_eq (pc := 166) (dk dt_X12_date 89 rfl) (tgt := 180) rfl ⟨fun _ => ?_, fun c => absurd c (by decide)⟩
          refine a_aload_n (pc := 180) (dk dt_X12_date 95 rfl) rfl ?_
          refine a_iload (pc := 181) (dk dt_X12_date 96 rfl) rfl ?_
          refine a_callVi (as := [iv (w32 ((w32 (r25 + r13)) - 1))]) (st := []) (pc := 183) (dk dt_X12_date 97 rfl) cl_RX12_377 ⟨Nat.le_of_ble_eq_true rfl, Nat.le_of_ble_eq_true rfl⟩ ⟨Nat.le_of_ble_eq_true rfl, Nat.le_of_ble_eq_true rfl⟩ cls_12 rfl cc_85 rfl rfl rfl (Nat.le_of_ble_eq_true rfl) (Call.mono H fun r31 h32 H => ?_)
          refine a_sipush (pc := 186) (dk dt_X12_date 98 rfl) (ik rfl) (spk rfl) ?_
          refine a_iload (pc := 189) (dk dt_X12_date 99 rfl) rfl ?_
          refine a_imul (pc := 191) (dk dt_X12_date 100 rfl) ?_
          refine a_iadd (pc := 192) (dk dt_X12_date 101 rfl) ?_
          refine a_bipush (pc := 193) (dk dt_X12_date 102 rfl) (ik rfl) (bpk rfl) ?_
          refine a_iload (pc := 195) (dk dt_X12_date 103 rfl) rfl ?_
          refine a_imul (pc := 197) (dk dt_X12_date 104 rfl) ?_
          refine a_iadd (pc := 198) (dk dt_X12_date 105 rfl) ?_
          refine a_iload (pc := 199) (dk dt_X12_date 106 rfl) rfl ?_
          refine a_iadd (pc := 201) (dk dt_X12_date 107 rfl) ?_
          exact a_iret (pc := 202) (dk dt_X12_date 108 rfl) rfl rfl H
        · replace H := H.2 c
          refine a_iconst (pc := 7) (dk dt_X12_bad 3 rfl) (ik rfl) ?_
          refine a_goto (pc := 8) (dk dt_X12_bad 4 rfl) (tgt := 12) rfl ?_
          refine a_zret (pc := 12) (dk dt_X12_bad 6 rfl) rfl rfl ⟨by decide, ?_⟩
          show ATW _ _ _ _ _ _ _ _ _ _
          refine a_if_eq (pc := 166) (dk dt_X12_date 89 rfl) (tgt := 180) rfl ⟨fun c => absurd c (by decide), fun _ => ?_⟩
          refine a_sipush (pc := 169) (dk dt_X12_date 90 rfl) (ik rfl) (spk rfl) ?_
          refine a_aload_n (pc := 172) (dk dt_X12_date 91 rfl) rfl ?_
          refine a_geti (pc := 173) (dk dt_X12_date 92 rfl) cls_12 fl_RX12_312 cf_85_6 ?_
          refine a_isub (pc := 176) (dk dt_X12_date 93 rfl) ?_
          refine a_goto (pc := 177) (dk dt_X12_date 94 rfl) (tgt := 202) rfl ?_
          exact a_iret (pc := 202) (dk dt_X12_date 108 rfl) rfl rfl H
      · replace H := H.2 c
        refine a_iload (pc := 130) (dk dt_X12_date 73 rfl) rfl ?_
        refine a_bipush (pc := 132) (dk dt_X12_date 74 rfl) (ik rfl) (bpk rfl) ?_
        refine a_icmp_ne (pc := 134) (dk dt_X12_date 75 rfl) (tgt := 151) rfl ⟨fun c => ?_, fun c => ?_⟩
        · replace H := H.1 c
          refine a_bipush (pc := 151) (dk dt_X12_date 82 rfl) (ik rfl) (bpk rfl) ?_
          refine a_callVi (as := [iv 2, iv 0, iv 59]) (st := []) (pc := 153) (dk dt_X12_date 83 rfl) cl_RX12_367 ⟨Nat.le_of_ble_eq_true rfl, Nat.le_of_ble_eq_true rfl⟩ ⟨Nat.le_of_ble_eq_true rfl, Nat.le_of_ble_eq_true rfl⟩ cls_12 rfl cc_85 rfl rfl rfl (Nat.le_of_ble_eq_true rfl) (Call.mono H fun r33 h34 H => ?_)
          refine a_istore (pc := 156) (dk dt_X12_date 84 rfl) (by decide) rfl rfl ?_
          refine a_aload_n (pc := 158) (dk dt_X12_date 85 rfl) rfl ?_
          refine a_callVv (as := []) (st := []) (pc := 159) (dk dt_X12_date 86 rfl) cl_RX12_374 ⟨Nat.le_of_ble_eq_true rfl, Nat.le_of_ble_eq_true rfl⟩ ⟨Nat.le_of_ble_eq_true rfl, Nat.le_of_ble_eq_true rfl⟩ cls_12 rfl cc_85 rfl rfl rfl (Nat.le_of_ble_eq_true rfl) (Call.mono H fun _ h36 H => ?_)
          refine a_aload_n (pc := 162) (dk dt_X12_date 87 rfl) rfl ?_
          refine a_callVi (as := []) (st := []) (pc := 163) (dk dt_X12_date 88 rfl) cl_RX12_315 ⟨Nat.le_of_ble_eq_true rfl, Nat.le_of_ble_eq_true rfl⟩ ⟨Nat.le_of_ble_eq_true rfl, Nat.le_of_ble_eq_true rfl⟩ cls_12 rfl cc_85 rfl rfl rfl (Nat.le_of_ble_eq_true rfl) (Call.of rfl (Nat.le_of_ble_eq_true rfl) rfl ?_)
          refine a_aload_n (pc := 0) (dk dt_X12_bad 0 rfl) rfl ?_
          refine a_geti (pc := 1) (dk dt_X12_bad 1 rfl) cls_12 fl_RX12_312 cf_85_6 ?_
          refine a_if_lt (pc := 4) (dk dt_X12_bad 2 rfl) (tgt := 11) rfl ⟨fun c => ?_, fun c => ?_⟩
          · replace H := H.1 c
            refine a_iconst (pc := 11) (dk dt_X12_bad 5 rfl) (ik rfl) ?_
            refine a_zret (pc := 12) (dk dt_X12_bad 6 rfl) rfl rfl ⟨by decide, ?_⟩
            show ATW _ _ _ _ _ _ _ _ _ _
            refine a_if_eq (pc := 166) (dk dt_X12_date 89 rfl) (tgt := 180) rfl ⟨fun _ => ?_, fun c => absurd c (by decide)⟩
            refine a_aload_n (pc := 180) (dk dt_X12_date 95 rfl) rfl ?_
            refine a_iload (pc := 181) (dk dt_X12_date 96 rfl) rfl ?_
            refine a_callVi (as := [iv (w32 ((w32 (r25 + r13)) - 1))]) (st := []) (pc := 183) (dk dt_X12_date 97 rfl) cl_RX12_377 ⟨Nat.le_of_ble_eq_true rfl, Nat.le_of_ble_eq_true rfl⟩ ⟨Nat.le_of_ble_eq_true rfl, Nat.le_of_ble_eq_true rfl⟩ cls_12 rfl cc_85 rfl rfl rfl (Nat.le_of_ble_eq_true rfl) (Call.mono H fun r37 h38 H => ?_)
            refine a_sipush (pc := 186) (dk dt_X12_date 98 rfl) (ik rfl) (spk rfl) ?_
            refine a_iload (pc := 189) (dk dt_X12_date 99 rfl) rfl ?_
            refine a_imul (pc := 191) (dk dt_X12_date 100 rfl) ?_
            refine a_iadd (pc := 192) (dk dt_X12_date 101 rfl) ?_
            refine a_bipush (pc := 193) (dk dt_X12_date 102 rfl) (ik rfl) (bpk rfl) ?_
            refine a_iload (pc := 195) (dk dt_X12_date 103 rfl) rfl ?_
            refine a_imul (pc := 197) (dk dt_X12_date 104 rfl) ?_
            refine a_iadd (pc := 198) (dk dt_X12_date 105 rfl) ?_
            refine a_iload (pc := 199) (dk dt_X12_date 106 rfl) rfl ?_
            refine a_iadd (pc := 201) (dk dt_X12_date 107 rfl) ?_
            exact a_iret (pc := 202) (dk dt_X12_date 108 rfl) rfl rfl H
          · replace H := H.2 c
            refine a_iconst (pc := 7) (dk dt_X12_bad 3 rfl) (ik rfl) ?_
            refine a_goto (pc := 8) (dk dt_X12_bad 4 rfl) (tgt := 12) rfl ?_
            refine a_zret (pc := 12) (dk dt_X12_bad 6 rfl) rfl rfl ⟨by decide, ?_⟩
            show ATW _ _ _ _ _ _ _ _ _ _
            refine a_if_eq (pc := 166) (dk dt_X12_date 89 rfl) (tgt := 180) rfl ⟨fun c => absurd c (by decide), fun _ => ?_⟩
            refine a_sipush (pc := 169) (dk dt_X12_date 90 rfl) (ik rfl) (spk rfl) ?_
            refine a_aload_n (pc := 172) (dk dt_X12_date 91 rfl) rfl ?_
            refine a_geti (pc := 173) (dk dt_X12_date 92 rfl) cls_12 fl_RX12_312 cf_85_6 ?_
            refine a_isub (pc := 176) (dk dt_X12_date 93 rfl) ?_
            refine a_goto (pc := 177) (dk dt_X12_date 94 rfl) (tgt := 202) rfl ?_
            exact a_iret (pc := 202) (dk dt_X12_date 108 rfl) rfl rfl H
        · replace H := H.2 c
          refine a_aload_n (pc := 137) (dk dt_X12_date 76 rfl) rfl ?_
          refine a_iload (pc := 138) (dk dt_X12_date 77 rfl) rfl ?_
          refine a_callVi (as := [iv (w32 ((w32 (r25 + r13)) - 1))]) (st := [iv 0, iv 2, rv 85]) (pc := 140) (dk dt_X12_date 78 rfl) cl_RX12_371 ⟨Nat.le_of_ble_eq_true rfl, Nat.le_of_ble_eq_true rfl⟩ ⟨Nat.le_of_ble_eq_true rfl, Nat.le_of_ble_eq_true rfl⟩ cls_12 rfl cc_85 rfl rfl rfl (Nat.le_of_ble_eq_true rfl) (Call.mono H fun r39 h40 H => ?_)
          refine a_if_eq (pc := 143) (dk dt_X12_date 79 rfl) (tgt := 151) rfl ⟨fun c => ?_, fun c => ?_⟩
          · replace H := H.1 c
            refine a_bipush (pc := 151) (dk dt_X12_date 82 rfl) (ik rfl) (bpk rfl) ?_
            refine a_callVi (as := [iv 2, iv 0, iv 59]) (st := []) (pc := 153) (dk dt_X12_date 83 rfl) cl_RX12_367 ⟨Nat.le_of_ble_eq_true rfl, Nat.le_of_ble_eq_true rfl⟩ ⟨Nat.le_of_ble_eq_true rfl, Nat.le_of_ble_eq_true rfl⟩ cls_12 rfl cc_85 rfl rfl rfl (Nat.le_of_ble_eq_true rfl) (Call.mono H fun r41 h42 H => ?_)
            refine a_istore (pc := 156) (dk dt_X12_date 84 rfl) (by decide) rfl rfl ?_
            refine a_aload_n (pc := 158) (dk dt_X12_date 85 rfl) rfl ?_
            refine a_callVv (as := []) (st := []) (pc := 159) (dk dt_X12_date 86 rfl) cl_RX12_374 ⟨Nat.le_of_ble_eq_true rfl, Nat.le_of_ble_eq_true rfl⟩ ⟨Nat.le_of_ble_eq_true rfl, Nat.le_of_ble_eq_true rfl⟩ cls_12 rfl cc_85 rfl rfl rfl (Nat.le_of_ble_eq_true rfl) (Call.mono H fun _ h44 H => ?_)
            refine a_aload_n (pc := 162) (dk dt_X12_date 87 rfl) rfl ?_
            refine a_callVi (as := []) (st := []) (pc := 163) (dk dt_X12_date 88 rfl) cl_RX12_315 ⟨Nat.le_of_ble_eq_true rfl, Nat.le_of_ble_eq_true rfl⟩ ⟨Nat.le_of_ble_eq_true rfl, Nat.le_of_ble_eq_true rfl⟩ cls_12 rfl cc_85 rfl rfl rfl (Nat.le_of_ble_eq_true rfl) (Call.of rfl (Nat.le_of_ble_eq_true rfl) rfl ?_)
            refine a_aload_n (pc := 0) (dk dt_X12_bad 0 rfl) rfl ?_
            refine a_geti (pc := 1) (dk dt_X12_bad 1 rfl) cls_12 fl_RX12_312 cf_85_6 ?_
            refine a_if_lt (pc := 4) (dk dt_X12_bad 2 rfl) (tgt := 11) rfl ⟨fun c => ?_, fun c => ?_⟩
            · replace H := H.1 c
              refine a_iconst (pc := 11) (dk dt_X12_bad 5 rfl) (ik rfl) ?_
              refine a_zret (pc := 12) (dk dt_X12_bad 6 rfl) rfl rfl ⟨by decide, ?_⟩
              show ATW _ _ _ _ _ _ _ _ _ _
              refine a_if_eq (pc := 166) (dk dt_X12_date 89 rfl) (tgt := 180) rfl ⟨fun _ => ?_, fun c => absurd c (by decide)⟩
              refine a_aload_n (pc := 180) (dk dt_X12_date 95 rfl) rfl ?_
              refine a_iload (pc := 181) (dk dt_X12_date 96 rfl) rfl ?_
              refine a_callVi (as := [iv (w32 ((w32 (r25 + r13)) - 1))]) (st := []) (pc := 183) (dk dt_X12_date 97 rfl) cl_RX12_377 ⟨Nat.le_of_ble_eq_true rfl, Nat.le_of_ble_eq_true rfl⟩ ⟨Nat.le_of_ble_eq_true rfl, Nat.le_of_ble_eq_true rfl⟩ cls_12 rfl cc_85 rfl rfl rfl (Nat.le_of_ble_eq_true rfl) (Call.mono H fun r45 h46 H => ?_)
              refine a_sipush (pc := 186) (dk dt_X12_date 98 rfl) (ik rfl) (spk rfl) ?_
              refine a_iload (pc := 189) (dk dt_X12_date 99 rfl) rfl ?_
              refine a_imul (pc := 191) (dk dt_X12_date 100 rfl) ?_
              refine a_iadd (pc := 192) (dk dt_X12_date 101 rfl) ?_
              refine a_bipush (pc := 193) (dk dt_X12_date 102 rfl) (ik rfl) (bpk rfl) ?_
              refine a_iload (pc := 195) (dk dt_X12_date 103 rfl) rfl ?_
              refine a_imul (pc := 197) (dk dt_X12_date 104 rfl) ?_
              refine a_iadd (pc := 198) (dk dt_X12_date 105 rfl) ?_
              refine a_iload (pc := 199) (dk dt_X12_date 106 rfl) rfl ?_
              refine a_iadd (pc := 201) (dk dt_X12_date 107 rfl) ?_
              exact a_iret (pc := 202) (dk dt_X12_date 108 rfl) rfl rfl H
            · replace H := H.2 c
              refine a_iconst (pc := 7) (dk dt_X12_bad 3 rfl) (ik rfl) ?_
              refine a_goto (pc := 8) (dk dt_X12_bad 4 rfl) (tgt := 12) rfl ?_
              refine a_zret (pc := 12) (dk dt_X12_bad 6 rfl) rfl rfl ⟨by decide, ?_⟩
              show ATW _ _ _ _ _ _ _ _ _ _
              refine a_if_eq (pc := 166) (dk dt_X12_date 89 rfl) (tgt := 180) rfl ⟨fun c => absurd c (by decide), fun _ => ?_⟩
              refine a_sipush (pc := 169) (dk dt_X12_date 90 rfl) (ik rfl) (spk rfl) ?_
              refine a_aload_n (pc := 172) (dk dt_X12_date 91 rfl) rfl ?_
              refine a_geti (pc := 173) (dk dt_X12_date 92 rfl) cls_12 fl_RX12_312 cf_85_6 ?_
              refine a_isub (pc := 176) (dk dt_X12_date 93 rfl) ?_
              refine a_goto (pc := 177) (dk dt_X12_date 94 rfl) (tgt := 202) rfl ?_
              exact a_iret (pc := 202) (dk dt_X12_date 108 rfl) rfl rfl H
          · replace H := H.2 c
            refine a_bipush (pc := 146) (dk dt_X12_date 80 rfl) (ik rfl) (bpk rfl) ?_
            refine a_goto (pc := 148) (dk dt_X12_date 81 rfl) (tgt := 153) rfl ?_
            refine a_callVi (as := [iv 2, iv 0, iv 60]) (st := []) (pc := 153) (dk dt_X12_date 83 rfl) cl_RX12_367 ⟨Nat.le_of_ble_eq_true rfl, Nat.le_of_ble_eq_true rfl⟩ ⟨Nat.le_of_ble_eq_true rfl, Nat.le_of_ble_eq_true rfl⟩ cls_12 rfl cc_85 rfl rfl rfl (Nat.le_of_ble_eq_true rfl) (Call.mono H fun r47 h48 H => ?_)
            refine a_istore (pc := 156) (dk dt_X12_date 84 rfl) (by decide) rfl rfl ?_
            refine a_aload_n (pc := 158) (dk dt_X12_date 85 rfl) rfl ?_
            refine a_callVv (as := []) (st := []) (pc := 159) (dk dt_X12_date 86 rfl) cl_RX12_374 ⟨Nat.le_of_ble_eq_true rfl, Nat.le_of_ble_eq_true rfl⟩ ⟨Nat.le_of_ble_eq_true rfl, Nat.le_of_ble_eq_true rfl⟩ cls_12 rfl cc_85 rfl rfl rfl (Nat.le_of_ble_eq_true rfl) (Call.mono H fun _ h50 H => ?_)
            refine a_aload_n (pc := 162) (dk dt_X12_date 87 rfl) rfl ?_
            refine a_callVi (as := []) (st := []) (pc := 163) (dk dt_X12_date 88 rfl) cl_RX12_315 ⟨Nat.le_of_ble_eq_true rfl, Nat.le_of_ble_eq_true rfl⟩ ⟨Nat.le_of_ble_eq_true rfl, Nat.le_of_ble_eq_true rfl⟩ cls_12 rfl cc_85 rfl rfl rfl (Nat.le_of_ble_eq_true rfl) (Call.of rfl (Nat.le_of_ble_eq_true rfl) rfl ?_)
            refine a_aload_n (pc := 0) (dk dt_X12_bad 0 rfl) rfl ?_
            refine a_geti (pc := 1) (dk dt_X12_bad 1 rfl) cls_12 fl_RX12_312 cf_85_6 ?_
            refine a_if_lt (pc := 4) (dk dt_X12_bad 2 rfl) (tgt := 11) rfl ⟨fun c => ?_, fun c => ?_⟩
            · replace H := H.1 c
              refine a_iconst (pc := 11) (dk dt_X12_bad 5 rfl) (ik rfl) ?_
              refine a_zret (pc := 12) (dk dt_X12_bad 6 rfl) rfl rfl ⟨by decide, ?_⟩
              show ATW _ _ _ _ _ _ _ _ _ _
              refine a_if_eq (pc := 166) (dk dt_X12_date 89 rfl) (tgt := 180) rfl ⟨fun _ => ?_, fun c => absurd c (by decide)⟩
              refine a_aload_n (pc := 180) (dk dt_X12_date 95 rfl) rfl ?_
              refine a_iload (pc := 181) (dk dt_X12_date 96 rfl) rfl ?_
              refine a_callVi (as := [iv (w32 ((w32 (r25 + r13)) - 1))]) (st := []) (pc := 183) (dk dt_X12_date 97 rfl) cl_RX12_377 ⟨Nat.le_of_ble_eq_true rfl, Nat.le_of_ble_eq_true rfl⟩ ⟨Nat.le_of_ble_eq_true rfl, Nat.le_of_ble_eq_true rfl⟩ cls_12 rfl cc_85 rfl rfl rfl (Nat.le_of_ble_eq_true rfl) (Call.mono H fun r51 h52 H => ?_)
              refine a_sipush (pc := 186) (dk dt_X12_date 98 rfl) (ik rfl) (spk rfl) ?_
              refine a_iload (pc := 189) (dk dt_X12_date 99 rfl) rfl ?_
              refine a_imul (pc := 191) (dk dt_X12_date 100 rfl) ?_
              refine a_iadd (pc := 192) (dk dt_X12_date 101 rfl) ?_
              refine a_bipush (pc := 193) (dk dt_X12_date 102 rfl) (ik rfl) (bpk rfl) ?_
              refine a_iload (pc := 195) (dk dt_X12_date 103 rfl) rfl ?_
              refine a_imul (pc := 197) (dk dt_X12_date 104 rfl) ?_
              refine a_iadd (pc := 198) (dk dt_X12_date 105 rfl) ?_
              refine a_iload (pc := 199) (dk dt_X12_date 106 rfl) rfl ?_
              refine a_iadd (pc := 201) (dk dt_X12_date 107 rfl) ?_
              exact a_iret (pc := 202) (dk dt_X12_date 108 rfl) rfl rfl H
            · replace H := H.2 c
              refine a_iconst (pc := 7) (dk dt_X12_bad 3 rfl) (ik rfl) ?_
              refine a_goto (pc := 8) (dk dt_X12_bad 4 rfl) (tgt := 12) rfl ?_
              refine a_zret (pc := 12) (dk dt_X12_bad 6 rfl) rfl rfl ⟨by decide, ?_⟩
              show ATW _ _ _ _ _ _ _ _ _ _
              refine a_if_eq (pc := 166) (dk dt_X12_date 89 rfl) (tgt := 180) rfl ⟨fun c => absurd c (by decide), fun _ => ?_⟩
              refine a_sipush (pc := 169) (dk dt_X12_date 90 rfl) (ik rfl) (spk rfl) ?_
              refine a_aload_n (pc := 172) (dk dt_X12_date 91 rfl) rfl ?_
              refine a_geti (pc := 173) (dk dt_X12_date 92 rfl) cls_12 fl_RX12_312 cf_85_6 ?_
              refine a_isub (pc := 176) (dk dt_X12_date 93 rfl) ?_
              refine a_goto (pc := 177) (dk dt_X12_date 94 rfl) (tgt := 202) rfl ?_
              exact a_iret (pc := 202) (dk dt_X12_date 108 rfl) rfl rfl H
    · replace H := H.2 c
      refine a_iconst (pc := 7) (dk dt_X12_bad 3 rfl) (ik rfl) ?_
      refine a_goto (pc := 8) (dk dt_X12_bad 4 rfl) (tgt := 12) rfl ?_
      refine a_zret (pc := 12) (dk dt_X12_bad 6 rfl) rfl rfl ⟨by decide, ?_⟩
      show ATW _ _ _ _ _ _ _ _ _ _
      refine a_if_eq (pc := 102) (dk dt_X12_date 56 rfl) (tgt := 109) rfl ⟨fun c => absurd c (by decide), fun _ => ?_⟩
      refine a_iconst (pc := 105) (dk dt_X12_date 57 rfl) (ik rfl) ?_
      refine a_goto (pc := 106) (dk dt_X12_date 58 rfl) (tgt := 118) rfl ?_
      refine a_istore (pc := 118) (dk dt_X12_date 66 rfl) (by decide) rfl rfl ?_
      refine a_aload_n (pc := 120) (dk dt_X12_date 67 rfl) rfl ?_
      refine a_iconst (pc := 121) (dk dt_X12_date 68 rfl) (ik rfl) ?_
      refine a_iconst (pc := 122) (dk dt_X12_date 69 rfl) (ik rfl) ?_
      refine a_iload (pc := 123) (dk dt_X12_date 70 rfl) rfl ?_
      refine a_bipush (pc := 125) (dk dt_X12_date 71 rfl) (ik rfl) (bpk rfl) ?_
      refine a_icmp_ne (pc := 127) (dk dt_X12_date 72 rfl) (tgt := 151) rfl ⟨fun c => ?_, fun c => ?_⟩
      · replace H := H.1 c
        refine a_bipush (pc := 151) (dk dt_X12_date 82 rfl) (ik rfl) (bpk rfl) ?_
        refine a_callVi (as := [iv 2, iv 0, iv 59]) (st := []) (pc := 153) (dk dt_X12_date 83 rfl) cl_RX12_367 ⟨Nat.le_of_ble_eq_true rfl, Nat.le_of_ble_eq_true rfl⟩ ⟨Nat.le_of_ble_eq_true rfl, Nat.le_of_ble_eq_true rfl⟩ cls_12 rfl cc_85 rfl rfl rfl (Nat.le_of_ble_eq_true rfl) (Call.mono H fun r53 h54 H => ?_)
        refine a_istore (pc := 156) (dk dt_X12_date 84 rfl) (by decide) rfl rfl ?_
        refine a_aload_n (pc := 158) (dk dt_X12_date 85 rfl) rfl ?_
        refine a_callVv (as := []) (st := []) (pc := 159) (dk dt_X12_date 86 rfl) cl_RX12_374 ⟨Nat.le_of_ble_eq_true rfl, Nat.le_of_ble_eq_true rfl⟩ ⟨Nat.le_of_ble_eq_true rfl, Nat.le_of_ble_eq_true rfl⟩ cls_12 rfl cc_85 rfl rfl rfl (Nat.le_of_ble_eq_true rfl) (Call.mono H fun _ h56 H => ?_)
        refine a_aload_n (pc := 162) (dk dt_X12_date 87 rfl) rfl ?_
        refine a_callVi (as := []) (st := []) (pc := 163) (dk dt_X12_date 88 rfl) cl_RX12_315 ⟨Nat.le_of_ble_eq_true rfl, Nat.le_of_ble_eq_true rfl⟩ ⟨Nat.le_of_ble_eq_true rfl, Nat.le_of_ble_eq_true rfl⟩ cls_12 rfl cc_85 rfl rfl rfl (Nat.le_of_ble_eq_true rfl) (Call.of rfl (Nat.le_of_ble_eq_true rfl) rfl ?_)
        refine a_aload_n (pc := 0) (dk dt_X12_bad 0 rfl) rfl ?_
        refine a_geti (pc := 1) (dk dt_X12_bad 1 rfl) cls_12 fl_RX12_312 cf_85_6 ?_
        refine a_if_lt (pc := 4) (dk dt_X12_bad 2 rfl) (tgt := 11) rfl ⟨fun c => ?_, fun c => ?_⟩
        · replace H := H.1 c
          refine a_iconst (pc := 11) (dk dt_X12_bad 5 rfl) (ik rfl) ?_
          refine a_zret (pc := 12) (dk dt_X12_bad 6 rfl) rfl rfl ⟨by decide, ?_⟩
          show ATW _ _ _ _ _ _ _ _ _ _
          refine a_if_eq (pc := 166) (dk dt_X12_date 89 rfl) (tgt := 180) rfl ⟨fun _ => ?_, fun c => absurd c (by decide)⟩
          refine a_aload_n (pc := 180) (dk dt_X12_date 95 rfl) rfl ?_
          refine a_iload (pc := 181) (dk dt_X12_date 96 rfl) rfl ?_
          refine a_callVi (as := [iv 0]) (st := []) (pc := 183) (dk dt_X12_date 97 rfl) cl_RX12_377 ⟨Nat.le_of_ble_eq_true rfl, Nat.le_of_ble_eq_true rfl⟩ ⟨Nat.le_of_ble_eq_true rfl, Nat.le_of_ble_eq_true rfl⟩ cls_12 rfl cc_85 rfl rfl rfl (Nat.le_of_ble_eq_true rfl) (Call.mono H fun r57 h58 H => ?_)
          refine a_sipush (pc := 186) (dk dt_X12_date 98 rfl) (ik rfl) (spk rfl) ?_
          refine a_iload (pc := 189) (dk dt_X12_date 99 rfl) rfl ?_
          refine a_imul (pc := 191) (dk dt_X12_date 100 rfl) ?_
          refine a_iadd (pc := 192) (dk dt_X12_date 101 rfl) ?_
          refine a_bipush (pc := 193) (dk dt_X12_date 102 rfl) (ik rfl) (bpk rfl) ?_
          refine a_iload (pc := 195) (dk dt_X12_date 103 rfl) rfl ?_
          refine a_imul (pc := 197) (dk dt_X12_date 104 rfl) ?_
          refine a_iadd (pc := 198) (dk dt_X12_date 105 rfl) ?_
          refine a_iload (pc := 199) (dk dt_X12_date 106 rfl) rfl ?_
          refine a_iadd (pc := 201) (dk dt_X12_date 107 rfl) ?_
          exact a_iret (pc := 202) (dk dt_X12_date 108 rfl) rfl rfl H
        · replace H := H.2 c
          refine a_iconst (pc := 7) (dk dt_X12_bad 3 rfl) (ik rfl) ?_
          refine a_goto (pc := 8) (dk dt_X12_bad 4 rfl) (tgt := 12) rfl ?_
          refine a_zret (pc := 12) (dk dt_X12_bad 6 rfl) rfl rfl ⟨by decide, ?_⟩
          show ATW _ _ _ _ _ _ _ _ _ _
          refine a_if_eq (pc := 166) (dk dt_X12_date 89 rfl) (tgt := 180) rfl ⟨fun c => absurd c (by decide), fun _ => ?_⟩
          refine a_sipush (pc := 169) (dk dt_X12_date 90 rfl) (ik rfl) (spk rfl) ?_
          refine a_aload_n (pc := 172) (dk dt_X12_date 91 rfl) rfl ?_
          refine a_geti (pc := 173) (dk dt_X12_date 92 rfl) cls_12 fl_RX12_312 cf_85_6 ?_
          refine a_isub (pc := 176) (dk dt_X12_date 93 rfl) ?_
          refine a_goto (pc := 177) (dk dt_X12_date 94 rfl) (tgt := 202) rfl ?_
          exact a_iret (pc := 202) (dk dt_X12_date 108 rfl) rfl rfl H
      · replace H := H.2 c
        refine a_iload (pc := 130) (dk dt_X12_date 73 rfl) rfl ?_
        refine a_bipush (pc := 132) (dk dt_X12_date 74 rfl) (ik rfl) (bpk rfl) ?_
        refine a_icmp_ne (pc := 134) (dk dt_X12_date 75 rfl) (tgt := 151) rfl ⟨fun c => ?_, fun c => ?_⟩
        · replace H := H.1 c
          refine a_bipush (pc := 151) (dk dt_X12_date 82 rfl) (ik rfl) (bpk rfl) ?_
          refine a_callVi (as := [iv 2, iv 0, iv 59]) (st := []) (pc := 153) (dk dt_X12_date 83 rfl) cl_RX12_367 ⟨Nat.le_of_ble_eq_true rfl, Nat.le_of_ble_eq_true rfl⟩ ⟨Nat.le_of_ble_eq_true rfl, Nat.le_of_ble_eq_true rfl⟩ cls_12 rfl cc_85 rfl rfl rfl (Nat.le_of_ble_eq_true rfl) (Call.mono H fun r59 h60 H => ?_)
          refine a_istore (pc := 156) (dk dt_X12_date 84 rfl) (by decide) rfl rfl ?_
          refine a_aload_n (pc := 158) (dk dt_X12_date 85 rfl) rfl ?_
          refine a_callVv (as := []) (st := []) (pc := 159) (dk dt_X12_date 86 rfl) cl_RX12_374 ⟨Nat.le_of_ble_eq_true rfl, Nat.le_of_ble_eq_true rfl⟩ ⟨Nat.le_of_ble_eq_true rfl, Nat.le_of_ble_eq_true rfl⟩ cls_12 rfl cc_85 rfl rfl rfl (Nat.le_of_ble_eq_true rfl) (Call.mono H fun _ h62 H => ?_)
          refine a_aload_n (pc := 162) (dk dt_X12_date 87 rfl) rfl ?_
          refine a_callVi (as := []) (st := []) (pc := 163) (dk dt_X12_date 88 rfl) cl_RX12_315 ⟨Nat.le_of_ble_eq_true rfl, Nat.le_of_ble_eq_true rfl⟩ ⟨Nat.le_of_ble_eq_true rfl, Nat.le_of_ble_eq_true rfl⟩ cls_12 rfl cc_85 rfl rfl rfl (Nat.le_of_ble_eq_true rfl) (Call.of rfl (Nat.le_of_ble_eq_true rfl) rfl ?_)
          refine a_aload_n (pc := 0) (dk dt_X12_bad 0 rfl) rfl ?_
          refine a_geti (pc := 1) (dk dt_X12_bad 1 rfl) cls_12 fl_RX12_312 cf_85_6 ?_
          refine a_if_lt (pc := 4) (dk dt_X12_bad 2 rfl) (tgt := 11) rfl ⟨fun c => ?_, fun c => ?_⟩
          · replace H := H.1 c
            refine a_iconst (pc := 11) (dk dt_X12_bad 5 rfl) (ik rfl) ?_
            refine a_zret (pc := 12) (dk dt_X12_bad 6 rfl) rfl rfl ⟨by decide, ?_⟩
            show ATW _ _ _ _ _ _ _ _ _ _
            refine a_if_eq (pc := 166) (dk dt_X12_date 89 rfl) (tgt := 180) rfl ⟨fun _ => ?_, fun c => absurd c (by decide)⟩
            refine a_aload_n (pc := 180) (dk dt_X12_date 95 rfl) rfl ?_
            refine a_iload (pc := 181) (dk dt_X12_date 96 rfl) rfl ?_
            refine a_callVi (as := [iv 0]) (st := []) (pc := 183) (dk dt_X12_date 97 rfl) cl_RX12_377 ⟨Nat.le_of_ble_eq_true rfl, Nat.le_of_ble_eq_true rfl⟩ ⟨Nat.le_of_ble_eq_true rfl, Nat.le_of_ble_eq_true rfl⟩ cls_12 rfl cc_85 rfl rfl rfl (Nat.le_of_ble_eq_true rfl) (Call.mono H fun r63 h64 H => ?_)
            refine a_sipush (pc := 186) (dk dt_X12_date 98 rfl) (ik rfl) (spk rfl) ?_
            refine a_iload (pc := 189) (dk dt_X12_date 99 rfl) rfl ?_
            refine a_imul (pc := 191) (dk dt_X12_date 100 rfl) ?_
            refine a_iadd (pc := 192) (dk dt_X12_date 101 rfl) ?_
            refine a_bipush (pc := 193) (dk dt_X12_date 102 rfl) (ik rfl) (bpk rfl) ?_
            refine a_iload (pc := 195) (dk dt_X12_date 103 rfl) rfl ?_
            refine a_imul (pc := 197) (dk dt_X12_date 104 rfl) ?_
            refine a_iadd (pc := 198) (dk dt_X12_date 105 rfl) ?_
            refine a_iload (pc := 199) (dk dt_X12_date 106 rfl) rfl ?_
            refine a_iadd (pc := 201) (dk dt_X12_date 107 rfl) ?_
            exact a_iret (pc := 202) (dk dt_X12_date 108 rfl) rfl rfl H
          · replace H := H.2 c
            refine a_iconst (pc := 7) (dk dt_X12_bad 3 rfl) (ik rfl) ?_
            refine a_goto (pc := 8) (dk dt_X12_bad 4 rfl) (tgt := 12) rfl ?_
            refine a_zret (pc := 12) (dk dt_X12_bad 6 rfl) rfl rfl ⟨by decide, ?_⟩
            show ATW _ _ _ _ _ _ _ _ _ _
            refine a_if_eq (pc := 166) (dk dt_X12_date 89 rfl) (tgt := 180) rfl ⟨fun c => absurd c (by decide), fun _ => ?_⟩
            refine a_sipush (pc := 169) (dk dt_X12_date 90 rfl) (ik rfl) (spk rfl) ?_
            refine a_aload_n (pc := 172) (dk dt_X12_date 91 rfl) rfl ?_
            refine a_geti (pc := 173) (dk dt_X12_date 92 rfl) cls_12 fl_RX12_312 cf_85_6 ?_
            refine a_isub (pc := 176) (dk dt_X12_date 93 rfl) ?_
            refine a_goto (pc := 177) (dk dt_X12_date 94 rfl) (tgt := 202) rfl ?_
            exact a_iret (pc := 202) (dk dt_X12_date 108 rfl) rfl rfl H
        · replace H := H.2 c
          refine a_aload_n (pc := 137) (dk dt_X12_date 76 rfl) rfl ?_
          refine a_iload (pc := 138) (dk dt_X12_date 77 rfl) rfl ?_
          refine a_callVi (as := [iv 0]) (st := [iv 0, iv 2, rv 85]) (pc := 140) (dk dt_X12_date 78 rfl) cl_RX12_371 ⟨Nat.le_of_ble_eq_true rfl, Nat.le_of_ble_eq_true rfl⟩ ⟨Nat.le_of_ble_eq_true rfl, Nat.le_of_ble_eq_true rfl⟩ cls_12 rfl cc_85 rfl rfl rfl (Nat.le_of_ble_eq_true rfl) (Call.mono H fun r65 h66 H => ?_)
          refine a_if_eq (pc := 143) (dk dt_X12_date 79 rfl) (tgt := 151) rfl ⟨fun c => ?_, fun c => ?_⟩
          · replace H := H.1 c
            refine a_bipush (pc := 151) (dk dt_X12_date 82 rfl) (ik rfl) (bpk rfl) ?_
            refine a_callVi (as := [iv 2, iv 0, iv 59]) (st := []) (pc := 153) (dk dt_X12_date 83 rfl) cl_RX12_367 ⟨Nat.le_of_ble_eq_true rfl, Nat.le_of_ble_eq_true rfl⟩ ⟨Nat.le_of_ble_eq_true rfl, Nat.le_of_ble_eq_true rfl⟩ cls_12 rfl cc_85 rfl rfl rfl (Nat.le_of_ble_eq_true rfl) (Call.mono H fun r67 h68 H => ?_)
            refine a_istore (pc := 156) (dk dt_X12_date 84 rfl) (by decide) rfl rfl ?_
            refine a_aload_n (pc := 158) (dk dt_X12_date 85 rfl) rfl ?_
            refine a_callVv (as := []) (st := []) (pc := 159) (dk dt_X12_date 86 rfl) cl_RX12_374 ⟨Nat.le_of_ble_eq_true rfl, Nat.le_of_ble_eq_true rfl⟩ ⟨Nat.le_of_ble_eq_true rfl, Nat.le_of_ble_eq_true rfl⟩ cls_12 rfl cc_85 rfl rfl rfl (Nat.le_of_ble_eq_true rfl) (Call.mono H fun _ h70 H => ?_)
            refine a_aload_n (pc := 162) (dk dt_X12_date 87 rfl) rfl ?_
            refine a_callVi (as := []) (st := []) (pc := 163) (dk dt_X12_date 88 rfl) cl_RX12_315 ⟨Nat.le_of_ble_eq_true rfl, Nat.le_of_ble_eq_true rfl⟩ ⟨Nat.le_of_ble_eq_true rfl, Nat.le_of_ble_eq_true rfl⟩ cls_12 rfl cc_85 rfl rfl rfl (Nat.le_of_ble_eq_true rfl) (Call.of rfl (Nat.le_of_ble_eq_true rfl) rfl ?_)
            refine a_aload_n (pc := 0) (dk dt_X12_bad 0 rfl) rfl ?_
            refine a_geti (pc := 1) (dk dt_X12_bad 1 rfl) cls_12 fl_RX12_312 cf_85_6 ?_
            refine a_if_lt (pc := 4) (dk dt_X12_bad 2 rfl) (tgt := 11) rfl ⟨fun c => ?_, fun c => ?_⟩
            · replace H := H.1 c
              refine a_iconst (pc := 11) (dk dt_X12_bad 5 rfl) (ik rfl) ?_
              refine a_zret (pc := 12) (dk dt_X12_bad 6 rfl) rfl rfl ⟨by decide, ?_⟩
              show ATW _ _ _ _ _ _ _ _ _ _
              refine a_if_eq (pc := 166) (dk dt_X12_date 89 rfl) (tgt := 180) rfl ⟨fun _ => ?_, fun c => absurd c (by decide)⟩
              refine a_aload_n (pc := 180) (dk dt_X12_date 95 rfl) rfl ?_
              refine a_iload (pc := 181) (dk dt_X12_date 96 rfl) rfl ?_
              refine a_callVi (as := [iv 0]) (st := []) (pc := 183) (dk dt_X12_date 97 rfl) cl_RX12_377 ⟨Nat.le_of_ble_eq_true rfl, Nat.le_of_ble_eq_true rfl⟩ ⟨Nat.le_of_ble_eq_true rfl, Nat.le_of_ble_eq_true rfl⟩ cls_12 rfl cc_85 rfl rfl rfl (Nat.le_of_ble_eq_true rfl) (Call.mono H fun r71 h72 H => ?_)
              refine a_sipush (pc := 186) (dk dt_X12_date 98 rfl) (ik rfl) (spk rfl) ?_
              refine a_iload (pc := 189) (dk dt_X12_date 99 rfl) rfl ?_
              refine a_imul (pc := 191) (dk dt_X12_date 100 rfl) ?_
              refine a_iadd (pc := 192) (dk dt_X12_date 101 rfl) ?_
              refine a_bipush (pc := 193) (dk dt_X12_date 102 rfl) (ik rfl) (bpk rfl) ?_
              refine a_iload (pc := 195) (dk dt_X12_date 103 rfl) rfl ?_
              refine a_imul (pc := 197) (dk dt_X12_date 104 rfl) ?_
              refine a_iadd (pc := 198) (dk dt_X12_date 105 rfl) ?_
              refine a_iload (pc := 199) (dk dt_X12_date 106 rfl) rfl ?_
              refine a_iadd (pc := 201) (dk dt_X12_date 107 rfl) ?_
              exact a_iret (pc := 202) (dk dt_X12_date 108 rfl) rfl rfl H
            · replace H := H.2 c
              refine a_iconst (pc := 7) (dk dt_X12_bad 3 rfl) (ik rfl) ?_
              refine a_goto (pc := 8) (dk dt_X12_bad 4 rfl) (tgt := 12) rfl ?_
              refine a_zret (pc := 12) (dk dt_X12_bad 6 rfl) rfl rfl ⟨by decide, ?_⟩
              show ATW _ _ _ _ _ _ _ _ _ _
              refine a_if_eq (pc := 166) (dk dt_X12_date 89 rfl) (tgt := 180) rfl ⟨fun c => absurd c (by decide), fun _ => ?_⟩
              refine a_sipush (pc := 169) (dk dt_X12_date 90 rfl) (ik rfl) (spk rfl) ?_
              refine a_aload_n (pc := 172) (dk dt_X12_date 91 rfl) rfl ?_
              refine a_geti (pc := 173) (dk dt_X12_date 92 rfl) cls_12 fl_RX12_312 cf_85_6 ?_
              refine a_isub (pc := 176) (dk dt_X12_date 93 rfl) ?_
              refine a_goto (pc := 177) (dk dt_X12_date 94 rfl) (tgt := 202) rfl ?_
              exact a_iret (pc := 202) (dk dt_X12_date 108 rfl) rfl rfl H
          · replace H := H.2 c
            refine a_bipush (pc := 146) (dk dt_X12_date 80 rfl) (ik rfl) (bpk rfl) ?_
            refine a_goto (pc := 148) (dk dt_X12_date 81 rfl) (tgt := 153) rfl ?_
            refine a_callVi (as := [iv 2, iv 0, iv 60]) (st := []) (pc := 153) (dk dt_X12_date 83 rfl) cl_RX12_367 ⟨Nat.le_of_ble_eq_true rfl, Nat.le_of_ble_eq_true rfl⟩ ⟨Nat.le_of_ble_eq_true rfl, Nat.le_of_ble_eq_true rfl⟩ cls_12 rfl cc_85 rfl rfl rfl (Nat.le_of_ble_eq_true rfl) (Call.mono H fun r73 h74 H => ?_)
            refine a_istore (pc := 156) (dk dt_X12_date 84 rfl) (by decide) rfl rfl ?_
            refine a_aload_n (pc := 158) (dk dt_X12_date 85 rfl) rfl ?_
            refine a_callVv (as := []) (st := []) (pc := 159) (dk dt_X12_date 86 rfl) cl_RX12_374 ⟨Nat.le_of_ble_eq_true rfl, Nat.le_of_ble_eq_true rfl⟩ ⟨Nat.le_of_ble_eq_true rfl, Nat.le_of_ble_eq_true rfl⟩ cls_12 rfl cc_85 rfl rfl rfl (Nat.le_of_ble_eq_true rfl) (Call.mono H fun _ h76 H => ?_)
            refine a_aload_n (pc := 162) (dk dt_X12_date 87 rfl) rfl ?_
            refine a_callVi (as := []) (st := []) (pc := 163) (dk dt_X12_date 88 rfl) cl_RX12_315 ⟨Nat.le_of_ble_eq_true rfl, Nat.le_of_ble_eq_true rfl⟩ ⟨Nat.le_of_ble_eq_true rfl, Nat.le_of_ble_eq_true rfl⟩ cls_12 rfl cc_85 rfl rfl rfl (Nat.le_of_ble_eq_true rfl) (Call.of rfl (Nat.le_of_ble_eq_true rfl) rfl ?_)
            refine a_aload_n (pc := 0) (dk dt_X12_bad 0 rfl) rfl ?_
            refine a_geti (pc := 1) (dk dt_X12_bad 1 rfl) cls_12 fl_RX12_312 cf_85_6 ?_
            refine a_if_lt (pc := 4) (dk dt_X12_bad 2 rfl) (tgt := 11) rfl ⟨fun c => ?_, fun c => ?_⟩
            · replace H := H.1 c
              refine a_iconst (pc := 11) (dk dt_X12_bad 5 rfl) (ik rfl) ?_
              refine a_zret (pc := 12) (dk dt_X12_bad 6 rfl) rfl rfl ⟨by decide, ?_⟩
              show ATW _ _ _ _ _ _ _ _ _ _
              refine a_if_eq (pc := 166) (dk dt_X12_date 89 rfl) (tgt := 180) rfl ⟨fun _ => ?_, fun c => absurd c (by decide)⟩
              refine a_aload_n (pc := 180) (dk dt_X12_date 95 rfl) rfl ?_
              refine a_iload (pc := 181) (dk dt_X12_date 96 rfl) rfl ?_
              refine a_callVi (as := [iv 0]) (st := []) (pc := 183) (dk dt_X12_date 97 rfl) cl_RX12_377 ⟨Nat.le_of_ble_eq_true rfl, Nat.le_of_ble_eq_true rfl⟩ ⟨Nat.le_of_ble_eq_true rfl, Nat.le_of_ble_eq_true rfl⟩ cls_12 rfl cc_85 rfl rfl rfl (Nat.le_of_ble_eq_true rfl) (Call.mono H fun r77 h78 H => ?_)
              refine a_sipush (pc := 186) (dk dt_X12_date 98 rfl) (ik rfl) (spk rfl) ?_
              refine a_iload (pc := 189) (dk dt_X12_date 99 rfl) rfl ?_
              refine a_imul (pc := 191) (dk dt_X12_date 100 rfl) ?_
              refine a_iadd (pc := 192) (dk dt_X12_date 101 rfl) ?_
              refine a_bipush (pc := 193) (dk dt_X12_date 102 rfl) (ik rfl) (bpk rfl) ?_
              refine a_iload (pc := 195) (dk dt_X12_date 103 rfl) rfl ?_
              refine a_imul (pc := 197) (dk dt_X12_date 104 rfl) ?_
              refine a_iadd (pc := 198) (dk dt_X12_date 105 rfl) ?_
              refine a_iload (pc := 199) (dk dt_X12_date 106 rfl) rfl ?_
              refine a_iadd (pc := 201) (dk dt_X12_date 107 rfl) ?_
              exact a_iret (pc := 202) (dk dt_X12_date 108 rfl) rfl rfl H
            · replace H := H.2 c
              refine a_iconst (pc := 7) (dk dt_X12_bad 3 rfl) (ik rfl) ?_
              refine a_goto (pc := 8) (dk dt_X12_bad 4 rfl) (tgt := 12) rfl ?_
              refine a_zret (pc := 12) (dk dt_X12_bad 6 rfl) rfl rfl ⟨by decide, ?_⟩
              show ATW _ _ _ _ _ _ _ _ _ _
              refine a_if_eq (pc := 166) (dk dt_X12_date 89 rfl) (tgt := 180) rfl ⟨fun c => absurd c (by decide), fun _ => ?_⟩
              refine a_sipush (pc := 169) (dk dt_X12_date 90 rfl) (ik rfl) (spk rfl) ?_
              refine a_aload_n (pc := 172) (dk dt_X12_date 91 rfl) rfl ?_
              refine a_geti (pc := 173) (dk dt_X12_date 92 rfl) cls_12 fl_RX12_312 cf_85_6 ?_
              refine a_isub (pc := 176) (dk dt_X12_date 93 rfl) ?_
              refine a_goto (pc := 177) (dk dt_X12_date 94 rfl) (tgt := 202) rfl ?_
              exact a_iret (pc := 202) (dk dt_X12_date 108 rfl) rfl rfl H
  · replace H := H.2 c
    refine a_iconst (pc := 7) (dk dt_X12_bad 3 rfl) (ik rfl) ?_
    refine a_goto (pc := 8) (dk dt_X12_bad 4 rfl) (tgt := 12) rfl ?_
    refine a_zret (pc := 12) (dk dt_X12_bad 6 rfl) rfl rfl ⟨by decide, ?_⟩
    show ATW _ _ _ _ _ _ _ _ _ _
    refine a_if_eq (pc := 44) (dk dt_X12_date 25 rfl) (tgt := 51) rfl ⟨fun c => absurd c (by decide), fun _ => ?_⟩
    refine a_iconst (pc := 47) (dk dt_X12_date 26 rfl) (ik rfl) ?_
    refine a_goto (pc := 48) (dk dt_X12_date 27 rfl) (tgt := 56) rfl ?_
    refine a_callVi (as := [iv 2, iv 1, iv 0]) (st := []) (pc := 56) (dk dt_X12_date 31 rfl) cl_RX12_367 ⟨Nat.le_of_ble_eq_true rfl, Nat.le_of_ble_eq_true rfl⟩ ⟨Nat.le_of_ble_eq_true rfl, Nat.le_of_ble_eq_true rfl⟩ cls_12 rfl cc_85 rfl rfl rfl (Nat.le_of_ble_eq_true rfl) (Call.mono H fun r79 h80 H => ?_)
    refine a_istore_n (pc := 59) (dk dt_X12_date 32 rfl) (by decide) rfl rfl ?_
    refine a_aload_n (pc := 60) (dk dt_X12_date 33 rfl) rfl ?_
    refine a_bipush (pc := 61) (dk dt_X12_date 34 rfl) (ik rfl) (bpk rfl) ?_
    refine a_callVv (as := [iv 84]) (st := []) (pc := 63) (dk dt_X12_date 35 rfl) cl_RX12_330 ⟨Nat.le_of_ble_eq_true rfl, Nat.le_of_ble_eq_true rfl⟩ ⟨Nat.le_of_ble_eq_true rfl, Nat.le_of_ble_eq_true rfl⟩ cls_12 rfl cc_85 rfl rfl rfl (Nat.le_of_ble_eq_true rfl) (Call.mono H fun _ h82 H => ?_)
    refine a_aload_n (pc := 66) (dk dt_X12_date 36 rfl) rfl ?_
    refine a_iconst (pc := 67) (dk dt_X12_date 37 rfl) (ik rfl) ?_
    refine a_iconst (pc := 68) (dk dt_X12_date 38 rfl) (ik rfl) ?_
    refine a_bipush (pc := 69) (dk dt_X12_date 39 rfl) (ik rfl) (bpk rfl) ?_
    refine a_callVi (as := [iv 2, iv 0, iv 23]) (st := []) (pc := 71) (dk dt_X12_date 40 rfl) cl_RX12_367 ⟨Nat.le_of_ble_eq_true rfl, Nat.le_of_ble_eq_true rfl⟩ ⟨Nat.le_of_ble_eq_true rfl, Nat.le_of_ble_eq_true rfl⟩ cls_12 rfl cc_85 rfl rfl rfl (Nat.le_of_ble_eq_true rfl) (Call.mono H fun r83 h84 H => ?_)
    refine a_istore (pc := 74) (dk dt_X12_date 41 rfl) (by decide) rfl rfl ?_
    refine a_aload_n (pc := 76) (dk dt_X12_date 42 rfl) rfl ?_
    refine a_bipush (pc := 77) (dk dt_X12_date 43 rfl) (ik rfl) (bpk rfl) ?_
    refine a_callVv (as := [iv 58]) (st := []) (pc := 79) (dk dt_X12_date 44 rfl) cl_RX12_330 ⟨Nat.le_of_ble_eq_true rfl, Nat.le_of_ble_eq_true rfl⟩ ⟨Nat.le_of_ble_eq_true rfl, Nat.le_of_ble_eq_true rfl⟩ cls_12 rfl cc_85 rfl rfl rfl (Nat.le_of_ble_eq_true rfl) (Call.mono H fun _ h86 H => ?_)
    refine a_aload_n (pc := 82) (dk dt_X12_date 45 rfl) rfl ?_
    refine a_iconst (pc := 83) (dk dt_X12_date 46 rfl) (ik rfl) ?_
    refine a_iconst (pc := 84) (dk dt_X12_date 47 rfl) (ik rfl) ?_
    refine a_bipush (pc := 85) (dk dt_X12_date 48 rfl) (ik rfl) (bpk rfl) ?_
    refine a_callVi (as := [iv 2, iv 0, iv 59]) (st := []) (pc := 87) (dk dt_X12_date 49 rfl) cl_RX12_367 ⟨Nat.le_of_ble_eq_true rfl, Nat.le_of_ble_eq_true rfl⟩ ⟨Nat.le_of_ble_eq_true rfl, Nat.le_of_ble_eq_true rfl⟩ cls_12 rfl cc_85 rfl rfl rfl (Nat.le_of_ble_eq_true rfl) (Call.mono H fun r87 h88 H => ?_)
    refine a_istore (pc := 90) (dk dt_X12_date 50 rfl) (by decide) rfl rfl ?_
    refine a_aload_n (pc := 92) (dk dt_X12_date 51 rfl) rfl ?_
    refine a_bipush (pc := 93) (dk dt_X12_date 52 rfl) (ik rfl) (bpk rfl) ?_
    refine a_callVv (as := [iv 58]) (st := []) (pc := 95) (dk dt_X12_date 53 rfl) cl_RX12_330 ⟨Nat.le_of_ble_eq_true rfl, Nat.le_of_ble_eq_true rfl⟩ ⟨Nat.le_of_ble_eq_true rfl, Nat.le_of_ble_eq_true rfl⟩ cls_12 rfl cc_85 rfl rfl rfl (Nat.le_of_ble_eq_true rfl) (Call.mono H fun _ h90 H => ?_)
    refine a_aload_n (pc := 98) (dk dt_X12_date 54 rfl) rfl ?_
    refine a_callVi (as := []) (st := []) (pc := 99) (dk dt_X12_date 55 rfl) cl_RX12_315 ⟨Nat.le_of_ble_eq_true rfl, Nat.le_of_ble_eq_true rfl⟩ ⟨Nat.le_of_ble_eq_true rfl, Nat.le_of_ble_eq_true rfl⟩ cls_12 rfl cc_85 rfl rfl rfl (Nat.le_of_ble_eq_true rfl) (Call.of rfl (Nat.le_of_ble_eq_true rfl) rfl ?_)
    refine a_aload_n (pc := 0) (dk dt_X12_bad 0 rfl) rfl ?_
    refine a_geti (pc := 1) (dk dt_X12_bad 1 rfl) cls_12 fl_RX12_312 cf_85_6 ?_
    refine a_if_lt (pc := 4) (dk dt_X12_bad 2 rfl) (tgt := 11) rfl ⟨fun c => ?_, fun c => ?_⟩
    · replace H := H.1 c
      refine a_iconst (pc := 11) (dk dt_X12_bad 5 rfl) (ik rfl) ?_
      refine a_zret (pc := 12) (dk dt_X12_bad 6 rfl) rfl rfl ⟨by decide, ?_⟩
      show ATW _ _ _ _ _ _ _ _ _ _
      refine a_if_eq (pc := 102) (dk dt_X12_date 56 rfl) (tgt := 109) rfl ⟨fun _ => ?_, fun c => absurd c (by decide)⟩
      refine a_iload_n (pc := 109) (dk dt_X12_date 59 rfl) rfl ?_
      refine a_iload_n (pc := 110) (dk dt_X12_date 60 rfl) rfl ?_
      refine a_callSi (as := [iv r3, iv r7]) (st := []) (pc := 111) (dk dt_X12_date 61 rfl) cl_RX12_357 ⟨Nat.le_of_ble_eq_true rfl, Nat.le_of_ble_eq_true rfl⟩ ⟨Nat.le_of_ble_eq_true rfl, Nat.le_of_ble_eq_true rfl⟩ rfl rfl rfl (Nat.le_of_ble_eq_true rfl) (Call.mono H fun r91 h92 H => ?_)
      refine a_iload_n (pc := 114) (dk dt_X12_date 62 rfl) rfl ?_
      refine a_iadd (pc := 115) (dk dt_X12_date 63 rfl) ?_
      refine a_iconst (pc := 116) (dk dt_X12_date 64 rfl) (ik rfl) ?_
      refine a_isub (pc := 117) (dk dt_X12_date 65 rfl) ?_
      refine a_istore (pc := 118) (dk dt_X12_date 66 rfl) (by decide) rfl rfl ?_
      refine a_aload_n (pc := 120) (dk dt_X12_date 67 rfl) rfl ?_
      refine a_iconst (pc := 121) (dk dt_X12_date 68 rfl) (ik rfl) ?_
      refine a_iconst (pc := 122) (dk dt_X12_date 69 rfl) (ik rfl) ?_
      refine a_iload (pc := 123) (dk dt_X12_date 70 rfl) rfl ?_
      refine a_bipush (pc := 125) (dk dt_X12_date 71 rfl) (ik rfl) (bpk rfl) ?_
      refine a_icmp_ne (pc := 127) (dk dt_X12_date 72 rfl) (tgt := 151) rfl ⟨fun c => ?_, fun c => ?_⟩
      · replace H := H.1 c
        refine a_bipush (pc := 151) (dk dt_X12_date 82 rfl) (ik rfl) (bpk rfl) ?_
        refine a_callVi (as := [iv 2, iv 0, iv 59]) (st := []) (pc := 153) (dk dt_X12_date 83 rfl) cl_RX12_367 ⟨Nat.le_of_ble_eq_true rfl, Nat.le_of_ble_eq_true rfl⟩ ⟨Nat.le_of_ble_eq_true rfl, Nat.le_of_ble_eq_true rfl⟩ cls_12 rfl cc_85 rfl rfl rfl (Nat.le_of_ble_eq_true rfl) (Call.mono H fun r93 h94 H => ?_)
        refine a_istore (pc := 156) (dk dt_X12_date 84 rfl) (by decide) rfl rfl ?_
        refine a_aload_n (pc := 158) (dk dt_X12_date 85 rfl) rfl ?_
        refine a_callVv (as := []) (st := []) (pc := 159) (dk dt_X12_date 86 rfl) cl_RX12_374 ⟨Nat.le_of_ble_eq_true rfl, Nat.le_of_ble_eq_true rfl⟩ ⟨Nat.le_of_ble_eq_true rfl, Nat.le_of_ble_eq_true rfl⟩ cls_12 rfl cc_85 rfl rfl rfl (Nat.le_of_ble_eq_true rfl) (Call.mono H fun _ h96 H => ?_)
        refine a_aload_n (pc := 162) (dk dt_X12_date 87 rfl) rfl ?_
        refine a_callVi (as := []) (st := []) (pc := 163) (dk dt_X12_date 88 rfl) cl_RX12_315 ⟨Nat.le_of_ble_eq_true rfl, Nat.le_of_ble_eq_true rfl⟩ ⟨Nat.le_of_ble_eq_true rfl, Nat.le_of_ble_eq_true rfl⟩ cls_12 rfl cc_85 rfl rfl rfl (Nat.le_of_ble_eq_true rfl) (Call.of rfl (Nat.le_of_ble_eq_true rfl) rfl ?_)
        refine a_aload_n (pc := 0) (dk dt_X12_bad 0 rfl) rfl ?_
        refine a_geti (pc := 1) (dk dt_X12_bad 1 rfl) cls_12 fl_RX12_312 cf_85_6 ?_
        refine a_if_lt (pc := 4) (dk dt_X12_bad 2 rfl) (tgt := 11) rfl ⟨fun c => ?_, fun c => ?_⟩
        · replace H := H.1 c
          refine a_iconst (pc := 11) (dk dt_X12_bad 5 rfl) (ik rfl) ?_
          refine a_zret (pc := 12) (dk dt_X12_bad 6 rfl) rfl rfl ⟨by decide, ?_⟩
          show ATW _ _ _ _ _ _ _ _ _ _
          refine a_if_eq (pc := 166) (dk dt_X12_date 89 rfl) (tgt := 180) rfl ⟨fun _ => ?_, fun c => absurd c (by decide)⟩
          refine a_aload_n (pc := 180) (dk dt_X12_date 95 rfl) rfl ?_
          refine a_iload (pc := 181) (dk dt_X12_date 96 rfl) rfl ?_
          refine a_callVi (as := [iv (w32 ((w32 (r91 + r79)) - 1))]) (st := []) (pc := 183) (dk dt_X12_date 97 rfl) cl_RX12_377 ⟨Nat.le_of_ble_eq_true rfl, Nat.le_of_ble_eq_true rfl⟩ ⟨Nat.le_of_ble_eq_true rfl, Nat.le_of_ble_eq_true rfl⟩ cls_12 rfl cc_85 rfl rfl rfl (Nat.le_of_ble_eq_true rfl) (Call.mono H fun r97 h98 H => ?_)
          refine a_sipush (pc := 186) (dk dt_X12_date 98 rfl) (ik rfl) (spk rfl) ?_
          refine a_iload (pc := 189) (dk dt_X12_date 99 rfl) rfl ?_
          refine a_imul (pc := 191) (dk dt_X12_date 100 rfl) ?_
          refine a_iadd (pc := 192) (dk dt_X12_date 101 rfl) ?_
          refine a_bipush (pc := 193) (dk dt_X12_date 102 rfl) (ik rfl) (bpk rfl) ?_
          refine a_iload (pc := 195) (dk dt_X12_date 103 rfl) rfl ?_
          refine a_imul (pc := 197) (dk dt_X12_date 104 rfl) ?_
          refine a_iadd (pc := 198) (dk dt_X12_date 105 rfl) ?_
          refine a_iload (pc := 199) (dk dt_X12_date 106 rfl) rfl ?_
          refine a_iadd (pc := 201) (dk dt_X12_date 107 rfl) ?_
          exact a_iret (pc := 202) (dk dt_X12_date 108 rfl) rfl rfl H
        · replace H := H.2 c
          refine a_iconst (pc := 7) (dk dt_X12_bad 3 rfl) (ik rfl) ?_
          refine a_goto (pc := 8) (dk dt_X12_bad 4 rfl) (tgt := 12) rfl ?_
          refine a_zret (pc := 12) (dk dt_X12_bad 6 rfl) rfl rfl ⟨by decide, ?_⟩
          show ATW _ _ _ _ _ _ _ _ _ _
          refine a_if_eq (pc := 166) (dk dt_X12_date 89 rfl) (tgt := 180) rfl ⟨fun c => absurd c (by decide), fun _ => ?_⟩
          refine a_sipush (pc := 169) (dk dt_X12_date 90 rfl) (ik rfl) (spk rfl) ?_
          refine a_aload_n (pc := 172) (dk dt_X12_date 91 rfl) rfl ?_
          refine a_geti (pc := 173) (dk dt_X12_date 92 rfl) cls_12 fl_RX12_312 cf_85_6 ?_
          refine a_isub (pc := 176) (dk dt_X12_date 93 rfl) ?_
          refine a_goto (pc := 177) (dk dt_X12_date 94 rfl) (tgt := 202) rfl ?_
          exact a_iret (pc := 202) (dk dt_X12_date 108 rfl) rfl rfl H
      · replace H := H.2 c
        refine a_iload (pc := 130) (dk dt_X12_date 73 rfl) rfl ?_
        refine a_bipush (pc := 132) (dk dt_X12_date 74 rfl) (ik rfl) (bpk rfl) ?_
        refine a_icmp_ne (pc := 134) (dk dt_X12_date 75 rfl) (tgt := 151) rfl ⟨fun c => ?_, fun c => ?_⟩
        · replace H := H.1 c
          refine a_bipush (pc := 151) (dk dt_X12_date 82 rfl) (ik rfl) (bpk rfl) ?_
          refine a_callVi (as := [iv 2, iv 0, iv 59]) (st := []) (pc := 153) (dk dt_X12_date 83 rfl) cl_RX12_367 ⟨Nat.le_of_ble_eq_true rfl, Nat.le_of_ble_eq_true rfl⟩ ⟨Nat.le_of_ble_eq_true rfl, Nat.le_of_ble_eq_true rfl⟩ cls_12 rfl cc_85 rfl rfl rfl (Nat.le_of_ble_eq_true rfl) (Call.mono H fun r99 h100 H => ?_)
          refine a_istore (pc := 156) (dk dt_X12_date 84 rfl) (by decide) rfl rfl ?_
          refine a_aload_n (pc := 158) (dk dt_X12_date 85 rfl) rfl ?_
          refine a_callVv (as := []) (st := []) (pc := 159) (dk dt_X12_date 86 rfl) cl_RX12_374 ⟨Nat.le_of_ble_eq_true rfl, Nat.le_of_ble_eq_true rfl⟩ ⟨Nat.le_of_ble_eq_true rfl, Nat.le_of_ble_eq_true rfl⟩ cls_12 rfl cc_85 rfl rfl rfl (Nat.le_of_ble_eq_true rfl) (Call.mono H fun _ h102 H => ?_)
          refine a_aload_n (pc := 162) (dk dt_X12_date 87 rfl) rfl ?_
          refine a_callVi (as := []) (st := []) (pc := 163) (dk dt_X12_date 88 rfl) cl_RX12_315 ⟨Nat.le_of_ble_eq_true rfl, Nat.le_of_ble_eq_true rfl⟩ ⟨Nat.le_of_ble_eq_true rfl, Nat.le_of_ble_eq_true rfl⟩ cls_12 rfl cc_85 rfl rfl rfl (Nat.le_of_ble_eq_true rfl) (Call.of rfl (Nat.le_of_ble_eq_true rfl) rfl ?_)
          refine a_aload_n (pc := 0) (dk dt_X12_bad 0 rfl) rfl ?_
          refine a_geti (pc := 1) (dk dt_X12_bad 1 rfl) cls_12 fl_RX12_312 cf_85_6 ?_
          refine a_if_lt (pc := 4) (dk dt_X12_bad 2 rfl) (tgt := 11) rfl ⟨fun c => ?_, fun c => ?_⟩
          · replace H := H.1 c
            refine a_iconst (pc := 11) (dk dt_X12_bad 5 rfl) (ik rfl) ?_
            refine a_zret (pc := 12) (dk dt_X12_bad 6 rfl) rfl rfl ⟨by decide, ?_⟩
            show ATW _ _ _ _ _ _ _ _ _ _
            refine a_if_eq (pc := 166) (dk dt_X12_date 89 rfl) (tgt := 180) rfl ⟨fun _ => ?_, fun c => absurd c (by decide)⟩
            refine a_aload_n (pc := 180) (dk dt_X12_date 95 rfl) rfl ?_
            refine a_iload (pc := 181) (dk dt_X12_date 96 rfl) rfl ?_
            refine a_callVi (as := [iv (w32 ((w32 (r91 + r79)) - 1))]) (st := []) (pc := 183) (dk dt_X12_date 97 rfl) cl_RX12_377 ⟨Nat.le_of_ble_eq_true rfl, Nat.le_of_ble_eq_true rfl⟩ ⟨Nat.le_of_ble_eq_true rfl, Nat.le_of_ble_eq_true rfl⟩ cls_12 rfl cc_85 rfl rfl rfl (Nat.le_of_ble_eq_true rfl) (Call.mono H fun r103 h104 H => ?_)
            refine a_sipush (pc := 186) (dk dt_X12_date 98 rfl) (ik rfl) (spk rfl) ?_
            refine a_iload (pc := 189) (dk dt_X12_date 99 rfl) rfl ?_
            refine a_imul (pc := 191) (dk dt_X12_date 100 rfl) ?_
            refine a_iadd (pc := 192) (dk dt_X12_date 101 rfl) ?_
            refine a_bipush (pc := 193) (dk dt_X12_date 102 rfl) (ik rfl) (bpk rfl) ?_
            refine a_iload (pc := 195) (dk dt_X12_date 103 rfl) rfl ?_
            refine a_imul (pc := 197) (dk dt_X12_date 104 rfl) ?_
            refine a_iadd (pc := 198) (dk dt_X12_date 105 rfl) ?_
            refine a_iload (pc := 199) (dk dt_X12_date 106 rfl) rfl ?_
            refine a_iadd (pc := 201) (dk dt_X12_date 107 rfl) ?_
            exact a_iret (pc := 202) (dk dt_X12_date 108 rfl) rfl rfl H
          · replace H := H.2 c
            refine a_iconst (pc := 7) (dk dt_X12_bad 3 rfl) (ik rfl) ?_
            refine a_goto (pc := 8) (dk dt_X12_bad 4 rfl) (tgt := 12) rfl ?_
            refine a_zret (pc := 12) (dk dt_X12_bad 6 rfl) rfl rfl ⟨by decide, ?_⟩
            show ATW _ _ _ _ _ _ _ _ _ _
            refine a_if_eq (pc := 166) (dk dt_X12_date 89 rfl) (tgt := 180) rfl ⟨fun c => absurd c (by decide), fun _ => ?_⟩
            refine a_sipush (pc := 169) (dk dt_X12_date 90 rfl) (ik rfl) (spk rfl) ?_
            refine a_aload_n (pc := 172) (dk dt_X12_date 91 rfl) rfl ?_
            refine a_geti (pc := 173) (dk dt_X12_date 92 rfl) cls_12 fl_RX12_312 cf_85_6 ?_
            refine a_isub (pc := 176) (dk dt_X12_date 93 rfl) ?_
            refine a_goto (pc := 177) (dk dt_X12_date 94 rfl) (tgt := 202) rfl ?_
            exact a_iret (pc := 202) (dk dt_X12_date 108 rfl) rfl rfl H
        · replace H := H.2 c
          refine a_aload_n (pc := 137) (dk dt_X12_date 76 rfl) rfl ?_
          refine a_iload (pc := 138) (dk dt_X12_date 77 rfl) rfl ?_
          refine a_callVi (as := [iv (w32 ((w32 (r91 + r79)) - 1))]) (st := [iv 0, iv 2, rv 85]) (pc := 140) (dk dt_X12_date 78 rfl) cl_RX12_371 ⟨Nat.le_of_ble_eq_true rfl, Nat.le_of_ble_eq_true rfl⟩ ⟨Nat.le_of_ble_eq_true rfl, Nat.le_of_ble_eq_true rfl⟩ cls_12 rfl cc_85 rfl rfl rfl (Nat.le_of_ble_eq_true rfl) (Call.mono H fun r105 h106 H => ?_)
          refine a_if_eq (pc := 143) (dk dt_X12_date 79 rfl) (tgt := 151) rfl ⟨fun c => ?_, fun c => ?_⟩
          · replace H := H.1 c
            refine a_bipush (pc := 151) (dk dt_X12_date 82 rfl) (ik rfl) (bpk rfl) ?_
            refine a_callVi (as := [iv 2, iv 0, iv 59]) (st := []) (pc := 153) (dk dt_X12_date 83 rfl) cl_RX12_367 ⟨Nat.le_of_ble_eq_true rfl, Nat.le_of_ble_eq_true rfl⟩ ⟨Nat.le_of_ble_eq_true rfl, Nat.le_of_ble_eq_true rfl⟩ cls_12 rfl cc_85 rfl rfl rfl (Nat.le_of_ble_eq_true rfl) (Call.mono H fun r107 h108 H => ?_)
            refine a_istore (pc := 156) (dk dt_X12_date 84 rfl) (by decide) rfl rfl ?_
            refine a_aload_n (pc := 158) (dk dt_X12_date 85 rfl) rfl ?_
            refine a_callVv (as := []) (st := []) (pc := 159) (dk dt_X12_date 86 rfl) cl_RX12_374 ⟨Nat.le_of_ble_eq_true rfl, Nat.le_of_ble_eq_true rfl⟩ ⟨Nat.le_of_ble_eq_true rfl, Nat.le_of_ble_eq_true rfl⟩ cls_12 rfl cc_85 rfl rfl rfl (Nat.le_of_ble_eq_true rfl) (Call.mono H fun _ h110 H => ?_)
            refine a_aload_n (pc := 162) (dk dt_X12_date 87 rfl) rfl ?_
            refine a_callVi (as := []) (st := []) (pc := 163) (dk dt_X12_date 88 rfl) cl_RX12_315 ⟨Nat.le_of_ble_eq_true rfl, Nat.le_of_ble_eq_true rfl⟩ ⟨Nat.le_of_ble_eq_true rfl, Nat.le_of_ble_eq_true rfl⟩ cls_12 rfl cc_85 rfl rfl rfl (Nat.le_of_ble_eq_true rfl) (Call.of rfl (Nat.le_of_ble_eq_true rfl) rfl ?_)
            refine a_aload_n (pc := 0) (dk dt_X12_bad 0 rfl) rfl ?_
            refine a_geti (pc := 1) (dk dt_X12_bad 1 rfl) cls_12 fl_RX12_312 cf_85_6 ?_
            refine a_if_lt (pc := 4) (dk dt_X12_bad 2 rfl) (tgt := 11) rfl ⟨fun c => ?_, fun c => ?_⟩
            · replace H := H.1 c
              refine a_iconst (pc := 11) (dk dt_X12_bad 5 rfl) (ik rfl) ?_
              refine a_zret (pc := 12) (dk dt_X12_bad 6 rfl) rfl rfl ⟨by decide, ?_⟩
              show ATW _ _ _ _ _ _ _ _ _ _
              refine a_if_eq (pc := 166) (dk dt_X12_date 89 rfl) (tgt := 180) rfl ⟨fun _ => ?_, fun c => absurd c (by decide)⟩
              refine a_aload_n (pc := 180) (dk dt_X12_date 95 rfl) rfl ?_
              refine a_iload (pc := 181) (dk dt_X12_date 96 rfl) rfl ?_
              refine a_callVi (as := [iv (w32 ((w32 (r91 + r79)) - 1))]) (st := []) (pc := 183) (dk dt_X12_date 97 rfl) cl_RX12_377 ⟨Nat.le_of_ble_eq_true rfl, Nat.le_of_ble_eq_true rfl⟩ ⟨Nat.le_of_ble_eq_true rfl, Nat.le_of_ble_eq_true rfl⟩ cls_12 rfl cc_85 rfl rfl rfl (Nat.le_of_ble_eq_true rfl) (Call.mono H fun r111 h112 H => ?_)
              refine a_sipush (pc := 186) (dk dt_X12_date 98 rfl) (ik rfl) (spk rfl) ?_
              refine a_iload (pc := 189) (dk dt_X12_date 99 rfl) rfl ?_
              refine a_imul (pc := 191) (dk dt_X12_date 100 rfl) ?_
              refine a_iadd (pc := 192) (dk dt_X12_date 101 rfl) ?_
              refine a_bipush (pc := 193) (dk dt_X12_date 102 rfl) (ik rfl) (bpk rfl) ?_
              refine a_iload (pc := 195) (dk dt_X12_date 103 rfl) rfl ?_
              refine a_imul (pc := 197) (dk dt_X12_date 104 rfl) ?_
              refine a_iadd (pc := 198) (dk dt_X12_date 105 rfl) ?_
              refine a_iload (pc := 199) (dk dt_X12_date 106 rfl) rfl ?_
              refine a_iadd (pc := 201) (dk dt_X12_date 107 rfl) ?_
              exact a_iret (pc := 202) (dk dt_X12_date 108 rfl) rfl rfl H
            · replace H := H.2 c
              refine a_iconst (pc := 7) (dk dt_X12_bad 3 rfl) (ik rfl) ?_
              refine a_goto (pc := 8) (dk dt_X12_bad 4 rfl) (tgt := 12) rfl ?_
              refine a_zret (pc := 12) (dk dt_X12_bad 6 rfl) rfl rfl ⟨by decide, ?_⟩
              show ATW _ _ _ _ _ _ _ _ _ _
              refine a_if_eq (pc := 166) (dk dt_X12_date 89 rfl) (tgt := 180) rfl ⟨fun c => absurd c (by decide), fun _ => ?_⟩
              refine a_sipush (pc := 169) (dk dt_X12_date 90 rfl) (ik rfl) (spk rfl) ?_
              refine a_aload_n (pc := 172) (dk dt_X12_date 91 rfl) rfl ?_
              refine a_geti (pc := 173) (dk dt_X12_date 92 rfl) cls_12 fl_RX12_312 cf_85_6 ?_
              refine a_isub (pc := 176) (dk dt_X12_date 93 rfl) ?_
              refine a_goto (pc := 177) (dk dt_X12_date 94 rfl) (tgt := 202) rfl ?_
              exact a_iret (pc := 202) (dk dt_X12_date 108 rfl) rfl rfl H
          · replace H := H.2 c
            refine a_bipush (pc := 146) (dk dt_X12_date 80 rfl) (ik rfl) (bpk rfl) ?_
            refine a_goto (pc := 148) (dk dt_X12_date 81 rfl) (tgt := 153) rfl ?_
            refine a_callVi (as := [iv 2, iv 0, iv 60]) (st := []) (pc := 153) (dk dt_X12_date 83 rfl) cl_RX12_367 ⟨Nat.le_of_ble_eq_true rfl, Nat.le_of_ble_eq_true rfl⟩ ⟨Nat.le_of_ble_eq_true rfl, Nat.le_of_ble_eq_true rfl⟩ cls_12 rfl cc_85 rfl rfl rfl (Nat.le_of_ble_eq_true rfl) (Call.mono H fun r113 h114 H => ?_)
            refine a_istore (pc := 156) (dk dt_X12_date 84 rfl) (by decide) rfl rfl ?_
            refine a_aload_n (pc := 158) (dk dt_X12_date 85 rfl) rfl ?_
            refine a_callVv (as := []) (st := []) (pc := 159) (dk dt_X12_date 86 rfl) cl_RX12_374 ⟨Nat.le_of_ble_eq_true rfl, Nat.le_of_ble_eq_true rfl⟩ ⟨Nat.le_of_ble_eq_true rfl, Nat.le_of_ble_eq_true rfl⟩ cls_12 rfl cc_85 rfl rfl rfl (Nat.le_of_ble_eq_true rfl) (Call.mono H fun _ h116 H => ?_)
            refine a_aload_n (pc := 162) (dk dt_X12_date 87 rfl) rfl ?_
            refine a_callVi (as := []) (st := []) (pc := 163) (dk dt_X12_date 88 rfl) cl_RX12_315 ⟨Nat.le_of_ble_eq_true rfl, Nat.le_of_ble_eq_true rfl⟩ ⟨Nat.le_of_ble_eq_true rfl, Nat.le_of_ble_eq_true rfl⟩ cls_12 rfl cc_85 rfl rfl rfl (Nat.le_of_ble_eq_true rfl) (Call.of rfl (Nat.le_of_ble_eq_true rfl) rfl ?_)
            refine a_aload_n (pc := 0) (dk dt_X12_bad 0 rfl) rfl ?_
            refine a_geti (pc := 1) (dk dt_X12_bad 1 rfl) cls_12 fl_RX12_312 cf_85_6 ?_
            refine a_if_lt (pc := 4) (dk dt_X12_bad 2 rfl) (tgt := 11) rfl ⟨fun c => ?_, fun c => ?_⟩
            · replace H := H.1 c
              refine a_iconst (pc := 11) (dk dt_X12_bad 5 rfl) (ik rfl) ?_
              refine a_zret (pc := 12) (dk dt_X12_bad 6 rfl) rfl rfl ⟨by decide, ?_⟩
              show ATW _ _ _ _ _ _ _ _ _ _
              refine a_if_eq (pc := 166) (dk dt_X12_date 89 rfl) (tgt := 180) rfl ⟨fun _ => ?_, fun c => absurd c (by decide)⟩
              refine a_aload_n (pc := 180) (dk dt_X12_date 95 rfl) rfl ?_
              refine a_iload (pc := 181) (dk dt_X12_date 96 rfl) rfl ?_
              refine a_callVi (as := [iv (w32 ((w32 (r91 + r79)) - 1))]) (st := []) (pc := 183) (dk dt_X12_date 97 rfl) cl_RX12_377 ⟨Nat.le_of_ble_eq_true rfl, Nat.le_of_ble_eq_true rfl⟩ ⟨Nat.le_of_ble_eq_true rfl, Nat.le_of_ble_eq_true rfl⟩ cls_12 rfl cc_85 rfl rfl rfl (Nat.le_of_ble_eq_true rfl) (Call.mono H fun r117 h118 H => ?_)
              refine a_sipush (pc := 186) (dk dt_X12_date 98 rfl) (ik rfl) (spk rfl) ?_
              refine a_iload (pc := 189) (dk dt_X12_date 99 rfl) rfl ?_
              refine a_imul (pc := 191) (dk dt_X12_date 100 rfl) ?_
              refine a_iadd (pc := 192) (dk dt_X12_date 101 rfl) ?_
              refine a_bipush (pc := 193) (dk dt_X12_date 102 rfl) (ik rfl) (bpk rfl) ?_
              refine a_iload (pc := 195) (dk dt_X12_date 103 rfl) rfl ?_
              refine a_imul (pc := 197) (dk dt_X12_date 104 rfl) ?_
              refine a_iadd (pc := 198) (dk dt_X12_date 105 rfl) ?_
              refine a_iload (pc := 199) (dk dt_X12_date 106 rfl) rfl ?_
              refine a_iadd (pc := 201) (dk dt_X12_date 107 rfl) ?_
              exact a_iret (pc := 202) (dk dt_X12_date 108 rfl) rfl rfl H
            · replace H := H.2 c
              refine a_iconst (pc := 7) (dk dt_X12_bad 3 rfl) (ik rfl) ?_
              refine a_goto (pc := 8) (dk dt_X12_bad 4 rfl) (tgt := 12) rfl ?_
              refine a_zret (pc := 12) (dk dt_X12_bad 6 rfl) rfl rfl ⟨by decide, ?_⟩
              show ATW _ _ _ _ _ _ _ _ _ _
              refine a_if_eq (pc := 166) (dk dt_X12_date 89 rfl) (tgt := 180) rfl ⟨fun c => absurd c (by decide), fun _ => ?_⟩
              refine a_sipush (pc := 169) (dk dt_X12_date 90 rfl) (ik rfl) (spk rfl) ?_
              refine a_aload_n (pc := 172) (dk dt_X12_date 91 rfl) rfl ?_
              refine a_geti (pc := 173) (dk dt_X12_date 92 rfl) cls_12 fl_RX12_312 cf_85_6 ?_
              refine a_isub (pc := 176) (dk dt_X12_date 93 rfl) ?_
              refine a_goto (pc := 177) (dk dt_X12_date 94 rfl) (tgt := 202) rfl ?_
              exact a_iret (pc := 202) (dk dt_X12_date 108 rfl) rfl rfl H
    · replace H := H.2 c
      refine a_iconst (pc := 7) (dk dt_X12_bad 3 rfl) (ik rfl) ?_
      refine a_goto (pc := 8) (dk dt_X12_bad 4 rfl) (tgt := 12) rfl ?_
      refine a_zret (pc := 12) (dk dt_X12_bad 6 rfl) rfl rfl ⟨by decide, ?_⟩
      show ATW _ _ _ _ _ _ _ _ _ _
      refine a_if_eq (pc := 102) (dk dt_X12_date 56 rfl) (tgt := 109) rfl ⟨fun c => absurd c (by decide), fun _ => ?_⟩
      refine a_iconst (pc := 105) (dk dt_X12_date 57 rfl) (ik rfl) ?_
      refine a_goto (pc := 106) (dk dt_X12_date 58 rfl) (tgt := 118) rfl ?_
      refine a_istore (pc := 118) (dk dt_X12_date 66 rfl) (by decide) rfl rfl ?_
      refine a_aload_n (pc := 120) (dk dt_X12_date 67 rfl) rfl ?_
      refine a_iconst (pc := 121) (dk dt_X12_date 68 rfl) (ik rfl) ?_
      refine a_iconst (pc := 122) (dk dt_X12_date 69 rfl) (ik rfl) ?_
      refine a_iload (pc := 123) (dk dt_X12_date 70 rfl) rfl ?_
      refine a_bipush (pc := 125) (dk dt_X12_date 71 rfl) (ik rfl) (bpk rfl) ?_
      refine a_icmp_ne (pc := 127) (dk dt_X12_date 72 rfl) (tgt := 151) rfl ⟨fun c => ?_, fun c => ?_⟩
      · replace H := H.1 c
        refine a_bipush (pc := 151) (dk dt_X12_date 82 rfl) (ik rfl) (bpk rfl) ?_
        refine a_callVi (as := [iv 2, iv 0, iv 59]) (st := []) (pc := 153) (dk dt_X12_date 83 rfl) cl_RX12_367 ⟨Nat.le_of_ble_eq_true rfl, Nat.le_of_ble_eq_true rfl⟩ ⟨Nat.le_of_ble_eq_true rfl, Nat.le_of_ble_eq_true rfl⟩ cls_12 rfl cc_85 rfl rfl rfl (Nat.le_of_ble_eq_true rfl) (Call.mono H fun r119 h120 H => ?_)
        refine a_istore (pc := 156) (dk dt_X12_date 84 rfl) (by decide) rfl rfl ?_
        refine a_aload_n (pc := 158) (dk dt_X12_date 85 rfl) rfl ?_
        refine a_callVv (as := []) (st := []) (pc := 159) (dk dt_X12_date 86 rfl) cl_RX12_374 ⟨Nat.le_of_ble_eq_true rfl, Nat.le_of_ble_eq_true rfl⟩ ⟨Nat.le_of_ble_eq_true rfl, Nat.le_of_ble_eq_true rfl⟩ cls_12 rfl cc_85 rfl rfl rfl (Nat.le_of_ble_eq_true rfl) (Call.mono H fun _ h122 H => ?_)
        refine a_aload_n (pc := 162) (dk dt_X12_date 87 rfl) rfl ?_
        refine a_callVi (as := []) (st := []) (pc := 163) (dk dt_X12_date 88 rfl) cl_RX12_315 ⟨Nat.le_of_ble_eq_true rfl, Nat.le_of_ble_eq_true rfl⟩ ⟨Nat.le_of_ble_eq_true rfl, Nat.le_of_ble_eq_true rfl⟩ cls_12 rfl cc_85 rfl rfl rfl (Nat.le_of_ble_eq_true rfl) (Call.of rfl (Nat.le_of_ble_eq_true rfl) rfl ?_)
        refine a_aload_n (pc := 0) (dk dt_X12_bad 0 rfl) rfl ?_
        refine a_geti (pc := 1) (dk dt_X12_bad 1 rfl) cls_12 fl_RX12_312 cf_85_6 ?_
        refine a_if_lt (pc := 4) (dk dt_X12_bad 2 rfl) (tgt := 11) rfl ⟨fun c => ?_, fun c => ?_⟩
        · replace H := H.1 c
          refine a_iconst (pc := 11) (dk dt_X12_bad 5 rfl) (ik rfl) ?_
          refine a_zret (pc := 12) (dk dt_X12_bad 6 rfl) rfl rfl ⟨by decide, ?_⟩
          show ATW _ _ _ _ _ _ _ _ _ _
          refine a_if_eq (pc := 166) (dk dt_X12_date 89 rfl) (tgt := 180) rfl ⟨fun _ => ?_, fun c => absurd c (by decide)⟩
          refine a_aload_n (pc := 180) (dk dt_X12_date 95 rfl) rfl ?_
          refine a_iload (pc := 181) (dk dt_X12_date 96 rfl) rfl ?_
          refine a_callVi (as := [iv 0]) (st := []) (pc := 183) (dk dt_X12_date 97 rfl) cl_RX12_377 ⟨Nat.le_of_ble_eq_true rfl, Nat.le_of_ble_eq_true rfl⟩ ⟨Nat.le_of_ble_eq_true rfl, Nat.le_of_ble_eq_true rfl⟩ cls_12 rfl cc_85 rfl rfl rfl (Nat.le_of_ble_eq_true rfl) (Call.mono H fun r123 h124 H => ?_)
          refine a_sipush (pc := 186) (dk dt_X12_date 98 rfl) (ik rfl) (spk rfl) ?_
          refine a_iload (pc := 189) (dk dt_X12_date 99 rfl) rfl ?_
          refine a_imul (pc := 191) (dk dt_X12_date 100 rfl) ?_
          refine a_iadd (pc := 192) (dk dt_X12_date 101 rfl) ?_
          refine a_bipush (pc := 193) (dk dt_X12_date 102 rfl) (ik rfl) (bpk rfl) ?_
          refine a_iload (pc := 195) (dk dt_X12_date 103 rfl) rfl ?_
          refine a_imul (pc := 197) (dk dt_X12_date 104 rfl) ?_
          refine a_iadd (pc := 198) (dk dt_X12_date 105 rfl) ?_
          refine a_iload (pc := 199) (dk dt_X12_date 106 rfl) rfl ?_
          refine a_iadd (pc := 201) (dk dt_X12_date 107 rfl) ?_
          exact a_iret (pc := 202) (dk dt_X12_date 108 rfl) rfl rfl H
        · replace H := H.2 c
          refine a_iconst (pc := 7) (dk dt_X12_bad 3 rfl) (ik rfl) ?_
          refine a_goto (pc := 8) (dk dt_X12_bad 4 rfl) (tgt := 12) rfl ?_
          refine a_zret (pc := 12) (dk dt_X12_bad 6 rfl) rfl rfl ⟨by decide, ?_⟩
          show ATW _ _ _ _ _ _ _ _ _ _
          refine a_if_eq (pc := 166) (dk dt_X12_date 89 rfl) (tgt := 180) rfl ⟨fun c => absurd c (by decide), fun _ => ?_⟩
          refine a_sipush (pc := 169) (dk dt_X12_date 90 rfl) (ik rfl) (spk rfl) ?_
          refine a_aload_n (pc := 172) (dk dt_X12_date 91 rfl) rfl ?_
          refine a_geti (pc := 173) (dk dt_X12_date 92 rfl) cls_12 fl_RX12_312 cf_85_6 ?_
          refine a_isub (pc := 176) (dk dt_X12_date 93 rfl) ?_
          refine a_goto (pc := 177) (dk dt_X12_date 94 rfl) (tgt := 202) rfl ?_
          exact a_iret (pc := 202) (dk dt_X12_date 108 rfl) rfl rfl H
      · replace H := H.2 c
        refine a_iload (pc := 130) (dk dt_X12_date 73 rfl) rfl ?_
        refine a_bipush (pc := 132) (dk dt_X12_date 74 rfl) (ik rfl) (bpk rfl) ?_
        refine a_icmp_ne (pc := 134) (dk dt_X12_date 75 rfl) (tgt := 151) rfl ⟨fun c => ?_, fun c => ?_⟩
        · replace H := H.1 c
          refine a_bipush (pc := 151) (dk dt_X12_date 82 rfl) (ik rfl) (bpk rfl) ?_
          refine a_callVi (as := [iv 2, iv 0, iv 59]) (st := []) (pc := 153) (dk dt_X12_date 83 rfl) cl_RX12_367 ⟨Nat.le_of_ble_eq_true rfl, Nat.le_of_ble_eq_true rfl⟩ ⟨Nat.le_of_ble_eq_true rfl, Nat.le_of_ble_eq_true rfl⟩ cls_12 rfl cc_85 rfl rfl rfl (Nat.le_of_ble_eq_true rfl) (Call.mono H fun r125 h126 H => ?_)
          refine a_istore (pc := 156) (dk dt_X12_date 84 rfl) (by decide) rfl rfl ?_
          refine a_aload_n (pc := 158) (dk dt_X12_date 85 rfl) rfl ?_
          refine a_callVv (as := []) (st := []) (pc := 159) (dk dt_X12_date 86 rfl) cl_RX12_374 ⟨Nat.le_of_ble_eq_true rfl, Nat.le_of_ble_eq_true rfl⟩ ⟨Nat.le_of_ble_eq_true rfl, Nat.le_of_ble_eq_true rfl⟩ cls_12 rfl cc_85 rfl rfl rfl (Nat.le_of_ble_eq_true rfl) (Call.mono H fun _ h128 H => ?_)
          refine a_aload_n (pc := 162) (dk dt_X12_date 87 rfl) rfl ?_
          refine a_callVi (as := []) (st := []) (pc := 163) (dk dt_X12_date 88 rfl) cl_RX12_315 ⟨Nat.le_of_ble_eq_true rfl, Nat.le_of_ble_eq_true rfl⟩ ⟨Nat.le_of_ble_eq_true rfl, Nat.le_of_ble_eq_true rfl⟩ cls_12 rfl cc_85 rfl rfl rfl (Nat.le_of_ble_eq_true rfl) (Call.of rfl (Nat.le_of_ble_eq_true rfl) rfl ?_)
          refine a_aload_n (pc := 0) (dk dt_X12_bad 0 rfl) rfl ?_
          refine a_geti (pc := 1) (dk dt_X12_bad 1 rfl) cls_12 fl_RX12_312 cf_85_6 ?_
          refine a_if_lt (pc := 4) (dk dt_X12_bad 2 rfl) (tgt := 11) rfl ⟨fun c => ?_, fun c => ?_⟩
          · replace H := H.1 c
            refine a_iconst (pc := 11) (dk dt_X12_bad 5 rfl) (ik rfl) ?_
            refine a_zret (pc := 12) (dk dt_X12_bad 6 rfl) rfl rfl ⟨by decide, ?_⟩
            show ATW _ _ _ _ _ _ _ _ _ _
            refine a_if_eq (pc := 166) (dk dt_X12_date 89 rfl) (tgt := 180) rfl ⟨fun _ => ?_, fun c => absurd c (by decide)⟩
            refine a_aload_n (pc := 180) (dk dt_X12_date 95 rfl) rfl ?_
            refine a_iload (pc := 181) (dk dt_X12_date 96 rfl) rfl ?_
            refine a_callVi (as := [iv 0]) (st := []) (pc := 183) (dk dt_X12_date 97 rfl) cl_RX12_377 ⟨Nat.le_of_ble_eq_true rfl, Nat.le_of_ble_eq_true rfl⟩ ⟨Nat.le_of_ble_eq_true rfl, Nat.le_of_ble_eq_true rfl⟩ cls_12 rfl cc_85 rfl rfl rfl (Nat.le_of_ble_eq_true rfl) (Call.mono H fun r129 h130 H => ?_)
            refine a_sipush (pc := 186) (dk dt_X12_date 98 rfl) (ik rfl) (spk rfl) ?_
            refine a_iload (pc := 189) (dk dt_X12_date 99 rfl) rfl ?_
            refine a_imul (pc := 191) (dk dt_X12_date 100 rfl) ?_
            refine a_iadd (pc := 192) (dk dt_X12_date 101 rfl) ?_
            refine a_bipush (pc := 193) (dk dt_X12_date 102 rfl) (ik rfl) (bpk rfl) ?_
            refine a_iload (pc := 195) (dk dt_X12_date 103 rfl) rfl ?_
            refine a_imul (pc := 197) (dk dt_X12_date 104 rfl) ?_
            refine a_iadd (pc := 198) (dk dt_X12_date 105 rfl) ?_
            refine a_iload (pc := 199) (dk dt_X12_date 106 rfl) rfl ?_
            refine a_iadd (pc := 201) (dk dt_X12_date 107 rfl) ?_
            exact a_iret (pc := 202) (dk dt_X12_date 108 rfl) rfl rfl H
          · replace H := H.2 c
            refine a_iconst (pc := 7) (dk dt_X12_bad 3 rfl) (ik rfl) ?_
            refine a_goto (pc := 8) (dk dt_X12_bad 4 rfl) (tgt := 12) rfl ?_
            refine a_zret (pc := 12) (dk dt_X12_bad 6 rfl) rfl rfl ⟨by decide, ?_⟩
            show ATW _ _ _ _ _ _ _ _ _ _
            refine a_if_eq (pc := 166) (dk dt_X12_date 89 rfl) (tgt := 180) rfl ⟨fun c => absurd c (by decide), fun _ => ?_⟩
            refine a_sipush (pc := 169) (dk dt_X12_date 90 rfl) (ik rfl) (spk rfl) ?_
            refine a_aload_n (pc := 172) (dk dt_X12_date 91 rfl) rfl ?_
            refine a_geti (pc := 173) (dk dt_X12_date 92 rfl) cls_12 fl_RX12_312 cf_85_6 ?_
            refine a_isub (pc := 176) (dk dt_X12_date 93 rfl) ?_
            refine a_goto (pc := 177) (dk dt_X12_date 94 rfl) (tgt := 202) rfl ?_
            exact a_iret (pc := 202) (dk dt_X12_date 108 rfl) rfl rfl H
        · replace H := H.2 c
          refine a_aload_n (pc := 137) (dk dt_X12_date 76 rfl) rfl ?_
          refine a_iload (pc := 138) (dk dt_X12_date 77 rfl) rfl ?_
          refine a_callVi (as := [iv 0]) (st := [iv 0, iv 2, rv 85]) (pc := 140) (dk dt_X12_date 78 rfl) cl_RX12_371 ⟨Nat.le_of_ble_eq_true rfl, Nat.le_of_ble_eq_true rfl⟩ ⟨Nat.le_of_ble_eq_true rfl, Nat.le_of_ble_eq_true rfl⟩ cls_12 rfl cc_85 rfl rfl rfl (Nat.le_of_ble_eq_true rfl) (Call.mono H fun r131 h132 H => ?_)
          refine a_if_eq (pc := 143) (dk dt_X12_date 79 rfl) (tgt := 151) rfl ⟨fun c => ?_, fun c => ?_⟩
          · replace H := H.1 c
            refine a_bipush (pc := 151) (dk dt_X12_date 82 rfl) (ik rfl) (bpk rfl) ?_
            refine a_callVi (as := [iv 2, iv 0, iv 59]) (st := []) (pc := 153) (dk dt_X12_date 83 rfl) cl_RX12_367 ⟨Nat.le_of_ble_eq_true rfl, Nat.le_of_ble_eq_true rfl⟩ ⟨Nat.le_of_ble_eq_true rfl, Nat.le_of_ble_eq_true rfl⟩ cls_12 rfl cc_85 rfl rfl rfl (Nat.le_of_ble_eq_true rfl) (Call.mono H fun r133 h134 H => ?_)
            refine a_istore (pc := 156) (dk dt_X12_date 84 rfl) (by decide) rfl rfl ?_
            refine a_aload_n (pc := 158) (dk dt_X12_date 85 rfl) rfl ?_
            refine a_callVv (as := []) (st := []) (pc := 159) (dk dt_X12_date 86 rfl) cl_RX12_374 ⟨Nat.le_of_ble_eq_true rfl, Nat.le_of_ble_eq_true rfl⟩ ⟨Nat.le_of_ble_eq_true rfl, Nat.le_of_ble_eq_true rfl⟩ cls_12 rfl cc_85 rfl rfl rfl (Nat.le_of_ble_eq_true rfl) (Call.mono H fun _ h136 H => ?_)
            refine a_aload_n (pc := 162) (dk dt_X12_date 87 rfl) rfl ?_
            refine a_callVi (as := []) (st := []) (pc := 163) (dk dt_X12_date 88 rfl) cl_RX12_315 ⟨Nat.le_of_ble_eq_true rfl, Nat.le_of_ble_eq_true rfl⟩ ⟨Nat.le_of_ble_eq_true rfl, Nat.le_of_ble_eq_true rfl⟩ cls_12 rfl cc_85 rfl rfl rfl (Nat.le_of_ble_eq_true rfl) (Call.of rfl (Nat.le_of_ble_eq_true rfl) rfl ?_)
            refine a_aload_n (pc := 0) (dk dt_X12_bad 0 rfl) rfl ?_
            refine a_geti (pc := 1) (dk dt_X12_bad 1 rfl) cls_12 fl_RX12_312 cf_85_6 ?_
            refine a_if_lt (pc := 4) (dk dt_X12_bad 2 rfl) (tgt := 11) rfl ⟨fun c => ?_, fun c => ?_⟩
            · replace H := H.1 c
              refine a_iconst (pc := 11) (dk dt_X12_bad 5 rfl) (ik rfl) ?_
              refine a_zret (pc := 12) (dk dt_X12_bad 6 rfl) rfl rfl ⟨by decide, ?_⟩
              show ATW _ _ _ _ _ _ _ _ _ _
              refine a_if_eq (pc := 166) (dk dt_X12_date 89 rfl) (tgt := 180) rfl ⟨fun _ => ?_, fun c => absurd c (by decide)⟩
              refine a_aload_n (pc := 180) (dk dt_X12_date 95 rfl) rfl ?_
              refine a_iload (pc := 181) (dk dt_X12_date 96 rfl) rfl ?_
              refine a_callVi (as := [iv 0]) (st := []) (pc := 183) (dk dt_X12_date 97 rfl) cl_RX12_377 ⟨Nat.le_of_ble_eq_true rfl, Nat.le_of_ble_eq_true rfl⟩ ⟨Nat.le_of_ble_eq_true rfl, Nat.le_of_ble_eq_true rfl⟩ cls_12 rfl cc_85 rfl rfl rfl (Nat.le_of_ble_eq_true rfl) (Call.mono H fun r137 h138 H => ?_)
              refine a_sipush (pc := 186) (dk dt_X12_date 98 rfl) (ik rfl) (spk rfl) ?_
              refine a_iload (pc := 189) (dk dt_X12_date 99 rfl) rfl ?_
              refine a_imul (pc := 191) (dk dt_X12_date 100 rfl) ?_
              refine a_iadd (pc := 192) (dk dt_X12_date 101 rfl) ?_
              refine a_bipush (pc := 193) (dk dt_X12_date 102 rfl) (ik rfl) (bpk rfl) ?_
              refine a_iload (pc := 195) (dk dt_X12_date 103 rfl) rfl ?_
              refine a_imul (pc := 197) (dk dt_X12_date 104 rfl) ?_
              refine a_iadd (pc := 198) (dk dt_X12_date 105 rfl) ?_
              refine a_iload (pc := 199) (dk dt_X12_date 106 rfl) rfl ?_
              refine a_iadd (pc := 201) (dk dt_X12_date 107 rfl) ?_
              exact a_iret (pc := 202) (dk dt_X12_date 108 rfl) rfl rfl H
            · replace H := H.2 c
              refine a_iconst (pc := 7) (dk dt_X12_bad 3 rfl) (ik rfl) ?_
              refine a_goto (pc := 8) (dk dt_X12_bad 4 rfl) (tgt := 12) rfl ?_
              refine a_zret (pc := 12) (dk dt_X12_bad 6 rfl) rfl rfl ⟨by decide, ?_⟩
              show ATW _ _ _ _ _ _ _ _ _ _
              refine a_if_eq (pc := 166) (dk dt_X12_date 89 rfl) (tgt := 180) rfl ⟨fun c => absurd c (by decide), fun _ => ?_⟩
              refine a_sipush (pc := 169) (dk dt_X12_date 90 rfl) (ik rfl) (spk rfl) ?_
              refine a_aload_n (pc := 172) (dk dt_X12_date 91 rfl) rfl ?_
              refine a_geti (pc := 173) (dk dt_X12_date 92 rfl) cls_12 fl_RX12_312 cf_85_6 ?_
              refine a_isub (pc := 176) (dk dt_X12_date 93 rfl) ?_
              refine a_goto (pc := 177) (dk dt_X12_date 94 rfl) (tgt := 202) rfl ?_
              exact a_iret (pc := 202) (dk dt_X12_date 108 rfl) rfl rfl H
          · replace H := H.2 c
            refine a_bipush (pc := 146) (dk dt_X12_date 80 rfl) (ik rfl) (bpk rfl) ?_
            refine a_goto (pc := 148) (dk dt_X12_date 81 rfl) (tgt := 153) rfl ?_
            refine a_callVi (as := [iv 2, iv 0, iv 60]) (st := []) (pc := 153) (dk dt_X12_date 83 rfl) cl_RX12_367 ⟨Nat.le_of_ble_eq_true rfl, Nat.le_of_ble_eq_true rfl⟩ ⟨Nat.le_of_ble_eq_true rfl, Nat.le_of_ble_eq_true rfl⟩ cls_12 rfl cc_85 rfl rfl rfl (Nat.le_of_ble_eq_true rfl) (Call.mono H fun r139 h140 H => ?_)
            refine a_istore (pc := 156) (dk dt_X12_date 84 rfl) (by decide) rfl rfl ?_
            refine a_aload_n (pc := 158) (dk dt_X12_date 85 rfl) rfl ?_
            refine a_callVv (as := []) (st := []) (pc := 159) (dk dt_X12_date 86 rfl) cl_RX12_374 ⟨Nat.le_of_ble_eq_true rfl, Nat.le_of_ble_eq_true rfl⟩ ⟨Nat.le_of_ble_eq_true rfl, Nat.le_of_ble_eq_true rfl⟩ cls_12 rfl cc_85 rfl rfl rfl (Nat.le_of_ble_eq_true rfl) (Call.mono H fun _ h142 H => ?_)
            refine a_aload_n (pc := 162) (dk dt_X12_date 87 rfl) rfl ?_
            refine a_callVi (as := []) (st := []) (pc := 163) (dk dt_X12_date 88 rfl) cl_RX12_315 ⟨Nat.le_of_ble_eq_true rfl, Nat.le_of_ble_eq_true rfl⟩ ⟨Nat.le_of_ble_eq_true rfl, Nat.le_of_ble_eq_true rfl⟩ cls_12 rfl cc_85 rfl rfl rfl (Nat.le_of_ble_eq_true rfl) (Call.of rfl (Nat.le_of_ble_eq_true rfl) rfl ?_)
            refine a_aload_n (pc := 0) (dk dt_X12_bad 0 rfl) rfl ?_
            refine a_geti (pc := 1) (dk dt_X12_bad 1 rfl) cls_12 fl_RX12_312 cf_85_6 ?_
            refine a_if_lt (pc := 4) (dk dt_X12_bad 2 rfl) (tgt := 11) rfl ⟨fun c => ?_, fun c => ?_⟩
            · replace H := H.1 c
              refine a_iconst (pc := 11) (dk dt_X12_bad 5 rfl) (ik rfl) ?_
              refine a_zret (pc := 12) (dk dt_X12_bad 6 rfl) rfl rfl ⟨by decide, ?_⟩
              show ATW _ _ _ _ _ _ _ _ _ _
              refine a_if_eq (pc := 166) (dk dt_X12_date 89 rfl) (tgt := 180) rfl ⟨fun _ => ?_, fun c => absurd c (by decide)⟩
              refine a_aload_n (pc := 180) (dk dt_X12_date 95 rfl) rfl ?_
              refine a_iload (pc := 181) (dk dt_X12_date 96 rfl) rfl ?_
              refine a_callVi (as := [iv 0]) (st := []) (pc := 183) (dk dt_X12_date 97 rfl) cl_RX12_377 ⟨Nat.le_of_ble_eq_true rfl, Nat.le_of_ble_eq_true rfl⟩ ⟨Nat.le_of_ble_eq_true rfl, Nat.le_of_ble_eq_true rfl⟩ cls_12 rfl cc_85 rfl rfl rfl (Nat.le_of_ble_eq_true rfl) (Call.mono H fun r143 h144 H => ?_)
              refine a_sipush (pc := 186) (dk dt_X12_date 98 rfl) (ik rfl) (spk rfl) ?_
              refine a_iload (pc := 189) (dk dt_X12_date 99 rfl) rfl ?_
              refine a_imul (pc := 191) (dk dt_X12_date 100 rfl) ?_
              refine a_iadd (pc := 192) (dk dt_X12_date 101 rfl) ?_
              refine a_bipush (pc := 193) (dk dt_X12_date 102 rfl) (ik rfl) (bpk rfl) ?_
              refine a_iload (pc := 195) (dk dt_X12_date 103 rfl) rfl ?_
              refine a_imul (pc := 197) (dk dt_X12_date 104 rfl) ?_
              refine a_iadd (pc := 198) (dk dt_X12_date 105 rfl) ?_
              refine a_iload (pc := 199) (dk dt_X12_date 106 rfl) rfl ?_
              refine a_iadd (pc := 201) (dk dt_X12_date 107 rfl) ?_
              exact a_iret (pc := 202) (dk dt_X12_date 108 rfl) rfl rfl H
            · replace H := H.2 c
              refine a_iconst (pc := 7) (dk dt_X12_bad 3 rfl) (ik rfl) ?_
              refine a_goto (pc := 8) (dk dt_X12_bad 4 rfl) (tgt := 12) rfl ?_
              refine a_zret (pc := 12) (dk dt_X12_bad 6 rfl) rfl rfl ⟨by decide, ?_⟩
              show ATW _ _ _ _ _ _ _ _ _ _
              refine a_if_eq (pc := 166) (dk dt_X12_date 89 rfl) (tgt := 180) rfl ⟨fun c => absurd c (by decide), fun _ => ?_⟩
              refine a_sipush (pc := 169) (dk dt_X12_date 90 rfl) (ik rfl) (spk rfl) ?_
              refine a_aload_n (pc := 172) (dk dt_X12_date 91 rfl) rfl ?_
              refine a_geti (pc := 173) (dk dt_X12_date 92 rfl) cls_12 fl_RX12_312 cf_85_6 ?_
              refine a_isub (pc := 176) (dk dt_X12_date 93 rfl) ?_
              refine a_goto (pc := 177) (dk dt_X12_date 94 rfl) (tgt := 202) rfl ?_
              exact a_iret (pc := 202) (dk dt_X12_date 108 rfl) rfl rfl H
set_option maxHeartbeats 40000000 in
theorem U_X12_written_85_0 {G : GG} {Φ : Int → Hp → Prop} {h : Hp} {x1 : Int} (H : Call G m_X12_dayOf [iv 2060, iv 1] h (fun r1 h2 => ((x1 < 0 → Φ (-1) h2) ∧ (0 ≤ x1 → Call G m_X12_firstSecond [rv 85, iv r1] h2 (fun r3 h4 => ((x1 < r3 → AT G m_X12_written 29 [(0, rv 85), (1, iv x1), (3, iv (w32 (x1.tdiv 86400)))] [] h4 Φ) ∧ (r3 ≤ x1 → Φ (-1) h4))))))) : AT G m_X12_written 0 [(0, rv 85), (1, iv x1)] [] h Φ := by
  refine a_sipush (pc := 0) (dk dt_X12_written 0 rfl) (ik rfl) (spk rfl) ?_
  refine a_iconst (pc := 3) (dk dt_X12_written 1 rfl) (ik rfl) ?_
  refine a_callSi (as := [iv 2060, iv 1]) (st := []) (pc := 4) (dk dt_X12_written 2 rfl) cl_RX12_357 ⟨Nat.le_of_ble_eq_true rfl, Nat.le_of_ble_eq_true rfl⟩ ⟨Nat.le_of_ble_eq_true rfl, Nat.le_of_ble_eq_true rfl⟩ rfl rfl rfl (Nat.le_of_ble_eq_true rfl) (Call.mono H fun r1 h2 H => ?_)
  refine a_istore_n (pc := 7) (dk dt_X12_written 3 rfl) (by decide) rfl rfl ?_
  refine a_iload_n (pc := 8) (dk dt_X12_written 4 rfl) rfl ?_
  refine a_if_lt (pc := 9) (dk dt_X12_written 5 rfl) (tgt := 21) rfl ⟨fun c => ?_, fun c => ?_⟩
  · replace H := H.1 c
    refine a_iconst (pc := 21) (dk dt_X12_written 11 rfl) (ik rfl) ?_
    exact a_iret (pc := 22) (dk dt_X12_written 12 rfl) rfl rfl H
  · replace H := H.2 c
    refine a_iload_n (pc := 12) (dk dt_X12_written 6 rfl) rfl ?_
    refine a_aload_n (pc := 13) (dk dt_X12_written 7 rfl) rfl ?_
    refine a_iload_n (pc := 14) (dk dt_X12_written 8 rfl) rfl ?_
    refine a_callVi (as := [iv r1]) (st := [iv x1]) (pc := 15) (dk dt_X12_written 9 rfl) cl_RX12_377 ⟨Nat.le_of_ble_eq_true rfl, Nat.le_of_ble_eq_true rfl⟩ ⟨Nat.le_of_ble_eq_true rfl, Nat.le_of_ble_eq_true rfl⟩ cls_12 rfl cc_85 rfl rfl rfl (Nat.le_of_ble_eq_true rfl) (Call.mono H fun r3 h4 H => ?_)
    refine a_icmp_lt (pc := 18) (dk dt_X12_written 10 rfl) (tgt := 23) rfl ⟨fun c => ?_, fun c => ?_⟩
    · replace H := H.1 c
      refine a_iload_n (pc := 23) (dk dt_X12_written 13 rfl) rfl ?_
      refine a_ldcw (n := 86400) (pc := 24) (dk dt_X12_written 14 rfl) (ik rfl) co_RX12_363 ?_
      refine a_idiv (pc := 27) (dk dt_X12_written 15 rfl) ⟨by decide, ?_⟩
      refine a_istore_n (pc := 28) (dk dt_X12_written 16 rfl) (by decide) rfl rfl ?_
      exact a_pick [0, 1, 3] rfl H
    · replace H := H.2 c
      refine a_iconst (pc := 21) (dk dt_X12_written 11 rfl) (ik rfl) ?_
      exact a_iret (pc := 22) (dk dt_X12_written 12 rfl) rfl rfl H
set_option maxHeartbeats 40000000 in
theorem U_X12_written_85_29 {G : GG} {Φ : Int → Hp → Prop} {h : Hp} {x1 : Int} {x3 : Int} (H : Call G m_X12_firstSecond [rv 85, iv x3] h (fun r1 h2 => ((r1 ≤ x1 → Call G m_X12_firstSecond [rv 85, iv x3] h2 (fun r3 h4 => AT G m_X12_written 61 [(0, rv 85), (4, iv (w32 (x1 - r3))), (5, iv x3), (6, iv 2000)] [] h4 Φ)) ∧ (x1 < r1 → AT G m_X12_written 29 [(0, rv 85), (1, iv x1), (3, iv (w32 (x3 + (-1))))] [] h2 Φ)))) : AT G m_X12_written 29 [(0, rv 85), (1, iv x1), (3, iv x3)] [] h Φ := by
  refine a_aload_n (pc := 29) (dk dt_X12_written 17 rfl) rfl ?_
  refine a_iload_n (pc := 30) (dk dt_X12_written 18 rfl) rfl ?_
  refine a_callVi (as := [iv x3]) (st := []) (pc := 31) (dk dt_X12_written 19 rfl) cl_RX12_377 ⟨Nat.le_of_ble_eq_true rfl, Nat.le_of_ble_eq_true rfl⟩ ⟨Nat.le_of_ble_eq_true rfl, Nat.le_of_ble_eq_true rfl⟩ cls_12 rfl cc_85 rfl rfl rfl (Nat.le_of_ble_eq_true rfl) (Call.mono H fun r1 h2 H => ?_)
  refine a_iload_n (pc := 34) (dk dt_X12_written 20 rfl) rfl ?_
  refine a_icmp_le (pc := 35) (dk dt_X12_written 21 rfl) (tgt := 44) rfl ⟨fun c => ?_, fun c => ?_⟩
  · replace H := H.1 c
    refine a_iload_n (pc := 44) (dk dt_X12_written 24 rfl) rfl ?_
    refine a_aload_n (pc := 45) (dk dt_X12_written 25 rfl) rfl ?_
    refine a_iload_n (pc := 46) (dk dt_X12_written 26 rfl) rfl ?_
    refine a_callVi (as := [iv x3]) (st := [iv x1]) (pc := 47) (dk dt_X12_written 27 rfl) cl_RX12_377 ⟨Nat.le_of_ble_eq_true rfl, Nat.le_of_ble_eq_true rfl⟩ ⟨Nat.le_of_ble_eq_true rfl, Nat.le_of_ble_eq_true rfl⟩ cls_12 rfl cc_85 rfl rfl rfl (Nat.le_of_ble_eq_true rfl) (Call.mono H fun r3 h4 H => ?_)
    refine a_isub (pc := 50) (dk dt_X12_written 28 rfl) ?_
    refine a_istore (pc := 51) (dk dt_X12_written 29 rfl) (by decide) rfl rfl ?_
    refine a_iload_n (pc := 53) (dk dt_X12_written 30 rfl) rfl ?_
    refine a_istore (pc := 54) (dk dt_X12_written 31 rfl) (by decide) rfl rfl ?_
    refine a_sipush (pc := 56) (dk dt_X12_written 32 rfl) (ik rfl) (spk rfl) ?_
    refine a_istore (pc := 59) (dk dt_X12_written 33 rfl) (by decide) rfl rfl ?_
    exact a_pick [0, 3, 4, 5] rfl H
  · replace H := H.2 c
    refine a_iinc (pc := 38) (dk dt_X12_written 22 rfl) (by decide) rfl rfl rfl ?_
    refine a_goto (pc := 41) (dk dt_X12_written 23 rfl) (tgt := 29) rfl ?_
    exact a_pick [0, 1, 2] rfl H
set_option maxHeartbeats 40000000 in
theorem U_X12_written_85_61 {G : GG} {Φ : Int → Hp → Prop} {h : Hp} {x4 : Int} {x5 : Int} {x6 : Int} (H : Call G m_X12_isLong [iv x6] h (fun r1 h2 => ((r1 = 0 → ((x5 < 365 → AT G m_X12_written 114 [(0, rv 85), (4, iv x4), (5, iv x5), (6, iv x6), (7, iv 1)] [] h2 Φ) ∧ (365 ≤ x5 → Call G m_X12_isLong [iv x6] h2 (fun r3 h4 => ((r3 = 0 → AT G m_X12_written 61 [(0, rv 85), (4, iv x4), (5, iv (w32 (x5 - 365))), (6, iv (w32 (x6 + 1)))] [] h4 Φ) ∧ (r3 ≠ 0 → AT G m_X12_written 61 [(0, rv 85), (4, iv x4), (5, iv (w32 (x5 - 366))), (6, iv (w32 (x6 + 1)))] [] h4 Φ)))))) ∧ (r1 ≠ 0 → ((x5 < 366 → AT G m_X12_written 114 [(0, rv 85), (4, iv x4), (5, iv x5), (6, iv x6), (7, iv 1)] [] h2 Φ) ∧ (366 ≤ x5 → Call G m_X12_isLong [iv x6] h2 (fun r5 h6 => ((r5 = 0 → AT G m_X12_written 61 [(0, rv 85), (4, iv x4), (5, iv (w32 (x5 - 365))), (6, iv (w32 (x6 + 1)))] [] h6 Φ) ∧ (r5 ≠ 0 → AT G m_X12_written 61 [(0, rv 85), (4, iv x4), (5, iv (w32 (x5 - 366))), (6, iv (w32 (x6 + 1)))] [] h6 Φ))))))))) : AT G m_X12_written 61 [(0, rv 85), (4, iv x4), (5, iv x5), (6, iv x6)] [] h Φ := by
  refine a_iload (pc := 61) (dk dt_X12_written 34 rfl) rfl ?_
  refine a_iload (pc := 63) (dk dt_X12_written 35 rfl) rfl ?_
  refine a_callSi (as := [iv x6]) (st := [iv x5]) (pc := 65) (dk dt_X12_written 36 rfl) cl_RX12_350 ⟨Nat.le_of_ble_eq_true rfl, Nat.le_of_ble_eq_true rfl⟩ ⟨Nat.le_of_ble_eq_true rfl, Nat.le_of_ble_eq_true rfl⟩ rfl rfl rfl (Nat.le_of_ble_eq_true rfl) (Call.mono H fun r1 h2 H => ?_)
  refine a_if_eq (pc := 68) (dk dt_X12_written 37 rfl) (tgt := 77) rfl ⟨fun c => ?_, fun c => ?_⟩
  · replace H := H.1 c
    refine a_sipush (pc := 77) (dk dt_X12_written 40 rfl) (ik rfl) (spk rfl) ?_
    refine a_icmp_lt (pc := 80) (dk dt_X12_written 41 rfl) (tgt := 111) rfl ⟨fun c => ?_, fun c => ?_⟩
    · replace H := H.1 c
      refine a_iconst (pc := 111) (dk dt_X12_written 53 rfl) (ik rfl) ?_
      refine a_istore (pc := 112) (dk dt_X12_written 54 rfl) (by decide) rfl rfl ?_
      exact a_pick [0, 1, 2, 3, 4] rfl H
    · replace H := H.2 c
      refine a_iload (pc := 83) (dk dt_X12_written 42 rfl) rfl ?_
      refine a_iload (pc := 85) (dk dt_X12_written 43 rfl) rfl ?_
      refine a_callSi (as := [iv x6]) (st := [iv x5]) (pc := 87) (dk dt_X12_written 44 rfl) cl_RX12_350 ⟨Nat.le_of_ble_eq_true rfl, Nat.le_of_ble_eq_true rfl⟩ ⟨Nat.le_of_ble_eq_true rfl, Nat.le_of_ble_eq_true rfl⟩ rfl rfl rfl (Nat.le_of_ble_eq_true rfl) (Call.mono H fun r3 h4 H => ?_)
      refine a_if_eq (pc := 90) (dk dt_X12_written 45 rfl) (tgt := 99) rfl ⟨fun c => ?_, fun c => ?_⟩
      · replace H := H.1 c
        refine a_sipush (pc := 99) (dk dt_X12_written 48 rfl) (ik rfl) (spk rfl) ?_
        refine a_isub (pc := 102) (dk dt_X12_written 49 rfl) ?_
        refine a_istore (pc := 103) (dk dt_X12_written 50 rfl) (by decide) rfl rfl ?_
        refine a_iinc (pc := 105) (dk dt_X12_written 51 rfl) (by decide) rfl rfl rfl ?_
        refine a_goto (pc := 108) (dk dt_X12_written 52 rfl) (tgt := 61) rfl ?_
        exact a_pick [0, 1, 2, 3] rfl H
      · replace H := H.2 c
        refine a_sipush (pc := 93) (dk dt_X12_written 46 rfl) (ik rfl) (spk rfl) ?_
        refine a_goto (pc := 96) (dk dt_X12_written 47 rfl) (tgt := 102) rfl ?_
        refine a_isub (pc := 102) (dk dt_X12_written 49 rfl) ?_
        refine a_istore (pc := 103) (dk dt_X12_written 50 rfl) (by decide) rfl rfl ?_
        refine a_iinc (pc := 105) (dk dt_X12_written 51 rfl) (by decide) rfl rfl rfl ?_
        refine a_goto (pc := 108) (dk dt_X12_written 52 rfl) (tgt := 61) rfl ?_
        exact a_pick [0, 1, 2, 3] rfl H
  · replace H := H.2 c
    refine a_sipush (pc := 71) (dk dt_X12_written 38 rfl) (ik rfl) (spk rfl) ?_
    refine a_goto (pc := 74) (dk dt_X12_written 39 rfl) (tgt := 80) rfl ?_
    refine a_icmp_lt (pc := 80) (dk dt_X12_written 41 rfl) (tgt := 111) rfl ⟨fun c => ?_, fun c => ?_⟩
    · replace H := H.1 c
      refine a_iconst (pc := 111) (dk dt_X12_written 53 rfl) (ik rfl) ?_
      refine a_istore (pc := 112) (dk dt_X12_written 54 rfl) (by decide) rfl rfl ?_
      exact a_pick [0, 1, 2, 3, 4] rfl H
    · replace H := H.2 c
      refine a_iload (pc := 83) (dk dt_X12_written 42 rfl) rfl ?_
      refine a_iload (pc := 85) (dk dt_X12_written 43 rfl) rfl ?_
      refine a_callSi (as := [iv x6]) (st := [iv x5]) (pc := 87) (dk dt_X12_written 44 rfl) cl_RX12_350 ⟨Nat.le_of_ble_eq_true rfl, Nat.le_of_ble_eq_true rfl⟩ ⟨Nat.le_of_ble_eq_true rfl, Nat.le_of_ble_eq_true rfl⟩ rfl rfl rfl (Nat.le_of_ble_eq_true rfl) (Call.mono H fun r5 h6 H => ?_)
      refine a_if_eq (pc := 90) (dk dt_X12_written 45 rfl) (tgt := 99) rfl ⟨fun c => ?_, fun c => ?_⟩
      · replace H := H.1 c
        refine a_sipush (pc := 99) (dk dt_X12_written 48 rfl) (ik rfl) (spk rfl) ?_
        refine a_isub (pc := 102) (dk dt_X12_written 49 rfl) ?_
        refine a_istore (pc := 103) (dk dt_X12_written 50 rfl) (by decide) rfl rfl ?_
        refine a_iinc (pc := 105) (dk dt_X12_written 51 rfl) (by decide) rfl rfl rfl ?_
        refine a_goto (pc := 108) (dk dt_X12_written 52 rfl) (tgt := 61) rfl ?_
        exact a_pick [0, 1, 2, 3] rfl H
      · replace H := H.2 c
        refine a_sipush (pc := 93) (dk dt_X12_written 46 rfl) (ik rfl) (spk rfl) ?_
        refine a_goto (pc := 96) (dk dt_X12_written 47 rfl) (tgt := 102) rfl ?_
        refine a_isub (pc := 102) (dk dt_X12_written 49 rfl) ?_
        refine a_istore (pc := 103) (dk dt_X12_written 50 rfl) (by decide) rfl rfl ?_
        refine a_iinc (pc := 105) (dk dt_X12_written 51 rfl) (by decide) rfl rfl rfl ?_
        refine a_goto (pc := 108) (dk dt_X12_written 52 rfl) (tgt := 61) rfl ?_
        exact a_pick [0, 1, 2, 3] rfl H
set_option maxHeartbeats 40000000 in
theorem U_X12_written_85_114 {G : GG} {Φ : Int → Hp → Prop} {h : Hp} {x4 : Int} {x5 : Int} {x6 : Int} {x7 : Int} (H : Call G m_X12_days [iv x6, iv x7] h (fun r1 h2 => ((x5 < r1 → ((x4 ≠ 86400 → Call G m_X12_digit [rv 85, iv x6, iv 4] (up h2 85 7 0) (fun _ h4 => Call G m_X12_add [rv 85, iv 45] h4 (fun _ h6 => Call G m_X12_digit [rv 85, iv x7, iv 2] h6 (fun _ h8 => Call G m_X12_add [rv 85, iv 45] h8 (fun _ h10 => Call G m_X12_digit [rv 85, iv (w32 (x5 + 1)), iv 2] h10 (fun _ h12 => Call G m_X12_add [rv 85, iv 84] h12 (fun _ h14 => Call G m_X12_digit [rv 85, iv (w32 (x4.tdiv 3600)), iv 2] h14 (fun _ h16 => Call G m_X12_add [rv 85, iv 58] h16 (fun _ h18 => Call G m_X12_digit [rv 85, iv ((w32 (x4.tdiv 60)).tmod 60), iv 2] h18 (fun _ h20 => Call G m_X12_add [rv 85, iv 58] h20 (fun _ h22 => Call G m_X12_digit [rv 85, iv (x4.tmod 60), iv 2] h22 (fun _ h24 => Φ (h24 85 7) h24)))))))))))) ∧ (x4 = 86400 → Call G m_X12_digit [rv 85, iv x6, iv 4] (up h2 85 7 0) (fun _ h26 => Call G m_X12_add [rv 85, iv 45] h26 (fun _ h28 => Call G m_X12_digit [rv 85, iv x7, iv 2] h28 (fun _ h30 => Call G m_X12_add [rv 85, iv 45] h30 (fun _ h32 => Call G m_X12_digit [rv 85, iv (w32 (x5 + 1)), iv 2] h32 (fun _ h34 => Call G m_X12_add [rv 85, iv 84] h34 (fun _ h36 => Call G m_X12_digit [rv 85, iv 23, iv 2] h36 (fun _ h38 => Call G m_X12_add [rv 85, iv 58] h38 (fun _ h40 => Call G m_X12_digit [rv 85, iv 59, iv 2] h40 (fun _ h42 => Call G m_X12_add [rv 85, iv 58] h42 (fun _ h44 => Call G m_X12_digit [rv 85, iv 60, iv 2] h44 (fun _ h46 => Φ (h46 85 7) h46)))))))))))))) ∧ (r1 ≤ x5 → Call G m_X12_days [iv x6, iv x7] h2 (fun r47 h48 => AT G m_X12_written 114 [(0, rv 85), (4, iv x4), (5, iv (w32 (x5 - r47))), (6, iv x6), (7, iv (w32 (x7 + 1)))] [] h48 Φ))))) : AT G m_X12_written 114 [(0, rv 85), (4, iv x4), (5, iv x5), (6, iv x6), (7, iv x7)] [] h Φ := by
  refine a_iload (pc := 114) (dk dt_X12_written 55 rfl) rfl ?_
  refine a_iload (pc := 116) (dk dt_X12_written 56 rfl) rfl ?_
  refine a_iload (pc := 118) (dk dt_X12_written 57 rfl) rfl ?_
  refine a_callSi (as := [iv x6, iv x7]) (st := [iv x5]) (pc := 120) (dk dt_X12_written 58 rfl) cl_RX12_353 ⟨Nat.le_of_ble_eq_true rfl, Nat.le_of_ble_eq_true rfl⟩ ⟨Nat.le_of_ble_eq_true rfl, Nat.le_of_ble_eq_true rfl⟩ rfl rfl rfl (Nat.le_of_ble_eq_true rfl) (Call.mono H fun r1 h2 H => ?_)
  refine a_icmp_lt (pc := 123) (dk dt_X12_written 59 rfl) (tgt := 144) rfl ⟨fun c => ?_, fun c => ?_⟩
  · replace H := H.1 c
    refine a_aload_n (pc := 144) (dk dt_X12_written 68 rfl) rfl ?_
    refine a_iconst (pc := 145) (dk dt_X12_written 69 rfl) (ik rfl) ?_
    refine a_puti (pc := 146) (dk dt_X12_written 70 rfl) cls_12 fl_RX12_299 cf_85_7 rfl rfl ?_
    refine a_iload (pc := 149) (dk dt_X12_written 71 rfl) rfl ?_
    refine a_ldcw (n := 86400) (pc := 151) (dk dt_X12_written 72 rfl) (ik rfl) co_RX12_363 ?_
    refine a_icmp_ne (pc := 154) (dk dt_X12_written 73 rfl) (tgt := 161) rfl ⟨fun c => ?_, fun c => ?_⟩
    · replace H := H.1 c
      refine a_iconst (pc := 161) (dk dt_X12_written 76 rfl) (ik rfl) ?_
      refine a_istore (pc := 162) (dk dt_X12_written 77 rfl) (by decide) rfl rfl ?_
      refine a_aload_n (pc := 164) (dk dt_X12_written 78 rfl) rfl ?_
      refine a_iload (pc := 165) (dk dt_X12_written 79 rfl) rfl ?_
      refine a_iconst (pc := 167) (dk dt_X12_written 80 rfl) (ik rfl) ?_
      refine a_callVv (as := [iv x6, iv 4]) (st := []) (pc := 168) (dk dt_X12_written 81 rfl) cl_RX12_383 ⟨Nat.le_of_ble_eq_true rfl, Nat.le_of_ble_eq_true rfl⟩ ⟨Nat.le_of_ble_eq_true rfl, Nat.le_of_ble_eq_true rfl⟩ cls_12 rfl cc_85 rfl rfl rfl (Nat.le_of_ble_eq_true rfl) (Call.mono H fun _ h4 H => ?_)
      refine a_aload_n (pc := 171) (dk dt_X12_written 82 rfl) rfl ?_
      refine a_bipush (pc := 172) (dk dt_X12_written 83 rfl) (ik rfl) (bpk rfl) ?_
      refine a_callVv (as := [iv 45]) (st := []) (pc := 174) (dk dt_X12_written 84 rfl) cl_RX12_381 ⟨Nat.le_of_ble_eq_true rfl, Nat.le_of_ble_eq_true rfl⟩ ⟨Nat.le_of_ble_eq_true rfl, Nat.le_of_ble_eq_true rfl⟩ cls_12 rfl cc_85 rfl rfl rfl (Nat.le_of_ble_eq_true rfl) (Call.mono H fun _ h6 H => ?_)
      refine a_aload_n (pc := 177) (dk dt_X12_written 85 rfl) rfl ?_
      refine a_iload (pc := 178) (dk dt_X12_written 86 rfl) rfl ?_
      refine a_iconst (pc := 180) (dk dt_X12_written 87 rfl) (ik rfl) ?_
      refine a_callVv (as := [iv x7, iv 2]) (st := []) (pc := 181) (dk dt_X12_written 88 rfl) cl_RX12_383 ⟨Nat.le_of_ble_eq_true rfl, Nat.le_of_ble_eq_true rfl⟩ ⟨Nat.le_of_ble_eq_true rfl, Nat.le_of_ble_eq_true rfl⟩ cls_12 rfl cc_85 rfl rfl rfl (Nat.le_of_ble_eq_true rfl) (Call.mono H fun _ h8 H => ?_)
      refine a_aload_n (pc := 184) (dk dt_X12_written 89 rfl) rfl ?_
      refine a_bipush (pc := 185) (dk dt_X12_written 90 rfl) (ik rfl) (bpk rfl) ?_
      refine a_callVv (as := [iv 45]) (st := []) (pc := 187) (dk dt_X12_written 91 rfl) cl_RX12_381 ⟨Nat.le_of_ble_eq_true rfl, Nat.le_of_ble_eq_true rfl⟩ ⟨Nat.le_of_ble_eq_true rfl, Nat.le_of_ble_eq_true rfl⟩ cls_12 rfl cc_85 rfl rfl rfl (Nat.le_of_ble_eq_true rfl) (Call.mono H fun _ h10 H => ?_)
      refine a_aload_n (pc := 190) (dk dt_X12_written 92 rfl) rfl ?_
      refine a_iload (pc := 191) (dk dt_X12_written 93 rfl) rfl ?_
      refine a_iconst (pc := 193) (dk dt_X12_written 94 rfl) (ik rfl) ?_
      refine a_iadd (pc := 194) (dk dt_X12_written 95 rfl) ?_
      refine a_iconst (pc := 195) (dk dt_X12_written 96 rfl) (ik rfl) ?_
      refine a_callVv (as := [iv (w32 (x5 + 1)), iv 2]) (st := []) (pc := 196) (dk dt_X12_written 97 rfl) cl_RX12_383 ⟨Nat.le_of_ble_eq_true rfl, Nat.le_of_ble_eq_true rfl⟩ ⟨Nat.le_of_ble_eq_true rfl, Nat.le_of_ble_eq_true rfl⟩ cls_12 rfl cc_85 rfl rfl rfl (Nat.le_of_ble_eq_true rfl) (Call.mono H fun _ h12 H => ?_)
      refine a_aload_n (pc := 199) (dk dt_X12_written 98 rfl) rfl ?_
      refine a_bipush (pc := 200) (dk dt_X12_written 99 rfl) (ik rfl) (bpk rfl) ?_
      refine a_callVv (as := [iv 84]) (st := []) (pc := 202) (dk dt_X12_written 100 rfl) cl_RX12_381 ⟨Nat.le_of_ble_eq_true rfl, Nat.le_of_ble_eq_true rfl⟩ ⟨Nat.le_of_ble_eq_true rfl, Nat.le_of_ble_eq_true rfl⟩ cls_12 rfl cc_85 rfl rfl rfl (Nat.le_of_ble_eq_true rfl) (Call.mono H fun _ h14 H => ?_)
      refine a_aload_n (pc := 205) (dk dt_X12_written 101 rfl) rfl ?_
      refine a_iload (pc := 206) (dk dt_X12_written 102 rfl) rfl ?_
      refine a_if_eq (pc := 208) (dk dt_X12_written 103 rfl) (tgt := 216) rfl ⟨fun _ => ?_, fun c => absurd c (by decide)⟩
      refine a_iload (pc := 216) (dk dt_X12_written 106 rfl) rfl ?_
      refine a_sipush (pc := 218) (dk dt_X12_written 107 rfl) (ik rfl) (spk rfl) ?_
      refine a_idiv (pc := 221) (dk dt_X12_written 108 rfl) ⟨by decide, ?_⟩
      refine a_iconst (pc := 222) (dk dt_X12_written 109 rfl) (ik rfl) ?_
      refine a_callVv (as := [iv (w32 (x4.tdiv 3600)), iv 2]) (st := []) (pc := 223) (dk dt_X12_written 110 rfl) cl_RX12_383 ⟨Nat.le_of_ble_eq_true rfl, Nat.le_of_ble_eq_true rfl⟩ ⟨Nat.le_of_ble_eq_true rfl, Nat.le_of_ble_eq_true rfl⟩ cls_12 rfl cc_85 rfl rfl rfl (Nat.le_of_ble_eq_true rfl) (Call.mono H fun _ h16 H => ?_)
      refine a_aload_n (pc := 226) (dk dt_X12_written 111 rfl) rfl ?_
      refine a_bipush (pc := 227) (dk dt_X12_written 112 rfl) (ik rfl) (bpk rfl) ?_
      refine a_callVv (as := [iv 58]) (st := []) (pc := 229) (dk dt_X12_written 113 rfl) cl_RX12_381 ⟨Nat.le_of_ble_eq_true rfl, Nat.le_of_ble_eq_true rfl⟩ ⟨Nat.le_of_ble_eq_true rfl, Nat.le_of_ble_eq_true rfl⟩ cls_12 rfl cc_85 rfl rfl rfl (Nat.le_of_ble_eq_true rfl) (Call.mono H fun _ h18 H => ?_)
      refine a_aload_n (pc := 232) (dk dt_X12_written 114 rfl) rfl ?_
      refine a_iload (pc := 233) (dk dt_X12_written 115 rfl) rfl ?_
      refine a_if_eq (pc := 235) (dk dt_X12_written 116 rfl) (tgt := 243) rfl ⟨fun _ => ?_, fun c => absurd c (by decide)⟩
      refine a_iload (pc := 243) (dk dt_X12_written 119 rfl) rfl ?_
      refine a_bipush (pc := 245) (dk dt_X12_written 120 rfl) (ik rfl) (bpk rfl) ?_
      refine a_idiv (pc := 247) (dk dt_X12_written 121 rfl) ⟨by decide, ?_⟩
      refine a_bipush (pc := 248) (dk dt_X12_written 122 rfl) (ik rfl) (bpk rfl) ?_
      refine a_irem (pc := 250) (dk dt_X12_written 123 rfl) ⟨by decide, ?_⟩
      refine a_iconst (pc := 251) (dk dt_X12_written 124 rfl) (ik rfl) ?_
      refine a_callVv (as := [iv ((w32 (x4.tdiv 60)).tmod 60), iv 2]) (st := []) (pc := 252) (dk dt_X12_written 125 rfl) cl_RX12_383 ⟨Nat.le_of_ble_eq_true rfl, Nat.le_of_ble_eq_true rfl⟩ ⟨Nat.le_of_ble_eq_true rfl, Nat.le_of_ble_eq_true rfl⟩ cls_12 rfl cc_85 rfl rfl rfl (Nat.le_of_ble_eq_true rfl) (Call.mono H fun _ h20 H => ?_)
      refine a_aload_n (pc := 255) (dk dt_X12_written 126 rfl) rfl ?_
      refine a_bipush (pc := 256) (dk dt_X12_written 127 rfl) (ik rfl) (bpk rfl) ?_
      refine a_callVv (as := [iv 58]) (st := []) (pc := 258) (dk dt_X12_written 128 rfl) cl_RX12_381 ⟨Nat.le_of_ble_eq_true rfl, Nat.le_of_ble_eq_true rfl⟩ ⟨Nat.le_of_ble_eq_true rfl, Nat.le_of_ble_eq_true rfl⟩ cls_12 rfl cc_85 rfl rfl rfl (Nat.le_of_ble_eq_true rfl) (Call.mono H fun _ h22 H => ?_)
      refine a_aload_n (pc := 261) (dk dt_X12_written 129 rfl) rfl ?_
      refine a_iload (pc := 262) (dk dt_X12_written 130 rfl) rfl ?_
      refine a_if_eq (pc := 264) (dk dt_X12_written 131 rfl) (tgt := 272) rfl ⟨fun _ => ?_, fun c => absurd c (by decide)⟩
      refine a_iload (pc := 272) (dk dt_X12_written 134 rfl) rfl ?_
      refine a_bipush (pc := 274) (dk dt_X12_written 135 rfl) (ik rfl) (bpk rfl) ?_
      refine a_irem (pc := 276) (dk dt_X12_written 136 rfl) ⟨by decide, ?_⟩
      refine a_iconst (pc := 277) (dk dt_X12_written 137 rfl) (ik rfl) ?_
      refine a_callVv (as := [iv (x4.tmod 60), iv 2]) (st := []) (pc := 278) (dk dt_X12_written 138 rfl) cl_RX12_383 ⟨Nat.le_of_ble_eq_true rfl, Nat.le_of_ble_eq_true rfl⟩ ⟨Nat.le_of_ble_eq_true rfl, Nat.le_of_ble_eq_true rfl⟩ cls_12 rfl cc_85 rfl rfl rfl (Nat.le_of_ble_eq_true rfl) (Call.mono H fun _ h24 H => ?_)
      refine a_aload_n (pc := 281) (dk dt_X12_written 139 rfl) rfl ?_
      refine a_geti (pc := 282) (dk dt_X12_written 140 rfl) cls_12 fl_RX12_299 cf_85_7 ?_
      exact a_iret (pc := 285) (dk dt_X12_written 141 rfl) rfl rfl H
    · replace H := H.2 c
      refine a_iconst (pc := 157) (dk dt_X12_written 74 rfl) (ik rfl) ?_
      refine a_goto (pc := 158) (dk dt_X12_written 75 rfl) (tgt := 162) rfl ?_
      refine a_istore (pc := 162) (dk dt_X12_written 77 rfl) (by decide) rfl rfl ?_
      refine a_aload_n (pc := 164) (dk dt_X12_written 78 rfl) rfl ?_
      refine a_iload (pc := 165) (dk dt_X12_written 79 rfl) rfl ?_
      refine a_iconst (pc := 167) (dk dt_X12_written 80 rfl) (ik rfl) ?_
      refine a_callVv (as := [iv x6, iv 4]) (st := []) (pc := 168) (dk dt_X12_written 81 rfl) cl_RX12_383 ⟨Nat.le_of_ble_eq_true rfl, Nat.le_of_ble_eq_true rfl⟩ ⟨Nat.le_of_ble_eq_true rfl, Nat.le_of_ble_eq_true rfl⟩ cls_12 rfl cc_85 rfl rfl rfl (Nat.le_of_ble_eq_true rfl) (Call.mono H fun _ h26 H => ?_)
      refine a_aload_n (pc := 171) (dk dt_X12_written 82 rfl) rfl ?_
      refine a_bipush (pc := 172) (dk dt_X12_written 83 rfl) (ik rfl) (bpk rfl) ?_
      refine a_callVv (as := [iv 45]) (st := []) (pc := 174) (dk dt_X12_written 84 rfl) cl_RX12_381 ⟨Nat.le_of_ble_eq_true rfl, Nat.le_of_ble_eq_true rfl⟩ ⟨Nat.le_of_ble_eq_true rfl, Nat.le_of_ble_eq_true rfl⟩ cls_12 rfl cc_85 rfl rfl rfl (Nat.le_of_ble_eq_true rfl) (Call.mono H fun _ h28 H => ?_)
      refine a_aload_n (pc := 177) (dk dt_X12_written 85 rfl) rfl ?_
      refine a_iload (pc := 178) (dk dt_X12_written 86 rfl) rfl ?_
      refine a_iconst (pc := 180) (dk dt_X12_written 87 rfl) (ik rfl) ?_
      refine a_callVv (as := [iv x7, iv 2]) (st := []) (pc := 181) (dk dt_X12_written 88 rfl) cl_RX12_383 ⟨Nat.le_of_ble_eq_true rfl, Nat.le_of_ble_eq_true rfl⟩ ⟨Nat.le_of_ble_eq_true rfl, Nat.le_of_ble_eq_true rfl⟩ cls_12 rfl cc_85 rfl rfl rfl (Nat.le_of_ble_eq_true rfl) (Call.mono H fun _ h30 H => ?_)
      refine a_aload_n (pc := 184) (dk dt_X12_written 89 rfl) rfl ?_
      refine a_bipush (pc := 185) (dk dt_X12_written 90 rfl) (ik rfl) (bpk rfl) ?_
      refine a_callVv (as := [iv 45]) (st := []) (pc := 187) (dk dt_X12_written 91 rfl) cl_RX12_381 ⟨Nat.le_of_ble_eq_true rfl, Nat.le_of_ble_eq_true rfl⟩ ⟨Nat.le_of_ble_eq_true rfl, Nat.le_of_ble_eq_true rfl⟩ cls_12 rfl cc_85 rfl rfl rfl (Nat.le_of_ble_eq_true rfl) (Call.mono H fun _ h32 H => ?_)
      refine a_aload_n (pc := 190) (dk dt_X12_written 92 rfl) rfl ?_
      refine a_iload (pc := 191) (dk dt_X12_written 93 rfl) rfl ?_
      refine a_iconst (pc := 193) (dk dt_X12_written 94 rfl) (ik rfl) ?_
      refine a_iadd (pc := 194) (dk dt_X12_written 95 rfl) ?_
      refine a_iconst (pc := 195) (dk dt_X12_written 96 rfl) (ik rfl) ?_
      refine a_callVv (as := [iv (w32 (x5 + 1)), iv 2]) (st := []) (pc := 196) (dk dt_X12_written 97 rfl) cl_RX12_383 ⟨Nat.le_of_ble_eq_true rfl, Nat.le_of_ble_eq_true rfl⟩ ⟨Nat.le_of_ble_eq_true rfl, Nat.le_of_ble_eq_true rfl⟩ cls_12 rfl cc_85 rfl rfl rfl (Nat.le_of_ble_eq_true rfl) (Call.mono H fun _ h34 H => ?_)
      refine a_aload_n (pc := 199) (dk dt_X12_written 98 rfl) rfl ?_
      refine a_bipush (pc := 200) (dk dt_X12_written 99 rfl) (ik rfl) (bpk rfl) ?_
      refine a_callVv (as := [iv 84]) (st := []) (pc := 202) (dk dt_X12_written 100 rfl) cl_RX12_381 ⟨Nat.le_of_ble_eq_true rfl, Nat.le_of_ble_eq_true rfl⟩ ⟨Nat.le_of_ble_eq_true rfl, Nat.le_of_ble_eq_true rfl⟩ cls_12 rfl cc_85 rfl rfl rfl (Nat.le_of_ble_eq_true rfl) (Call.mono H fun _ h36 H => ?_)
      refine a_aload_n (pc := 205) (dk dt_X12_written 101 rfl) rfl ?_
      refine a_iload (pc := 206) (dk dt_X12_written 102 rfl) rfl ?_
      refine a_if_eq (pc := 208) (dk dt_X12_written 103 rfl) (tgt := 216) rfl ⟨fun c => absurd c (by decide), fun _ => ?_⟩
      refine a_bipush (pc := 211) (dk dt_X12_written 104 rfl) (ik rfl) (bpk rfl) ?_
      refine a_goto (pc := 213) (dk dt_X12_written 105 rfl) (tgt := 222) rfl ?_
      refine a_iconst (pc := 222) (dk dt_X12_written 109 rfl) (ik rfl) ?_
      refine a_callVv (as := [iv 23, iv 2]) (st := []) (pc := 223) (dk dt_X12_written 110 rfl) cl_RX12_383 ⟨Nat.le_of_ble_eq_true rfl, Nat.le_of_ble_eq_true rfl⟩ ⟨Nat.le_of_ble_eq_true rfl, Nat.le_of_ble_eq_true rfl⟩ cls_12 rfl cc_85 rfl rfl rfl (Nat.le_of_ble_eq_true rfl) (Call.mono H fun _ h38 H => ?_)
      refine a_aload_n (pc := 226) (dk dt_X12_written 111 rfl) rfl ?_
      refine a_bipush (pc := 227) (dk dt_X12_written 112 rfl) (ik rfl) (bpk rfl) ?_
      refine a_callVv (as := [iv 58]) (st := []) (pc := 229) (dk dt_X12_written 113 rfl) cl_RX12_381 ⟨Nat.le_of_ble_eq_true rfl, Nat.le_of_ble_eq_true rfl⟩ ⟨Nat.le_of_ble_eq_true rfl, Nat.le_of_ble_eq_true rfl⟩ cls_12 rfl cc_85 rfl rfl rfl (Nat.le_of_ble_eq_true rfl) (Call.mono H fun _ h40 H => ?_)
      refine a_aload_n (pc := 232) (dk dt_X12_written 114 rfl) rfl ?_
      refine a_iload (pc := 233) (dk dt_X12_written 115 rfl) rfl ?_
      refine a_if_eq (pc := 235) (dk dt_X12_written 116 rfl) (tgt := 243) rfl ⟨fun c => absurd c (by decide), fun _ => ?_⟩
      refine a_bipush (pc := 238) (dk dt_X12_written 117 rfl) (ik rfl) (bpk rfl) ?_
      refine a_goto (pc := 240) (dk dt_X12_written 118 rfl) (tgt := 251) rfl ?_
      refine a_iconst (pc := 251) (dk dt_X12_written 124 rfl) (ik rfl) ?_
      refine a_callVv (as := [iv 59, iv 2]) (st := []) (pc := 252) (dk dt_X12_written 125 rfl) cl_RX12_383 ⟨Nat.le_of_ble_eq_true rfl, Nat.le_of_ble_eq_true rfl⟩ ⟨Nat.le_of_ble_eq_true rfl, Nat.le_of_ble_eq_true rfl⟩ cls_12 rfl cc_85 rfl rfl rfl (Nat.le_of_ble_eq_true rfl) (Call.mono H fun _ h42 H => ?_)
      refine a_aload_n (pc := 255) (dk dt_X12_written 126 rfl) rfl ?_
      refine a_bipush (pc := 256) (dk dt_X12_written 127 rfl) (ik rfl) (bpk rfl) ?_
      refine a_callVv (as := [iv 58]) (st := []) (pc := 258) (dk dt_X12_written 128 rfl) cl_RX12_381 ⟨Nat.le_of_ble_eq_true rfl, Nat.le_of_ble_eq_true rfl⟩ ⟨Nat.le_of_ble_eq_true rfl, Nat.le_of_ble_eq_true rfl⟩ cls_12 rfl cc_85 rfl rfl rfl (Nat.le_of_ble_eq_true rfl) (Call.mono H fun _ h44 H => ?_)
      refine a_aload_n (pc := 261) (dk dt_X12_written 129 rfl) rfl ?_
      refine a_iload (pc := 262) (dk dt_X12_written 130 rfl) rfl ?_
      refine a_if_eq (pc := 264) (dk dt_X12_written 131 rfl) (tgt := 272) rfl ⟨fun c => absurd c (by decide), fun _ => ?_⟩
      refine a_bipush (pc := 267) (dk dt_X12_written 132 rfl) (ik rfl) (bpk rfl) ?_
      refine a_goto (pc := 269) (dk dt_X12_written 133 rfl) (tgt := 277) rfl ?_
      refine a_iconst (pc := 277) (dk dt_X12_written 137 rfl) (ik rfl) ?_
      refine a_callVv (as := [iv 60, iv 2]) (st := []) (pc := 278) (dk dt_X12_written 138 rfl) cl_RX12_383 ⟨Nat.le_of_ble_eq_true rfl, Nat.le_of_ble_eq_true rfl⟩ ⟨Nat.le_of_ble_eq_true rfl, Nat.le_of_ble_eq_true rfl⟩ cls_12 rfl cc_85 rfl rfl rfl (Nat.le_of_ble_eq_true rfl) (Call.mono H fun _ h46 H => ?_)
      refine a_aload_n (pc := 281) (dk dt_X12_written 139 rfl) rfl ?_
      refine a_geti (pc := 282) (dk dt_X12_written 140 rfl) cls_12 fl_RX12_299 cf_85_7 ?_
      exact a_iret (pc := 285) (dk dt_X12_written 141 rfl) rfl rfl H
  · replace H := H.2 c
    refine a_iload (pc := 126) (dk dt_X12_written 60 rfl) rfl ?_
    refine a_iload (pc := 128) (dk dt_X12_written 61 rfl) rfl ?_
    refine a_iload (pc := 130) (dk dt_X12_written 62 rfl) rfl ?_
    refine a_callSi (as := [iv x6, iv x7]) (st := [iv x5]) (pc := 132) (dk dt_X12_written 63 rfl) cl_RX12_353 ⟨Nat.le_of_ble_eq_true rfl, Nat.le_of_ble_eq_true rfl⟩ ⟨Nat.le_of_ble_eq_true rfl, Nat.le_of_ble_eq_true rfl⟩ rfl rfl rfl (Nat.le_of_ble_eq_true rfl) (Call.mono H fun r47 h48 H => ?_)
    refine a_isub (pc := 135) (dk dt_X12_written 64 rfl) ?_
    refine a_istore (pc := 136) (dk dt_X12_written 65 rfl) (by decide) rfl rfl ?_
    refine a_iinc (pc := 138) (dk dt_X12_written 66 rfl) (by decide) rfl rfl rfl ?_
    refine a_goto (pc := 141) (dk dt_X12_written 67 rfl) (tgt := 114) rfl ?_
    exact a_pick [0, 1, 2, 3, 4] rfl H
set_option maxHeartbeats 40000000 in
theorem U_X12_orbit_85_0 {G : GG} {Φ : Int → Hp → Prop} {h : Hp} {x1 : Int} {x2 : Int} {x3 : Int} {x4 : Int} (H : ((x1 < 60 → Φ (-1) h) ∧ (60 ≤ x1 → ((20000 < x1 → Φ (-1) h) ∧ (x1 ≤ 20000 → ((x2 < 0 → Φ (-1) h) ∧ (0 ≤ x2 → ((3599 < x2 → Φ (-1) h) ∧ (x2 ≤ 3599 → ((x3 < 0 → Φ (-1) h) ∧ (0 ≤ x3 → ((3599 < x3 → Φ (-1) h) ∧ (x3 ≤ 3599 → ((x4 < 0 → Φ (-1) h) ∧ (0 ≤ x4 → ((3600 < x4 → Φ (-1) h) ∧ (x4 ≤ 3600 → Φ 1 (up (up (up (up h 85 11 x1) 85 12 x2) 85 13 x3) 85 14 x4)))))))))))))))))) : AT G m_X12_orbit 0 [(0, rv 85), (1, iv x1), (2, iv x2), (3, iv x3), (4, iv x4)] [] h Φ := by
  refine a_iload_n (pc := 0) (dk dt_X12_orbit 0 rfl) rfl ?_
  refine a_bipush (pc := 1) (dk dt_X12_orbit 1 rfl) (ik rfl) (bpk rfl) ?_
  refine a_sipush (pc := 3) (dk dt_X12_orbit 2 rfl) (ik rfl) (spk rfl) ?_
  refine a_callSi (as := [iv x1, iv 60, iv 20000]) (st := []) (pc := 6) (dk dt_X12_orbit 3 rfl) cl_RX12_302 ⟨Nat.le_of_ble_eq_true rfl, Nat.le_of_ble_eq_true rfl⟩ ⟨Nat.le_of_ble_eq_true rfl, Nat.le_of_ble_eq_true rfl⟩ rfl rfl rfl (Nat.le_of_ble_eq_true rfl) (Call.of rfl (Nat.le_of_ble_eq_true rfl) rfl ?_)
  refine a_iload_n (pc := 0) (dk dt_X12_is 0 rfl) rfl ?_
  refine a_iload_n (pc := 1) (dk dt_X12_is 1 rfl) rfl ?_
  refine a_icmp_lt (pc := 2) (dk dt_X12_is 2 rfl) (tgt := 14) rfl ⟨fun c => ?_, fun c => ?_⟩
  · replace H := H.1 c
    refine a_iconst (pc := 14) (dk dt_X12_is 8 rfl) (ik rfl) ?_
    refine a_zret (pc := 15) (dk dt_X12_is 9 rfl) rfl rfl ⟨by decide, ?_⟩
    show ATW _ _ _ _ _ _ _ _ _ _
    refine a_if_eq (pc := 9) (dk dt_X12_orbit 4 rfl) (tgt := 46) rfl ⟨fun _ => ?_, fun c => absurd c (by decide)⟩
    refine a_iconst (pc := 46) (dk dt_X12_orbit 20 rfl) (ik rfl) ?_
    exact a_iret (pc := 47) (dk dt_X12_orbit 21 rfl) rfl rfl H
  · replace H := H.2 c
    refine a_iload_n (pc := 5) (dk dt_X12_is 3 rfl) rfl ?_
    refine a_iload_n (pc := 6) (dk dt_X12_is 4 rfl) rfl ?_
    refine a_icmp_gt (pc := 7) (dk dt_X12_is 5 rfl) (tgt := 14) rfl ⟨fun c => ?_, fun c => ?_⟩
    · replace H := H.1 c
      refine a_iconst (pc := 14) (dk dt_X12_is 8 rfl) (ik rfl) ?_
      refine a_zret (pc := 15) (dk dt_X12_is 9 rfl) rfl rfl ⟨by decide, ?_⟩
      show ATW _ _ _ _ _ _ _ _ _ _
      refine a_if_eq (pc := 9) (dk dt_X12_orbit 4 rfl) (tgt := 46) rfl ⟨fun _ => ?_, fun c => absurd c (by decide)⟩
      refine a_iconst (pc := 46) (dk dt_X12_orbit 20 rfl) (ik rfl) ?_
      exact a_iret (pc := 47) (dk dt_X12_orbit 21 rfl) rfl rfl H
    · replace H := H.2 c
      refine a_iconst (pc := 10) (dk dt_X12_is 6 rfl) (ik rfl) ?_
      refine a_goto (pc := 11) (dk dt_X12_is 7 rfl) (tgt := 15) rfl ?_
      refine a_zret (pc := 15) (dk dt_X12_is 9 rfl) rfl rfl ⟨by decide, ?_⟩
      show ATW _ _ _ _ _ _ _ _ _ _
      refine a_if_eq (pc := 9) (dk dt_X12_orbit 4 rfl) (tgt := 46) rfl ⟨fun c => absurd c (by decide), fun _ => ?_⟩
      refine a_iload_n (pc := 12) (dk dt_X12_orbit 5 rfl) rfl ?_
      refine a_iconst (pc := 13) (dk dt_X12_orbit 6 rfl) (ik rfl) ?_
      refine a_sipush (pc := 14) (dk dt_X12_orbit 7 rfl) (ik rfl) (spk rfl) ?_
      refine a_callSi (as := [iv x2, iv 0, iv 3599]) (st := []) (pc := 17) (dk dt_X12_orbit 8 rfl) cl_RX12_302 ⟨Nat.le_of_ble_eq_true rfl, Nat.le_of_ble_eq_true rfl⟩ ⟨Nat.le_of_ble_eq_true rfl, Nat.le_of_ble_eq_true rfl⟩ rfl rfl rfl (Nat.le_of_ble_eq_true rfl) (Call.of rfl (Nat.le_of_ble_eq_true rfl) rfl ?_)
      refine a_iload_n (pc := 0) (dk dt_X12_is 0 rfl) rfl ?_
      refine a_iload_n (pc := 1) (dk dt_X12_is 1 rfl) rfl ?_
      refine a_icmp_lt (pc := 2) (dk dt_X12_is 2 rfl) (tgt := 14) rfl ⟨fun c => ?_, fun c => ?_⟩
      · replace H := H.1 c
        refine a_iconst (pc := 14) (dk dt_X12_is 8 rfl) (ik rfl) ?_
        refine a_zret (pc := 15) (dk dt_X12_is 9 rfl) rfl rfl ⟨by decide, ?_⟩
        show ATW _ _ _ _ _ _ _ _ _ _
        refine a_if_eq (pc := 20) (dk dt_X12_orbit 9 rfl) (tgt := 46) rfl ⟨fun _ => ?_, fun c => absurd c (by decide)⟩
        refine a_iconst (pc := 46) (dk dt_X12_orbit 20 rfl) (ik rfl) ?_
        exact a_iret (pc := 47) (dk dt_X12_orbit 21 rfl) rfl rfl H
      · replace H := H.2 c
        refine a_iload_n (pc := 5) (dk dt_X12_is 3 rfl) rfl ?_
        refine a_iload_n (pc := 6) (dk dt_X12_is 4 rfl) rfl ?_
        refine a_icmp_gt (pc := 7) (dk dt_X12_is 5 rfl) (tgt := 14) rfl ⟨fun c => ?_, fun c => ?_⟩
        · replace H := H.1 c
          refine a_iconst (pc := 14) (dk dt_X12_is 8 rfl) (ik rfl) ?_
          refine a_zret (pc := 15) (dk dt_X12_is 9 rfl) rfl rfl ⟨by decide, ?_⟩
          show ATW _ _ _ _ _ _ _ _ _ _
          refine a_if_eq (pc := 20) (dk dt_X12_orbit 9 rfl) (tgt := 46) rfl ⟨fun _ => ?_, fun c => absurd c (by decide)⟩
          refine a_iconst (pc := 46) (dk dt_X12_orbit 20 rfl) (ik rfl) ?_
          exact a_iret (pc := 47) (dk dt_X12_orbit 21 rfl) rfl rfl H
        · replace H := H.2 c
          refine a_iconst (pc := 10) (dk dt_X12_is 6 rfl) (ik rfl) ?_
          refine a_goto (pc := 11) (dk dt_X12_is 7 rfl) (tgt := 15) rfl ?_
          refine a_zret (pc := 15) (dk dt_X12_is 9 rfl) rfl rfl ⟨by decide, ?_⟩
          show ATW _ _ _ _ _ _ _ _ _ _
          refine a_if_eq (pc := 20) (dk dt_X12_orbit 9 rfl) (tgt := 46) rfl ⟨fun c => absurd c (by decide), fun _ => ?_⟩
          refine a_iload_n (pc := 23) (dk dt_X12_orbit 10 rfl) rfl ?_
          refine a_iconst (pc := 24) (dk dt_X12_orbit 11 rfl) (ik rfl) ?_
          refine a_sipush (pc := 25) (dk dt_X12_orbit 12 rfl) (ik rfl) (spk rfl) ?_
          refine a_callSi (as := [iv x3, iv 0, iv 3599]) (st := []) (pc := 28) (dk dt_X12_orbit 13 rfl) cl_RX12_302 ⟨Nat.le_of_ble_eq_true rfl, Nat.le_of_ble_eq_true rfl⟩ ⟨Nat.le_of_ble_eq_true rfl, Nat.le_of_ble_eq_true rfl⟩ rfl rfl rfl (Nat.le_of_ble_eq_true rfl) (Call.of rfl (Nat.le_of_ble_eq_true rfl) rfl ?_)
          refine a_iload_n (pc := 0) (dk dt_X12_is 0 rfl) rfl ?_
          refine a_iload_n (pc := 1) (dk dt_X12_is 1 rfl) rfl ?_
          refine a_icmp_lt (pc := 2) (dk dt_X12_is 2 rfl) (tgt := 14) rfl ⟨fun c => ?_, fun c => ?_⟩
          · replace H := H.1 c
            refine a_iconst (pc := 14) (dk dt_X12_is 8 rfl) (ik rfl) ?_
            refine a_zret (pc := 15) (dk dt_X12_is 9 rfl) rfl rfl ⟨by decide, ?_⟩
            show ATW _ _ _ _ _ _ _ _ _ _
            refine a_if_eq (pc := 31) (dk dt_X12_orbit 14 rfl) (tgt := 46) rfl ⟨fun _ => ?_, fun c => absurd c (by decide)⟩
            refine a_iconst (pc := 46) (dk dt_X12_orbit 20 rfl) (ik rfl) ?_
            exact a_iret (pc := 47) (dk dt_X12_orbit 21 rfl) rfl rfl H
          · replace H := H.2 c
            refine a_iload_n (pc := 5) (dk dt_X12_is 3 rfl) rfl ?_
            refine a_iload_n (pc := 6) (dk dt_X12_is 4 rfl) rfl ?_
            refine a_icmp_gt (pc := 7) (dk dt_X12_is 5 rfl) (tgt := 14) rfl ⟨fun c => ?_, fun c => ?_⟩
            · replace H := H.1 c
              refine a_iconst (pc := 14) (dk dt_X12_is 8 rfl) (ik rfl) ?_
              refine a_zret (pc := 15) (dk dt_X12_is 9 rfl) rfl rfl ⟨by decide, ?_⟩
              show ATW _ _ _ _ _ _ _ _ _ _
              refine a_if_eq (pc := 31) (dk dt_X12_orbit 14 rfl) (tgt := 46) rfl ⟨fun _ => ?_, fun c => absurd c (by decide)⟩
              refine a_iconst (pc := 46) (dk dt_X12_orbit 20 rfl) (ik rfl) ?_
              exact a_iret (pc := 47) (dk dt_X12_orbit 21 rfl) rfl rfl H
            · replace H := H.2 c
              refine a_iconst (pc := 10) (dk dt_X12_is 6 rfl) (ik rfl) ?_
              refine a_goto (pc := 11) (dk dt_X12_is 7 rfl) (tgt := 15) rfl ?_
              refine a_zret (pc := 15) (dk dt_X12_is 9 rfl) rfl rfl ⟨by decide, ?_⟩
              show ATW _ _ _ _ _ _ _ _ _ _
              refine a_if_eq (pc := 31) (dk dt_X12_orbit 14 rfl) (tgt := 46) rfl ⟨fun c => absurd c (by decide), fun _ => ?_⟩
              refine a_iload (pc := 34) (dk dt_X12_orbit 15 rfl) rfl ?_
              refine a_iconst (pc := 36) (dk dt_X12_orbit 16 rfl) (ik rfl) ?_
              refine a_sipush (pc := 37) (dk dt_X12_orbit 17 rfl) (ik rfl) (spk rfl) ?_
              refine a_callSi (as := [iv x4, iv 0, iv 3600]) (st := []) (pc := 40) (dk dt_X12_orbit 18 rfl) cl_RX12_302 ⟨Nat.le_of_ble_eq_true rfl, Nat.le_of_ble_eq_true rfl⟩ ⟨Nat.le_of_ble_eq_true rfl, Nat.le_of_ble_eq_true rfl⟩ rfl rfl rfl (Nat.le_of_ble_eq_true rfl) (Call.of rfl (Nat.le_of_ble_eq_true rfl) rfl ?_)
              refine a_iload_n (pc := 0) (dk dt_X12_is 0 rfl) rfl ?_
              refine a_iload_n (pc := 1) (dk dt_X12_is 1 rfl) rfl ?_
              refine a_icmp_lt (pc := 2) (dk dt_X12_is 2 rfl) (tgt := 14) rfl ⟨fun c => ?_, fun c => ?_⟩
              · replace H := H.1 c
                refine a_iconst (pc := 14) (dk dt_X12_is 8 rfl) (ik rfl) ?_
                refine a_zret (pc := 15) (dk dt_X12_is 9 rfl) rfl rfl ⟨by decide, ?_⟩
                show ATW _ _ _ _ _ _ _ _ _ _
                refine a_if_ne (pc := 43) (dk dt_X12_orbit 19 rfl) (tgt := 48) rfl ⟨fun c => absurd c (by decide), fun _ => ?_⟩
                refine a_iconst (pc := 46) (dk dt_X12_orbit 20 rfl) (ik rfl) ?_
                exact a_iret (pc := 47) (dk dt_X12_orbit 21 rfl) rfl rfl H
              · replace H := H.2 c
                refine a_iload_n (pc := 5) (dk dt_X12_is 3 rfl) rfl ?_
                refine a_iload_n (pc := 6) (dk dt_X12_is 4 rfl) rfl ?_
                refine a_icmp_gt (pc := 7) (dk dt_X12_is 5 rfl) (tgt := 14) rfl ⟨fun c => ?_, fun c => ?_⟩
                · replace H := H.1 c
                  refine a_iconst (pc := 14) (dk dt_X12_is 8 rfl) (ik rfl) ?_
                  refine a_zret (pc := 15) (dk dt_X12_is 9 rfl) rfl rfl ⟨by decide, ?_⟩
                  show ATW _ _ _ _ _ _ _ _ _ _
                  refine a_if_ne (pc := 43) (dk dt_X12_orbit 19 rfl) (tgt := 48) rfl ⟨fun c => absurd c (by decide), fun _ => ?_⟩
                  refine a_iconst (pc := 46) (dk dt_X12_orbit 20 rfl) (ik rfl) ?_
                  exact a_iret (pc := 47) (dk dt_X12_orbit 21 rfl) rfl rfl H
                · replace H := H.2 c
                  refine a_iconst (pc := 10) (dk dt_X12_is 6 rfl) (ik rfl) ?_
                  refine a_goto (pc := 11) (dk dt_X12_is 7 rfl) (tgt := 15) rfl ?_
                  refine a_zret (pc := 15) (dk dt_X12_is 9 rfl) rfl rfl ⟨by decide, ?_⟩
                  show ATW _ _ _ _ _ _ _ _ _ _
                  refine a_if_ne (pc := 43) (dk dt_X12_orbit 19 rfl) (tgt := 48) rfl ⟨fun _ => ?_, fun c => absurd c (by decide)⟩
                  refine a_aload_n (pc := 48) (dk dt_X12_orbit 22 rfl) rfl ?_
                  refine a_iload_n (pc := 49) (dk dt_X12_orbit 23 rfl) rfl ?_
                  refine a_puti (pc := 50) (dk dt_X12_orbit 24 rfl) cls_12 fl_RX12_22 cf_85_11 rfl rfl ?_
                  refine a_aload_n (pc := 53) (dk dt_X12_orbit 25 rfl) rfl ?_
                  refine a_iload_n (pc := 54) (dk dt_X12_orbit 26 rfl) rfl ?_
                  refine a_puti (pc := 55) (dk dt_X12_orbit 27 rfl) cls_12 fl_RX12_387 cf_85_12 rfl rfl ?_
                  refine a_aload_n (pc := 58) (dk dt_X12_orbit 28 rfl) rfl ?_
                  refine a_iload_n (pc := 59) (dk dt_X12_orbit 29 rfl) rfl ?_
                  refine a_puti (pc := 60) (dk dt_X12_orbit 30 rfl) cls_12 fl_RX12_390 cf_85_13 rfl rfl ?_
                  refine a_aload_n (pc := 63) (dk dt_X12_orbit 31 rfl) rfl ?_
                  refine a_iload (pc := 64) (dk dt_X12_orbit 32 rfl) rfl ?_
                  refine a_puti (pc := 66) (dk dt_X12_orbit 33 rfl) cls_12 fl_RX12_393 cf_85_14 rfl rfl ?_
                  refine a_iconst (pc := 69) (dk dt_X12_orbit 34 rfl) (ik rfl) ?_
                  exact a_iret (pc := 70) (dk dt_X12_orbit 35 rfl) rfl rfl H
set_option maxHeartbeats 40000000 in
theorem U_X12_station_85_0 {G : GG} {Φ : Int → Hp → Prop} {h : Hp} {x1 : Int} {x2 : Int} {x3 : Int} {x4 : Int} (H : ((x1 < 0 → Φ (-1) h) ∧ (0 ≤ x1 → ((3 < x1 → Φ (-1) h) ∧ (x1 ≤ 3 → ((x2 < 0 → Φ (-1) h) ∧ (0 ≤ x2 → ((3599 < x2 → Φ (-1) h) ∧ (x2 ≤ 3599 → ((x3 < 0 → Φ (-1) h) ∧ (0 ≤ x3 → ((3600 < x3 → Φ (-1) h) ∧ (x3 ≤ 3600 → ((x4 < 0 → Φ (-1) h) ∧ (0 ≤ x4 → ((3599 < x4 → Φ (-1) h) ∧ (x4 ≤ 3599 → (0 ≤ x1 ∧ x1 < 4) ∧ (0 ≤ x1 ∧ x1 < 4) ∧ (0 ≤ x1 ∧ x1 < 4) ∧ Φ 1 (up (up (up h 90 x1 x2) 91 x1 x3) 92 x1 x4)))))))))))))))))) : AT G m_X12_station 0 [(0, rv 85), (1, iv x1), (2, iv x2), (3, iv x3), (4, iv x4)] [] h Φ := by
  refine a_iload_n (pc := 0) (dk dt_X12_station 0 rfl) rfl ?_
  refine a_iconst (pc := 1) (dk dt_X12_station 1 rfl) (ik rfl) ?_
  refine a_iconst (pc := 2) (dk dt_X12_station 2 rfl) (ik rfl) ?_
  refine a_callSi (as := [iv x1, iv 0, iv 3]) (st := []) (pc := 3) (dk dt_X12_station 3 rfl) cl_RX12_302 ⟨Nat.le_of_ble_eq_true rfl, Nat.le_of_ble_eq_true rfl⟩ ⟨Nat.le_of_ble_eq_true rfl, Nat.le_of_ble_eq_true rfl⟩ rfl rfl rfl (Nat.le_of_ble_eq_true rfl) (Call.of rfl (Nat.le_of_ble_eq_true rfl) rfl ?_)
  refine a_iload_n (pc := 0) (dk dt_X12_is 0 rfl) rfl ?_
  refine a_iload_n (pc := 1) (dk dt_X12_is 1 rfl) rfl ?_
  refine a_icmp_lt (pc := 2) (dk dt_X12_is 2 rfl) (tgt := 14) rfl ⟨fun c => ?_, fun c => ?_⟩
  · replace H := H.1 c
    refine a_iconst (pc := 14) (dk dt_X12_is 8 rfl) (ik rfl) ?_
    refine a_zret (pc := 15) (dk dt_X12_is 9 rfl) rfl rfl ⟨by decide, ?_⟩
    show ATW _ _ _ _ _ _ _ _ _ _
    refine a_if_eq (pc := 6) (dk dt_X12_station 4 rfl) (tgt := 43) rfl ⟨fun _ => ?_, fun c => absurd c (by decide)⟩
    refine a_iconst (pc := 43) (dk dt_X12_station 20 rfl) (ik rfl) ?_
    exact a_iret (pc := 44) (dk dt_X12_station 21 rfl) rfl rfl H
  · replace H := H.2 c
    refine a_iload_n (pc := 5) (dk dt_X12_is 3 rfl) rfl ?_
    refine a_iload_n (pc := 6) (dk dt_X12_is 4 rfl) rfl ?_
    refine a_icmp_gt (pc := 7) (dk dt_X12_is 5 rfl) (tgt := 14) rfl ⟨fun c => ?_, fun c => ?_⟩
    · replace H := H.1 c
      refine a_iconst (pc := 14) (dk dt_X12_is 8 rfl) (ik rfl) ?_
      refine a_zret (pc := 15) (dk dt_X12_is 9 rfl) rfl rfl ⟨by decide, ?_⟩
      show ATW _ _ _ _ _ _ _ _ _ _
      refine a_if_eq (pc := 6) (dk dt_X12_station 4 rfl) (tgt := 43) rfl ⟨fun _ => ?_, fun c => absurd c (by decide)⟩
      refine a_iconst (pc := 43) (dk dt_X12_station 20 rfl) (ik rfl) ?_
      exact a_iret (pc := 44) (dk dt_X12_station 21 rfl) rfl rfl H
    · replace H := H.2 c
      refine a_iconst (pc := 10) (dk dt_X12_is 6 rfl) (ik rfl) ?_
      refine a_goto (pc := 11) (dk dt_X12_is 7 rfl) (tgt := 15) rfl ?_
      refine a_zret (pc := 15) (dk dt_X12_is 9 rfl) rfl rfl ⟨by decide, ?_⟩
      show ATW _ _ _ _ _ _ _ _ _ _
      refine a_if_eq (pc := 6) (dk dt_X12_station 4 rfl) (tgt := 43) rfl ⟨fun c => absurd c (by decide), fun _ => ?_⟩
      refine a_iload_n (pc := 9) (dk dt_X12_station 5 rfl) rfl ?_
      refine a_iconst (pc := 10) (dk dt_X12_station 6 rfl) (ik rfl) ?_
      refine a_sipush (pc := 11) (dk dt_X12_station 7 rfl) (ik rfl) (spk rfl) ?_
      refine a_callSi (as := [iv x2, iv 0, iv 3599]) (st := []) (pc := 14) (dk dt_X12_station 8 rfl) cl_RX12_302 ⟨Nat.le_of_ble_eq_true rfl, Nat.le_of_ble_eq_true rfl⟩ ⟨Nat.le_of_ble_eq_true rfl, Nat.le_of_ble_eq_true rfl⟩ rfl rfl rfl (Nat.le_of_ble_eq_true rfl) (Call.of rfl (Nat.le_of_ble_eq_true rfl) rfl ?_)
      refine a_iload_n (pc := 0) (dk dt_X12_is 0 rfl) rfl ?_
      refine a_iload_n (pc := 1) (dk dt_X12_is 1 rfl) rfl ?_
      refine a_icmp_lt (pc := 2) (dk dt_X12_is 2 rfl) (tgt := 14) rfl ⟨fun c => ?_, fun c => ?_⟩
      · replace H := H.1 c
        refine a_iconst (pc := 14) (dk dt_X12_is 8 rfl) (ik rfl) ?_
        refine a_zret (pc := 15) (dk dt_X12_is 9 rfl) rfl rfl ⟨by decide, ?_⟩
        show ATW _ _ _ _ _ _ _ _ _ _
        refine a_if_eq (pc := 17) (dk dt_X12_station 9 rfl) (tgt := 43) rfl ⟨fun _ => ?_, fun c => absurd c (by decide)⟩
        refine a_iconst (pc := 43) (dk dt_X12_station 20 rfl) (ik rfl) ?_
        exact a_iret (pc := 44) (dk dt_X12_station 21 rfl) rfl rfl H
      · replace H := H.2 c
        refine a_iload_n (pc := 5) (dk dt_X12_is 3 rfl) rfl ?_
        refine a_iload_n (pc := 6) (dk dt_X12_is 4 rfl) rfl ?_
        refine a_icmp_gt (pc := 7) (dk dt_X12_is 5 rfl) (tgt := 14) rfl ⟨fun c => ?_, fun c => ?_⟩
        · replace H := H.1 c
          refine a_iconst (pc := 14) (dk dt_X12_is 8 rfl) (ik rfl) ?_
          refine a_zret (pc := 15) (dk dt_X12_is 9 rfl) rfl rfl ⟨by decide, ?_⟩
          show ATW _ _ _ _ _ _ _ _ _ _
          refine a_if_eq (pc := 17) (dk dt_X12_station 9 rfl) (tgt := 43) rfl ⟨fun _ => ?_, fun c => absurd c (by decide)⟩
          refine a_iconst (pc := 43) (dk dt_X12_station 20 rfl) (ik rfl) ?_
          exact a_iret (pc := 44) (dk dt_X12_station 21 rfl) rfl rfl H
        · replace H := H.2 c
          refine a_iconst (pc := 10) (dk dt_X12_is 6 rfl) (ik rfl) ?_
          refine a_goto (pc := 11) (dk dt_X12_is 7 rfl) (tgt := 15) rfl ?_
          refine a_zret (pc := 15) (dk dt_X12_is 9 rfl) rfl rfl ⟨by decide, ?_⟩
          show ATW _ _ _ _ _ _ _ _ _ _
          refine a_if_eq (pc := 17) (dk dt_X12_station 9 rfl) (tgt := 43) rfl ⟨fun c => absurd c (by decide), fun _ => ?_⟩
          refine a_iload_n (pc := 20) (dk dt_X12_station 10 rfl) rfl ?_
          refine a_iconst (pc := 21) (dk dt_X12_station 11 rfl) (ik rfl) ?_
          refine a_sipush (pc := 22) (dk dt_X12_station 12 rfl) (ik rfl) (spk rfl) ?_
          refine a_callSi (as := [iv x3, iv 0, iv 3600]) (st := []) (pc := 25) (dk dt_X12_station 13 rfl) cl_RX12_302 ⟨Nat.le_of_ble_eq_true rfl, Nat.le_of_ble_eq_true rfl⟩ ⟨Nat.le_of_ble_eq_true rfl, Nat.le_of_ble_eq_true rfl⟩ rfl rfl rfl (Nat.le_of_ble_eq_true rfl) (Call.of rfl (Nat.le_of_ble_eq_true rfl) rfl ?_)
          refine a_iload_n (pc := 0) (dk dt_X12_is 0 rfl) rfl ?_
          refine a_iload_n (pc := 1) (dk dt_X12_is 1 rfl) rfl ?_
          refine a_icmp_lt (pc := 2) (dk dt_X12_is 2 rfl) (tgt := 14) rfl ⟨fun c => ?_, fun c => ?_⟩
          · replace H := H.1 c
            refine a_iconst (pc := 14) (dk dt_X12_is 8 rfl) (ik rfl) ?_
            refine a_zret (pc := 15) (dk dt_X12_is 9 rfl) rfl rfl ⟨by decide, ?_⟩
            show ATW _ _ _ _ _ _ _ _ _ _
            refine a_if_eq (pc := 28) (dk dt_X12_station 14 rfl) (tgt := 43) rfl ⟨fun _ => ?_, fun c => absurd c (by decide)⟩
            refine a_iconst (pc := 43) (dk dt_X12_station 20 rfl) (ik rfl) ?_
            exact a_iret (pc := 44) (dk dt_X12_station 21 rfl) rfl rfl H
          · replace H := H.2 c
            refine a_iload_n (pc := 5) (dk dt_X12_is 3 rfl) rfl ?_
            refine a_iload_n (pc := 6) (dk dt_X12_is 4 rfl) rfl ?_
            refine a_icmp_gt (pc := 7) (dk dt_X12_is 5 rfl) (tgt := 14) rfl ⟨fun c => ?_, fun c => ?_⟩
            · replace H := H.1 c
              refine a_iconst (pc := 14) (dk dt_X12_is 8 rfl) (ik rfl) ?_
              refine a_zret (pc := 15) (dk dt_X12_is 9 rfl) rfl rfl ⟨by decide, ?_⟩
              show ATW _ _ _ _ _ _ _ _ _ _
              refine a_if_eq (pc := 28) (dk dt_X12_station 14 rfl) (tgt := 43) rfl ⟨fun _ => ?_, fun c => absurd c (by decide)⟩
              refine a_iconst (pc := 43) (dk dt_X12_station 20 rfl) (ik rfl) ?_
              exact a_iret (pc := 44) (dk dt_X12_station 21 rfl) rfl rfl H
            · replace H := H.2 c
              refine a_iconst (pc := 10) (dk dt_X12_is 6 rfl) (ik rfl) ?_
              refine a_goto (pc := 11) (dk dt_X12_is 7 rfl) (tgt := 15) rfl ?_
              refine a_zret (pc := 15) (dk dt_X12_is 9 rfl) rfl rfl ⟨by decide, ?_⟩
              show ATW _ _ _ _ _ _ _ _ _ _
              refine a_if_eq (pc := 28) (dk dt_X12_station 14 rfl) (tgt := 43) rfl ⟨fun c => absurd c (by decide), fun _ => ?_⟩
              refine a_iload (pc := 31) (dk dt_X12_station 15 rfl) rfl ?_
              refine a_iconst (pc := 33) (dk dt_X12_station 16 rfl) (ik rfl) ?_
              refine a_sipush (pc := 34) (dk dt_X12_station 17 rfl) (ik rfl) (spk rfl) ?_
              refine a_callSi (as := [iv x4, iv 0, iv 3599]) (st := []) (pc := 37) (dk dt_X12_station 18 rfl) cl_RX12_302 ⟨Nat.le_of_ble_eq_true rfl, Nat.le_of_ble_eq_true rfl⟩ ⟨Nat.le_of_ble_eq_true rfl, Nat.le_of_ble_eq_true rfl⟩ rfl rfl rfl (Nat.le_of_ble_eq_true rfl) (Call.of rfl (Nat.le_of_ble_eq_true rfl) rfl ?_)
              refine a_iload_n (pc := 0) (dk dt_X12_is 0 rfl) rfl ?_
              refine a_iload_n (pc := 1) (dk dt_X12_is 1 rfl) rfl ?_
              refine a_icmp_lt (pc := 2) (dk dt_X12_is 2 rfl) (tgt := 14) rfl ⟨fun c => ?_, fun c => ?_⟩
              · replace H := H.1 c
                refine a_iconst (pc := 14) (dk dt_X12_is 8 rfl) (ik rfl) ?_
                refine a_zret (pc := 15) (dk dt_X12_is 9 rfl) rfl rfl ⟨by decide, ?_⟩
                show ATW _ _ _ _ _ _ _ _ _ _
                refine a_if_ne (pc := 40) (dk dt_X12_station 19 rfl) (tgt := 45) rfl ⟨fun c => absurd c (by decide), fun _ => ?_⟩
                refine a_iconst (pc := 43) (dk dt_X12_station 20 rfl) (ik rfl) ?_
                exact a_iret (pc := 44) (dk dt_X12_station 21 rfl) rfl rfl H
              · replace H := H.2 c
                refine a_iload_n (pc := 5) (dk dt_X12_is 3 rfl) rfl ?_
                refine a_iload_n (pc := 6) (dk dt_X12_is 4 rfl) rfl ?_
                refine a_icmp_gt (pc := 7) (dk dt_X12_is 5 rfl) (tgt := 14) rfl ⟨fun c => ?_, fun c => ?_⟩
                · replace H := H.1 c
                  refine a_iconst (pc := 14) (dk dt_X12_is 8 rfl) (ik rfl) ?_
                  refine a_zret (pc := 15) (dk dt_X12_is 9 rfl) rfl rfl ⟨by decide, ?_⟩
                  show ATW _ _ _ _ _ _ _ _ _ _
                  refine a_if_ne (pc := 40) (dk dt_X12_station 19 rfl) (tgt := 45) rfl ⟨fun c => absurd c (by decide), fun _ => ?_⟩
                  refine a_iconst (pc := 43) (dk dt_X12_station 20 rfl) (ik rfl) ?_
                  exact a_iret (pc := 44) (dk dt_X12_station 21 rfl) rfl rfl H
                · replace H := H.2 c
                  refine a_iconst (pc := 10) (dk dt_X12_is 6 rfl) (ik rfl) ?_
                  refine a_goto (pc := 11) (dk dt_X12_is 7 rfl) (tgt := 15) rfl ?_
                  refine a_zret (pc := 15) (dk dt_X12_is 9 rfl) rfl rfl ⟨by decide, ?_⟩
                  show ATW _ _ _ _ _ _ _ _ _ _
                  refine a_if_ne (pc := 40) (dk dt_X12_station 19 rfl) (tgt := 45) rfl ⟨fun _ => ?_, fun c => absurd c (by decide)⟩
                  refine a_aload_n (pc := 45) (dk dt_X12_station 22 rfl) rfl ?_
                  refine a_getr (r := 89) (pc := 46) (dk dt_X12_station 23 rfl) cls_12 fl_RX12_26 cf_85_15 ?_
                  refine a_iload_n (pc := 49) (dk dt_X12_station 24 rfl) rfl ?_
                  refine a_iload_n (pc := 50) (dk dt_X12_station 25 rfl) rfl ?_
                  refine a_iast (pc := 51) (dk dt_X12_station 26 rfl) ar_90 ⟨H.1, ?_⟩
                  replace H := H.2
                  refine a_aload_n (pc := 52) (dk dt_X12_station 27 rfl) rfl ?_
                  refine a_getr (r := 90) (pc := 53) (dk dt_X12_station 28 rfl) cls_12 fl_RX12_29 cf_85_16 ?_
                  refine a_iload_n (pc := 56) (dk dt_X12_station 29 rfl) rfl ?_
                  refine a_iload_n (pc := 57) (dk dt_X12_station 30 rfl) rfl ?_
                  refine a_iast (pc := 58) (dk dt_X12_station 31 rfl) ar_91 ⟨H.1, ?_⟩
                  replace H := H.2
                  refine a_aload_n (pc := 59) (dk dt_X12_station 32 rfl) rfl ?_
                  refine a_getr (r := 91) (pc := 60) (dk dt_X12_station 33 rfl) cls_12 fl_RX12_32 cf_85_17 ?_
                  refine a_iload_n (pc := 63) (dk dt_X12_station 34 rfl) rfl ?_
                  refine a_iload (pc := 64) (dk dt_X12_station 35 rfl) rfl ?_
                  refine a_iast (pc := 66) (dk dt_X12_station 36 rfl) ar_92 ⟨H.1, ?_⟩
                  replace H := H.2
                  refine a_iconst (pc := 67) (dk dt_X12_station 37 rfl) (ik rfl) ?_
                  exact a_iret (pc := 68) (dk dt_X12_station 38 rfl) rfl rfl H
set_option maxHeartbeats 40000000 in
theorem U_X12_sight_85_0 {G : GG} {Φ : Int → Hp → Prop} {h : Hp} {x1 : Int} {x2 : Int} (H : ((x1 < 0 → Φ (-1) h) ∧ (0 ≤ x1 → ((3 < x1 → Φ (-1) h) ∧ (x1 ≤ 3 → AT G m_X12_sight 16 [(0, rv 85), (1, iv x1), (2, iv x2), (3, iv (h 85 10))] [] h Φ))))) : AT G m_X12_sight 0 [(0, rv 85), (1, iv x1), (2, iv x2)] [] h Φ := by
  refine a_iload_n (pc := 0) (dk dt_X12_sight 0 rfl) rfl ?_
  refine a_iconst (pc := 1) (dk dt_X12_sight 1 rfl) (ik rfl) ?_
  refine a_iconst (pc := 2) (dk dt_X12_sight 2 rfl) (ik rfl) ?_
  refine a_callSi (as := [iv x1, iv 0, iv 3]) (st := []) (pc := 3) (dk dt_X12_sight 3 rfl) cl_RX12_302 ⟨Nat.le_of_ble_eq_true rfl, Nat.le_of_ble_eq_true rfl⟩ ⟨Nat.le_of_ble_eq_true rfl, Nat.le_of_ble_eq_true rfl⟩ rfl rfl rfl (Nat.le_of_ble_eq_true rfl) (Call.of rfl (Nat.le_of_ble_eq_true rfl) rfl ?_)
  refine a_iload_n (pc := 0) (dk dt_X12_is 0 rfl) rfl ?_
  refine a_iload_n (pc := 1) (dk dt_X12_is 1 rfl) rfl ?_
  refine a_icmp_lt (pc := 2) (dk dt_X12_is 2 rfl) (tgt := 14) rfl ⟨fun c => ?_, fun c => ?_⟩
  · replace H := H.1 c
    refine a_iconst (pc := 14) (dk dt_X12_is 8 rfl) (ik rfl) ?_
    refine a_zret (pc := 15) (dk dt_X12_is 9 rfl) rfl rfl ⟨by decide, ?_⟩
    show ATW _ _ _ _ _ _ _ _ _ _
    refine a_if_ne (pc := 6) (dk dt_X12_sight 4 rfl) (tgt := 11) rfl ⟨fun c => absurd c (by decide), fun _ => ?_⟩
    refine a_iconst (pc := 9) (dk dt_X12_sight 5 rfl) (ik rfl) ?_
    exact a_iret (pc := 10) (dk dt_X12_sight 6 rfl) rfl rfl H
  · replace H := H.2 c
    refine a_iload_n (pc := 5) (dk dt_X12_is 3 rfl) rfl ?_
    refine a_iload_n (pc := 6) (dk dt_X12_is 4 rfl) rfl ?_
    refine a_icmp_gt (pc := 7) (dk dt_X12_is 5 rfl) (tgt := 14) rfl ⟨fun c => ?_, fun c => ?_⟩
    · replace H := H.1 c
      refine a_iconst (pc := 14) (dk dt_X12_is 8 rfl) (ik rfl) ?_
      refine a_zret (pc := 15) (dk dt_X12_is 9 rfl) rfl rfl ⟨by decide, ?_⟩
      show ATW _ _ _ _ _ _ _ _ _ _
      refine a_if_ne (pc := 6) (dk dt_X12_sight 4 rfl) (tgt := 11) rfl ⟨fun c => absurd c (by decide), fun _ => ?_⟩
      refine a_iconst (pc := 9) (dk dt_X12_sight 5 rfl) (ik rfl) ?_
      exact a_iret (pc := 10) (dk dt_X12_sight 6 rfl) rfl rfl H
    · replace H := H.2 c
      refine a_iconst (pc := 10) (dk dt_X12_is 6 rfl) (ik rfl) ?_
      refine a_goto (pc := 11) (dk dt_X12_is 7 rfl) (tgt := 15) rfl ?_
      refine a_zret (pc := 15) (dk dt_X12_is 9 rfl) rfl rfl ⟨by decide, ?_⟩
      show ATW _ _ _ _ _ _ _ _ _ _
      refine a_if_ne (pc := 6) (dk dt_X12_sight 4 rfl) (tgt := 11) rfl ⟨fun _ => ?_, fun c => absurd c (by decide)⟩
      refine a_aload_n (pc := 11) (dk dt_X12_sight 7 rfl) rfl ?_
      refine a_geti (pc := 12) (dk dt_X12_sight 8 rfl) cls_12 fl_RX12_398 cf_85_10 ?_
      refine a_istore_n (pc := 15) (dk dt_X12_sight 9 rfl) (by decide) rfl rfl ?_
      exact a_pick [0, 1, 2, 3] rfl H
set_option maxHeartbeats 40000000 in
theorem U_X12_sight_85_16 {G : GG} {Φ : Int → Hp → Prop} {h : Hp} {x1 : Int} {x2 : Int} {x3 : Int} (H : (((w32 ((h 85 10) + 20000)) < x3 → Φ (-1) h) ∧ (x3 ≤ (w32 ((h 85 10) + 20000)) → Call G m_X12_sees [rv 85, iv x1, iv x3] h (fun r1 h2 => ((r1 = x2 → AT G m_X12_sight 16 [(0, rv 85), (1, iv x1), (2, iv x2), (3, iv (w32 (x3 + 1)))] [] h2 Φ) ∧ (r1 ≠ x2 → Φ x3 h2)))))) : AT G m_X12_sight 16 [(0, rv 85), (1, iv x1), (2, iv x2), (3, iv x3)] [] h Φ := by
  refine a_iload_n (pc := 16) (dk dt_X12_sight 10 rfl) rfl ?_
  refine a_aload_n (pc := 17) (dk dt_X12_sight 11 rfl) rfl ?_
  refine a_geti (pc := 18) (dk dt_X12_sight 12 rfl) cls_12 fl_RX12_398 cf_85_10 ?_
  refine a_sipush (pc := 21) (dk dt_X12_sight 13 rfl) (ik rfl) (spk rfl) ?_
  refine a_iadd (pc := 24) (dk dt_X12_sight 14 rfl) ?_
  refine a_icmp_gt (pc := 25) (dk dt_X12_sight 15 rfl) (tgt := 46) rfl ⟨fun c => ?_, fun c => ?_⟩
  · replace H := H.1 c
    refine a_iconst (pc := 46) (dk dt_X12_sight 26 rfl) (ik rfl) ?_
    exact a_iret (pc := 47) (dk dt_X12_sight 27 rfl) rfl rfl H
  · replace H := H.2 c
    refine a_aload_n (pc := 28) (dk dt_X12_sight 16 rfl) rfl ?_
    refine a_iload_n (pc := 29) (dk dt_X12_sight 17 rfl) rfl ?_
    refine a_iload_n (pc := 30) (dk dt_X12_sight 18 rfl) rfl ?_
    refine a_callVi (as := [iv x1, iv x3]) (st := []) (pc := 31) (dk dt_X12_sight 19 rfl) cl_RX12_408 ⟨Nat.le_of_ble_eq_true rfl, Nat.le_of_ble_eq_true rfl⟩ ⟨Nat.le_of_ble_eq_true rfl, Nat.le_of_ble_eq_true rfl⟩ cls_12 rfl cc_85 rfl rfl rfl (Nat.le_of_ble_eq_true rfl) (Call.mono H fun r1 h2 H => ?_)
    refine a_iload_n (pc := 34) (dk dt_X12_sight 20 rfl) rfl ?_
    refine a_icmp_eq (pc := 35) (dk dt_X12_sight 21 rfl) (tgt := 40) rfl ⟨fun c => ?_, fun c => ?_⟩
    · replace H := H.1 c
      refine a_iinc (pc := 40) (dk dt_X12_sight 24 rfl) (by decide) rfl rfl rfl ?_
      refine a_goto (pc := 43) (dk dt_X12_sight 25 rfl) (tgt := 16) rfl ?_
      exact a_pick [0, 1, 2, 3] rfl H
    · replace H := H.2 c
      refine a_iload_n (pc := 38) (dk dt_X12_sight 22 rfl) rfl ?_
      exact a_iret (pc := 39) (dk dt_X12_sight 23 rfl) rfl rfl H
set_option maxHeartbeats 40000000 in
theorem U_X12_power_85_0 {G : GG} {Φ : Int → Hp → Prop} {h : Hp} {x1 : Int} {x2 : Int} (H : ((x1 < 0 → Φ (-1) h) ∧ (0 ≤ x1 → ((1000000 < x1 → Φ (-1) h) ∧ (x1 ≤ 1000000 → ((x2 < 0 → Φ (-1) h) ∧ (0 ≤ x2 → ((10000 < x2 → Φ (-1) h) ∧ (x2 ≤ 10000 → Φ 1 (up (up (up h 85 18 x1) 85 19 (imin (h 85 19) x1)) 85 20 x2)))))))))) : AT G m_X12_power 0 [(0, rv 85), (1, iv x1), (2, iv x2)] [] h Φ := by
  refine a_iload_n (pc := 0) (dk dt_X12_power 0 rfl) rfl ?_
  refine a_iconst (pc := 1) (dk dt_X12_power 1 rfl) (ik rfl) ?_
  refine a_ldcw (n := 1000000) (pc := 2) (dk dt_X12_power 2 rfl) (ik rfl) co_RX12_412 ?_
  refine a_callSi (as := [iv x1, iv 0, iv 1000000]) (st := []) (pc := 5) (dk dt_X12_power 3 rfl) cl_RX12_302 ⟨Nat.le_of_ble_eq_true rfl, Nat.le_of_ble_eq_true rfl⟩ ⟨Nat.le_of_ble_eq_true rfl, Nat.le_of_ble_eq_true rfl⟩ rfl rfl rfl (Nat.le_of_ble_eq_true rfl) (Call.of rfl (Nat.le_of_ble_eq_true rfl) rfl ?_)
  refine a_iload_n (pc := 0) (dk dt_X12_is 0 rfl) rfl ?_
  refine a_iload_n (pc := 1) (dk dt_X12_is 1 rfl) rfl ?_
  refine a_icmp_lt (pc := 2) (dk dt_X12_is 2 rfl) (tgt := 14) rfl ⟨fun c => ?_, fun c => ?_⟩
  · replace H := H.1 c
    refine a_iconst (pc := 14) (dk dt_X12_is 8 rfl) (ik rfl) ?_
    refine a_zret (pc := 15) (dk dt_X12_is 9 rfl) rfl rfl ⟨by decide, ?_⟩
    show ATW _ _ _ _ _ _ _ _ _ _
    refine a_if_eq (pc := 8) (dk dt_X12_power 4 rfl) (tgt := 22) rfl ⟨fun _ => ?_, fun c => absurd c (by decide)⟩
    refine a_iconst (pc := 22) (dk dt_X12_power 10 rfl) (ik rfl) ?_
    exact a_iret (pc := 23) (dk dt_X12_power 11 rfl) rfl rfl H
  · replace H := H.2 c
    refine a_iload_n (pc := 5) (dk dt_X12_is 3 rfl) rfl ?_
    refine a_iload_n (pc := 6) (dk dt_X12_is 4 rfl) rfl ?_
    refine a_icmp_gt (pc := 7) (dk dt_X12_is 5 rfl) (tgt := 14) rfl ⟨fun c => ?_, fun c => ?_⟩
    · replace H := H.1 c
      refine a_iconst (pc := 14) (dk dt_X12_is 8 rfl) (ik rfl) ?_
      refine a_zret (pc := 15) (dk dt_X12_is 9 rfl) rfl rfl ⟨by decide, ?_⟩
      show ATW _ _ _ _ _ _ _ _ _ _
      refine a_if_eq (pc := 8) (dk dt_X12_power 4 rfl) (tgt := 22) rfl ⟨fun _ => ?_, fun c => absurd c (by decide)⟩
      refine a_iconst (pc := 22) (dk dt_X12_power 10 rfl) (ik rfl) ?_
      exact a_iret (pc := 23) (dk dt_X12_power 11 rfl) rfl rfl H
    · replace H := H.2 c
      refine a_iconst (pc := 10) (dk dt_X12_is 6 rfl) (ik rfl) ?_
      refine a_goto (pc := 11) (dk dt_X12_is 7 rfl) (tgt := 15) rfl ?_
      refine a_zret (pc := 15) (dk dt_X12_is 9 rfl) rfl rfl ⟨by decide, ?_⟩
      show ATW _ _ _ _ _ _ _ _ _ _
      refine a_if_eq (pc := 8) (dk dt_X12_power 4 rfl) (tgt := 22) rfl ⟨fun c => absurd c (by decide), fun _ => ?_⟩
      refine a_iload_n (pc := 11) (dk dt_X12_power 5 rfl) rfl ?_
      refine a_iconst (pc := 12) (dk dt_X12_power 6 rfl) (ik rfl) ?_
      refine a_sipush (pc := 13) (dk dt_X12_power 7 rfl) (ik rfl) (spk rfl) ?_
      refine a_callSi (as := [iv x2, iv 0, iv 10000]) (st := []) (pc := 16) (dk dt_X12_power 8 rfl) cl_RX12_302 ⟨Nat.le_of_ble_eq_true rfl, Nat.le_of_ble_eq_true rfl⟩ ⟨Nat.le_of_ble_eq_true rfl, Nat.le_of_ble_eq_true rfl⟩ rfl rfl rfl (Nat.le_of_ble_eq_true rfl) (Call.of rfl (Nat.le_of_ble_eq_true rfl) rfl ?_)
      refine a_iload_n (pc := 0) (dk dt_X12_is 0 rfl) rfl ?_
      refine a_iload_n (pc := 1) (dk dt_X12_is 1 rfl) rfl ?_
      refine a_icmp_lt (pc := 2) (dk dt_X12_is 2 rfl) (tgt := 14) rfl ⟨fun c => ?_, fun c => ?_⟩
      · replace H := H.1 c
        refine a_iconst (pc := 14) (dk dt_X12_is 8 rfl) (ik rfl) ?_
        refine a_zret (pc := 15) (dk dt_X12_is 9 rfl) rfl rfl ⟨by decide, ?_⟩
        show ATW _ _ _ _ _ _ _ _ _ _
        refine a_if_ne (pc := 19) (dk dt_X12_power 9 rfl) (tgt := 24) rfl ⟨fun c => absurd c (by decide), fun _ => ?_⟩
        refine a_iconst (pc := 22) (dk dt_X12_power 10 rfl) (ik rfl) ?_
        exact a_iret (pc := 23) (dk dt_X12_power 11 rfl) rfl rfl H
      · replace H := H.2 c
        refine a_iload_n (pc := 5) (dk dt_X12_is 3 rfl) rfl ?_
        refine a_iload_n (pc := 6) (dk dt_X12_is 4 rfl) rfl ?_
        refine a_icmp_gt (pc := 7) (dk dt_X12_is 5 rfl) (tgt := 14) rfl ⟨fun c => ?_, fun c => ?_⟩
        · replace H := H.1 c
          refine a_iconst (pc := 14) (dk dt_X12_is 8 rfl) (ik rfl) ?_
          refine a_zret (pc := 15) (dk dt_X12_is 9 rfl) rfl rfl ⟨by decide, ?_⟩
          show ATW _ _ _ _ _ _ _ _ _ _
          refine a_if_ne (pc := 19) (dk dt_X12_power 9 rfl) (tgt := 24) rfl ⟨fun c => absurd c (by decide), fun _ => ?_⟩
          refine a_iconst (pc := 22) (dk dt_X12_power 10 rfl) (ik rfl) ?_
          exact a_iret (pc := 23) (dk dt_X12_power 11 rfl) rfl rfl H
        · replace H := H.2 c
          refine a_iconst (pc := 10) (dk dt_X12_is 6 rfl) (ik rfl) ?_
          refine a_goto (pc := 11) (dk dt_X12_is 7 rfl) (tgt := 15) rfl ?_
          refine a_zret (pc := 15) (dk dt_X12_is 9 rfl) rfl rfl ⟨by decide, ?_⟩
          show ATW _ _ _ _ _ _ _ _ _ _
          refine a_if_ne (pc := 19) (dk dt_X12_power 9 rfl) (tgt := 24) rfl ⟨fun _ => ?_, fun c => absurd c (by decide)⟩
          refine a_aload_n (pc := 24) (dk dt_X12_power 12 rfl) rfl ?_
          refine a_iload_n (pc := 25) (dk dt_X12_power 13 rfl) rfl ?_
          refine a_puti (pc := 26) (dk dt_X12_power 14 rfl) cls_12 fl_RX12_35 cf_85_18 rfl rfl ?_
          refine a_aload_n (pc := 29) (dk dt_X12_power 15 rfl) rfl ?_
          refine a_aload_n (pc := 30) (dk dt_X12_power 16 rfl) rfl ?_
          refine a_geti (pc := 31) (dk dt_X12_power 17 rfl) cls_12 fl_RX12_38 cf_85_19 ?_
          refine a_top (y := (h 85 19)) (by simp [up, cpy]) ?_
          refine a_aload_n (pc := 34) (dk dt_X12_power 18 rfl) rfl ?_
          refine a_geti (pc := 35) (dk dt_X12_power 19 rfl) cls_12 fl_RX12_35 cf_85_18 ?_
          refine a_top (y := x1) (by simp [up, cpy]) ?_
          refine a_mmin (pc := 38) (dk dt_X12_power 20 rfl) cl_RX12_413 ⟨Nat.le_of_ble_eq_true rfl, Nat.le_of_ble_eq_true rfl⟩ ⟨Nat.le_of_ble_eq_true rfl, Nat.le_of_ble_eq_true rfl⟩ ?_
          refine a_puti (pc := 41) (dk dt_X12_power 21 rfl) cls_12 fl_RX12_38 cf_85_19 rfl rfl ?_
          refine a_aload_n (pc := 44) (dk dt_X12_power 22 rfl) rfl ?_
          refine a_iload_n (pc := 45) (dk dt_X12_power 23 rfl) rfl ?_
          refine a_puti (pc := 46) (dk dt_X12_power 24 rfl) cls_12 fl_RX12_41 cf_85_20 rfl rfl ?_
          refine a_iconst (pc := 49) (dk dt_X12_power 25 rfl) (ik rfl) ?_
          exact a_iret (pc := 50) (dk dt_X12_power 26 rfl) rfl rfl H
set_option maxHeartbeats 40000000 in
theorem U_X12_load_85_0 {G : GG} {Φ : Int → Hp → Prop} {h : Hp} {x1 : Int} {x2 : Int} {x3 : Int} (H : ((x1 < 0 → Φ (-1) h) ∧ (0 ≤ x1 → ((7 < x1 → Φ (-1) h) ∧ (x1 ≤ 7 → ((x2 < 0 → Φ (-1) h) ∧ (0 ≤ x2 → ((1000 < x2 → Φ (-1) h) ∧ (x2 ≤ 1000 → ((x3 < 0 → Φ (-1) h) ∧ (0 ≤ x3 → ((9 < x3 → Φ (-1) h) ∧ (x3 ≤ 9 → (0 ≤ x1 ∧ x1 < 8) ∧ (0 ≤ x1 ∧ x1 < 8) ∧ Φ 1 (up (up h 93 x1 x2) 94 x1 x3)))))))))))))) : AT G m_X12_load 0 [(0, rv 85), (1, iv x1), (2, iv x2), (3, iv x3)] [] h Φ := by
  refine a_iload_n (pc := 0) (dk dt_X12_load 0 rfl) rfl ?_
  refine a_iconst (pc := 1) (dk dt_X12_load 1 rfl) (ik rfl) ?_
  refine a_bipush (pc := 2) (dk dt_X12_load 2 rfl) (ik rfl) (bpk rfl) ?_
  refine a_callSi (as := [iv x1, iv 0, iv 7]) (st := []) (pc := 4) (dk dt_X12_load 3 rfl) cl_RX12_302 ⟨Nat.le_of_ble_eq_true rfl, Nat.le_of_ble_eq_true rfl⟩ ⟨Nat.le_of_ble_eq_true rfl, Nat.le_of_ble_eq_true rfl⟩ rfl rfl rfl (Nat.le_of_ble_eq_true rfl) (Call.of rfl (Nat.le_of_ble_eq_true rfl) rfl ?_)
  refine a_iload_n (pc := 0) (dk dt_X12_is 0 rfl) rfl ?_
  refine a_iload_n (pc := 1) (dk dt_X12_is 1 rfl) rfl ?_
  refine a_icmp_lt (pc := 2) (dk dt_X12_is 2 rfl) (tgt := 14) rfl ⟨fun c => ?_, fun c => ?_⟩
  · replace H := H.1 c
    refine a_iconst (pc := 14) (dk dt_X12_is 8 rfl) (ik rfl) ?_
    refine a_zret (pc := 15) (dk dt_X12_is 9 rfl) rfl rfl ⟨by decide, ?_⟩
    show ATW _ _ _ _ _ _ _ _ _ _
    refine a_if_eq (pc := 7) (dk dt_X12_load 4 rfl) (tgt := 31) rfl ⟨fun _ => ?_, fun c => absurd c (by decide)⟩
    refine a_iconst (pc := 31) (dk dt_X12_load 15 rfl) (ik rfl) ?_
    exact a_iret (pc := 32) (dk dt_X12_load 16 rfl) rfl rfl H
  · replace H := H.2 c
    refine a_iload_n (pc := 5) (dk dt_X12_is 3 rfl) rfl ?_
    refine a_iload_n (pc := 6) (dk dt_X12_is 4 rfl) rfl ?_
    refine a_icmp_gt (pc := 7) (dk dt_X12_is 5 rfl) (tgt := 14) rfl ⟨fun c => ?_, fun c => ?_⟩
    · replace H := H.1 c
      refine a_iconst (pc := 14) (dk dt_X12_is 8 rfl) (ik rfl) ?_
      refine a_zret (pc := 15) (dk dt_X12_is 9 rfl) rfl rfl ⟨by decide, ?_⟩
      show ATW _ _ _ _ _ _ _ _ _ _
      refine a_if_eq (pc := 7) (dk dt_X12_load 4 rfl) (tgt := 31) rfl ⟨fun _ => ?_, fun c => absurd c (by decide)⟩
      refine a_iconst (pc := 31) (dk dt_X12_load 15 rfl) (ik rfl) ?_
      exact a_iret (pc := 32) (dk dt_X12_load 16 rfl) rfl rfl H
    · replace H := H.2 c
      refine a_iconst (pc := 10) (dk dt_X12_is 6 rfl) (ik rfl) ?_
      refine a_goto (pc := 11) (dk dt_X12_is 7 rfl) (tgt := 15) rfl ?_
      refine a_zret (pc := 15) (dk dt_X12_is 9 rfl) rfl rfl ⟨by decide, ?_⟩
      show ATW _ _ _ _ _ _ _ _ _ _
      refine a_if_eq (pc := 7) (dk dt_X12_load 4 rfl) (tgt := 31) rfl ⟨fun c => absurd c (by decide), fun _ => ?_⟩
      refine a_iload_n (pc := 10) (dk dt_X12_load 5 rfl) rfl ?_
      refine a_iconst (pc := 11) (dk dt_X12_load 6 rfl) (ik rfl) ?_
      refine a_sipush (pc := 12) (dk dt_X12_load 7 rfl) (ik rfl) (spk rfl) ?_
      refine a_callSi (as := [iv x2, iv 0, iv 1000]) (st := []) (pc := 15) (dk dt_X12_load 8 rfl) cl_RX12_302 ⟨Nat.le_of_ble_eq_true rfl, Nat.le_of_ble_eq_true rfl⟩ ⟨Nat.le_of_ble_eq_true rfl, Nat.le_of_ble_eq_true rfl⟩ rfl rfl rfl (Nat.le_of_ble_eq_true rfl) (Call.of rfl (Nat.le_of_ble_eq_true rfl) rfl ?_)
      refine a_iload_n (pc := 0) (dk dt_X12_is 0 rfl) rfl ?_
      refine a_iload_n (pc := 1) (dk dt_X12_is 1 rfl) rfl ?_
      refine a_icmp_lt (pc := 2) (dk dt_X12_is 2 rfl) (tgt := 14) rfl ⟨fun c => ?_, fun c => ?_⟩
      · replace H := H.1 c
        refine a_iconst (pc := 14) (dk dt_X12_is 8 rfl) (ik rfl) ?_
        refine a_zret (pc := 15) (dk dt_X12_is 9 rfl) rfl rfl ⟨by decide, ?_⟩
        show ATW _ _ _ _ _ _ _ _ _ _
        refine a_if_eq (pc := 18) (dk dt_X12_load 9 rfl) (tgt := 31) rfl ⟨fun _ => ?_, fun c => absurd c (by decide)⟩
        refine a_iconst (pc := 31) (dk dt_X12_load 15 rfl) (ik rfl) ?_
        exact a_iret (pc := 32) (dk dt_X12_load 16 rfl) rfl rfl H
      · replace H := H.2 c
        refine a_iload_n (pc := 5) (dk dt_X12_is 3 rfl) rfl ?_
        refine a_iload_n (pc := 6) (dk dt_X12_is 4 rfl) rfl ?_
        refine a_icmp_gt (pc := 7) (dk dt_X12_is 5 rfl) (tgt := 14) rfl ⟨fun c => ?_, fun c => ?_⟩
        · replace H := H.1 c
          refine a_iconst (pc := 14) (dk dt_X12_is 8 rfl) (ik rfl) ?_
          refine a_zret (pc := 15) (dk dt_X12_is 9 rfl) rfl rfl ⟨by decide, ?_⟩
          show ATW _ _ _ _ _ _ _ _ _ _
          refine a_if_eq (pc := 18) (dk dt_X12_load 9 rfl) (tgt := 31) rfl ⟨fun _ => ?_, fun c => absurd c (by decide)⟩
          refine a_iconst (pc := 31) (dk dt_X12_load 15 rfl) (ik rfl) ?_
          exact a_iret (pc := 32) (dk dt_X12_load 16 rfl) rfl rfl H
        · replace H := H.2 c
          refine a_iconst (pc := 10) (dk dt_X12_is 6 rfl) (ik rfl) ?_
          refine a_goto (pc := 11) (dk dt_X12_is 7 rfl) (tgt := 15) rfl ?_
          refine a_zret (pc := 15) (dk dt_X12_is 9 rfl) rfl rfl ⟨by decide, ?_⟩
          show ATW _ _ _ _ _ _ _ _ _ _
          refine a_if_eq (pc := 18) (dk dt_X12_load 9 rfl) (tgt := 31) rfl ⟨fun c => absurd c (by decide), fun _ => ?_⟩
          refine a_iload_n (pc := 21) (dk dt_X12_load 10 rfl) rfl ?_
          refine a_iconst (pc := 22) (dk dt_X12_load 11 rfl) (ik rfl) ?_
          refine a_bipush (pc := 23) (dk dt_X12_load 12 rfl) (ik rfl) (bpk rfl) ?_
          refine a_callSi (as := [iv x3, iv 0, iv 9]) (st := []) (pc := 25) (dk dt_X12_load 13 rfl) cl_RX12_302 ⟨Nat.le_of_ble_eq_true rfl, Nat.le_of_ble_eq_true rfl⟩ ⟨Nat.le_of_ble_eq_true rfl, Nat.le_of_ble_eq_true rfl⟩ rfl rfl rfl (Nat.le_of_ble_eq_true rfl) (Call.of rfl (Nat.le_of_ble_eq_true rfl) rfl ?_)
          refine a_iload_n (pc := 0) (dk dt_X12_is 0 rfl) rfl ?_
          refine a_iload_n (pc := 1) (dk dt_X12_is 1 rfl) rfl ?_
          refine a_icmp_lt (pc := 2) (dk dt_X12_is 2 rfl) (tgt := 14) rfl ⟨fun c => ?_, fun c => ?_⟩
          · replace H := H.1 c
            refine a_iconst (pc := 14) (dk dt_X12_is 8 rfl) (ik rfl) ?_
            refine a_zret (pc := 15) (dk dt_X12_is 9 rfl) rfl rfl ⟨by decide, ?_⟩
            show ATW _ _ _ _ _ _ _ _ _ _
            refine a_if_ne (pc := 28) (dk dt_X12_load 14 rfl) (tgt := 33) rfl ⟨fun c => absurd c (by decide), fun _ => ?_⟩
            refine a_iconst (pc := 31) (dk dt_X12_load 15 rfl) (ik rfl) ?_
            exact a_iret (pc := 32) (dk dt_X12_load 16 rfl) rfl rfl H
          · replace H := H.2 c
            refine a_iload_n (pc := 5) (dk dt_X12_is 3 rfl) rfl ?_
            refine a_iload_n (pc := 6) (dk dt_X12_is 4 rfl) rfl ?_
            refine a_icmp_gt (pc := 7) (dk dt_X12_is 5 rfl) (tgt := 14) rfl ⟨fun c => ?_, fun c => ?_⟩
            · replace H := H.1 c
              refine a_iconst (pc := 14) (dk dt_X12_is 8 rfl) (ik rfl) ?_
              refine a_zret (pc := 15) (dk dt_X12_is 9 rfl) rfl rfl ⟨by decide, ?_⟩
              show ATW _ _ _ _ _ _ _ _ _ _
              refine a_if_ne (pc := 28) (dk dt_X12_load 14 rfl) (tgt := 33) rfl ⟨fun c => absurd c (by decide), fun _ => ?_⟩
              refine a_iconst (pc := 31) (dk dt_X12_load 15 rfl) (ik rfl) ?_
              exact a_iret (pc := 32) (dk dt_X12_load 16 rfl) rfl rfl H
            · replace H := H.2 c
              refine a_iconst (pc := 10) (dk dt_X12_is 6 rfl) (ik rfl) ?_
              refine a_goto (pc := 11) (dk dt_X12_is 7 rfl) (tgt := 15) rfl ?_
              refine a_zret (pc := 15) (dk dt_X12_is 9 rfl) rfl rfl ⟨by decide, ?_⟩
              show ATW _ _ _ _ _ _ _ _ _ _
              refine a_if_ne (pc := 28) (dk dt_X12_load 14 rfl) (tgt := 33) rfl ⟨fun _ => ?_, fun c => absurd c (by decide)⟩
              refine a_aload_n (pc := 33) (dk dt_X12_load 17 rfl) rfl ?_
              refine a_getr (r := 92) (pc := 34) (dk dt_X12_load 18 rfl) cls_12 fl_RX12_44 cf_85_24 ?_
              refine a_iload_n (pc := 37) (dk dt_X12_load 19 rfl) rfl ?_
              refine a_iload_n (pc := 38) (dk dt_X12_load 20 rfl) rfl ?_
              refine a_iast (pc := 39) (dk dt_X12_load 21 rfl) ar_93 ⟨H.1, ?_⟩
              replace H := H.2
              refine a_aload_n (pc := 40) (dk dt_X12_load 22 rfl) rfl ?_
              refine a_getr (r := 93) (pc := 41) (dk dt_X12_load 23 rfl) cls_12 fl_RX12_47 cf_85_25 ?_
              refine a_iload_n (pc := 44) (dk dt_X12_load 24 rfl) rfl ?_
              refine a_iload_n (pc := 45) (dk dt_X12_load 25 rfl) rfl ?_
              refine a_iast (pc := 46) (dk dt_X12_load 26 rfl) ar_94 ⟨H.1, ?_⟩
              replace H := H.2
              refine a_iconst (pc := 47) (dk dt_X12_load 27 rfl) (ik rfl) ?_
              exact a_iret (pc := 48) (dk dt_X12_load 28 rfl) rfl rfl H
set_option maxHeartbeats 40000000 in
theorem U_X12_program_85_0 {G : GG} {Φ : Int → Hp → Prop} {h : Hp} {x1 : Int} (H : ((x1 < 0 → Φ (-1) h) ∧ (0 ≤ x1 → ((7 < x1 → Φ (-1) h) ∧ (x1 ≤ 7 → Call G m_X12_take [rv 85] h (fun _ h2 => AT G m_X12_program 18 [(0, rv 85), (1, iv x1), (2, iv 0)] [] h2 Φ)))))) : AT G m_X12_program 0 [(0, rv 85), (1, iv x1)] [] h Φ := by
  refine a_iload_n (pc := 0) (dk dt_X12_program 0 rfl) rfl ?_
  refine a_iconst (pc := 1) (dk dt_X12_program 1 rfl) (ik rfl) ?_
  refine a_bipush (pc := 2) (dk dt_X12_program 2 rfl) (ik rfl) (bpk rfl) ?_
  refine a_callSi (as := [iv x1, iv 0, iv 7]) (st := []) (pc := 4) (dk dt_X12_program 3 rfl) cl_RX12_302 ⟨Nat.le_of_ble_eq_true rfl, Nat.le_of_ble_eq_true rfl⟩ ⟨Nat.le_of_ble_eq_true rfl, Nat.le_of_ble_eq_true rfl⟩ rfl rfl rfl (Nat.le_of_ble_eq_true rfl) (Call.of rfl (Nat.le_of_ble_eq_true rfl) rfl ?_)
  refine a_iload_n (pc := 0) (dk dt_X12_is 0 rfl) rfl ?_
  refine a_iload_n (pc := 1) (dk dt_X12_is 1 rfl) rfl ?_
  refine a_icmp_lt (pc := 2) (dk dt_X12_is 2 rfl) (tgt := 14) rfl ⟨fun c => ?_, fun c => ?_⟩
  · replace H := H.1 c
    refine a_iconst (pc := 14) (dk dt_X12_is 8 rfl) (ik rfl) ?_
    refine a_zret (pc := 15) (dk dt_X12_is 9 rfl) rfl rfl ⟨by decide, ?_⟩
    show ATW _ _ _ _ _ _ _ _ _ _
    refine a_if_ne (pc := 7) (dk dt_X12_program 4 rfl) (tgt := 12) rfl ⟨fun c => absurd c (by decide), fun _ => ?_⟩
    refine a_iconst (pc := 10) (dk dt_X12_program 5 rfl) (ik rfl) ?_
    exact a_iret (pc := 11) (dk dt_X12_program 6 rfl) rfl rfl H
  · replace H := H.2 c
    refine a_iload_n (pc := 5) (dk dt_X12_is 3 rfl) rfl ?_
    refine a_iload_n (pc := 6) (dk dt_X12_is 4 rfl) rfl ?_
    refine a_icmp_gt (pc := 7) (dk dt_X12_is 5 rfl) (tgt := 14) rfl ⟨fun c => ?_, fun c => ?_⟩
    · replace H := H.1 c
      refine a_iconst (pc := 14) (dk dt_X12_is 8 rfl) (ik rfl) ?_
      refine a_zret (pc := 15) (dk dt_X12_is 9 rfl) rfl rfl ⟨by decide, ?_⟩
      show ATW _ _ _ _ _ _ _ _ _ _
      refine a_if_ne (pc := 7) (dk dt_X12_program 4 rfl) (tgt := 12) rfl ⟨fun c => absurd c (by decide), fun _ => ?_⟩
      refine a_iconst (pc := 10) (dk dt_X12_program 5 rfl) (ik rfl) ?_
      exact a_iret (pc := 11) (dk dt_X12_program 6 rfl) rfl rfl H
    · replace H := H.2 c
      refine a_iconst (pc := 10) (dk dt_X12_is 6 rfl) (ik rfl) ?_
      refine a_goto (pc := 11) (dk dt_X12_is 7 rfl) (tgt := 15) rfl ?_
      refine a_zret (pc := 15) (dk dt_X12_is 9 rfl) rfl rfl ⟨by decide, ?_⟩
      show ATW _ _ _ _ _ _ _ _ _ _
      refine a_if_ne (pc := 7) (dk dt_X12_program 4 rfl) (tgt := 12) rfl ⟨fun _ => ?_, fun c => absurd c (by decide)⟩
      refine a_aload_n (pc := 12) (dk dt_X12_program 7 rfl) rfl ?_
      refine a_callVv (as := []) (st := []) (pc := 13) (dk dt_X12_program 8 rfl) cl_RX12_364 ⟨Nat.le_of_ble_eq_true rfl, Nat.le_of_ble_eq_true rfl⟩ ⟨Nat.le_of_ble_eq_true rfl, Nat.le_of_ble_eq_true rfl⟩ cls_12 rfl cc_85 rfl rfl rfl (Nat.le_of_ble_eq_true rfl) (Call.mono H fun _ h2 H => ?_)
      refine a_iconst (pc := 16) (dk dt_X12_program 9 rfl) (ik rfl) ?_
      refine a_istore_n (pc := 17) (dk dt_X12_program 10 rfl) (by decide) rfl rfl ?_
      exact a_pick [0, 1, 2] rfl H
set_option maxHeartbeats 40000000 in
theorem U_X12_program_85_18 {G : GG} {Φ : Int → Hp → Prop} {h : Hp} {x1 : Int} {x2 : Int} (H : (((h 85 6) < 0 → (((h 85 5) < (h 85 4) → ((x2 ≠ 30 → Call G m_X12_line [rv 85, rv 99] h (fun _ h2 => Call G m_X12_need [rv 85, iv 10] h2 (fun _ h4 => (((h4 85 6) < 0 → (0 ≤ x2 ∧ x2 < 30) ∧ (0 ≤ x2 ∧ x2 < 30) ∧ (0 ≤ x2 ∧ x2 < 30) ∧ (0 ≤ x2 ∧ x2 < 30) ∧ (0 ≤ x2 ∧ x2 < 30) ∧ (0 ≤ x2 ∧ x2 < 30) ∧ AT G m_X12_program 18 [(0, rv 85), (1, iv x1), (2, iv (w32 (x2 + 1)))] [] (up (up (up (up (up (up h4 118 x2 (h4 103 240)) 119 x2 (h4 104 240)) 120 x2 (h4 105 240)) 121 x2 (h4 106 240)) 122 x2 (h4 107 240)) 123 x2 (h4 108 240)) Φ) ∧ (0 ≤ (h4 85 6) → AT G m_X12_program 18 [(0, rv 85), (1, iv x1), (2, iv x2)] [] h4 Φ))))) ∧ (x2 = 30 → ((0 ≤ (h 85 6) → Call G m_X12_line [rv 85, rv 99] h (fun _ h6 => Call G m_X12_need [rv 85, iv 10] h6 (fun _ h8 => (((h8 85 6) < 0 → (0 ≤ x2 ∧ x2 < 30) ∧ (0 ≤ x2 ∧ x2 < 30) ∧ (0 ≤ x2 ∧ x2 < 30) ∧ (0 ≤ x2 ∧ x2 < 30) ∧ (0 ≤ x2 ∧ x2 < 30) ∧ (0 ≤ x2 ∧ x2 < 30) ∧ AT G m_X12_program 18 [(0, rv 85), (1, iv x1), (2, iv (w32 (x2 + 1)))] [] (up (up (up (up (up (up h8 118 x2 (h8 103 240)) 119 x2 (h8 104 240)) 120 x2 (h8 105 240)) 121 x2 (h8 106 240)) 122 x2 (h8 107 240)) 123 x2 (h8 108 240)) Φ) ∧ (0 ≤ (h8 85 6) → AT G m_X12_program 18 [(0, rv 85), (1, iv x1), (2, iv x2)] [] h8 Φ))))) ∧ ((h 85 6) < 0 → Call G m_X12_line [rv 85, rv 99] (up h 85 6 (h 85 5)) (fun _ h10 => Call G m_X12_need [rv 85, iv 10] h10 (fun _ h12 => (((h12 85 6) < 0 → (0 ≤ x2 ∧ x2 < 30) ∧ (0 ≤ x2 ∧ x2 < 30) ∧ (0 ≤ x2 ∧ x2 < 30) ∧ (0 ≤ x2 ∧ x2 < 30) ∧ (0 ≤ x2 ∧ x2 < 30) ∧ (0 ≤ x2 ∧ x2 < 30) ∧ AT G m_X12_program 18 [(0, rv 85), (1, iv x1), (2, iv (w32 (x2 + 1)))] [] (up (up (up (up (up (up h12 118 x2 (h12 103 240)) 119 x2 (h12 104 240)) 120 x2 (h12 105 240)) 121 x2 (h12 106 240)) 122 x2 (h12 107 240)) 123 x2 (h12 108 240)) Φ) ∧ (0 ≤ (h12 85 6) → AT G m_X12_program 18 [(0, rv 85), (1, iv x1), (2, iv x2)] [] h12 Φ))))))))) ∧ ((h 85 4) ≤ (h 85 5) → ((x2 ≠ 0 → (((h 85 6) < 0 → AT G m_X12_program 186 [(0, rv 85), (1, iv x1), (2, iv x2), (3, iv 0)] [] h Φ) ∧ (0 ≤ (h 85 6) → Φ (w32 ((-1000) - (h 85 6))) h))) ∧ (x2 = 0 → ((x2 ≠ 30 → Call G m_X12_line [rv 85, rv 99] h (fun _ h14 => Call G m_X12_need [rv 85, iv 10] h14 (fun _ h16 => (((h16 85 6) < 0 → (0 ≤ x2 ∧ x2 < 30) ∧ (0 ≤ x2 ∧ x2 < 30) ∧ (0 ≤ x2 ∧ x2 < 30) ∧ (0 ≤ x2 ∧ x2 < 30) ∧ (0 ≤ x2 ∧ x2 < 30) ∧ (0 ≤ x2 ∧ x2 < 30) ∧ AT G m_X12_program 18 [(0, rv 85), (1, iv x1), (2, iv (w32 (x2 + 1)))] [] (up (up (up (up (up (up h16 118 x2 (h16 103 240)) 119 x2 (h16 104 240)) 120 x2 (h16 105 240)) 121 x2 (h16 106 240)) 122 x2 (h16 107 240)) 123 x2 (h16 108 240)) Φ) ∧ (0 ≤ (h16 85 6) → AT G m_X12_program 18 [(0, rv 85), (1, iv x1), (2, iv x2)] [] h16 Φ))))) ∧ (x2 = 30 → ((0 ≤ (h 85 6) → Call G m_X12_line [rv 85, rv 99] h (fun _ h18 => Call G m_X12_need [rv 85, iv 10] h18 (fun _ h20 => (((h20 85 6) < 0 → (0 ≤ x2 ∧ x2 < 30) ∧ (0 ≤ x2 ∧ x2 < 30) ∧ (0 ≤ x2 ∧ x2 < 30) ∧ (0 ≤ x2 ∧ x2 < 30) ∧ (0 ≤ x2 ∧ x2 < 30) ∧ (0 ≤ x2 ∧ x2 < 30) ∧ AT G m_X12_program 18 [(0, rv 85), (1, iv x1), (2, iv (w32 (x2 + 1)))] [] (up (up (up (up (up (up h20 118 x2 (h20 103 240)) 119 x2 (h20 104 240)) 120 x2 (h20 105 240)) 121 x2 (h20 106 240)) 122 x2 (h20 107 240)) 123 x2 (h20 108 240)) Φ) ∧ (0 ≤ (h20 85 6) → AT G m_X12_program 18 [(0, rv 85), (1, iv x1), (2, iv x2)] [] h20 Φ))))) ∧ ((h 85 6) < 0 → Call G m_X12_line [rv 85, rv 99] (up h 85 6 (h 85 5)) (fun _ h22 => Call G m_X12_need [rv 85, iv 10] h22 (fun _ h24 => (((h24 85 6) < 0 → (0 ≤ x2 ∧ x2 < 30) ∧ (0 ≤ x2 ∧ x2 < 30) ∧ (0 ≤ x2 ∧ x2 < 30) ∧ (0 ≤ x2 ∧ x2 < 30) ∧ (0 ≤ x2 ∧ x2 < 30) ∧ (0 ≤ x2 ∧ x2 < 30) ∧ AT G m_X12_program 18 [(0, rv 85), (1, iv x1), (2, iv (w32 (x2 + 1)))] [] (up (up (up (up (up (up h24 118 x2 (h24 103 240)) 119 x2 (h24 104 240)) 120 x2 (h24 105 240)) 121 x2 (h24 106 240)) 122 x2 (h24 107 240)) 123 x2 (h24 108 240)) Φ) ∧ (0 ≤ (h24 85 6) → AT G m_X12_program 18 [(0, rv 85), (1, iv x1), (2, iv x2)] [] h24 Φ))))))))))))) ∧ (0 ≤ (h 85 6) → (((h 85 6) < 0 → AT G m_X12_program 186 [(0, rv 85), (1, iv x1), (2, iv x2), (3, iv 0)] [] h Φ) ∧ (0 ≤ (h 85 6) → Φ (w32 ((-1000) - (h 85 6))) h))))) : AT G m_X12_program 18 [(0, rv 85), (1, iv x1), (2, iv x2)] [] h Φ := by
  refine a_aload_n (pc := 18) (dk dt_X12_program 11 rfl) rfl ?_
  refine a_callVi (as := []) (st := []) (pc := 19) (dk dt_X12_program 12 rfl) cl_RX12_315 ⟨Nat.le_of_ble_eq_true rfl, Nat.le_of_ble_eq_true rfl⟩ ⟨Nat.le_of_ble_eq_true rfl, Nat.le_of_ble_eq_true rfl⟩ cls_12 rfl cc_85 rfl rfl rfl (Nat.le_of_ble_eq_true rfl) (Call.of rfl (Nat.le_of_ble_eq_true rfl) rfl ?_)
  refine a_aload_n (pc := 0) (dk dt_X12_bad 0 rfl) rfl ?_
  refine a_geti (pc := 1) (dk dt_X12_bad 1 rfl) cls_12 fl_RX12_312 cf_85_6 ?_
  refine a_if_lt (pc := 4) (dk dt_X12_bad 2 rfl) (tgt := 11) rfl ⟨fun c => ?_, fun c => ?_⟩
  · replace H := H.1 c
    refine a_iconst (pc := 11) (dk dt_X12_bad 5 rfl) (ik rfl) ?_
    refine a_zret (pc := 12) (dk dt_X12_bad 6 rfl) rfl rfl ⟨by decide, ?_⟩
    show ATW _ _ _ _ _ _ _ _ _ _
    refine a_if_ne (pc := 22) (dk dt_X12_program 13 rfl) (tgt := 168) rfl ⟨fun c => absurd c (by decide), fun _ => ?_⟩
    refine a_aload_n (pc := 25) (dk dt_X12_program 14 rfl) rfl ?_
    refine a_geti (pc := 26) (dk dt_X12_program 15 rfl) cls_12 fl_RX12_309 cf_85_5 ?_
    refine a_aload_n (pc := 29) (dk dt_X12_program 16 rfl) rfl ?_
    refine a_geti (pc := 30) (dk dt_X12_program 17 rfl) cls_12 fl_RX12_306 cf_85_4 ?_
    refine a_icmp_lt (pc := 33) (dk dt_X12_program 18 rfl) (tgt := 40) rfl ⟨fun c => ?_, fun c => ?_⟩
    · replace H := H.1 c
      refine a_iload_n (pc := 40) (dk dt_X12_program 21 rfl) rfl ?_
      refine a_bipush (pc := 41) (dk dt_X12_program 22 rfl) (ik rfl) (bpk rfl) ?_
      refine a_icmp_ne (pc := 43) (dk dt_X12_program 23 rfl) (tgt := 54) rfl ⟨fun c => ?_, fun c => ?_⟩
      · replace H := H.1 c
        refine a_aload_n (pc := 54) (dk dt_X12_program 28 rfl) rfl ?_
        refine a_aload_n (pc := 55) (dk dt_X12_program 29 rfl) rfl ?_
        refine a_getr (r := 98) (pc := 56) (dk dt_X12_program 30 rfl) cls_12 fl_RX12_95 cf_85_32 ?_
        refine a_callVv (as := [rv 99]) (st := []) (pc := 59) (dk dt_X12_program 31 rfl) cl_RX12_462 ⟨Nat.le_of_ble_eq_true rfl, Nat.le_of_ble_eq_true rfl⟩ ⟨Nat.le_of_ble_eq_true rfl, Nat.le_of_ble_eq_true rfl⟩ cls_12 rfl cc_85 rfl rfl rfl (Nat.le_of_ble_eq_true rfl) (Call.mono H fun _ h2 H => ?_)
        refine a_aload_n (pc := 62) (dk dt_X12_program 32 rfl) rfl ?_
        refine a_bipush (pc := 63) (dk dt_X12_program 33 rfl) (ik rfl) (bpk rfl) ?_
        refine a_callVv (as := [iv 10]) (st := []) (pc := 65) (dk dt_X12_program 34 rfl) cl_RX12_330 ⟨Nat.le_of_ble_eq_true rfl, Nat.le_of_ble_eq_true rfl⟩ ⟨Nat.le_of_ble_eq_true rfl, Nat.le_of_ble_eq_true rfl⟩ cls_12 rfl cc_85 rfl rfl rfl (Nat.le_of_ble_eq_true rfl) (Call.mono H fun _ h4 H => ?_)
        refine a_aload_n (pc := 68) (dk dt_X12_program 35 rfl) rfl ?_
        refine a_callVi (as := []) (st := []) (pc := 69) (dk dt_X12_program 36 rfl) cl_RX12_315 ⟨Nat.le_of_ble_eq_true rfl, Nat.le_of_ble_eq_true rfl⟩ ⟨Nat.le_of_ble_eq_true rfl, Nat.le_of_ble_eq_true rfl⟩ cls_12 rfl cc_85 rfl rfl rfl (Nat.le_of_ble_eq_true rfl) (Call.of rfl (Nat.le_of_ble_eq_true rfl) rfl ?_)
        refine a_aload_n (pc := 0) (dk dt_X12_bad 0 rfl) rfl ?_
        refine a_geti (pc := 1) (dk dt_X12_bad 1 rfl) cls_12 fl_RX12_312 cf_85_6 ?_
        refine a_if_lt (pc := 4) (dk dt_X12_bad 2 rfl) (tgt := 11) rfl ⟨fun c => ?_, fun c => ?_⟩
        · replace H := H.1 c
          refine a_iconst (pc := 11) (dk dt_X12_bad 5 rfl) (ik rfl) ?_
          refine a_zret (pc := 12) (dk dt_X12_bad 6 rfl) rfl rfl ⟨by decide, ?_⟩
          show ATW _ _ _ _ _ _ _ _ _ _
          refine a_if_eq (pc := 72) (dk dt_X12_program 37 rfl) (tgt := 78) rfl ⟨fun _ => ?_, fun c => absurd c (by decide)⟩
          refine a_aload_n (pc := 78) (dk dt_X12_program 39 rfl) rfl ?_
          refine a_getr (r := 117) (pc := 79) (dk dt_X12_program 40 rfl) cls_12 fl_RX12_183 cf_85_51 ?_
          refine a_iload_n (pc := 82) (dk dt_X12_program 41 rfl) rfl ?_
          refine a_aload_n (pc := 83) (dk dt_X12_program 42 rfl) rfl ?_
          refine a_getr (r := 102) (pc := 84) (dk dt_X12_program 43 rfl) cls_12 fl_RX12_138 cf_85_36 ?_
          refine a_sipush (pc := 87) (dk dt_X12_program 44 rfl) (ik rfl) (spk rfl) ?_
          refine a_iald (pc := 90) (dk dt_X12_program 45 rfl) ar_103 ⟨⟨by decide, by decide⟩, ?_⟩
          refine a_iast (pc := 91) (dk dt_X12_program 46 rfl) ar_118 ⟨H.1, ?_⟩
          replace H := H.2
          refine a_aload_n (pc := 92) (dk dt_X12_program 47 rfl) rfl ?_
          refine a_getr (r := 118) (pc := 93) (dk dt_X12_program 48 rfl) cls_12 fl_RX12_186 cf_85_52 ?_
          refine a_iload_n (pc := 96) (dk dt_X12_program 49 rfl) rfl ?_
          refine a_aload_n (pc := 97) (dk dt_X12_program 50 rfl) rfl ?_
          refine a_getr (r := 103) (pc := 98) (dk dt_X12_program 51 rfl) cls_12 fl_RX12_141 cf_85_37 ?_
          refine a_sipush (pc := 101) (dk dt_X12_program 52 rfl) (ik rfl) (spk rfl) ?_
          refine a_iald (pc := 104) (dk dt_X12_program 53 rfl) ar_104 ⟨⟨by decide, by decide⟩, ?_⟩
          refine a_top (y := (h4 104 240)) (by simp [up, cpy]) ?_
          refine a_iast (pc := 105) (dk dt_X12_program 54 rfl) ar_119 ⟨H.1, ?_⟩
          replace H := H.2
          refine a_aload_n (pc := 106) (dk dt_X12_program 55 rfl) rfl ?_
          refine a_getr (r := 119) (pc := 107) (dk dt_X12_program 56 rfl) cls_12 fl_RX12_189 cf_85_53 ?_
          refine a_iload_n (pc := 110) (dk dt_X12_program 57 rfl) rfl ?_
          refine a_aload_n (pc := 111) (dk dt_X12_program 58 rfl) rfl ?_
          refine a_getr (r := 104) (pc := 112) (dk dt_X12_program 59 rfl) cls_12 fl_RX12_144 cf_85_38 ?_
          refine a_sipush (pc := 115) (dk dt_X12_program 60 rfl) (ik rfl) (spk rfl) ?_
          refine a_iald (pc := 118) (dk dt_X12_program 61 rfl) ar_105 ⟨⟨by decide, by decide⟩, ?_⟩
          refine a_top (y := (h4 105 240)) (by simp [up, cpy]) ?_
          refine a_iast (pc := 119) (dk dt_X12_program 62 rfl) ar_120 ⟨H.1, ?_⟩
          replace H := H.2
          refine a_aload_n (pc := 120) (dk dt_X12_program 63 rfl) rfl ?_
          refine a_getr (r := 120) (pc := 121) (dk dt_X12_program 64 rfl) cls_12 fl_RX12_192 cf_85_54 ?_
          refine a_iload_n (pc := 124) (dk dt_X12_program 65 rfl) rfl ?_
          refine a_aload_n (pc := 125) (dk dt_X12_program 66 rfl) rfl ?_
          refine a_getr (r := 105) (pc := 126) (dk dt_X12_program 67 rfl) cls_12 fl_RX12_147 cf_85_39 ?_
          refine a_sipush (pc := 129) (dk dt_X12_program 68 rfl) (ik rfl) (spk rfl) ?_
          refine a_iald (pc := 132) (dk dt_X12_program 69 rfl) ar_106 ⟨⟨by decide, by decide⟩, ?_⟩
          refine a_top (y := (h4 106 240)) (by simp [up, cpy]) ?_
          refine a_iast (pc := 133) (dk dt_X12_program 70 rfl) ar_121 ⟨H.1, ?_⟩
          replace H := H.2
          refine a_aload_n (pc := 134) (dk dt_X12_program 71 rfl) rfl ?_
          refine a_getr (r := 121) (pc := 135) (dk dt_X12_program 72 rfl) cls_12 fl_RX12_195 cf_85_55 ?_
          refine a_iload_n (pc := 138) (dk dt_X12_program 73 rfl) rfl ?_
          refine a_aload_n (pc := 139) (dk dt_X12_program 74 rfl) rfl ?_
          refine a_getr (r := 106) (pc := 140) (dk dt_X12_program 75 rfl) cls_12 fl_RX12_150 cf_85_40 ?_
          refine a_sipush (pc := 143) (dk dt_X12_program 76 rfl) (ik rfl) (spk rfl) ?_
          refine a_iald (pc := 146) (dk dt_X12_program 77 rfl) ar_107 ⟨⟨by decide, by decide⟩, ?_⟩
          refine a_top (y := (h4 107 240)) (by simp [up, cpy]) ?_
          refine a_iast (pc := 147) (dk dt_X12_program 78 rfl) ar_122 ⟨H.1, ?_⟩
          replace H := H.2
          refine a_aload_n (pc := 148) (dk dt_X12_program 79 rfl) rfl ?_
          refine a_getr (r := 122) (pc := 149) (dk dt_X12_program 80 rfl) cls_12 fl_RX12_198 cf_85_56 ?_
          refine a_iload_n (pc := 152) (dk dt_X12_program 81 rfl) rfl ?_
          refine a_aload_n (pc := 153) (dk dt_X12_program 82 rfl) rfl ?_
          refine a_getr (r := 107) (pc := 154) (dk dt_X12_program 83 rfl) cls_12 fl_RX12_153 cf_85_41 ?_
          refine a_sipush (pc := 157) (dk dt_X12_program 84 rfl) (ik rfl) (spk rfl) ?_
          refine a_iald (pc := 160) (dk dt_X12_program 85 rfl) ar_108 ⟨⟨by decide, by decide⟩, ?_⟩
          refine a_top (y := (h4 108 240)) (by simp [up, cpy]) ?_
          refine a_iast (pc := 161) (dk dt_X12_program 86 rfl) ar_123 ⟨H.1, ?_⟩
          replace H := H.2
          refine a_iinc (pc := 162) (dk dt_X12_program 87 rfl) (by decide) rfl rfl rfl ?_
          refine a_goto (pc := 165) (dk dt_X12_program 88 rfl) (tgt := 18) rfl ?_
          exact a_pick [0, 1, 2] rfl H
        · replace H := H.2 c
          refine a_iconst (pc := 7) (dk dt_X12_bad 3 rfl) (ik rfl) ?_
          refine a_goto (pc := 8) (dk dt_X12_bad 4 rfl) (tgt := 12) rfl ?_
          refine a_zret (pc := 12) (dk dt_X12_bad 6 rfl) rfl rfl ⟨by decide, ?_⟩
          show ATW _ _ _ _ _ _ _ _ _ _
          refine a_if_eq (pc := 72) (dk dt_X12_program 37 rfl) (tgt := 78) rfl ⟨fun c => absurd c (by decide), fun _ => ?_⟩
          refine a_goto (pc := 75) (dk dt_X12_program 38 rfl) (tgt := 18) rfl ?_
          exact a_pick [0, 1, 2] rfl H
      · replace H := H.2 c
        refine a_aload_n (pc := 46) (dk dt_X12_program 24 rfl) rfl ?_
        refine a_aload_n (pc := 47) (dk dt_X12_program 25 rfl) rfl ?_
        refine a_geti (pc := 48) (dk dt_X12_program 26 rfl) cls_12 fl_RX12_309 cf_85_5 ?_
        refine a_callVv (as := [iv (h 85 5)]) (st := []) (pc := 51) (dk dt_X12_program 27 rfl) cl_RX12_323 ⟨Nat.le_of_ble_eq_true rfl, Nat.le_of_ble_eq_true rfl⟩ ⟨Nat.le_of_ble_eq_true rfl, Nat.le_of_ble_eq_true rfl⟩ cls_12 rfl cc_85 rfl rfl rfl (Nat.le_of_ble_eq_true rfl) (Call.of rfl (Nat.le_of_ble_eq_true rfl) rfl ?_)
        refine a_aload_n (pc := 0) (dk dt_X12_fail 0 rfl) rfl ?_
        refine a_geti (pc := 1) (dk dt_X12_fail 1 rfl) cls_12 fl_RX12_312 cf_85_6 ?_
        refine a_if_ge (pc := 4) (dk dt_X12_fail 2 rfl) (tgt := 12) rfl ⟨fun c => ?_, fun c => ?_⟩
        · replace H := H.1 c
          refine a_vret (pc := 12) (dk dt_X12_fail 6 rfl) rfl rfl ?_
          show ATW _ _ _ _ _ _ _ _ _ _
          refine a_aload_n (pc := 54) (dk dt_X12_program 28 rfl) rfl ?_
          refine a_aload_n (pc := 55) (dk dt_X12_program 29 rfl) rfl ?_
          refine a_getr (r := 98) (pc := 56) (dk dt_X12_program 30 rfl) cls_12 fl_RX12_95 cf_85_32 ?_
          refine a_callVv (as := [rv 99]) (st := []) (pc := 59) (dk dt_X12_program 31 rfl) cl_RX12_462 ⟨Nat.le_of_ble_eq_true rfl, Nat.le_of_ble_eq_true rfl⟩ ⟨Nat.le_of_ble_eq_true rfl, Nat.le_of_ble_eq_true rfl⟩ cls_12 rfl cc_85 rfl rfl rfl (Nat.le_of_ble_eq_true rfl) (Call.mono H fun _ h6 H => ?_)
          refine a_aload_n (pc := 62) (dk dt_X12_program 32 rfl) rfl ?_
          refine a_bipush (pc := 63) (dk dt_X12_program 33 rfl) (ik rfl) (bpk rfl) ?_
          refine a_callVv (as := [iv 10]) (st := []) (pc := 65) (dk dt_X12_program 34 rfl) cl_RX12_330 ⟨Nat.le_of_ble_eq_true rfl, Nat.le_of_ble_eq_true rfl⟩ ⟨Nat.le_of_ble_eq_true rfl, Nat.le_of_ble_eq_true rfl⟩ cls_12 rfl cc_85 rfl rfl rfl (Nat.le_of_ble_eq_true rfl) (Call.mono H fun _ h8 H => ?_)
          refine a_aload_n (pc := 68) (dk dt_X12_program 35 rfl) rfl ?_
          refine a_callVi (as := []) (st := []) (pc := 69) (dk dt_X12_program 36 rfl) cl_RX12_315 ⟨Nat.le_of_ble_eq_true rfl, Nat.le_of_ble_eq_true rfl⟩ ⟨Nat.le_of_ble_eq_true rfl, Nat.le_of_ble_eq_true rfl⟩ cls_12 rfl cc_85 rfl rfl rfl (Nat.le_of_ble_eq_true rfl) (Call.of rfl (Nat.le_of_ble_eq_true rfl) rfl ?_)
          refine a_aload_n (pc := 0) (dk dt_X12_bad 0 rfl) rfl ?_
          refine a_geti (pc := 1) (dk dt_X12_bad 1 rfl) cls_12 fl_RX12_312 cf_85_6 ?_
          refine a_if_lt (pc := 4) (dk dt_X12_bad 2 rfl) (tgt := 11) rfl ⟨fun c => ?_, fun c => ?_⟩
          · replace H := H.1 c
            refine a_iconst (pc := 11) (dk dt_X12_bad 5 rfl) (ik rfl) ?_
            refine a_zret (pc := 12) (dk dt_X12_bad 6 rfl) rfl rfl ⟨by decide, ?_⟩
            show ATW _ _ _ _ _ _ _ _ _ _
            refine a_if_eq (pc := 72) (dk dt_X12_program 37 rfl) (tgt := 78) rfl ⟨fun _ => ?_, fun c => absurd c (by decide)⟩
            refine a_aload_n (pc := 78) (dk dt_X12_program 39 rfl) rfl ?_
            refine a_getr (r := 117) (pc := 79) (dk dt_X12_program 40 rfl) cls_12 fl_RX12_183 cf_85_51 ?_
            refine a_iload_n (pc := 82) (dk dt_X12_program 41 rfl) rfl ?_
            refine a_aload_n (pc := 83) (dk dt_X12_program 42 rfl) rfl ?_
            refine a_getr (r := 102) (pc := 84) (dk dt_X12_program 43 rfl) cls_12 fl_RX12_138 cf_85_36 ?_
            refine a_sipush (pc := 87) (dk dt_X12_program 44 rfl) (ik rfl) (spk rfl) ?_
            refine a_iald (pc := 90) (dk dt_X12_program 45 rfl) ar_103 ⟨⟨by decide, by decide⟩, ?_⟩
            refine a_iast (pc := 91) (dk dt_X12_program 46 rfl) ar_118 ⟨H.1, ?_⟩
            replace H := H.2
            refine a_aload_n (pc := 92) (dk dt_X12_program 47 rfl) rfl ?_
            refine a_getr (r := 118) (pc := 93) (dk dt_X12_program 48 rfl) cls_12 fl_RX12_186 cf_85_52 ?_
            refine a_iload_n (pc := 96) (dk dt_X12_program 49 rfl) rfl ?_
            refine a_aload_n (pc := 97) (dk dt_X12_program 50 rfl) rfl ?_
            refine a_getr (r := 103) (pc := 98) (dk dt_X12_program 51 rfl) cls_12 fl_RX12_141 cf_85_37 ?_
            refine a_sipush (pc := 101) (dk dt_X12_program 52 rfl) (ik rfl) (spk rfl) ?_
            refine a_iald (pc := 104) (dk dt_X12_program 53 rfl) ar_104 ⟨⟨by decide, by decide⟩, ?_⟩
            refine a_top (y := (h8 104 240)) (by simp [up, cpy]) ?_
            refine a_iast (pc := 105) (dk dt_X12_program 54 rfl) ar_119 ⟨H.1, ?_⟩
            replace H := H.2
            refine a_aload_n (pc := 106) (dk dt_X12_program 55 rfl) rfl ?_
            refine a_getr (r := 119) (pc := 107) (dk dt_X12_program 56 rfl) cls_12 fl_RX12_189 cf_85_53 ?_
            refine a_iload_n (pc := 110) (dk dt_X12_program 57 rfl) rfl ?_
            refine a_aload_n (pc := 111) (dk dt_X12_program 58 rfl) rfl ?_
            refine a_getr (r := 104) (pc := 112) (dk dt_X12_program 59 rfl) cls_12 fl_RX12_144 cf_85_38 ?_
            refine a_sipush (pc := 115) (dk dt_X12_program 60 rfl) (ik rfl) (spk rfl) ?_
            refine a_iald (pc := 118) (dk dt_X12_program 61 rfl) ar_105 ⟨⟨by decide, by decide⟩, ?_⟩
            refine a_top (y := (h8 105 240)) (by simp [up, cpy]) ?_
            refine a_iast (pc := 119) (dk dt_X12_program 62 rfl) ar_120 ⟨H.1, ?_⟩
            replace H := H.2
            refine a_aload_n (pc := 120) (dk dt_X12_program 63 rfl) rfl ?_
            refine a_getr (r := 120) (pc := 121) (dk dt_X12_program 64 rfl) cls_12 fl_RX12_192 cf_85_54 ?_
            refine a_iload_n (pc := 124) (dk dt_X12_program 65 rfl) rfl ?_
            refine a_aload_n (pc := 125) (dk dt_X12_program 66 rfl) rfl ?_
            refine a_getr (r := 105) (pc := 126) (dk dt_X12_program 67 rfl) cls_12 fl_RX12_147 cf_85_39 ?_
            refine a_sipush (pc := 129) (dk dt_X12_program 68 rfl) (ik rfl) (spk rfl) ?_
            refine a_iald (pc := 132) (dk dt_X12_program 69 rfl) ar_106 ⟨⟨by decide, by decide⟩, ?_⟩
            refine a_top (y := (h8 106 240)) (by simp [up, cpy]) ?_
            refine a_iast (pc := 133) (dk dt_X12_program 70 rfl) ar_121 ⟨H.1, ?_⟩
            replace H := H.2
            refine a_aload_n (pc := 134) (dk dt_X12_program 71 rfl) rfl ?_
            refine a_getr (r := 121) (pc := 135) (dk dt_X12_program 72 rfl) cls_12 fl_RX12_195 cf_85_55 ?_
            refine a_iload_n (pc := 138) (dk dt_X12_program 73 rfl) rfl ?_
            refine a_aload_n (pc := 139) (dk dt_X12_program 74 rfl) rfl ?_
            refine a_getr (r := 106) (pc := 140) (dk dt_X12_program 75 rfl) cls_12 fl_RX12_150 cf_85_40 ?_
            refine a_sipush (pc := 143) (dk dt_X12_program 76 rfl) (ik rfl) (spk rfl) ?_
            refine a_iald (pc := 146) (dk dt_X12_program 77 rfl) ar_107 ⟨⟨by decide, by decide⟩, ?_⟩
            refine a_top (y := (h8 107 240)) (by simp [up, cpy]) ?_
            refine a_iast (pc := 147) (dk dt_X12_program 78 rfl) ar_122 ⟨H.1, ?_⟩
            replace H := H.2
            refine a_aload_n (pc := 148) (dk dt_X12_program 79 rfl) rfl ?_
            refine a_getr (r := 122) (pc := 149) (dk dt_X12_program 80 rfl) cls_12 fl_RX12_198 cf_85_56 ?_
            refine a_iload_n (pc := 152) (dk dt_X12_program 81 rfl) rfl ?_
            refine a_aload_n (pc := 153) (dk dt_X12_program 82 rfl) rfl ?_
            refine a_getr (r := 107) (pc := 154) (dk dt_X12_program 83 rfl) cls_12 fl_RX12_153 cf_85_41 ?_
            refine a_sipush (pc := 157) (dk dt_X12_program 84 rfl) (ik rfl) (spk rfl) ?_
            refine a_iald (pc := 160) (dk dt_X12_program 85 rfl) ar_108 ⟨⟨by decide, by decide⟩, ?_⟩
            refine a_top (y := (h8 108 240)) (by simp [up, cpy]) ?_
            refine a_iast (pc := 161) (dk dt_X12_program 86 rfl) ar_123 ⟨H.1, ?_⟩
            replace H := H.2
            refine a_iinc (pc := 162) (dk dt_X12_program 87 rfl) (by decide) rfl rfl rfl ?_
            refine a_goto (pc := 165) (dk dt_X12_program 88 rfl) (tgt := 18) rfl ?_
            exact a_pick [0, 1, 2] rfl H
          · replace H := H.2 c
            refine a_iconst (pc := 7) (dk dt_X12_bad 3 rfl) (ik rfl) ?_
            refine a_goto (pc := 8) (dk dt_X12_bad 4 rfl) (tgt := 12) rfl ?_
            refine a_zret (pc := 12) (dk dt_X12_bad 6 rfl) rfl rfl ⟨by decide, ?_⟩
            show ATW _ _ _ _ _ _ _ _ _ _
            refine a_if_eq (pc := 72) (dk dt_X12_program 37 rfl) (tgt := 78) rfl ⟨fun c => absurd c (by decide), fun _ => ?_⟩
            refine a_goto (pc := 75) (dk dt_X12_program 38 rfl) (tgt := 18) rfl ?_
            exact a_pick [0, 1, 2] rfl H
        · replace H := H.2 c
          refine a_aload_n (pc := 7) (dk dt_X12_fail 3 rfl) rfl ?_
          refine a_iload_n (pc := 8) (dk dt_X12_fail 4 rfl) rfl ?_
          refine a_puti (pc := 9) (dk dt_X12_fail 5 rfl) cls_12 fl_RX12_312 cf_85_6 rfl rfl ?_
          refine a_vret (pc := 12) (dk dt_X12_fail 6 rfl) rfl rfl ?_
          show ATW _ _ _ _ _ _ _ _ _ _
          refine a_aload_n (pc := 54) (dk dt_X12_program 28 rfl) rfl ?_
          refine a_aload_n (pc := 55) (dk dt_X12_program 29 rfl) rfl ?_
          refine a_getr (r := 98) (pc := 56) (dk dt_X12_program 30 rfl) cls_12 fl_RX12_95 cf_85_32 ?_
          refine a_callVv (as := [rv 99]) (st := []) (pc := 59) (dk dt_X12_program 31 rfl) cl_RX12_462 ⟨Nat.le_of_ble_eq_true rfl, Nat.le_of_ble_eq_true rfl⟩ ⟨Nat.le_of_ble_eq_true rfl, Nat.le_of_ble_eq_true rfl⟩ cls_12 rfl cc_85 rfl rfl rfl (Nat.le_of_ble_eq_true rfl) (Call.mono H fun _ h10 H => ?_)
          refine a_aload_n (pc := 62) (dk dt_X12_program 32 rfl) rfl ?_
          refine a_bipush (pc := 63) (dk dt_X12_program 33 rfl) (ik rfl) (bpk rfl) ?_
          refine a_callVv (as := [iv 10]) (st := []) (pc := 65) (dk dt_X12_program 34 rfl) cl_RX12_330 ⟨Nat.le_of_ble_eq_true rfl, Nat.le_of_ble_eq_true rfl⟩ ⟨Nat.le_of_ble_eq_true rfl, Nat.le_of_ble_eq_true rfl⟩ cls_12 rfl cc_85 rfl rfl rfl (Nat.le_of_ble_eq_true rfl) (Call.mono H fun _ h12 H => ?_)
          refine a_aload_n (pc := 68) (dk dt_X12_program 35 rfl) rfl ?_
          refine a_callVi (as := []) (st := []) (pc := 69) (dk dt_X12_program 36 rfl) cl_RX12_315 ⟨Nat.le_of_ble_eq_true rfl, Nat.le_of_ble_eq_true rfl⟩ ⟨Nat.le_of_ble_eq_true rfl, Nat.le_of_ble_eq_true rfl⟩ cls_12 rfl cc_85 rfl rfl rfl (Nat.le_of_ble_eq_true rfl) (Call.of rfl (Nat.le_of_ble_eq_true rfl) rfl ?_)
          refine a_aload_n (pc := 0) (dk dt_X12_bad 0 rfl) rfl ?_
          refine a_geti (pc := 1) (dk dt_X12_bad 1 rfl) cls_12 fl_RX12_312 cf_85_6 ?_
          refine a_if_lt (pc := 4) (dk dt_X12_bad 2 rfl) (tgt := 11) rfl ⟨fun c => ?_, fun c => ?_⟩
          · replace H := H.1 c
            refine a_iconst (pc := 11) (dk dt_X12_bad 5 rfl) (ik rfl) ?_
            refine a_zret (pc := 12) (dk dt_X12_bad 6 rfl) rfl rfl ⟨by decide, ?_⟩
            show ATW _ _ _ _ _ _ _ _ _ _
            refine a_if_eq (pc := 72) (dk dt_X12_program 37 rfl) (tgt := 78) rfl ⟨fun _ => ?_, fun c => absurd c (by decide)⟩
            refine a_aload_n (pc := 78) (dk dt_X12_program 39 rfl) rfl ?_
            refine a_getr (r := 117) (pc := 79) (dk dt_X12_program 40 rfl) cls_12 fl_RX12_183 cf_85_51 ?_
            refine a_iload_n (pc := 82) (dk dt_X12_program 41 rfl) rfl ?_
            refine a_aload_n (pc := 83) (dk dt_X12_program 42 rfl) rfl ?_
            refine a_getr (r := 102) (pc := 84) (dk dt_X12_program 43 rfl) cls_12 fl_RX12_138 cf_85_36 ?_
            refine a_sipush (pc := 87) (dk dt_X12_program 44 rfl) (ik rfl) (spk rfl) ?_
            refine a_iald (pc := 90) (dk dt_X12_program 45 rfl) ar_103 ⟨⟨by decide, by decide⟩, ?_⟩
            refine a_iast (pc := 91) (dk dt_X12_program 46 rfl) ar_118 ⟨H.1, ?_⟩
            replace H := H.2
            refine a_aload_n (pc := 92) (dk dt_X12_program 47 rfl) rfl ?_
            refine a_getr (r := 118) (pc := 93) (dk dt_X12_program 48 rfl) cls_12 fl_RX12_186 cf_85_52 ?_
            refine a_iload_n (pc := 96) (dk dt_X12_program 49 rfl) rfl ?_
            refine a_aload_n (pc := 97) (dk dt_X12_program 50 rfl) rfl ?_
            refine a_getr (r := 103) (pc := 98) (dk dt_X12_program 51 rfl) cls_12 fl_RX12_141 cf_85_37 ?_
            refine a_sipush (pc := 101) (dk dt_X12_program 52 rfl) (ik rfl) (spk rfl) ?_
            refine a_iald (pc := 104) (dk dt_X12_program 53 rfl) ar_104 ⟨⟨by decide, by decide⟩, ?_⟩
            refine a_top (y := (h12 104 240)) (by simp [up, cpy]) ?_
            refine a_iast (pc := 105) (dk dt_X12_program 54 rfl) ar_119 ⟨H.1, ?_⟩
            replace H := H.2
            refine a_aload_n (pc := 106) (dk dt_X12_program 55 rfl) rfl ?_
            refine a_getr (r := 119) (pc := 107) (dk dt_X12_program 56 rfl) cls_12 fl_RX12_189 cf_85_53 ?_
            refine a_iload_n (pc := 110) (dk dt_X12_program 57 rfl) rfl ?_
            refine a_aload_n (pc := 111) (dk dt_X12_program 58 rfl) rfl ?_
            refine a_getr (r := 104) (pc := 112) (dk dt_X12_program 59 rfl) cls_12 fl_RX12_144 cf_85_38 ?_
            refine a_sipush (pc := 115) (dk dt_X12_program 60 rfl) (ik rfl) (spk rfl) ?_
            refine a_iald (pc := 118) (dk dt_X12_program 61 rfl) ar_105 ⟨⟨by decide, by decide⟩, ?_⟩
            refine a_top (y := (h12 105 240)) (by simp [up, cpy]) ?_
            refine a_iast (pc := 119) (dk dt_X12_program 62 rfl) ar_120 ⟨H.1, ?_⟩
            replace H := H.2
            refine a_aload_n (pc := 120) (dk dt_X12_program 63 rfl) rfl ?_
            refine a_getr (r := 120) (pc := 121) (dk dt_X12_program 64 rfl) cls_12 fl_RX12_192 cf_85_54 ?_
            refine a_iload_n (pc := 124) (dk dt_X12_program 65 rfl) rfl ?_
            refine a_aload_n (pc := 125) (dk dt_X12_program 66 rfl) rfl ?_
            refine a_getr (r := 105) (pc := 126) (dk dt_X12_program 67 rfl) cls_12 fl_RX12_147 cf_85_39 ?_
            refine a_sipush (pc := 129) (dk dt_X12_program 68 rfl) (ik rfl) (spk rfl) ?_
            refine a_iald (pc := 132) (dk dt_X12_program 69 rfl) ar_106 ⟨⟨by decide, by decide⟩, ?_⟩
            refine a_top (y := (h12 106 240)) (by simp [up, cpy]) ?_
            refine a_iast (pc := 133) (dk dt_X12_program 70 rfl) ar_121 ⟨H.1, ?_⟩
            replace H := H.2
            refine a_aload_n (pc := 134) (dk dt_X12_program 71 rfl) rfl ?_
            refine a_getr (r := 121) (pc := 135) (dk dt_X12_program 72 rfl) cls_12 fl_RX12_195 cf_85_55 ?_
            refine a_iload_n (pc := 138) (dk dt_X12_program 73 rfl) rfl ?_
            refine a_aload_n (pc := 139) (dk dt_X12_program 74 rfl) rfl ?_
            refine a_getr (r := 106) (pc := 140) (dk dt_X12_program 75 rfl) cls_12 fl_RX12_150 cf_85_40 ?_
            refine a_sipush (pc := 143) (dk dt_X12_program 76 rfl) (ik rfl) (spk rfl) ?_
            refine a_iald (pc := 146) (dk dt_X12_program 77 rfl) ar_107 ⟨⟨by decide, by decide⟩, ?_⟩
            refine a_top (y := (h12 107 240)) (by simp [up, cpy]) ?_
            refine a_iast (pc := 147) (dk dt_X12_program 78 rfl) ar_122 ⟨H.1, ?_⟩
            replace H := H.2
            refine a_aload_n (pc := 148) (dk dt_X12_program 79 rfl) rfl ?_
            refine a_getr (r := 122) (pc := 149) (dk dt_X12_program 80 rfl) cls_12 fl_RX12_198 cf_85_56 ?_
            refine a_iload_n (pc := 152) (dk dt_X12_program 81 rfl) rfl ?_
            refine a_aload_n (pc := 153) (dk dt_X12_program 82 rfl) rfl ?_
            refine a_getr (r := 107) (pc := 154) (dk dt_X12_program 83 rfl) cls_12 fl_RX12_153 cf_85_41 ?_
            refine a_sipush (pc := 157) (dk dt_X12_program 84 rfl) (ik rfl) (spk rfl) ?_
            refine a_iald (pc := 160) (dk dt_X12_program 85 rfl) ar_108 ⟨⟨by decide, by decide⟩, ?_⟩
            refine a_top (y := (h12 108 240)) (by simp [up, cpy]) ?_
            refine a_iast (pc := 161) (dk dt_X12_program 86 rfl) ar_123 ⟨H.1, ?_⟩
            replace H := H.2
            refine a_iinc (pc := 162) (dk dt_X12_program 87 rfl) (by decide) rfl rfl rfl ?_
            refine a_goto (pc := 165) (dk dt_X12_program 88 rfl) (tgt := 18) rfl ?_
            exact a_pick [0, 1, 2] rfl H
          · replace H := H.2 c
            refine a_iconst (pc := 7) (dk dt_X12_bad 3 rfl) (ik rfl) ?_
            refine a_goto (pc := 8) (dk dt_X12_bad 4 rfl) (tgt := 12) rfl ?_
            refine a_zret (pc := 12) (dk dt_X12_bad 6 rfl) rfl rfl ⟨by decide, ?_⟩
            show ATW _ _ _ _ _ _ _ _ _ _
            refine a_if_eq (pc := 72) (dk dt_X12_program 37 rfl) (tgt := 78) rfl ⟨fun c => absurd c (by decide), fun _ => ?_⟩
            refine a_goto (pc := 75) (dk dt_X12_program 38 rfl) (tgt := 18) rfl ?_
            exact a_pick [0, 1, 2] rfl H
    · replace H := H.2 c
      refine a_iload_n (pc := 36) (dk dt_X12_program 19 rfl) rfl ?_
      refine a_if_ne (pc := 37) (dk dt_X12_program 20 rfl) (tgt := 168) rfl ⟨fun c => ?_, fun c => ?_⟩
      · replace H := H.1 c
        refine a_aload_n (pc := 168) (dk dt_X12_program 89 rfl) rfl ?_
        refine a_callVi (as := []) (st := []) (pc := 169) (dk dt_X12_program 90 rfl) cl_RX12_315 ⟨Nat.le_of_ble_eq_true rfl, Nat.le_of_ble_eq_true rfl⟩ ⟨Nat.le_of_ble_eq_true rfl, Nat.le_of_ble_eq_true rfl⟩ cls_12 rfl cc_85 rfl rfl rfl (Nat.le_of_ble_eq_true rfl) (Call.of rfl (Nat.le_of_ble_eq_true rfl) rfl ?_)
        refine a_aload_n (pc := 0) (dk dt_X12_bad 0 rfl) rfl ?_
        refine a_geti (pc := 1) (dk dt_X12_bad 1 rfl) cls_12 fl_RX12_312 cf_85_6 ?_
        refine a_if_lt (pc := 4) (dk dt_X12_bad 2 rfl) (tgt := 11) rfl ⟨fun c => ?_, fun c => ?_⟩
        · replace H := H.1 c
          refine a_iconst (pc := 11) (dk dt_X12_bad 5 rfl) (ik rfl) ?_
          refine a_zret (pc := 12) (dk dt_X12_bad 6 rfl) rfl rfl ⟨by decide, ?_⟩
          show ATW _ _ _ _ _ _ _ _ _ _
          refine a_if_eq (pc := 172) (dk dt_X12_program 91 rfl) (tgt := 184) rfl ⟨fun _ => ?_, fun c => absurd c (by decide)⟩
          refine a_iconst (pc := 184) (dk dt_X12_program 97 rfl) (ik rfl) ?_
          refine a_istore_n (pc := 185) (dk dt_X12_program 98 rfl) (by decide) rfl rfl ?_
          exact a_pick [0, 1, 2, 3] rfl H
        · replace H := H.2 c
          refine a_iconst (pc := 7) (dk dt_X12_bad 3 rfl) (ik rfl) ?_
          refine a_goto (pc := 8) (dk dt_X12_bad 4 rfl) (tgt := 12) rfl ?_
          refine a_zret (pc := 12) (dk dt_X12_bad 6 rfl) rfl rfl ⟨by decide, ?_⟩
          show ATW _ _ _ _ _ _ _ _ _ _
          refine a_if_eq (pc := 172) (dk dt_X12_program 91 rfl) (tgt := 184) rfl ⟨fun c => absurd c (by decide), fun _ => ?_⟩
          refine a_sipush (pc := 175) (dk dt_X12_program 92 rfl) (ik rfl) (spk rfl) ?_
          refine a_aload_n (pc := 178) (dk dt_X12_program 93 rfl) rfl ?_
          refine a_geti (pc := 179) (dk dt_X12_program 94 rfl) cls_12 fl_RX12_312 cf_85_6 ?_
          refine a_isub (pc := 182) (dk dt_X12_program 95 rfl) ?_
          exact a_iret (pc := 183) (dk dt_X12_program 96 rfl) rfl rfl H
      · replace H := H.2 c
        refine a_iload_n (pc := 40) (dk dt_X12_program 21 rfl) rfl ?_
        refine a_bipush (pc := 41) (dk dt_X12_program 22 rfl) (ik rfl) (bpk rfl) ?_
        refine a_icmp_ne (pc := 43) (dk dt_X12_program 23 rfl) (tgt := 54) rfl ⟨fun c => ?_, fun c => ?_⟩
        · replace H := H.1 c
          refine a_aload_n (pc := 54) (dk dt_X12_program 28 rfl) rfl ?_
          refine a_aload_n (pc := 55) (dk dt_X12_program 29 rfl) rfl ?_
          refine a_getr (r := 98) (pc := 56) (dk dt_X12_program 30 rfl) cls_12 fl_RX12_95 cf_85_32 ?_
          refine a_callVv (as := [rv 99]) (st := []) (pc := 59) (dk dt_X12_program 31 rfl) cl_RX12_462 ⟨Nat.le_of_ble_eq_true rfl, Nat.le_of_ble_eq_true rfl⟩ ⟨Nat.le_of_ble_eq_true rfl, Nat.le_of_ble_eq_true rfl⟩ cls_12 rfl cc_85 rfl rfl rfl (Nat.le_of_ble_eq_true rfl) (Call.mono H fun _ h14 H => ?_)
          refine a_aload_n (pc := 62) (dk dt_X12_program 32 rfl) rfl ?_
          refine a_bipush (pc := 63) (dk dt_X12_program 33 rfl) (ik rfl) (bpk rfl) ?_
          refine a_callVv (as := [iv 10]) (st := []) (pc := 65) (dk dt_X12_program 34 rfl) cl_RX12_330 ⟨Nat.le_of_ble_eq_true rfl, Nat.le_of_ble_eq_true rfl⟩ ⟨Nat.le_of_ble_eq_true rfl, Nat.le_of_ble_eq_true rfl⟩ cls_12 rfl cc_85 rfl rfl rfl (Nat.le_of_ble_eq_true rfl) (Call.mono H fun _ h16 H => ?_)
          refine a_aload_n (pc := 68) (dk dt_X12_program 35 rfl) rfl ?_
          refine a_callVi (as := []) (st := []) (pc := 69) (dk dt_X12_program 36 rfl) cl_RX12_315 ⟨Nat.le_of_ble_eq_true rfl, Nat.le_of_ble_eq_true rfl⟩ ⟨Nat.le_of_ble_eq_true rfl, Nat.le_of_ble_eq_true rfl⟩ cls_12 rfl cc_85 rfl rfl rfl (Nat.le_of_ble_eq_true rfl) (Call.of rfl (Nat.le_of_ble_eq_true rfl) rfl ?_)
          refine a_aload_n (pc := 0) (dk dt_X12_bad 0 rfl) rfl ?_
          refine a_geti (pc := 1) (dk dt_X12_bad 1 rfl) cls_12 fl_RX12_312 cf_85_6 ?_
          refine a_if_lt (pc := 4) (dk dt_X12_bad 2 rfl) (tgt := 11) rfl ⟨fun c => ?_, fun c => ?_⟩
          · replace H := H.1 c
            refine a_iconst (pc := 11) (dk dt_X12_bad 5 rfl) (ik rfl) ?_
            refine a_zret (pc := 12) (dk dt_X12_bad 6 rfl) rfl rfl ⟨by decide, ?_⟩
            show ATW _ _ _ _ _ _ _ _ _ _
            refine a_if_eq (pc := 72) (dk dt_X12_program 37 rfl) (tgt := 78) rfl ⟨fun _ => ?_, fun c => absurd c (by decide)⟩
            refine a_aload_n (pc := 78) (dk dt_X12_program 39 rfl) rfl ?_
            refine a_getr (r := 117) (pc := 79) (dk dt_X12_program 40 rfl) cls_12 fl_RX12_183 cf_85_51 ?_
            refine a_iload_n (pc := 82) (dk dt_X12_program 41 rfl) rfl ?_
            refine a_aload_n (pc := 83) (dk dt_X12_program 42 rfl) rfl ?_
            refine a_getr (r := 102) (pc := 84) (dk dt_X12_program 43 rfl) cls_12 fl_RX12_138 cf_85_36 ?_
            refine a_sipush (pc := 87) (dk dt_X12_program 44 rfl) (ik rfl) (spk rfl) ?_
            refine a_iald (pc := 90) (dk dt_X12_program 45 rfl) ar_103 ⟨⟨by decide, by decide⟩, ?_⟩
            refine a_iast (pc := 91) (dk dt_X12_program 46 rfl) ar_118 ⟨H.1, ?_⟩
            replace H := H.2
            refine a_aload_n (pc := 92) (dk dt_X12_program 47 rfl) rfl ?_
            refine a_getr (r := 118) (pc := 93) (dk dt_X12_program 48 rfl) cls_12 fl_RX12_186 cf_85_52 ?_
            refine a_iload_n (pc := 96) (dk dt_X12_program 49 rfl) rfl ?_
            refine a_aload_n (pc := 97) (dk dt_X12_program 50 rfl) rfl ?_
            refine a_getr (r := 103) (pc := 98) (dk dt_X12_program 51 rfl) cls_12 fl_RX12_141 cf_85_37 ?_
            refine a_sipush (pc := 101) (dk dt_X12_program 52 rfl) (ik rfl) (spk rfl) ?_
            refine a_iald (pc := 104) (dk dt_X12_program 53 rfl) ar_104 ⟨⟨by decide, by decide⟩, ?_⟩
            refine a_top (y := (h16 104 240)) (by simp [up, cpy]) ?_
            refine a_iast (pc := 105) (dk dt_X12_program 54 rfl) ar_119 ⟨H.1, ?_⟩
            replace H := H.2
            refine a_aload_n (pc := 106) (dk dt_X12_program 55 rfl) rfl ?_
            refine a_getr (r := 119) (pc := 107) (dk dt_X12_program 56 rfl) cls_12 fl_RX12_189 cf_85_53 ?_
            refine a_iload_n (pc := 110) (dk dt_X12_program 57 rfl) rfl ?_
            refine a_aload_n (pc := 111) (dk dt_X12_program 58 rfl) rfl ?_
            refine a_getr (r := 104) (pc := 112) (dk dt_X12_program 59 rfl) cls_12 fl_RX12_144 cf_85_38 ?_
            refine a_sipush (pc := 115) (dk dt_X12_program 60 rfl) (ik rfl) (spk rfl) ?_
            refine a_iald (pc := 118) (dk dt_X12_program 61 rfl) ar_105 ⟨⟨by decide, by decide⟩, ?_⟩
            refine a_top (y := (h16 105 240)) (by simp [up, cpy]) ?_
            refine a_iast (pc := 119) (dk dt_X12_program 62 rfl) ar_120 ⟨H.1, ?_⟩
            replace H := H.2
            refine a_aload_n (pc := 120) (dk dt_X12_program 63 rfl) rfl ?_
            refine a_getr (r := 120) (pc := 121) (dk dt_X12_program 64 rfl) cls_12 fl_RX12_192 cf_85_54 ?_
            refine a_iload_n (pc := 124) (dk dt_X12_program 65 rfl) rfl ?_
            refine a_aload_n (pc := 125) (dk dt_X12_program 66 rfl) rfl ?_
            refine a_getr (r := 105) (pc := 126) (dk dt_X12_program 67 rfl) cls_12 fl_RX12_147 cf_85_39 ?_
            refine a_sipush (pc := 129) (dk dt_X12_program 68 rfl) (ik rfl) (spk rfl) ?_
            refine a_iald (pc := 132) (dk dt_X12_program 69 rfl) ar_106 ⟨⟨by decide, by decide⟩, ?_⟩
            refine a_top (y := (h16 106 240)) (by simp [up, cpy]) ?_
            refine a_iast (pc := 133) (dk dt_X12_program 70 rfl) ar_121 ⟨H.1, ?_⟩
            replace H := H.2
            refine a_aload_n (pc := 134) (dk dt_X12_program 71 rfl) rfl ?_
            refine a_getr (r := 121) (pc := 135) (dk dt_X12_program 72 rfl) cls_12 fl_RX12_195 cf_85_55 ?_
            refine a_iload_n (pc := 138) (dk dt_X12_program 73 rfl) rfl ?_
            refine a_aload_n (pc := 139) (dk dt_X12_program 74 rfl) rfl ?_
            refine a_getr (r := 106) (pc := 140) (dk dt_X12_program 75 rfl) cls_12 fl_RX12_150 cf_85_40 ?_
            refine a_sipush (pc := 143) (dk dt_X12_program 76 rfl) (ik rfl) (spk rfl) ?_
            refine a_iald (pc := 146) (dk dt_X12_program 77 rfl) ar_107 ⟨⟨by decide, by decide⟩, ?_⟩
            refine a_top (y := (h16 107 240)) (by simp [up, cpy]) ?_
            refine a_iast (pc := 147) (dk dt_X12_program 78 rfl) ar_122 ⟨H.1, ?_⟩
            replace H := H.2
            refine a_aload_n (pc := 148) (dk dt_X12_program 79 rfl) rfl ?_
            refine a_getr (r := 122) (pc := 149) (dk dt_X12_program 80 rfl) cls_12 fl_RX12_198 cf_85_56 ?_
            refine a_iload_n (pc := 152) (dk dt_X12_program 81 rfl) rfl ?_
            refine a_aload_n (pc := 153) (dk dt_X12_program 82 rfl) rfl ?_
            refine a_getr (r := 107) (pc := 154) (dk dt_X12_program 83 rfl) cls_12 fl_RX12_153 cf_85_41 ?_
            refine a_sipush (pc := 157) (dk dt_X12_program 84 rfl) (ik rfl) (spk rfl) ?_
            refine a_iald (pc := 160) (dk dt_X12_program 85 rfl) ar_108 ⟨⟨by decide, by decide⟩, ?_⟩
            refine a_top (y := (h16 108 240)) (by simp [up, cpy]) ?_
            refine a_iast (pc := 161) (dk dt_X12_program 86 rfl) ar_123 ⟨H.1, ?_⟩
            replace H := H.2
            refine a_iinc (pc := 162) (dk dt_X12_program 87 rfl) (by decide) rfl rfl rfl ?_
            refine a_goto (pc := 165) (dk dt_X12_program 88 rfl) (tgt := 18) rfl ?_
            exact a_pick [0, 1, 2] rfl H
          · replace H := H.2 c
            refine a_iconst (pc := 7) (dk dt_X12_bad 3 rfl) (ik rfl) ?_
            refine a_goto (pc := 8) (dk dt_X12_bad 4 rfl) (tgt := 12) rfl ?_
            refine a_zret (pc := 12) (dk dt_X12_bad 6 rfl) rfl rfl ⟨by decide, ?_⟩
            show ATW _ _ _ _ _ _ _ _ _ _
            refine a_if_eq (pc := 72) (dk dt_X12_program 37 rfl) (tgt := 78) rfl ⟨fun c => absurd c (by decide), fun _ => ?_⟩
            refine a_goto (pc := 75) (dk dt_X12_program 38 rfl) (tgt := 18) rfl ?_
            exact a_pick [0, 1, 2] rfl H
        · replace H := H.2 c
          refine a_aload_n (pc := 46) (dk dt_X12_program 24 rfl) rfl ?_
          refine a_aload_n (pc := 47) (dk dt_X12_program 25 rfl) rfl ?_
          refine a_geti (pc := 48) (dk dt_X12_program 26 rfl) cls_12 fl_RX12_309 cf_85_5 ?_
          refine a_callVv (as := [iv (h 85 5)]) (st := []) (pc := 51) (dk dt_X12_program 27 rfl) cl_RX12_323 ⟨Nat.le_of_ble_eq_true rfl, Nat.le_of_ble_eq_true rfl⟩ ⟨Nat.le_of_ble_eq_true rfl, Nat.le_of_ble_eq_true rfl⟩ cls_12 rfl cc_85 rfl rfl rfl (Nat.le_of_ble_eq_true rfl) (Call.of rfl (Nat.le_of_ble_eq_true rfl) rfl ?_)
          refine a_aload_n (pc := 0) (dk dt_X12_fail 0 rfl) rfl ?_
          refine a_geti (pc := 1) (dk dt_X12_fail 1 rfl) cls_12 fl_RX12_312 cf_85_6 ?_
          refine a_if_ge (pc := 4) (dk dt_X12_fail 2 rfl) (tgt := 12) rfl ⟨fun c => ?_, fun c => ?_⟩
          · replace H := H.1 c
            refine a_vret (pc := 12) (dk dt_X12_fail 6 rfl) rfl rfl ?_
            show ATW _ _ _ _ _ _ _ _ _ _
            refine a_aload_n (pc := 54) (dk dt_X12_program 28 rfl) rfl ?_
            refine a_aload_n (pc := 55) (dk dt_X12_program 29 rfl) rfl ?_
            refine a_getr (r := 98) (pc := 56) (dk dt_X12_program 30 rfl) cls_12 fl_RX12_95 cf_85_32 ?_
            refine a_callVv (as := [rv 99]) (st := []) (pc := 59) (dk dt_X12_program 31 rfl) cl_RX12_462 ⟨Nat.le_of_ble_eq_true rfl, Nat.le_of_ble_eq_true rfl⟩ ⟨Nat.le_of_ble_eq_true rfl, Nat.le_of_ble_eq_true rfl⟩ cls_12 rfl cc_85 rfl rfl rfl (Nat.le_of_ble_eq_true rfl) (Call.mono H fun _ h18 H => ?_)
            refine a_aload_n (pc := 62) (dk dt_X12_program 32 rfl) rfl ?_
            refine a_bipush (pc := 63) (dk dt_X12_program 33 rfl) (ik rfl) (bpk rfl) ?_
            refine a_callVv (as := [iv 10]) (st := []) (pc := 65) (dk dt_X12_program 34 rfl) cl_RX12_330 ⟨Nat.le_of_ble_eq_true rfl, Nat.le_of_ble_eq_true rfl⟩ ⟨Nat.le_of_ble_eq_true rfl, Nat.le_of_ble_eq_true rfl⟩ cls_12 rfl cc_85 rfl rfl rfl (Nat.le_of_ble_eq_true rfl) (Call.mono H fun _ h20 H => ?_)
            refine a_aload_n (pc := 68) (dk dt_X12_program 35 rfl) rfl ?_
            refine a_callVi (as := []) (st := []) (pc := 69) (dk dt_X12_program 36 rfl) cl_RX12_315 ⟨Nat.le_of_ble_eq_true rfl, Nat.le_of_ble_eq_true rfl⟩ ⟨Nat.le_of_ble_eq_true rfl, Nat.le_of_ble_eq_true rfl⟩ cls_12 rfl cc_85 rfl rfl rfl (Nat.le_of_ble_eq_true rfl) (Call.of rfl (Nat.le_of_ble_eq_true rfl) rfl ?_)
            refine a_aload_n (pc := 0) (dk dt_X12_bad 0 rfl) rfl ?_
            refine a_geti (pc := 1) (dk dt_X12_bad 1 rfl) cls_12 fl_RX12_312 cf_85_6 ?_
            refine a_if_lt (pc := 4) (dk dt_X12_bad 2 rfl) (tgt := 11) rfl ⟨fun c => ?_, fun c => ?_⟩
            · replace H := H.1 c
              refine a_iconst (pc := 11) (dk dt_X12_bad 5 rfl) (ik rfl) ?_
              refine a_zret (pc := 12) (dk dt_X12_bad 6 rfl) rfl rfl ⟨by decide, ?_⟩
              show ATW _ _ _ _ _ _ _ _ _ _
              refine a_if_eq (pc := 72) (dk dt_X12_program 37 rfl) (tgt := 78) rfl ⟨fun _ => ?_, fun c => absurd c (by decide)⟩
              refine a_aload_n (pc := 78) (dk dt_X12_program 39 rfl) rfl ?_
              refine a_getr (r := 117) (pc := 79) (dk dt_X12_program 40 rfl) cls_12 fl_RX12_183 cf_85_51 ?_
              refine a_iload_n (pc := 82) (dk dt_X12_program 41 rfl) rfl ?_
              refine a_aload_n (pc := 83) (dk dt_X12_program 42 rfl) rfl ?_
              refine a_getr (r := 102) (pc := 84) (dk dt_X12_program 43 rfl) cls_12 fl_RX12_138 cf_85_36 ?_
              refine a_sipush (pc := 87) (dk dt_X12_program 44 rfl) (ik rfl) (spk rfl) ?_
              refine a_iald (pc := 90) (dk dt_X12_program 45 rfl) ar_103 ⟨⟨by decide, by decide⟩, ?_⟩
              refine a_iast (pc := 91) (dk dt_X12_program 46 rfl) ar_118 ⟨H.1, ?_⟩
              replace H := H.2
              refine a_aload_n (pc := 92) (dk dt_X12_program 47 rfl) rfl ?_
              refine a_getr (r := 118) (pc := 93) (dk dt_X12_program 48 rfl) cls_12 fl_RX12_186 cf_85_52 ?_
              refine a_iload_n (pc := 96) (dk dt_X12_program 49 rfl) rfl ?_
              refine a_aload_n (pc := 97) (dk dt_X12_program 50 rfl) rfl ?_
              refine a_getr (r := 103) (pc := 98) (dk dt_X12_program 51 rfl) cls_12 fl_RX12_141 cf_85_37 ?_
              refine a_sipush (pc := 101) (dk dt_X12_program 52 rfl) (ik rfl) (spk rfl) ?_
              refine a_iald (pc := 104) (dk dt_X12_program 53 rfl) ar_104 ⟨⟨by decide, by decide⟩, ?_⟩
              refine a_top (y := (h20 104 240)) (by simp [up, cpy]) ?_
              refine a_iast (pc := 105) (dk dt_X12_program 54 rfl) ar_119 ⟨H.1, ?_⟩
              replace H := H.2
              refine a_aload_n (pc := 106) (dk dt_X12_program 55 rfl) rfl ?_
              refine a_getr (r := 119) (pc := 107) (dk dt_X12_program 56 rfl) cls_12 fl_RX12_189 cf_85_53 ?_
              refine a_iload_n (pc := 110) (dk dt_X12_program 57 rfl) rfl ?_
              refine a_aload_n (pc := 111) (dk dt_X12_program 58 rfl) rfl ?_
              refine a_getr (r := 104) (pc := 112) (dk dt_X12_program 59 rfl) cls_12 fl_RX12_144 cf_85_38 ?_
              refine a_sipush (pc := 115) (dk dt_X12_program 60 rfl) (ik rfl) (spk rfl) ?_
              refine a_iald (pc := 118) (dk dt_X12_program 61 rfl) ar_105 ⟨⟨by decide, by decide⟩, ?_⟩
              refine a_top (y := (h20 105 240)) (by simp [up, cpy]) ?_
              refine a_iast (pc := 119) (dk dt_X12_program 62 rfl) ar_120 ⟨H.1, ?_⟩
              replace H := H.2
              refine a_aload_n (pc := 120) (dk dt_X12_program 63 rfl) rfl ?_
              refine a_getr (r := 120) (pc := 121) (dk dt_X12_program 64 rfl) cls_12 fl_RX12_192 cf_85_54 ?_
              refine a_iload_n (pc := 124) (dk dt_X12_program 65 rfl) rfl ?_
              refine a_aload_n (pc := 125) (dk dt_X12_program 66 rfl) rfl ?_
              refine a_getr (r := 105) (pc := 126) (dk dt_X12_program 67 rfl) cls_12 fl_RX12_147 cf_85_39 ?_
              refine a_sipush (pc := 129) (dk dt_X12_program 68 rfl) (ik rfl) (spk rfl) ?_
              refine a_iald (pc := 132) (dk dt_X12_program 69 rfl) ar_106 ⟨⟨by decide, by decide⟩, ?_⟩
              refine a_top (y := (h20 106 240)) (by simp [up, cpy]) ?_
              refine a_iast (pc := 133) (dk dt_X12_program 70 rfl) ar_121 ⟨H.1, ?_⟩
              replace H := H.2
              refine a_aload_n (pc := 134) (dk dt_X12_program 71 rfl) rfl ?_
              refine a_getr (r := 121) (pc := 135) (dk dt_X12_program 72 rfl) cls_12 fl_RX12_195 cf_85_55 ?_
              refine a_iload_n (pc := 138) (dk dt_X12_program 73 rfl) rfl ?_
              refine a_aload_n (pc := 139) (dk dt_X12_program 74 rfl) rfl ?_
              refine a_getr (r := 106) (pc := 140) (dk dt_X12_program 75 rfl) cls_12 fl_RX12_150 cf_85_40 ?_
              refine a_sipush (pc := 143) (dk dt_X12_program 76 rfl) (ik rfl) (spk rfl) ?_
              refine a_iald (pc := 146) (dk dt_X12_program 77 rfl) ar_107 ⟨⟨by decide, by decide⟩, ?_⟩
              refine a_top (y := (h20 107 240)) (by simp [up, cpy]) ?_
              refine a_iast (pc := 147) (dk dt_X12_program 78 rfl) ar_122 ⟨H.1, ?_⟩
              replace H := H.2
              refine a_aload_n (pc := 148) (dk dt_X12_program 79 rfl) rfl ?_
              refine a_getr (r := 122) (pc := 149) (dk dt_X12_program 80 rfl) cls_12 fl_RX12_198 cf_85_56 ?_
              refine a_iload_n (pc := 152) (dk dt_X12_program 81 rfl) rfl ?_
              refine a_aload_n (pc := 153) (dk dt_X12_program 82 rfl) rfl ?_
              refine a_getr (r := 107) (pc := 154) (dk dt_X12_program 83 rfl) cls_12 fl_RX12_153 cf_85_41 ?_
              refine a_sipush (pc := 157) (dk dt_X12_program 84 rfl) (ik rfl) (spk rfl) ?_
              refine a_iald (pc := 160) (dk dt_X12_program 85 rfl) ar_108 ⟨⟨by decide, by decide⟩, ?_⟩
              refine a_top (y := (h20 108 240)) (by simp [up, cpy]) ?_
              refine a_iast (pc := 161) (dk dt_X12_program 86 rfl) ar_123 ⟨H.1, ?_⟩
              replace H := H.2
              refine a_iinc (pc := 162) (dk dt_X12_program 87 rfl) (by decide) rfl rfl rfl ?_
              refine a_goto (pc := 165) (dk dt_X12_program 88 rfl) (tgt := 18) rfl ?_
              exact a_pick [0, 1, 2] rfl H
            · replace H := H.2 c
              refine a_iconst (pc := 7) (dk dt_X12_bad 3 rfl) (ik rfl) ?_
              refine a_goto (pc := 8) (dk dt_X12_bad 4 rfl) (tgt := 12) rfl ?_
              refine a_zret (pc := 12) (dk dt_X12_bad 6 rfl) rfl rfl ⟨by decide, ?_⟩
              show ATW _ _ _ _ _ _ _ _ _ _
              refine a_if_eq (pc := 72) (dk dt_X12_program 37 rfl) (tgt := 78) rfl ⟨fun c => absurd c (by decide), fun _ => ?_⟩
              refine a_goto (pc := 75) (dk dt_X12_program 38 rfl) (tgt := 18) rfl ?_
              exact a_pick [0, 1, 2] rfl H
          · replace H := H.2 c
            refine a_aload_n (pc := 7) (dk dt_X12_fail 3 rfl) rfl ?_
            refine a_iload_n (pc := 8) (dk dt_X12_fail 4 rfl) rfl ?_
            refine a_puti (pc := 9) (dk dt_X12_fail 5 rfl) cls_12 fl_RX12_312 cf_85_6 rfl rfl ?_
            refine a_vret (pc := 12) (dk dt_X12_fail 6 rfl) rfl rfl ?_
            show ATW _ _ _ _ _ _ _ _ _ _
            refine a_aload_n (pc := 54) (dk dt_X12_program 28 rfl) rfl ?_
            refine a_aload_n (pc := 55) (dk dt_X12_program 29 rfl) rfl ?_
            refine a_getr (r := 98) (pc := 56) (dk dt_X12_program 30 rfl) cls_12 fl_RX12_95 cf_85_32 ?_
            refine a_callVv (as := [rv 99]) (st := []) (pc := 59) (dk dt_X12_program 31 rfl) cl_RX12_462 ⟨Nat.le_of_ble_eq_true rfl, Nat.le_of_ble_eq_true rfl⟩ ⟨Nat.le_of_ble_eq_true rfl, Nat.le_of_ble_eq_true rfl⟩ cls_12 rfl cc_85 rfl rfl rfl (Nat.le_of_ble_eq_true rfl) (Call.mono H fun _ h22 H => ?_)
            refine a_aload_n (pc := 62) (dk dt_X12_program 32 rfl) rfl ?_
            refine a_bipush (pc := 63) (dk dt_X12_program 33 rfl) (ik rfl) (bpk rfl) ?_
            refine a_callVv (as := [iv 10]) (st := []) (pc := 65) (dk dt_X12_program 34 rfl) cl_RX12_330 ⟨Nat.le_of_ble_eq_true rfl, Nat.le_of_ble_eq_true rfl⟩ ⟨Nat.le_of_ble_eq_true rfl, Nat.le_of_ble_eq_true rfl⟩ cls_12 rfl cc_85 rfl rfl rfl (Nat.le_of_ble_eq_true rfl) (Call.mono H fun _ h24 H => ?_)
            refine a_aload_n (pc := 68) (dk dt_X12_program 35 rfl) rfl ?_
            refine a_callVi (as := []) (st := []) (pc := 69) (dk dt_X12_program 36 rfl) cl_RX12_315 ⟨Nat.le_of_ble_eq_true rfl, Nat.le_of_ble_eq_true rfl⟩ ⟨Nat.le_of_ble_eq_true rfl, Nat.le_of_ble_eq_true rfl⟩ cls_12 rfl cc_85 rfl rfl rfl (Nat.le_of_ble_eq_true rfl) (Call.of rfl (Nat.le_of_ble_eq_true rfl) rfl ?_)
            refine a_aload_n (pc := 0) (dk dt_X12_bad 0 rfl) rfl ?_
            refine a_geti (pc := 1) (dk dt_X12_bad 1 rfl) cls_12 fl_RX12_312 cf_85_6 ?_
            refine a_if_lt (pc := 4) (dk dt_X12_bad 2 rfl) (tgt := 11) rfl ⟨fun c => ?_, fun c => ?_⟩
            · replace H := H.1 c
              refine a_iconst (pc := 11) (dk dt_X12_bad 5 rfl) (ik rfl) ?_
              refine a_zret (pc := 12) (dk dt_X12_bad 6 rfl) rfl rfl ⟨by decide, ?_⟩
              show ATW _ _ _ _ _ _ _ _ _ _
              refine a_if_eq (pc := 72) (dk dt_X12_program 37 rfl) (tgt := 78) rfl ⟨fun _ => ?_, fun c => absurd c (by decide)⟩
              refine a_aload_n (pc := 78) (dk dt_X12_program 39 rfl) rfl ?_
              refine a_getr (r := 117) (pc := 79) (dk dt_X12_program 40 rfl) cls_12 fl_RX12_183 cf_85_51 ?_
              refine a_iload_n (pc := 82) (dk dt_X12_program 41 rfl) rfl ?_
              refine a_aload_n (pc := 83) (dk dt_X12_program 42 rfl) rfl ?_
              refine a_getr (r := 102) (pc := 84) (dk dt_X12_program 43 rfl) cls_12 fl_RX12_138 cf_85_36 ?_
              refine a_sipush (pc := 87) (dk dt_X12_program 44 rfl) (ik rfl) (spk rfl) ?_
              refine a_iald (pc := 90) (dk dt_X12_program 45 rfl) ar_103 ⟨⟨by decide, by decide⟩, ?_⟩
              refine a_iast (pc := 91) (dk dt_X12_program 46 rfl) ar_118 ⟨H.1, ?_⟩
              replace H := H.2
              refine a_aload_n (pc := 92) (dk dt_X12_program 47 rfl) rfl ?_
              refine a_getr (r := 118) (pc := 93) (dk dt_X12_program 48 rfl) cls_12 fl_RX12_186 cf_85_52 ?_
              refine a_iload_n (pc := 96) (dk dt_X12_program 49 rfl) rfl ?_
              refine a_aload_n (pc := 97) (dk dt_X12_program 50 rfl) rfl ?_
              refine a_getr (r := 103) (pc := 98) (dk dt_X12_program 51 rfl) cls_12 fl_RX12_141 cf_85_37 ?_
              refine a_sipush (pc := 101) (dk dt_X12_program 52 rfl) (ik rfl) (spk rfl) ?_
              refine a_iald (pc := 104) (dk dt_X12_program 53 rfl) ar_104 ⟨⟨by decide, by decide⟩, ?_⟩
              refine a_top (y := (h24 104 240)) (by simp [up, cpy]) ?_
              refine a_iast (pc := 105) (dk dt_X12_program 54 rfl) ar_119 ⟨H.1, ?_⟩
              replace H := H.2
              refine a_aload_n (pc := 106) (dk dt_X12_program 55 rfl) rfl ?_
              refine a_getr (r := 119) (pc := 107) (dk dt_X12_program 56 rfl) cls_12 fl_RX12_189 cf_85_53 ?_
              refine a_iload_n (pc := 110) (dk dt_X12_program 57 rfl) rfl ?_
              refine a_aload_n (pc := 111) (dk dt_X12_program 58 rfl) rfl ?_
              refine a_getr (r := 104) (pc := 112) (dk dt_X12_program 59 rfl) cls_12 fl_RX12_144 cf_85_38 ?_
              refine a_sipush (pc := 115) (dk dt_X12_program 60 rfl) (ik rfl) (spk rfl) ?_
              refine a_iald (pc := 118) (dk dt_X12_program 61 rfl) ar_105 ⟨⟨by decide, by decide⟩, ?_⟩
              refine a_top (y := (h24 105 240)) (by simp [up, cpy]) ?_
              refine a_iast (pc := 119) (dk dt_X12_program 62 rfl) ar_120 ⟨H.1, ?_⟩
              replace H := H.2
              refine a_aload_n (pc := 120) (dk dt_X12_program 63 rfl) rfl ?_
              refine a_getr (r := 120) (pc := 121) (dk dt_X12_program 64 rfl) cls_12 fl_RX12_192 cf_85_54 ?_
              refine a_iload_n (pc := 124) (dk dt_X12_program 65 rfl) rfl ?_
              refine a_aload_n (pc := 125) (dk dt_X12_program 66 rfl) rfl ?_
              refine a_getr (r := 105) (pc := 126) (dk dt_X12_program 67 rfl) cls_12 fl_RX12_147 cf_85_39 ?_
              refine a_sipush (pc := 129) (dk dt_X12_program 68 rfl) (ik rfl) (spk rfl) ?_
              refine a_iald (pc := 132) (dk dt_X12_program 69 rfl) ar_106 ⟨⟨by decide, by decide⟩, ?_⟩
              refine a_top (y := (h24 106 240)) (by simp [up, cpy]) ?_
              refine a_iast (pc := 133) (dk dt_X12_program 70 rfl) ar_121 ⟨H.1, ?_⟩
              replace H := H.2
              refine a_aload_n (pc := 134) (dk dt_X12_program 71 rfl) rfl ?_
              refine a_getr (r := 121) (pc := 135) (dk dt_X12_program 72 rfl) cls_12 fl_RX12_195 cf_85_55 ?_
              refine a_iload_n (pc := 138) (dk dt_X12_program 73 rfl) rfl ?_
              refine a_aload_n (pc := 139) (dk dt_X12_program 74 rfl) rfl ?_
              refine a_getr (r := 106) (pc := 140) (dk dt_X12_program 75 rfl) cls_12 fl_RX12_150 cf_85_40 ?_
              refine a_sipush (pc := 143) (dk dt_X12_program 76 rfl) (ik rfl) (spk rfl) ?_
              refine a_iald (pc := 146) (dk dt_X12_program 77 rfl) ar_107 ⟨⟨by decide, by decide⟩, ?_⟩
              refine a_top (y := (h24 107 240)) (by simp [up, cpy]) ?_
              refine a_iast (pc := 147) (dk dt_X12_program 78 rfl) ar_122 ⟨H.1, ?_⟩
              replace H := H.2
              refine a_aload_n (pc := 148) (dk dt_X12_program 79 rfl) rfl ?_
              refine a_getr (r := 122) (pc := 149) (dk dt_X12_program 80 rfl) cls_12 fl_RX12_198 cf_85_56 ?_
              refine a_iload_n (pc := 152) (dk dt_X12_program 81 rfl) rfl ?_
              refine a_aload_n (pc := 153) (dk dt_X12_program 82 rfl) rfl ?_
              refine a_getr (r := 107) (pc := 154) (dk dt_X12_program 83 rfl) cls_12 fl_RX12_153 cf_85_41 ?_
              refine a_sipush (pc := 157) (dk dt_X12_program 84 rfl) (ik rfl) (spk rfl) ?_
              refine a_iald (pc := 160) (dk dt_X12_program 85 rfl) ar_108 ⟨⟨by decide, by decide⟩, ?_⟩
              refine a_top (y := (h24 108 240)) (by simp [up, cpy]) ?_
              refine a_iast (pc := 161) (dk dt_X12_program 86 rfl) ar_123 ⟨H.1, ?_⟩
              replace H := H.2
              refine a_iinc (pc := 162) (dk dt_X12_program 87 rfl) (by decide) rfl rfl rfl ?_
              refine a_goto (pc := 165) (dk dt_X12_program 88 rfl) (tgt := 18) rfl ?_
              exact a_pick [0, 1, 2] rfl H
            · replace H := H.2 c
              refine a_iconst (pc := 7) (dk dt_X12_bad 3 rfl) (ik rfl) ?_
              refine a_goto (pc := 8) (dk dt_X12_bad 4 rfl) (tgt := 12) rfl ?_
              refine a_zret (pc := 12) (dk dt_X12_bad 6 rfl) rfl rfl ⟨by decide, ?_⟩
              show ATW _ _ _ _ _ _ _ _ _ _
              refine a_if_eq (pc := 72) (dk dt_X12_program 37 rfl) (tgt := 78) rfl ⟨fun c => absurd c (by decide), fun _ => ?_⟩
              refine a_goto (pc := 75) (dk dt_X12_program 38 rfl) (tgt := 18) rfl ?_
              exact a_pick [0, 1, 2] rfl H
  · replace H := H.2 c
    refine a_iconst (pc := 7) (dk dt_X12_bad 3 rfl) (ik rfl) ?_
    refine a_goto (pc := 8) (dk dt_X12_bad 4 rfl) (tgt := 12) rfl ?_
    refine a_zret (pc := 12) (dk dt_X12_bad 6 rfl) rfl rfl ⟨by decide, ?_⟩
    show ATW _ _ _ _ _ _ _ _ _ _
    refine a_if_ne (pc := 22) (dk dt_X12_program 13 rfl) (tgt := 168) rfl ⟨fun _ => ?_, fun c => absurd c (by decide)⟩
    refine a_aload_n (pc := 168) (dk dt_X12_program 89 rfl) rfl ?_
    refine a_callVi (as := []) (st := []) (pc := 169) (dk dt_X12_program 90 rfl) cl_RX12_315 ⟨Nat.le_of_ble_eq_true rfl, Nat.le_of_ble_eq_true rfl⟩ ⟨Nat.le_of_ble_eq_true rfl, Nat.le_of_ble_eq_true rfl⟩ cls_12 rfl cc_85 rfl rfl rfl (Nat.le_of_ble_eq_true rfl) (Call.of rfl (Nat.le_of_ble_eq_true rfl) rfl ?_)
    refine a_aload_n (pc := 0) (dk dt_X12_bad 0 rfl) rfl ?_
    refine a_geti (pc := 1) (dk dt_X12_bad 1 rfl) cls_12 fl_RX12_312 cf_85_6 ?_
    refine a_if_lt (pc := 4) (dk dt_X12_bad 2 rfl) (tgt := 11) rfl ⟨fun c => ?_, fun c => ?_⟩
    · replace H := H.1 c
      refine a_iconst (pc := 11) (dk dt_X12_bad 5 rfl) (ik rfl) ?_
      refine a_zret (pc := 12) (dk dt_X12_bad 6 rfl) rfl rfl ⟨by decide, ?_⟩
      show ATW _ _ _ _ _ _ _ _ _ _
      refine a_if_eq (pc := 172) (dk dt_X12_program 91 rfl) (tgt := 184) rfl ⟨fun _ => ?_, fun c => absurd c (by decide)⟩
      refine a_iconst (pc := 184) (dk dt_X12_program 97 rfl) (ik rfl) ?_
      refine a_istore_n (pc := 185) (dk dt_X12_program 98 rfl) (by decide) rfl rfl ?_
      exact a_pick [0, 1, 2, 3] rfl H
    · replace H := H.2 c
      refine a_iconst (pc := 7) (dk dt_X12_bad 3 rfl) (ik rfl) ?_
      refine a_goto (pc := 8) (dk dt_X12_bad 4 rfl) (tgt := 12) rfl ?_
      refine a_zret (pc := 12) (dk dt_X12_bad 6 rfl) rfl rfl ⟨by decide, ?_⟩
      show ATW _ _ _ _ _ _ _ _ _ _
      refine a_if_eq (pc := 172) (dk dt_X12_program 91 rfl) (tgt := 184) rfl ⟨fun c => absurd c (by decide), fun _ => ?_⟩
      refine a_sipush (pc := 175) (dk dt_X12_program 92 rfl) (ik rfl) (spk rfl) ?_
      refine a_aload_n (pc := 178) (dk dt_X12_program 93 rfl) rfl ?_
      refine a_geti (pc := 179) (dk dt_X12_program 94 rfl) cls_12 fl_RX12_312 cf_85_6 ?_
      refine a_isub (pc := 182) (dk dt_X12_program 95 rfl) ?_
      exact a_iret (pc := 183) (dk dt_X12_program 96 rfl) rfl rfl H
set_option maxHeartbeats 40000000 in
theorem U_X12_program_85_186 {G : GG} {Φ : Int → Hp → Prop} {h : Hp} {x1 : Int} {x2 : Int} {x3 : Int} (H : ((x2 ≤ x3 → (0 ≤ x1 ∧ x1 < 8) ∧ (0 ≤ x1 ∧ x1 < 8) ∧ Φ x2 (up (up h 115 x1 x2) 116 x1 (-1))) ∧ (x3 < x2 → (0 ≤ x3 ∧ x3 < 30) ∧ (0 ≤ (w32 ((w32 (30 * x1)) + x3)) ∧ (w32 ((w32 (30 * x1)) + x3)) < 260) ∧ (0 ≤ x3 ∧ x3 < 30) ∧ (0 ≤ (w32 ((w32 (30 * x1)) + x3)) ∧ (w32 ((w32 (30 * x1)) + x3)) < 260) ∧ (0 ≤ x3 ∧ x3 < 30) ∧ (0 ≤ (w32 ((w32 (30 * x1)) + x3)) ∧ (w32 ((w32 (30 * x1)) + x3)) < 260) ∧ (0 ≤ x3 ∧ x3 < 30) ∧ (0 ≤ (w32 ((w32 (30 * x1)) + x3)) ∧ (w32 ((w32 (30 * x1)) + x3)) < 260) ∧ (0 ≤ x3 ∧ x3 < 30) ∧ (0 ≤ (w32 ((w32 (30 * x1)) + x3)) ∧ (w32 ((w32 (30 * x1)) + x3)) < 260) ∧ (0 ≤ x3 ∧ x3 < 30) ∧ (0 ≤ (w32 ((w32 (30 * x1)) + x3)) ∧ (w32 ((w32 (30 * x1)) + x3)) < 260) ∧ AT G m_X12_program 186 [(0, rv 85), (1, iv x1), (2, iv x2), (3, iv (w32 (x3 + 1)))] [] (up (up (up (up (up (up h 103 (w32 ((w32 (30 * x1)) + x3)) (h 118 x3)) 104 (w32 ((w32 (30 * x1)) + x3)) (h 119 x3)) 105 (w32 ((w32 (30 * x1)) + x3)) (h 120 x3)) 106 (w32 ((w32 (30 * x1)) + x3)) (h 121 x3)) 107 (w32 ((w32 (30 * x1)) + x3)) (h 122 x3)) 108 (w32 ((w32 (30 * x1)) + x3)) (h 123 x3)) Φ))) : AT G m_X12_program 186 [(0, rv 85), (1, iv x1), (2, iv x2), (3, iv x3)] [] h Φ := by
  refine a_iload_n (pc := 186) (dk dt_X12_program 99 rfl) rfl ?_
  refine a_iload_n (pc := 187) (dk dt_X12_program 100 rfl) rfl ?_
  refine a_icmp_ge (pc := 188) (dk dt_X12_program 101 rfl) (tgt := 283) rfl ⟨fun c => ?_, fun c => ?_⟩
  · replace H := H.1 c
    refine a_aload_n (pc := 283) (dk dt_X12_program 158 rfl) rfl ?_
    refine a_getr (r := 114) (pc := 284) (dk dt_X12_program 159 rfl) cls_12 fl_RX12_174 cf_85_48 ?_
    refine a_iload_n (pc := 287) (dk dt_X12_program 160 rfl) rfl ?_
    refine a_iload_n (pc := 288) (dk dt_X12_program 161 rfl) rfl ?_
    refine a_iast (pc := 289) (dk dt_X12_program 162 rfl) ar_115 ⟨H.1, ?_⟩
    replace H := H.2
    refine a_aload_n (pc := 290) (dk dt_X12_program 163 rfl) rfl ?_
    refine a_getr (r := 115) (pc := 291) (dk dt_X12_program 164 rfl) cls_12 fl_RX12_177 cf_85_49 ?_
    refine a_iload_n (pc := 294) (dk dt_X12_program 165 rfl) rfl ?_
    refine a_iconst (pc := 295) (dk dt_X12_program 166 rfl) (ik rfl) ?_
    refine a_iast (pc := 296) (dk dt_X12_program 167 rfl) ar_116 ⟨H.1, ?_⟩
    replace H := H.2
    refine a_iload_n (pc := 297) (dk dt_X12_program 168 rfl) rfl ?_
    exact a_iret (pc := 298) (dk dt_X12_program 169 rfl) rfl rfl H
  · replace H := H.2 c
    refine a_bipush (pc := 191) (dk dt_X12_program 102 rfl) (ik rfl) (bpk rfl) ?_
    refine a_iload_n (pc := 193) (dk dt_X12_program 103 rfl) rfl ?_
    refine a_imul (pc := 194) (dk dt_X12_program 104 rfl) ?_
    refine a_iload_n (pc := 195) (dk dt_X12_program 105 rfl) rfl ?_
    refine a_iadd (pc := 196) (dk dt_X12_program 106 rfl) ?_
    refine a_istore (pc := 197) (dk dt_X12_program 107 rfl) (by decide) rfl rfl ?_
    refine a_aload_n (pc := 199) (dk dt_X12_program 108 rfl) rfl ?_
    refine a_getr (r := 102) (pc := 200) (dk dt_X12_program 109 rfl) cls_12 fl_RX12_138 cf_85_36 ?_
    refine a_iload (pc := 203) (dk dt_X12_program 110 rfl) rfl ?_
    refine a_aload_n (pc := 205) (dk dt_X12_program 111 rfl) rfl ?_
    refine a_getr (r := 117) (pc := 206) (dk dt_X12_program 112 rfl) cls_12 fl_RX12_183 cf_85_51 ?_
    refine a_iload_n (pc := 209) (dk dt_X12_program 113 rfl) rfl ?_
    refine a_iald (pc := 210) (dk dt_X12_program 114 rfl) ar_118 ⟨H.1, ?_⟩
    replace H := H.2
    refine a_iast (pc := 211) (dk dt_X12_program 115 rfl) ar_103 ⟨H.1, ?_⟩
    replace H := H.2
    refine a_aload_n (pc := 212) (dk dt_X12_program 116 rfl) rfl ?_
    refine a_getr (r := 103) (pc := 213) (dk dt_X12_program 117 rfl) cls_12 fl_RX12_141 cf_85_37 ?_
    refine a_iload (pc := 216) (dk dt_X12_program 118 rfl) rfl ?_
    refine a_aload_n (pc := 218) (dk dt_X12_program 119 rfl) rfl ?_
    refine a_getr (r := 118) (pc := 219) (dk dt_X12_program 120 rfl) cls_12 fl_RX12_186 cf_85_52 ?_
    refine a_iload_n (pc := 222) (dk dt_X12_program 121 rfl) rfl ?_
    refine a_iald (pc := 223) (dk dt_X12_program 122 rfl) ar_119 ⟨H.1, ?_⟩
    replace H := H.2
    refine a_top (y := (h 119 x3)) (by simp [up, cpy]) ?_
    refine a_iast (pc := 224) (dk dt_X12_program 123 rfl) ar_104 ⟨H.1, ?_⟩
    replace H := H.2
    refine a_aload_n (pc := 225) (dk dt_X12_program 124 rfl) rfl ?_
    refine a_getr (r := 104) (pc := 226) (dk dt_X12_program 125 rfl) cls_12 fl_RX12_144 cf_85_38 ?_
    refine a_iload (pc := 229) (dk dt_X12_program 126 rfl) rfl ?_
    refine a_aload_n (pc := 231) (dk dt_X12_program 127 rfl) rfl ?_
    refine a_getr (r := 119) (pc := 232) (dk dt_X12_program 128 rfl) cls_12 fl_RX12_189 cf_85_53 ?_
    refine a_iload_n (pc := 235) (dk dt_X12_program 129 rfl) rfl ?_
    refine a_iald (pc := 236) (dk dt_X12_program 130 rfl) ar_120 ⟨H.1, ?_⟩
    replace H := H.2
    refine a_top (y := (h 120 x3)) (by simp [up, cpy]) ?_
    refine a_iast (pc := 237) (dk dt_X12_program 131 rfl) ar_105 ⟨H.1, ?_⟩
    replace H := H.2
    refine a_aload_n (pc := 238) (dk dt_X12_program 132 rfl) rfl ?_
    refine a_getr (r := 105) (pc := 239) (dk dt_X12_program 133 rfl) cls_12 fl_RX12_147 cf_85_39 ?_
    refine a_iload (pc := 242) (dk dt_X12_program 134 rfl) rfl ?_
    refine a_aload_n (pc := 244) (dk dt_X12_program 135 rfl) rfl ?_
    refine a_getr (r := 120) (pc := 245) (dk dt_X12_program 136 rfl) cls_12 fl_RX12_192 cf_85_54 ?_
    refine a_iload_n (pc := 248) (dk dt_X12_program 137 rfl) rfl ?_
    refine a_iald (pc := 249) (dk dt_X12_program 138 rfl) ar_121 ⟨H.1, ?_⟩
    replace H := H.2
    refine a_top (y := (h 121 x3)) (by simp [up, cpy]) ?_
    refine a_iast (pc := 250) (dk dt_X12_program 139 rfl) ar_106 ⟨H.1, ?_⟩
    replace H := H.2
    refine a_aload_n (pc := 251) (dk dt_X12_program 140 rfl) rfl ?_
    refine a_getr (r := 106) (pc := 252) (dk dt_X12_program 141 rfl) cls_12 fl_RX12_150 cf_85_40 ?_
    refine a_iload (pc := 255) (dk dt_X12_program 142 rfl) rfl ?_
    refine a_aload_n (pc := 257) (dk dt_X12_program 143 rfl) rfl ?_
    refine a_getr (r := 121) (pc := 258) (dk dt_X12_program 144 rfl) cls_12 fl_RX12_195 cf_85_55 ?_
    refine a_iload_n (pc := 261) (dk dt_X12_program 145 rfl) rfl ?_
    refine a_iald (pc := 262) (dk dt_X12_program 146 rfl) ar_122 ⟨H.1, ?_⟩
    replace H := H.2
    refine a_top (y := (h 122 x3)) (by simp [up, cpy]) ?_
    refine a_iast (pc := 263) (dk dt_X12_program 147 rfl) ar_107 ⟨H.1, ?_⟩
    replace H := H.2
    refine a_aload_n (pc := 264) (dk dt_X12_program 148 rfl) rfl ?_
    refine a_getr (r := 107) (pc := 265) (dk dt_X12_program 149 rfl) cls_12 fl_RX12_153 cf_85_41 ?_
    refine a_iload (pc := 268) (dk dt_X12_program 150 rfl) rfl ?_
    refine a_aload_n (pc := 270) (dk dt_X12_program 151 rfl) rfl ?_
    refine a_getr (r := 122) (pc := 271) (dk dt_X12_program 152 rfl) cls_12 fl_RX12_198 cf_85_56 ?_
    refine a_iload_n (pc := 274) (dk dt_X12_program 153 rfl) rfl ?_
    refine a_iald (pc := 275) (dk dt_X12_program 154 rfl) ar_123 ⟨H.1, ?_⟩
    replace H := H.2
    refine a_top (y := (h 123 x3)) (by simp [up, cpy]) ?_
    refine a_iast (pc := 276) (dk dt_X12_program 155 rfl) ar_108 ⟨H.1, ?_⟩
    replace H := H.2
    refine a_iinc (pc := 277) (dk dt_X12_program 156 rfl) (by decide) rfl rfl rfl ?_
    refine a_goto (pc := 280) (dk dt_X12_program 157 rfl) (tgt := 186) rfl ?_
    exact a_pick [0, 1, 2, 3] rfl H
set_option maxHeartbeats 40000000 in
theorem U_X12_due_85_0 {G : GG} {Φ : Int → Hp → Prop} {h : Hp} {x1 : Int} {x2 : Int} (H : ((x2 < 0 → Φ (-1) h) ∧ (0 ≤ x2 → ((7 < x2 → Φ (-1) h) ∧ (x2 ≤ 7 → (((h 85 10) < x1 → (((h 85 62) ≠ 10 → (0 ≤ (h 85 62) ∧ (h 85 62) < 10) ∧ (0 ≤ (h 85 62) ∧ (h 85 62) < 10) ∧ Φ (w32 ((h 85 62) + 1)) (up (up (up h 126 (h 85 62) x1) 127 (h 85 62) x2) 85 62 (w32 ((h 85 62) + 1)))) ∧ ((h 85 62) = 10 → Φ (-4) h))) ∧ (x1 ≤ (h 85 10) → Φ (-1) h))))))) : AT G m_X12_due 0 [(0, rv 85), (1, iv x1), (2, iv x2)] [] h Φ := by
  refine a_iload_n (pc := 0) (dk dt_X12_due 0 rfl) rfl ?_
  refine a_iconst (pc := 1) (dk dt_X12_due 1 rfl) (ik rfl) ?_
  refine a_bipush (pc := 2) (dk dt_X12_due 2 rfl) (ik rfl) (bpk rfl) ?_
  refine a_callSi (as := [iv x2, iv 0, iv 7]) (st := []) (pc := 4) (dk dt_X12_due 3 rfl) cl_RX12_302 ⟨Nat.le_of_ble_eq_true rfl, Nat.le_of_ble_eq_true rfl⟩ ⟨Nat.le_of_ble_eq_true rfl, Nat.le_of_ble_eq_true rfl⟩ rfl rfl rfl (Nat.le_of_ble_eq_true rfl) (Call.of rfl (Nat.le_of_ble_eq_true rfl) rfl ?_)
  refine a_iload_n (pc := 0) (dk dt_X12_is 0 rfl) rfl ?_
  refine a_iload_n (pc := 1) (dk dt_X12_is 1 rfl) rfl ?_
  refine a_icmp_lt (pc := 2) (dk dt_X12_is 2 rfl) (tgt := 14) rfl ⟨fun c => ?_, fun c => ?_⟩
  · replace H := H.1 c
    refine a_iconst (pc := 14) (dk dt_X12_is 8 rfl) (ik rfl) ?_
    refine a_zret (pc := 15) (dk dt_X12_is 9 rfl) rfl rfl ⟨by decide, ?_⟩
    show ATW _ _ _ _ _ _ _ _ _ _
    refine a_if_eq (pc := 7) (dk dt_X12_due 4 rfl) (tgt := 18) rfl ⟨fun _ => ?_, fun c => absurd c (by decide)⟩
    refine a_iconst (pc := 18) (dk dt_X12_due 9 rfl) (ik rfl) ?_
    exact a_iret (pc := 19) (dk dt_X12_due 10 rfl) rfl rfl H
  · replace H := H.2 c
    refine a_iload_n (pc := 5) (dk dt_X12_is 3 rfl) rfl ?_
    refine a_iload_n (pc := 6) (dk dt_X12_is 4 rfl) rfl ?_
    refine a_icmp_gt (pc := 7) (dk dt_X12_is 5 rfl) (tgt := 14) rfl ⟨fun c => ?_, fun c => ?_⟩
    · replace H := H.1 c
      refine a_iconst (pc := 14) (dk dt_X12_is 8 rfl) (ik rfl) ?_
      refine a_zret (pc := 15) (dk dt_X12_is 9 rfl) rfl rfl ⟨by decide, ?_⟩
      show ATW _ _ _ _ _ _ _ _ _ _
      refine a_if_eq (pc := 7) (dk dt_X12_due 4 rfl) (tgt := 18) rfl ⟨fun _ => ?_, fun c => absurd c (by decide)⟩
      refine a_iconst (pc := 18) (dk dt_X12_due 9 rfl) (ik rfl) ?_
      exact a_iret (pc := 19) (dk dt_X12_due 10 rfl) rfl rfl H
    · replace H := H.2 c
      refine a_iconst (pc := 10) (dk dt_X12_is 6 rfl) (ik rfl) ?_
      refine a_goto (pc := 11) (dk dt_X12_is 7 rfl) (tgt := 15) rfl ?_
      refine a_zret (pc := 15) (dk dt_X12_is 9 rfl) rfl rfl ⟨by decide, ?_⟩
      show ATW _ _ _ _ _ _ _ _ _ _
      refine a_if_eq (pc := 7) (dk dt_X12_due 4 rfl) (tgt := 18) rfl ⟨fun c => absurd c (by decide), fun _ => ?_⟩
      refine a_iload_n (pc := 10) (dk dt_X12_due 5 rfl) rfl ?_
      refine a_aload_n (pc := 11) (dk dt_X12_due 6 rfl) rfl ?_
      refine a_geti (pc := 12) (dk dt_X12_due 7 rfl) cls_12 fl_RX12_398 cf_85_10 ?_
      refine a_icmp_gt (pc := 15) (dk dt_X12_due 8 rfl) (tgt := 20) rfl ⟨fun c => ?_, fun c => ?_⟩
      · replace H := H.1 c
        refine a_aload_n (pc := 20) (dk dt_X12_due 11 rfl) rfl ?_
        refine a_geti (pc := 21) (dk dt_X12_due 12 rfl) cls_12 fl_RX12_495 cf_85_62 ?_
        refine a_bipush (pc := 24) (dk dt_X12_due 13 rfl) (ik rfl) (bpk rfl) ?_
        refine a_icmp_ne (pc := 26) (dk dt_X12_due 14 rfl) (tgt := 32) rfl ⟨fun c => ?_, fun c => ?_⟩
        · replace H := H.1 c
          refine a_aload_n (pc := 32) (dk dt_X12_due 17 rfl) rfl ?_
          refine a_getr (r := 125) (pc := 33) (dk dt_X12_due 18 rfl) cls_12 fl_RX12_207 cf_85_60 ?_
          refine a_aload_n (pc := 36) (dk dt_X12_due 19 rfl) rfl ?_
          refine a_geti (pc := 37) (dk dt_X12_due 20 rfl) cls_12 fl_RX12_495 cf_85_62 ?_
          refine a_iload_n (pc := 40) (dk dt_X12_due 21 rfl) rfl ?_
          refine a_iast (pc := 41) (dk dt_X12_due 22 rfl) ar_126 ⟨H.1, ?_⟩
          replace H := H.2
          refine a_aload_n (pc := 42) (dk dt_X12_due 23 rfl) rfl ?_
          refine a_getr (r := 126) (pc := 43) (dk dt_X12_due 24 rfl) cls_12 fl_RX12_210 cf_85_61 ?_
          refine a_aload_n (pc := 46) (dk dt_X12_due 25 rfl) rfl ?_
          refine a_geti (pc := 47) (dk dt_X12_due 26 rfl) cls_12 fl_RX12_495 cf_85_62 ?_
          refine a_top (y := (h 85 62)) (by simp [up, cpy]) ?_
          refine a_iload_n (pc := 50) (dk dt_X12_due 27 rfl) rfl ?_
          refine a_iast (pc := 51) (dk dt_X12_due 28 rfl) ar_127 ⟨H.1, ?_⟩
          replace H := H.2
          refine a_aload_n (pc := 52) (dk dt_X12_due 29 rfl) rfl ?_
          refine a_dup (pc := 53) (dk dt_X12_due 30 rfl) rfl ?_
          refine a_geti (pc := 54) (dk dt_X12_due 31 rfl) cls_12 fl_RX12_495 cf_85_62 ?_
          refine a_top (y := (h 85 62)) (by simp [up, cpy]) ?_
          refine a_iconst (pc := 57) (dk dt_X12_due 32 rfl) (ik rfl) ?_
          refine a_iadd (pc := 58) (dk dt_X12_due 33 rfl) ?_
          refine a_puti (pc := 59) (dk dt_X12_due 34 rfl) cls_12 fl_RX12_495 cf_85_62 rfl rfl ?_
          refine a_aload_n (pc := 62) (dk dt_X12_due 35 rfl) rfl ?_
          refine a_geti (pc := 63) (dk dt_X12_due 36 rfl) cls_12 fl_RX12_495 cf_85_62 ?_
          refine a_top (y := (w32 ((h 85 62) + 1))) (by simp [up, cpy]) ?_
          exact a_iret (pc := 66) (dk dt_X12_due 37 rfl) rfl rfl H
        · replace H := H.2 c
          refine a_bipush (pc := 29) (dk dt_X12_due 15 rfl) (ik rfl) (bpk rfl) ?_
          exact a_iret (pc := 31) (dk dt_X12_due 16 rfl) rfl rfl H
      · replace H := H.2 c
        refine a_iconst (pc := 18) (dk dt_X12_due 9 rfl) (ik rfl) ?_
        exact a_iret (pc := 19) (dk dt_X12_due 10 rfl) rfl rfl H
set_option maxHeartbeats 40000000 in
theorem U_X12_mode_85_0 {G : GG} {Φ : Int → Hp → Prop} {h : Hp} {x1 : Int} {x2 : Int} {x3 : Int} (H : ((x1 < 0 → Φ (-1) h) ∧ (0 ≤ x1 → ((3 < x1 → Φ (-1) h) ∧ (x1 ≤ 3 → ((x2 < 0 → Φ (-1) h) ∧ (0 ≤ x2 → ((255 < x2 → Φ (-1) h) ∧ (x2 ≤ 255 → ((x3 < 0 → Φ (-1) h) ∧ (0 ≤ x3 → ((255 < x3 → Φ (-1) h) ∧ (x3 ≤ 255 → (0 ≤ x1 ∧ x1 < 4) ∧ (0 ≤ x1 ∧ x1 < 4) ∧ Φ 1 (up (up h 124 x1 x2) 125 x1 x3)))))))))))))) : AT G m_X12_mode 0 [(0, rv 85), (1, iv x1), (2, iv x2), (3, iv x3)] [] h Φ := by
  refine a_iload_n (pc := 0) (dk dt_X12_mode 0 rfl) rfl ?_
  refine a_iconst (pc := 1) (dk dt_X12_mode 1 rfl) (ik rfl) ?_
  refine a_iconst (pc := 2) (dk dt_X12_mode 2 rfl) (ik rfl) ?_
  refine a_callSi (as := [iv x1, iv 0, iv 3]) (st := []) (pc := 3) (dk dt_X12_mode 3 rfl) cl_RX12_302 ⟨Nat.le_of_ble_eq_true rfl, Nat.le_of_ble_eq_true rfl⟩ ⟨Nat.le_of_ble_eq_true rfl, Nat.le_of_ble_eq_true rfl⟩ rfl rfl rfl (Nat.le_of_ble_eq_true rfl) (Call.of rfl (Nat.le_of_ble_eq_true rfl) rfl ?_)
  refine a_iload_n (pc := 0) (dk dt_X12_is 0 rfl) rfl ?_
  refine a_iload_n (pc := 1) (dk dt_X12_is 1 rfl) rfl ?_
  refine a_icmp_lt (pc := 2) (dk dt_X12_is 2 rfl) (tgt := 14) rfl ⟨fun c => ?_, fun c => ?_⟩
  · replace H := H.1 c
    refine a_iconst (pc := 14) (dk dt_X12_is 8 rfl) (ik rfl) ?_
    refine a_zret (pc := 15) (dk dt_X12_is 9 rfl) rfl rfl ⟨by decide, ?_⟩
    show ATW _ _ _ _ _ _ _ _ _ _
    refine a_if_eq (pc := 6) (dk dt_X12_mode 4 rfl) (tgt := 31) rfl ⟨fun _ => ?_, fun c => absurd c (by decide)⟩
    refine a_iconst (pc := 31) (dk dt_X12_mode 15 rfl) (ik rfl) ?_
    exact a_iret (pc := 32) (dk dt_X12_mode 16 rfl) rfl rfl H
  · replace H := H.2 c
    refine a_iload_n (pc := 5) (dk dt_X12_is 3 rfl) rfl ?_
    refine a_iload_n (pc := 6) (dk dt_X12_is 4 rfl) rfl ?_
    refine a_icmp_gt (pc := 7) (dk dt_X12_is 5 rfl) (tgt := 14) rfl ⟨fun c => ?_, fun c => ?_⟩
    · replace H := H.1 c
      refine a_iconst (pc := 14) (dk dt_X12_is 8 rfl) (ik rfl) ?_
      refine a_zret (pc := 15) (dk dt_X12_is 9 rfl) rfl rfl ⟨by decide, ?_⟩
      show ATW _ _ _ _ _ _ _ _ _ _
      refine a_if_eq (pc := 6) (dk dt_X12_mode 4 rfl) (tgt := 31) rfl ⟨fun _ => ?_, fun c => absurd c (by decide)⟩
      refine a_iconst (pc := 31) (dk dt_X12_mode 15 rfl) (ik rfl) ?_
      exact a_iret (pc := 32) (dk dt_X12_mode 16 rfl) rfl rfl H
    · replace H := H.2 c
      refine a_iconst (pc := 10) (dk dt_X12_is 6 rfl) (ik rfl) ?_
      refine a_goto (pc := 11) (dk dt_X12_is 7 rfl) (tgt := 15) rfl ?_
      refine a_zret (pc := 15) (dk dt_X12_is 9 rfl) rfl rfl ⟨by decide, ?_⟩
      show ATW _ _ _ _ _ _ _ _ _ _
      refine a_if_eq (pc := 6) (dk dt_X12_mode 4 rfl) (tgt := 31) rfl ⟨fun c => absurd c (by decide), fun _ => ?_⟩
      refine a_iload_n (pc := 9) (dk dt_X12_mode 5 rfl) rfl ?_
      refine a_iconst (pc := 10) (dk dt_X12_mode 6 rfl) (ik rfl) ?_
      refine a_sipush (pc := 11) (dk dt_X12_mode 7 rfl) (ik rfl) (spk rfl) ?_
      refine a_callSi (as := [iv x2, iv 0, iv 255]) (st := []) (pc := 14) (dk dt_X12_mode 8 rfl) cl_RX12_302 ⟨Nat.le_of_ble_eq_true rfl, Nat.le_of_ble_eq_true rfl⟩ ⟨Nat.le_of_ble_eq_true rfl, Nat.le_of_ble_eq_true rfl⟩ rfl rfl rfl (Nat.le_of_ble_eq_true rfl) (Call.of rfl (Nat.le_of_ble_eq_true rfl) rfl ?_)
      refine a_iload_n (pc := 0) (dk dt_X12_is 0 rfl) rfl ?_
      refine a_iload_n (pc := 1) (dk dt_X12_is 1 rfl) rfl ?_
      refine a_icmp_lt (pc := 2) (dk dt_X12_is 2 rfl) (tgt := 14) rfl ⟨fun c => ?_, fun c => ?_⟩
      · replace H := H.1 c
        refine a_iconst (pc := 14) (dk dt_X12_is 8 rfl) (ik rfl) ?_
        refine a_zret (pc := 15) (dk dt_X12_is 9 rfl) rfl rfl ⟨by decide, ?_⟩
        show ATW _ _ _ _ _ _ _ _ _ _
        refine a_if_eq (pc := 17) (dk dt_X12_mode 9 rfl) (tgt := 31) rfl ⟨fun _ => ?_, fun c => absurd c (by decide)⟩
        refine a_iconst (pc := 31) (dk dt_X12_mode 15 rfl) (ik rfl) ?_
        exact a_iret (pc := 32) (dk dt_X12_mode 16 rfl) rfl rfl H
      · replace H := H.2 c
        refine a_iload_n (pc := 5) (dk dt_X12_is 3 rfl) rfl ?_
        refine a_iload_n (pc := 6) (dk dt_X12_is 4 rfl) rfl ?_
        refine a_icmp_gt (pc := 7) (dk dt_X12_is 5 rfl) (tgt := 14) rfl ⟨fun c => ?_, fun c => ?_⟩
        · replace H := H.1 c
          refine a_iconst (pc := 14) (dk dt_X12_is 8 rfl) (ik rfl) ?_
          refine a_zret (pc := 15) (dk dt_X12_is 9 rfl) rfl rfl ⟨by decide, ?_⟩
          show ATW _ _ _ _ _ _ _ _ _ _
          refine a_if_eq (pc := 17) (dk dt_X12_mode 9 rfl) (tgt := 31) rfl ⟨fun _ => ?_, fun c => absurd c (by decide)⟩
          refine a_iconst (pc := 31) (dk dt_X12_mode 15 rfl) (ik rfl) ?_
          exact a_iret (pc := 32) (dk dt_X12_mode 16 rfl) rfl rfl H
        · replace H := H.2 c
          refine a_iconst (pc := 10) (dk dt_X12_is 6 rfl) (ik rfl) ?_
          refine a_goto (pc := 11) (dk dt_X12_is 7 rfl) (tgt := 15) rfl ?_
          refine a_zret (pc := 15) (dk dt_X12_is 9 rfl) rfl rfl ⟨by decide, ?_⟩
          show ATW _ _ _ _ _ _ _ _ _ _
          refine a_if_eq (pc := 17) (dk dt_X12_mode 9 rfl) (tgt := 31) rfl ⟨fun c => absurd c (by decide), fun _ => ?_⟩
          refine a_iload_n (pc := 20) (dk dt_X12_mode 10 rfl) rfl ?_
          refine a_iconst (pc := 21) (dk dt_X12_mode 11 rfl) (ik rfl) ?_
          refine a_sipush (pc := 22) (dk dt_X12_mode 12 rfl) (ik rfl) (spk rfl) ?_
          refine a_callSi (as := [iv x3, iv 0, iv 255]) (st := []) (pc := 25) (dk dt_X12_mode 13 rfl) cl_RX12_302 ⟨Nat.le_of_ble_eq_true rfl, Nat.le_of_ble_eq_true rfl⟩ ⟨Nat.le_of_ble_eq_true rfl, Nat.le_of_ble_eq_true rfl⟩ rfl rfl rfl (Nat.le_of_ble_eq_true rfl) (Call.of rfl (Nat.le_of_ble_eq_true rfl) rfl ?_)
          refine a_iload_n (pc := 0) (dk dt_X12_is 0 rfl) rfl ?_
          refine a_iload_n (pc := 1) (dk dt_X12_is 1 rfl) rfl ?_
          refine a_icmp_lt (pc := 2) (dk dt_X12_is 2 rfl) (tgt := 14) rfl ⟨fun c => ?_, fun c => ?_⟩
          · replace H := H.1 c
            refine a_iconst (pc := 14) (dk dt_X12_is 8 rfl) (ik rfl) ?_
            refine a_zret (pc := 15) (dk dt_X12_is 9 rfl) rfl rfl ⟨by decide, ?_⟩
            show ATW _ _ _ _ _ _ _ _ _ _
            refine a_if_ne (pc := 28) (dk dt_X12_mode 14 rfl) (tgt := 33) rfl ⟨fun c => absurd c (by decide), fun _ => ?_⟩
            refine a_iconst (pc := 31) (dk dt_X12_mode 15 rfl) (ik rfl) ?_
            exact a_iret (pc := 32) (dk dt_X12_mode 16 rfl) rfl rfl H
          · replace H := H.2 c
            refine a_iload_n (pc := 5) (dk dt_X12_is 3 rfl) rfl ?_
            refine a_iload_n (pc := 6) (dk dt_X12_is 4 rfl) rfl ?_
            refine a_icmp_gt (pc := 7) (dk dt_X12_is 5 rfl) (tgt := 14) rfl ⟨fun c => ?_, fun c => ?_⟩
            · replace H := H.1 c
              refine a_iconst (pc := 14) (dk dt_X12_is 8 rfl) (ik rfl) ?_
              refine a_zret (pc := 15) (dk dt_X12_is 9 rfl) rfl rfl ⟨by decide, ?_⟩
              show ATW _ _ _ _ _ _ _ _ _ _
              refine a_if_ne (pc := 28) (dk dt_X12_mode 14 rfl) (tgt := 33) rfl ⟨fun c => absurd c (by decide), fun _ => ?_⟩
              refine a_iconst (pc := 31) (dk dt_X12_mode 15 rfl) (ik rfl) ?_
              exact a_iret (pc := 32) (dk dt_X12_mode 16 rfl) rfl rfl H
            · replace H := H.2 c
              refine a_iconst (pc := 10) (dk dt_X12_is 6 rfl) (ik rfl) ?_
              refine a_goto (pc := 11) (dk dt_X12_is 7 rfl) (tgt := 15) rfl ?_
              refine a_zret (pc := 15) (dk dt_X12_is 9 rfl) rfl rfl ⟨by decide, ?_⟩
              show ATW _ _ _ _ _ _ _ _ _ _
              refine a_if_ne (pc := 28) (dk dt_X12_mode 14 rfl) (tgt := 33) rfl ⟨fun _ => ?_, fun c => absurd c (by decide)⟩
              refine a_aload_n (pc := 33) (dk dt_X12_mode 17 rfl) rfl ?_
              refine a_getr (r := 123) (pc := 34) (dk dt_X12_mode 18 rfl) cls_12 fl_RX12_201 cf_85_58 ?_
              refine a_iload_n (pc := 37) (dk dt_X12_mode 19 rfl) rfl ?_
              refine a_iload_n (pc := 38) (dk dt_X12_mode 20 rfl) rfl ?_
              refine a_iast (pc := 39) (dk dt_X12_mode 21 rfl) ar_124 ⟨H.1, ?_⟩
              replace H := H.2
              refine a_aload_n (pc := 40) (dk dt_X12_mode 22 rfl) rfl ?_
              refine a_getr (r := 124) (pc := 41) (dk dt_X12_mode 23 rfl) cls_12 fl_RX12_204 cf_85_59 ?_
              refine a_iload_n (pc := 44) (dk dt_X12_mode 24 rfl) rfl ?_
              refine a_iload_n (pc := 45) (dk dt_X12_mode 25 rfl) rfl ?_
              refine a_iast (pc := 46) (dk dt_X12_mode 26 rfl) ar_125 ⟨H.1, ?_⟩
              replace H := H.2
              refine a_iconst (pc := 47) (dk dt_X12_mode 27 rfl) (ik rfl) ?_
              exact a_iret (pc := 48) (dk dt_X12_mode 28 rfl) rfl rfl H
set_option maxHeartbeats 40000000 in
theorem U_X12_monitor_85_0 {G : GG} {Φ : Int → Hp → Prop} {h : Hp} {x1 : Int} {x2 : Int} {x3 : Int} (H : ((x1 < 0 → Φ (-1) h) ∧ (0 ≤ x1 → ((7 < x1 → Φ (-1) h) ∧ (x1 ≤ 7 → ((x2 < 1 → Φ (-1) h) ∧ (1 ≤ x2 → ((99 < x2 → Φ (-1) h) ∧ (x2 ≤ 99 → ((x3 < 0 → Φ (-1) h) ∧ (0 ≤ x3 → ((8 < x3 → Φ (-1) h) ∧ (x3 ≤ 8 → Call G m_X12_take [rv 85] h (fun _ h2 => (((h2 85 4) ≤ 0 → (((h2 85 4) ≤ 0 → (0 ≤ x1 ∧ x1 < 8) ∧ (0 ≤ x1 ∧ x1 < 8) ∧ (0 ≤ x1 ∧ x1 < 8) ∧ (0 ≤ x1 ∧ x1 < 8) ∧ (0 ≤ x1 ∧ x1 < 8) ∧ Φ 1 (up (up (up (up (up h2 132 x1 0) 128 x1 x2) 129 x1 x3) 130 x1 0) 131 x1 (-1))) ∧ (0 < (h2 85 4) → (0 ≤ x1 ∧ x1 < 8) ∧ (0 ≤ x1 ∧ x1 < 8) ∧ (0 ≤ x1 ∧ x1 < 8) ∧ (0 ≤ x1 ∧ x1 < 8) ∧ (0 ≤ x1 ∧ x1 < 8) ∧ Φ 1 (up (up (up (up (up h2 132 x1 1) 128 x1 x2) 129 x1 x3) 130 x1 0) 131 x1 (-1))))) ∧ (0 < (h2 85 4) → Call G m_X12_condition [rv 85, iv 240] h2 (fun _ h4 => Call G m_X12_done [rv 85] h4 (fun _ h6 => (((h6 85 6) < 0 → Call G m_X12_copyLine [rv 85, iv 240, iv (w32 (241 + x1))] h6 (fun _ h8 => (((h8 85 4) ≤ 0 → (0 ≤ x1 ∧ x1 < 8) ∧ (0 ≤ x1 ∧ x1 < 8) ∧ (0 ≤ x1 ∧ x1 < 8) ∧ (0 ≤ x1 ∧ x1 < 8) ∧ (0 ≤ x1 ∧ x1 < 8) ∧ Φ 1 (up (up (up (up (up h8 132 x1 0) 128 x1 x2) 129 x1 x3) 130 x1 0) 131 x1 (-1))) ∧ (0 < (h8 85 4) → (0 ≤ x1 ∧ x1 < 8) ∧ (0 ≤ x1 ∧ x1 < 8) ∧ (0 ≤ x1 ∧ x1 < 8) ∧ (0 ≤ x1 ∧ x1 < 8) ∧ (0 ≤ x1 ∧ x1 < 8) ∧ Φ 1 (up (up (up (up (up h8 132 x1 1) 128 x1 x2) 129 x1 x3) 130 x1 0) 131 x1 (-1)))))) ∧ (0 ≤ (h6 85 6) → Φ (w32 ((-1000) - (h6 85 6))) h6)))))))))))))))))))) : AT G m_X12_monitor 0 [(0, rv 85), (1, iv x1), (2, iv x2), (3, iv x3)] [] h Φ := by
  refine a_iload_n (pc := 0) (dk dt_X12_monitor 0 rfl) rfl ?_
  refine a_iconst (pc := 1) (dk dt_X12_monitor 1 rfl) (ik rfl) ?_
  refine a_bipush (pc := 2) (dk dt_X12_monitor 2 rfl) (ik rfl) (bpk rfl) ?_
  refine a_callSi (as := [iv x1, iv 0, iv 7]) (st := []) (pc := 4) (dk dt_X12_monitor 3 rfl) cl_RX12_302 ⟨Nat.le_of_ble_eq_true rfl, Nat.le_of_ble_eq_true rfl⟩ ⟨Nat.le_of_ble_eq_true rfl, Nat.le_of_ble_eq_true rfl⟩ rfl rfl rfl (Nat.le_of_ble_eq_true rfl) (Call.of rfl (Nat.le_of_ble_eq_true rfl) rfl ?_)
  refine a_iload_n (pc := 0) (dk dt_X12_is 0 rfl) rfl ?_
  refine a_iload_n (pc := 1) (dk dt_X12_is 1 rfl) rfl ?_
  refine a_icmp_lt (pc := 2) (dk dt_X12_is 2 rfl) (tgt := 14) rfl ⟨fun c => ?_, fun c => ?_⟩
  · replace H := H.1 c
    refine a_iconst (pc := 14) (dk dt_X12_is 8 rfl) (ik rfl) ?_
    refine a_zret (pc := 15) (dk dt_X12_is 9 rfl) rfl rfl ⟨by decide, ?_⟩
    show ATW _ _ _ _ _ _ _ _ _ _
    refine a_if_eq (pc := 7) (dk dt_X12_monitor 4 rfl) (tgt := 30) rfl ⟨fun _ => ?_, fun c => absurd c (by decide)⟩
    refine a_iconst (pc := 30) (dk dt_X12_monitor 15 rfl) (ik rfl) ?_
    exact a_iret (pc := 31) (dk dt_X12_monitor 16 rfl) rfl rfl H
  · replace H := H.2 c
    refine a_iload_n (pc := 5) (dk dt_X12_is 3 rfl) rfl ?_
    refine a_iload_n (pc := 6) (dk dt_X12_is 4 rfl) rfl ?_
    refine a_icmp_gt (pc := 7) (dk dt_X12_is 5 rfl) (tgt := 14) rfl ⟨fun c => ?_, fun c => ?_⟩
    · replace H := H.1 c
      refine a_iconst (pc := 14) (dk dt_X12_is 8 rfl) (ik rfl) ?_
      refine a_zret (pc := 15) (dk dt_X12_is 9 rfl) rfl rfl ⟨by decide, ?_⟩
      show ATW _ _ _ _ _ _ _ _ _ _
      refine a_if_eq (pc := 7) (dk dt_X12_monitor 4 rfl) (tgt := 30) rfl ⟨fun _ => ?_, fun c => absurd c (by decide)⟩
      refine a_iconst (pc := 30) (dk dt_X12_monitor 15 rfl) (ik rfl) ?_
      exact a_iret (pc := 31) (dk dt_X12_monitor 16 rfl) rfl rfl H
    · replace H := H.2 c
      refine a_iconst (pc := 10) (dk dt_X12_is 6 rfl) (ik rfl) ?_
      refine a_goto (pc := 11) (dk dt_X12_is 7 rfl) (tgt := 15) rfl ?_
      refine a_zret (pc := 15) (dk dt_X12_is 9 rfl) rfl rfl ⟨by decide, ?_⟩
      show ATW _ _ _ _ _ _ _ _ _ _
      refine a_if_eq (pc := 7) (dk dt_X12_monitor 4 rfl) (tgt := 30) rfl ⟨fun c => absurd c (by decide), fun _ => ?_⟩
      refine a_iload_n (pc := 10) (dk dt_X12_monitor 5 rfl) rfl ?_
      refine a_iconst (pc := 11) (dk dt_X12_monitor 6 rfl) (ik rfl) ?_
      refine a_bipush (pc := 12) (dk dt_X12_monitor 7 rfl) (ik rfl) (bpk rfl) ?_
      refine a_callSi (as := [iv x2, iv 1, iv 99]) (st := []) (pc := 14) (dk dt_X12_monitor 8 rfl) cl_RX12_302 ⟨Nat.le_of_ble_eq_true rfl, Nat.le_of_ble_eq_true rfl⟩ ⟨Nat.le_of_ble_eq_true rfl, Nat.le_of_ble_eq_true rfl⟩ rfl rfl rfl (Nat.le_of_ble_eq_true rfl) (Call.of rfl (Nat.le_of_ble_eq_true rfl) rfl ?_)
      refine a_iload_n (pc := 0) (dk dt_X12_is 0 rfl) rfl ?_
      refine a_iload_n (pc := 1) (dk dt_X12_is 1 rfl) rfl ?_
      refine a_icmp_lt (pc := 2) (dk dt_X12_is 2 rfl) (tgt := 14) rfl ⟨fun c => ?_, fun c => ?_⟩
      · replace H := H.1 c
        refine a_iconst (pc := 14) (dk dt_X12_is 8 rfl) (ik rfl) ?_
        refine a_zret (pc := 15) (dk dt_X12_is 9 rfl) rfl rfl ⟨by decide, ?_⟩
        show ATW _ _ _ _ _ _ _ _ _ _
        refine a_if_eq (pc := 17) (dk dt_X12_monitor 9 rfl) (tgt := 30) rfl ⟨fun _ => ?_, fun c => absurd c (by decide)⟩
        refine a_iconst (pc := 30) (dk dt_X12_monitor 15 rfl) (ik rfl) ?_
        exact a_iret (pc := 31) (dk dt_X12_monitor 16 rfl) rfl rfl H
      · replace H := H.2 c
        refine a_iload_n (pc := 5) (dk dt_X12_is 3 rfl) rfl ?_
        refine a_iload_n (pc := 6) (dk dt_X12_is 4 rfl) rfl ?_
        refine a_icmp_gt (pc := 7) (dk dt_X12_is 5 rfl) (tgt := 14) rfl ⟨fun c => ?_, fun c => ?_⟩
        · replace H := H.1 c
          refine a_iconst (pc := 14) (dk dt_X12_is 8 rfl) (ik rfl) ?_
          refine a_zret (pc := 15) (dk dt_X12_is 9 rfl) rfl rfl ⟨by decide, ?_⟩
          show ATW _ _ _ _ _ _ _ _ _ _
          refine a_if_eq (pc := 17) (dk dt_X12_monitor 9 rfl) (tgt := 30) rfl ⟨fun _ => ?_, fun c => absurd c (by decide)⟩
          refine a_iconst (pc := 30) (dk dt_X12_monitor 15 rfl) (ik rfl) ?_
          exact a_iret (pc := 31) (dk dt_X12_monitor 16 rfl) rfl rfl H
        · replace H := H.2 c
          refine a_iconst (pc := 10) (dk dt_X12_is 6 rfl) (ik rfl) ?_
          refine a_goto (pc := 11) (dk dt_X12_is 7 rfl) (tgt := 15) rfl ?_
          refine a_zret (pc := 15) (dk dt_X12_is 9 rfl) rfl rfl ⟨by decide, ?_⟩
          show ATW _ _ _ _ _ _ _ _ _ _
          refine a_if_eq (pc := 17) (dk dt_X12_monitor 9 rfl) (tgt := 30) rfl ⟨fun c => absurd c (by decide), fun _ => ?_⟩
          refine a_iload_n (pc := 20) (dk dt_X12_monitor 10 rfl) rfl ?_
          refine a_iconst (pc := 21) (dk dt_X12_monitor 11 rfl) (ik rfl) ?_
          refine a_bipush (pc := 22) (dk dt_X12_monitor 12 rfl) (ik rfl) (bpk rfl) ?_
          refine a_callSi (as := [iv x3, iv 0, iv 8]) (st := []) (pc := 24) (dk dt_X12_monitor 13 rfl) cl_RX12_302 ⟨Nat.le_of_ble_eq_true rfl, Nat.le_of_ble_eq_true rfl⟩ ⟨Nat.le_of_ble_eq_true rfl, Nat.le_of_ble_eq_true rfl⟩ rfl rfl rfl (Nat.le_of_ble_eq_true rfl) (Call.of rfl (Nat.le_of_ble_eq_true rfl) rfl ?_)
          refine a_iload_n (pc := 0) (dk dt_X12_is 0 rfl) rfl ?_
          refine a_iload_n (pc := 1) (dk dt_X12_is 1 rfl) rfl ?_
          refine a_icmp_lt (pc := 2) (dk dt_X12_is 2 rfl) (tgt := 14) rfl ⟨fun c => ?_, fun c => ?_⟩
          · replace H := H.1 c
            refine a_iconst (pc := 14) (dk dt_X12_is 8 rfl) (ik rfl) ?_
            refine a_zret (pc := 15) (dk dt_X12_is 9 rfl) rfl rfl ⟨by decide, ?_⟩
            show ATW _ _ _ _ _ _ _ _ _ _
            refine a_if_ne (pc := 27) (dk dt_X12_monitor 14 rfl) (tgt := 32) rfl ⟨fun c => absurd c (by decide), fun _ => ?_⟩
            refine a_iconst (pc := 30) (dk dt_X12_monitor 15 rfl) (ik rfl) ?_
            exact a_iret (pc := 31) (dk dt_X12_monitor 16 rfl) rfl rfl H
          · replace H := H.2 c
            refine a_iload_n (pc := 5) (dk dt_X12_is 3 rfl) rfl ?_
            refine a_iload_n (pc := 6) (dk dt_X12_is 4 rfl) rfl ?_
            refine a_icmp_gt (pc := 7) (dk dt_X12_is 5 rfl) (tgt := 14) rfl ⟨fun c => ?_, fun c => ?_⟩
            · replace H := H.1 c
              refine a_iconst (pc := 14) (dk dt_X12_is 8 rfl) (ik rfl) ?_
              refine a_zret (pc := 15) (dk dt_X12_is 9 rfl) rfl rfl ⟨by decide, ?_⟩
              show ATW _ _ _ _ _ _ _ _ _ _
              refine a_if_ne (pc := 27) (dk dt_X12_monitor 14 rfl) (tgt := 32) rfl ⟨fun c => absurd c (by decide), fun _ => ?_⟩
              refine a_iconst (pc := 30) (dk dt_X12_monitor 15 rfl) (ik rfl) ?_
              exact a_iret (pc := 31) (dk dt_X12_monitor 16 rfl) rfl rfl H
            · replace H := H.2 c
              refine a_iconst (pc := 10) (dk dt_X12_is 6 rfl) (ik rfl) ?_
              refine a_goto (pc := 11) (dk dt_X12_is 7 rfl) (tgt := 15) rfl ?_
              refine a_zret (pc := 15) (dk dt_X12_is 9 rfl) rfl rfl ⟨by decide, ?_⟩
              show ATW _ _ _ _ _ _ _ _ _ _
              refine a_if_ne (pc := 27) (dk dt_X12_monitor 14 rfl) (tgt := 32) rfl ⟨fun _ => ?_, fun c => absurd c (by decide)⟩
              refine a_aload_n (pc := 32) (dk dt_X12_monitor 17 rfl) rfl ?_
              refine a_callVv (as := []) (st := []) (pc := 33) (dk dt_X12_monitor 18 rfl) cl_RX12_364 ⟨Nat.le_of_ble_eq_true rfl, Nat.le_of_ble_eq_true rfl⟩ ⟨Nat.le_of_ble_eq_true rfl, Nat.le_of_ble_eq_true rfl⟩ cls_12 rfl cc_85 rfl rfl rfl (Nat.le_of_ble_eq_true rfl) (Call.mono H fun _ h2 H => ?_)
              refine a_aload_n (pc := 36) (dk dt_X12_monitor 19 rfl) rfl ?_
              refine a_geti (pc := 37) (dk dt_X12_monitor 20 rfl) cls_12 fl_RX12_306 cf_85_4 ?_
              refine a_if_le (pc := 40) (dk dt_X12_monitor 21 rfl) (tgt := 82) rfl ⟨fun c => ?_, fun c => ?_⟩
              · replace H := H.1 c
                refine a_aload_n (pc := 82) (dk dt_X12_monitor 41 rfl) rfl ?_
                refine a_getr (r := 131) (pc := 83) (dk dt_X12_monitor 42 rfl) cls_12 fl_RX12_225 cf_85_67 ?_
                refine a_iload_n (pc := 86) (dk dt_X12_monitor 43 rfl) rfl ?_
                refine a_aload_n (pc := 87) (dk dt_X12_monitor 44 rfl) rfl ?_
                refine a_geti (pc := 88) (dk dt_X12_monitor 45 rfl) cls_12 fl_RX12_306 cf_85_4 ?_
                refine a_if_le (pc := 91) (dk dt_X12_monitor 46 rfl) (tgt := 98) rfl ⟨fun c => ?_, fun c => ?_⟩
                · replace H := H.1 c
                  refine a_iconst (pc := 98) (dk dt_X12_monitor 49 rfl) (ik rfl) ?_
                  refine a_zast (pc := 99) (dk dt_X12_monitor 50 rfl) ar_132 ⟨H.1, by decide, ?_⟩
                  replace H := H.2
                  refine a_aload_n (pc := 100) (dk dt_X12_monitor 51 rfl) rfl ?_
                  refine a_getr (r := 127) (pc := 101) (dk dt_X12_monitor 52 rfl) cls_12 fl_RX12_213 cf_85_63 ?_
                  refine a_iload_n (pc := 104) (dk dt_X12_monitor 53 rfl) rfl ?_
                  refine a_iload_n (pc := 105) (dk dt_X12_monitor 54 rfl) rfl ?_
                  refine a_iast (pc := 106) (dk dt_X12_monitor 55 rfl) ar_128 ⟨H.1, ?_⟩
                  replace H := H.2
                  refine a_aload_n (pc := 107) (dk dt_X12_monitor 56 rfl) rfl ?_
                  refine a_getr (r := 128) (pc := 108) (dk dt_X12_monitor 57 rfl) cls_12 fl_RX12_216 cf_85_64 ?_
                  refine a_iload_n (pc := 111) (dk dt_X12_monitor 58 rfl) rfl ?_
                  refine a_iload_n (pc := 112) (dk dt_X12_monitor 59 rfl) rfl ?_
                  refine a_iast (pc := 113) (dk dt_X12_monitor 60 rfl) ar_129 ⟨H.1, ?_⟩
                  replace H := H.2
                  refine a_aload_n (pc := 114) (dk dt_X12_monitor 61 rfl) rfl ?_
                  refine a_getr (r := 129) (pc := 115) (dk dt_X12_monitor 62 rfl) cls_12 fl_RX12_219 cf_85_65 ?_
                  refine a_iload_n (pc := 118) (dk dt_X12_monitor 63 rfl) rfl ?_
                  refine a_iconst (pc := 119) (dk dt_X12_monitor 64 rfl) (ik rfl) ?_
                  refine a_iast (pc := 120) (dk dt_X12_monitor 65 rfl) ar_130 ⟨H.1, ?_⟩
                  replace H := H.2
                  refine a_aload_n (pc := 121) (dk dt_X12_monitor 66 rfl) rfl ?_
                  refine a_getr (r := 130) (pc := 122) (dk dt_X12_monitor 67 rfl) cls_12 fl_RX12_222 cf_85_66 ?_
                  refine a_iload_n (pc := 125) (dk dt_X12_monitor 68 rfl) rfl ?_
                  refine a_iconst (pc := 126) (dk dt_X12_monitor 69 rfl) (ik rfl) ?_
                  refine a_iast (pc := 127) (dk dt_X12_monitor 70 rfl) ar_131 ⟨H.1, ?_⟩
                  replace H := H.2
                  refine a_iconst (pc := 128) (dk dt_X12_monitor 71 rfl) (ik rfl) ?_
                  exact a_iret (pc := 129) (dk dt_X12_monitor 72 rfl) rfl rfl H
                · replace H := H.2 c
                  refine a_iconst (pc := 94) (dk dt_X12_monitor 47 rfl) (ik rfl) ?_
                  refine a_goto (pc := 95) (dk dt_X12_monitor 48 rfl) (tgt := 99) rfl ?_
                  refine a_zast (pc := 99) (dk dt_X12_monitor 50 rfl) ar_132 ⟨H.1, by decide, ?_⟩
                  replace H := H.2
                  refine a_aload_n (pc := 100) (dk dt_X12_monitor 51 rfl) rfl ?_
                  refine a_getr (r := 127) (pc := 101) (dk dt_X12_monitor 52 rfl) cls_12 fl_RX12_213 cf_85_63 ?_
                  refine a_iload_n (pc := 104) (dk dt_X12_monitor 53 rfl) rfl ?_
                  refine a_iload_n (pc := 105) (dk dt_X12_monitor 54 rfl) rfl ?_
                  refine a_iast (pc := 106) (dk dt_X12_monitor 55 rfl) ar_128 ⟨H.1, ?_⟩
                  replace H := H.2
                  refine a_aload_n (pc := 107) (dk dt_X12_monitor 56 rfl) rfl ?_
                  refine a_getr (r := 128) (pc := 108) (dk dt_X12_monitor 57 rfl) cls_12 fl_RX12_216 cf_85_64 ?_
                  refine a_iload_n (pc := 111) (dk dt_X12_monitor 58 rfl) rfl ?_
                  refine a_iload_n (pc := 112) (dk dt_X12_monitor 59 rfl) rfl ?_
                  refine a_iast (pc := 113) (dk dt_X12_monitor 60 rfl) ar_129 ⟨H.1, ?_⟩
                  replace H := H.2
                  refine a_aload_n (pc := 114) (dk dt_X12_monitor 61 rfl) rfl ?_
                  refine a_getr (r := 129) (pc := 115) (dk dt_X12_monitor 62 rfl) cls_12 fl_RX12_219 cf_85_65 ?_
                  refine a_iload_n (pc := 118) (dk dt_X12_monitor 63 rfl) rfl ?_
                  refine a_iconst (pc := 119) (dk dt_X12_monitor 64 rfl) (ik rfl) ?_
                  refine a_iast (pc := 120) (dk dt_X12_monitor 65 rfl) ar_130 ⟨H.1, ?_⟩
                  replace H := H.2
                  refine a_aload_n (pc := 121) (dk dt_X12_monitor 66 rfl) rfl ?_
                  refine a_getr (r := 130) (pc := 122) (dk dt_X12_monitor 67 rfl) cls_12 fl_RX12_222 cf_85_66 ?_
                  refine a_iload_n (pc := 125) (dk dt_X12_monitor 68 rfl) rfl ?_
                  refine a_iconst (pc := 126) (dk dt_X12_monitor 69 rfl) (ik rfl) ?_
                  refine a_iast (pc := 127) (dk dt_X12_monitor 70 rfl) ar_131 ⟨H.1, ?_⟩
                  replace H := H.2
                  refine a_iconst (pc := 128) (dk dt_X12_monitor 71 rfl) (ik rfl) ?_
                  exact a_iret (pc := 129) (dk dt_X12_monitor 72 rfl) rfl rfl H
              · replace H := H.2 c
                refine a_aload_n (pc := 43) (dk dt_X12_monitor 22 rfl) rfl ?_
                refine a_sipush (pc := 44) (dk dt_X12_monitor 23 rfl) (ik rfl) (spk rfl) ?_
                refine a_callVv (as := [iv 240]) (st := []) (pc := 47) (dk dt_X12_monitor 24 rfl) cl_RX12_459 ⟨Nat.le_of_ble_eq_true rfl, Nat.le_of_ble_eq_true rfl⟩ ⟨Nat.le_of_ble_eq_true rfl, Nat.le_of_ble_eq_true rfl⟩ cls_12 rfl cc_85 rfl rfl rfl (Nat.le_of_ble_eq_true rfl) (Call.mono H fun _ h4 H => ?_)
                refine a_aload_n (pc := 50) (dk dt_X12_monitor 25 rfl) rfl ?_
                refine a_callVv (as := []) (st := []) (pc := 51) (dk dt_X12_monitor 26 rfl) cl_RX12_374 ⟨Nat.le_of_ble_eq_true rfl, Nat.le_of_ble_eq_true rfl⟩ ⟨Nat.le_of_ble_eq_true rfl, Nat.le_of_ble_eq_true rfl⟩ cls_12 rfl cc_85 rfl rfl rfl (Nat.le_of_ble_eq_true rfl) (Call.mono H fun _ h6 H => ?_)
                refine a_aload_n (pc := 54) (dk dt_X12_monitor 27 rfl) rfl ?_
                refine a_callVi (as := []) (st := []) (pc := 55) (dk dt_X12_monitor 28 rfl) cl_RX12_315 ⟨Nat.le_of_ble_eq_true rfl, Nat.le_of_ble_eq_true rfl⟩ ⟨Nat.le_of_ble_eq_true rfl, Nat.le_of_ble_eq_true rfl⟩ cls_12 rfl cc_85 rfl rfl rfl (Nat.le_of_ble_eq_true rfl) (Call.of rfl (Nat.le_of_ble_eq_true rfl) rfl ?_)
                refine a_aload_n (pc := 0) (dk dt_X12_bad 0 rfl) rfl ?_
                refine a_geti (pc := 1) (dk dt_X12_bad 1 rfl) cls_12 fl_RX12_312 cf_85_6 ?_
                refine a_if_lt (pc := 4) (dk dt_X12_bad 2 rfl) (tgt := 11) rfl ⟨fun c => ?_, fun c => ?_⟩
                · replace H := H.1 c
                  refine a_iconst (pc := 11) (dk dt_X12_bad 5 rfl) (ik rfl) ?_
                  refine a_zret (pc := 12) (dk dt_X12_bad 6 rfl) rfl rfl ⟨by decide, ?_⟩
                  show ATW _ _ _ _ _ _ _ _ _ _
                  refine a_if_eq (pc := 58) (dk dt_X12_monitor 29 rfl) (tgt := 70) rfl ⟨fun _ => ?_, fun c => absurd c (by decide)⟩
                  refine a_aload_n (pc := 70) (dk dt_X12_monitor 35 rfl) rfl ?_
                  refine a_sipush (pc := 71) (dk dt_X12_monitor 36 rfl) (ik rfl) (spk rfl) ?_
                  refine a_sipush (pc := 74) (dk dt_X12_monitor 37 rfl) (ik rfl) (spk rfl) ?_
                  refine a_iload_n (pc := 77) (dk dt_X12_monitor 38 rfl) rfl ?_
                  refine a_iadd (pc := 78) (dk dt_X12_monitor 39 rfl) ?_
                  refine a_callVv (as := [iv 240, iv (w32 (241 + x1))]) (st := []) (pc := 79) (dk dt_X12_monitor 40 rfl) cl_RX12_498 ⟨Nat.le_of_ble_eq_true rfl, Nat.le_of_ble_eq_true rfl⟩ ⟨Nat.le_of_ble_eq_true rfl, Nat.le_of_ble_eq_true rfl⟩ cls_12 rfl cc_85 rfl rfl rfl (Nat.le_of_ble_eq_true rfl) (Call.mono H fun _ h8 H => ?_)
                  refine a_aload_n (pc := 82) (dk dt_X12_monitor 41 rfl) rfl ?_
                  refine a_getr (r := 131) (pc := 83) (dk dt_X12_monitor 42 rfl) cls_12 fl_RX12_225 cf_85_67 ?_
                  refine a_iload_n (pc := 86) (dk dt_X12_monitor 43 rfl) rfl ?_
                  refine a_aload_n (pc := 87) (dk dt_X12_monitor 44 rfl) rfl ?_
                  refine a_geti (pc := 88) (dk dt_X12_monitor 45 rfl) cls_12 fl_RX12_306 cf_85_4 ?_
                  refine a_if_le (pc := 91) (dk dt_X12_monitor 46 rfl) (tgt := 98) rfl ⟨fun c => ?_, fun c => ?_⟩
                  · replace H := H.1 c
                    refine a_iconst (pc := 98) (dk dt_X12_monitor 49 rfl) (ik rfl) ?_
                    refine a_zast (pc := 99) (dk dt_X12_monitor 50 rfl) ar_132 ⟨H.1, by decide, ?_⟩
                    replace H := H.2
                    refine a_aload_n (pc := 100) (dk dt_X12_monitor 51 rfl) rfl ?_
                    refine a_getr (r := 127) (pc := 101) (dk dt_X12_monitor 52 rfl) cls_12 fl_RX12_213 cf_85_63 ?_
                    refine a_iload_n (pc := 104) (dk dt_X12_monitor 53 rfl) rfl ?_
                    refine a_iload_n (pc := 105) (dk dt_X12_monitor 54 rfl) rfl ?_
                    refine a_iast (pc := 106) (dk dt_X12_monitor 55 rfl) ar_128 ⟨H.1, ?_⟩
                    replace H := H.2
                    refine a_aload_n (pc := 107) (dk dt_X12_monitor 56 rfl) rfl ?_
                    refine a_getr (r := 128) (pc := 108) (dk dt_X12_monitor 57 rfl) cls_12 fl_RX12_216 cf_85_64 ?_
                    refine a_iload_n (pc := 111) (dk dt_X12_monitor 58 rfl) rfl ?_
                    refine a_iload_n (pc := 112) (dk dt_X12_monitor 59 rfl) rfl ?_
                    refine a_iast (pc := 113) (dk dt_X12_monitor 60 rfl) ar_129 ⟨H.1, ?_⟩
                    replace H := H.2
                    refine a_aload_n (pc := 114) (dk dt_X12_monitor 61 rfl) rfl ?_
                    refine a_getr (r := 129) (pc := 115) (dk dt_X12_monitor 62 rfl) cls_12 fl_RX12_219 cf_85_65 ?_
                    refine a_iload_n (pc := 118) (dk dt_X12_monitor 63 rfl) rfl ?_
                    refine a_iconst (pc := 119) (dk dt_X12_monitor 64 rfl) (ik rfl) ?_
                    refine a_iast (pc := 120) (dk dt_X12_monitor 65 rfl) ar_130 ⟨H.1, ?_⟩
                    replace H := H.2
                    refine a_aload_n (pc := 121) (dk dt_X12_monitor 66 rfl) rfl ?_
                    refine a_getr (r := 130) (pc := 122) (dk dt_X12_monitor 67 rfl) cls_12 fl_RX12_222 cf_85_66 ?_
                    refine a_iload_n (pc := 125) (dk dt_X12_monitor 68 rfl) rfl ?_
                    refine a_iconst (pc := 126) (dk dt_X12_monitor 69 rfl) (ik rfl) ?_
                    refine a_iast (pc := 127) (dk dt_X12_monitor 70 rfl) ar_131 ⟨H.1, ?_⟩
                    replace H := H.2
                    refine a_iconst (pc := 128) (dk dt_X12_monitor 71 rfl) (ik rfl) ?_
                    exact a_iret (pc := 129) (dk dt_X12_monitor 72 rfl) rfl rfl H
                  · replace H := H.2 c
                    refine a_iconst (pc := 94) (dk dt_X12_monitor 47 rfl) (ik rfl) ?_
                    refine a_goto (pc := 95) (dk dt_X12_monitor 48 rfl) (tgt := 99) rfl ?_
                    refine a_zast (pc := 99) (dk dt_X12_monitor 50 rfl) ar_132 ⟨H.1, by decide, ?_⟩
                    replace H := H.2
                    refine a_aload_n (pc := 100) (dk dt_X12_monitor 51 rfl) rfl ?_
                    refine a_getr (r := 127) (pc := 101) (dk dt_X12_monitor 52 rfl) cls_12 fl_RX12_213 cf_85_63 ?_
                    refine a_iload_n (pc := 104) (dk dt_X12_monitor 53 rfl) rfl ?_
                    refine a_iload_n (pc := 105) (dk dt_X12_monitor 54 rfl) rfl ?_
                    refine a_iast (pc := 106) (dk dt_X12_monitor 55 rfl) ar_128 ⟨H.1, ?_⟩
                    replace H := H.2
                    refine a_aload_n (pc := 107) (dk dt_X12_monitor 56 rfl) rfl ?_
                    refine a_getr (r := 128) (pc := 108) (dk dt_X12_monitor 57 rfl) cls_12 fl_RX12_216 cf_85_64 ?_
                    refine a_iload_n (pc := 111) (dk dt_X12_monitor 58 rfl) rfl ?_
                    refine a_iload_n (pc := 112) (dk dt_X12_monitor 59 rfl) rfl ?_
                    refine a_iast (pc := 113) (dk dt_X12_monitor 60 rfl) ar_129 ⟨H.1, ?_⟩
                    replace H := H.2
                    refine a_aload_n (pc := 114) (dk dt_X12_monitor 61 rfl) rfl ?_
                    refine a_getr (r := 129) (pc := 115) (dk dt_X12_monitor 62 rfl) cls_12 fl_RX12_219 cf_85_65 ?_
                    refine a_iload_n (pc := 118) (dk dt_X12_monitor 63 rfl) rfl ?_
                    refine a_iconst (pc := 119) (dk dt_X12_monitor 64 rfl) (ik rfl) ?_
                    refine a_iast (pc := 120) (dk dt_X12_monitor 65 rfl) ar_130 ⟨H.1, ?_⟩
                    replace H := H.2
                    refine a_aload_n (pc := 121) (dk dt_X12_monitor 66 rfl) rfl ?_
                    refine a_getr (r := 130) (pc := 122) (dk dt_X12_monitor 67 rfl) cls_12 fl_RX12_222 cf_85_66 ?_
                    refine a_iload_n (pc := 125) (dk dt_X12_monitor 68 rfl) rfl ?_
                    refine a_iconst (pc := 126) (dk dt_X12_monitor 69 rfl) (ik rfl) ?_
                    refine a_iast (pc := 127) (dk dt_X12_monitor 70 rfl) ar_131 ⟨H.1, ?_⟩
                    replace H := H.2
                    refine a_iconst (pc := 128) (dk dt_X12_monitor 71 rfl) (ik rfl) ?_
                    exact a_iret (pc := 129) (dk dt_X12_monitor 72 rfl) rfl rfl H
                · replace H := H.2 c
                  refine a_iconst (pc := 7) (dk dt_X12_bad 3 rfl) (ik rfl) ?_
                  refine a_goto (pc := 8) (dk dt_X12_bad 4 rfl) (tgt := 12) rfl ?_
                  refine a_zret (pc := 12) (dk dt_X12_bad 6 rfl) rfl rfl ⟨by decide, ?_⟩
                  show ATW _ _ _ _ _ _ _ _ _ _
                  refine a_if_eq (pc := 58) (dk dt_X12_monitor 29 rfl) (tgt := 70) rfl ⟨fun c => absurd c (by decide), fun _ => ?_⟩
                  refine a_sipush (pc := 61) (dk dt_X12_monitor 30 rfl) (ik rfl) (spk rfl) ?_
                  refine a_aload_n (pc := 64) (dk dt_X12_monitor 31 rfl) rfl ?_
                  refine a_geti (pc := 65) (dk dt_X12_monitor 32 rfl) cls_12 fl_RX12_312 cf_85_6 ?_
                  refine a_isub (pc := 68) (dk dt_X12_monitor 33 rfl) ?_
                  exact a_iret (pc := 69) (dk dt_X12_monitor 34 rfl) rfl rfl H
set_option maxHeartbeats 40000000 in
theorem U_X12_flip_85_0 {G : GG} {Φ : Int → Hp → Prop} {h : Hp} {x1 : Int} {x2 : Int} (H : ((x1 < 0 → Φ (-1) h) ∧ (0 ≤ x1 → ((63 < x1 → Φ (-1) h) ∧ (x1 ≤ 63 → ((x2 < 0 → Φ (-1) h) ∧ (0 ≤ x2 → ((12 < x2 → Φ (-1) h) ∧ (x2 ≤ 12 → (0 ≤ x1 ∧ x1 < 64) ∧ (0 ≤ x1 ∧ x1 < 64) ∧ (0 ≤ x1 ∧ x1 < 64) ∧ Φ (bxor (h 97 x1) (bshl 1 x2)) (up h 97 x1 (bxor (h 97 x1) (bshl 1 x2)))))))))))) : AT G m_X12_flip 0 [(0, rv 85), (1, iv x1), (2, iv x2)] [] h Φ := by
  refine a_iload_n (pc := 0) (dk dt_X12_flip 0 rfl) rfl ?_
  refine a_iconst (pc := 1) (dk dt_X12_flip 1 rfl) (ik rfl) ?_
  refine a_bipush (pc := 2) (dk dt_X12_flip 2 rfl) (ik rfl) (bpk rfl) ?_
  refine a_callSi (as := [iv x1, iv 0, iv 63]) (st := []) (pc := 4) (dk dt_X12_flip 3 rfl) cl_RX12_302 ⟨Nat.le_of_ble_eq_true rfl, Nat.le_of_ble_eq_true rfl⟩ ⟨Nat.le_of_ble_eq_true rfl, Nat.le_of_ble_eq_true rfl⟩ rfl rfl rfl (Nat.le_of_ble_eq_true rfl) (Call.of rfl (Nat.le_of_ble_eq_true rfl) rfl ?_)
  refine a_iload_n (pc := 0) (dk dt_X12_is 0 rfl) rfl ?_
  refine a_iload_n (pc := 1) (dk dt_X12_is 1 rfl) rfl ?_
  refine a_icmp_lt (pc := 2) (dk dt_X12_is 2 rfl) (tgt := 14) rfl ⟨fun c => ?_, fun c => ?_⟩
  · replace H := H.1 c
    refine a_iconst (pc := 14) (dk dt_X12_is 8 rfl) (ik rfl) ?_
    refine a_zret (pc := 15) (dk dt_X12_is 9 rfl) rfl rfl ⟨by decide, ?_⟩
    show ATW _ _ _ _ _ _ _ _ _ _
    refine a_if_eq (pc := 7) (dk dt_X12_flip 4 rfl) (tgt := 20) rfl ⟨fun _ => ?_, fun c => absurd c (by decide)⟩
    refine a_iconst (pc := 20) (dk dt_X12_flip 10 rfl) (ik rfl) ?_
    exact a_iret (pc := 21) (dk dt_X12_flip 11 rfl) rfl rfl H
  · replace H := H.2 c
    refine a_iload_n (pc := 5) (dk dt_X12_is 3 rfl) rfl ?_
    refine a_iload_n (pc := 6) (dk dt_X12_is 4 rfl) rfl ?_
    refine a_icmp_gt (pc := 7) (dk dt_X12_is 5 rfl) (tgt := 14) rfl ⟨fun c => ?_, fun c => ?_⟩
    · replace H := H.1 c
      refine a_iconst (pc := 14) (dk dt_X12_is 8 rfl) (ik rfl) ?_
      refine a_zret (pc := 15) (dk dt_X12_is 9 rfl) rfl rfl ⟨by decide, ?_⟩
      show ATW _ _ _ _ _ _ _ _ _ _
      refine a_if_eq (pc := 7) (dk dt_X12_flip 4 rfl) (tgt := 20) rfl ⟨fun _ => ?_, fun c => absurd c (by decide)⟩
      refine a_iconst (pc := 20) (dk dt_X12_flip 10 rfl) (ik rfl) ?_
      exact a_iret (pc := 21) (dk dt_X12_flip 11 rfl) rfl rfl H
    · replace H := H.2 c
      refine a_iconst (pc := 10) (dk dt_X12_is 6 rfl) (ik rfl) ?_
      refine a_goto (pc := 11) (dk dt_X12_is 7 rfl) (tgt := 15) rfl ?_
      refine a_zret (pc := 15) (dk dt_X12_is 9 rfl) rfl rfl ⟨by decide, ?_⟩
      show ATW _ _ _ _ _ _ _ _ _ _
      refine a_if_eq (pc := 7) (dk dt_X12_flip 4 rfl) (tgt := 20) rfl ⟨fun c => absurd c (by decide), fun _ => ?_⟩
      refine a_iload_n (pc := 10) (dk dt_X12_flip 5 rfl) rfl ?_
      refine a_iconst (pc := 11) (dk dt_X12_flip 6 rfl) (ik rfl) ?_
      refine a_bipush (pc := 12) (dk dt_X12_flip 7 rfl) (ik rfl) (bpk rfl) ?_
      refine a_callSi (as := [iv x2, iv 0, iv 12]) (st := []) (pc := 14) (dk dt_X12_flip 8 rfl) cl_RX12_302 ⟨Nat.le_of_ble_eq_true rfl, Nat.le_of_ble_eq_true rfl⟩ ⟨Nat.le_of_ble_eq_true rfl, Nat.le_of_ble_eq_true rfl⟩ rfl rfl rfl (Nat.le_of_ble_eq_true rfl) (Call.of rfl (Nat.le_of_ble_eq_true rfl) rfl ?_)
      refine a_iload_n (pc := 0) (dk dt_X12_is 0 rfl) rfl ?_
      refine a_iload_n (pc := 1) (dk dt_X12_is 1 rfl) rfl ?_
      refine a_icmp_lt (pc := 2) (dk dt_X12_is 2 rfl) (tgt := 14) rfl ⟨fun c => ?_, fun c => ?_⟩
      · replace H := H.1 c
        refine a_iconst (pc := 14) (dk dt_X12_is 8 rfl) (ik rfl) ?_
        refine a_zret (pc := 15) (dk dt_X12_is 9 rfl) rfl rfl ⟨by decide, ?_⟩
        show ATW _ _ _ _ _ _ _ _ _ _
        refine a_if_ne (pc := 17) (dk dt_X12_flip 9 rfl) (tgt := 22) rfl ⟨fun c => absurd c (by decide), fun _ => ?_⟩
        refine a_iconst (pc := 20) (dk dt_X12_flip 10 rfl) (ik rfl) ?_
        exact a_iret (pc := 21) (dk dt_X12_flip 11 rfl) rfl rfl H
      · replace H := H.2 c
        refine a_iload_n (pc := 5) (dk dt_X12_is 3 rfl) rfl ?_
        refine a_iload_n (pc := 6) (dk dt_X12_is 4 rfl) rfl ?_
        refine a_icmp_gt (pc := 7) (dk dt_X12_is 5 rfl) (tgt := 14) rfl ⟨fun c => ?_, fun c => ?_⟩
        · replace H := H.1 c
          refine a_iconst (pc := 14) (dk dt_X12_is 8 rfl) (ik rfl) ?_
          refine a_zret (pc := 15) (dk dt_X12_is 9 rfl) rfl rfl ⟨by decide, ?_⟩
          show ATW _ _ _ _ _ _ _ _ _ _
          refine a_if_ne (pc := 17) (dk dt_X12_flip 9 rfl) (tgt := 22) rfl ⟨fun c => absurd c (by decide), fun _ => ?_⟩
          refine a_iconst (pc := 20) (dk dt_X12_flip 10 rfl) (ik rfl) ?_
          exact a_iret (pc := 21) (dk dt_X12_flip 11 rfl) rfl rfl H
        · replace H := H.2 c
          refine a_iconst (pc := 10) (dk dt_X12_is 6 rfl) (ik rfl) ?_
          refine a_goto (pc := 11) (dk dt_X12_is 7 rfl) (tgt := 15) rfl ?_
          refine a_zret (pc := 15) (dk dt_X12_is 9 rfl) rfl rfl ⟨by decide, ?_⟩
          show ATW _ _ _ _ _ _ _ _ _ _
          refine a_if_ne (pc := 17) (dk dt_X12_flip 9 rfl) (tgt := 22) rfl ⟨fun _ => ?_, fun c => absurd c (by decide)⟩
          refine a_aload_n (pc := 22) (dk dt_X12_flip 12 rfl) rfl ?_
          refine a_getr (r := 96) (pc := 23) (dk dt_X12_flip 13 rfl) cls_12 fl_RX12_57 cf_85_28 ?_
          refine a_iload_n (pc := 26) (dk dt_X12_flip 14 rfl) rfl ?_
          refine a_dup2 (pc := 27) (dk dt_X12_flip 15 rfl) rfl rfl ?_
          refine a_iald (pc := 28) (dk dt_X12_flip 16 rfl) ar_97 ⟨H.1, ?_⟩
          replace H := H.2
          refine a_iconst (pc := 29) (dk dt_X12_flip 17 rfl) (ik rfl) ?_
          refine a_iload_n (pc := 30) (dk dt_X12_flip 18 rfl) rfl ?_
          refine a_ishl (pc := 31) (dk dt_X12_flip 19 rfl) ?_
          refine a_ixor (pc := 32) (dk dt_X12_flip 20 rfl) ?_
          refine a_iast (pc := 33) (dk dt_X12_flip 21 rfl) ar_97 ⟨H.1, ?_⟩
          replace H := H.2
          refine a_aload_n (pc := 34) (dk dt_X12_flip 22 rfl) rfl ?_
          refine a_getr (r := 96) (pc := 35) (dk dt_X12_flip 23 rfl) cls_12 fl_RX12_57 cf_85_28 ?_
          refine a_iload_n (pc := 38) (dk dt_X12_flip 24 rfl) rfl ?_
          refine a_iald (pc := 39) (dk dt_X12_flip 25 rfl) ar_97 ⟨H.1, ?_⟩
          replace H := H.2
          refine a_top (y := (bxor (h 97 x1) (bshl 1 x2))) (by simp [up, cpy]) ?_
          exact a_iret (pc := 40) (dk dt_X12_flip 26 rfl) rfl rfl H
set_option maxHeartbeats 40000000 in
theorem U_X12_tick_85_0 {G : GG} {Φ : Int → Hp → Prop} {h : Hp} {x1 : Int} (H : ((x1 < 0 → Φ (-1) h) ∧ (0 ≤ x1 → ((500 < x1 → Φ (-1) h) ∧ (x1 ≤ 500 → AT G m_X12_tick 15 [(0, rv 85), (1, iv x1), (2, iv 0)] [] h Φ))))) : AT G m_X12_tick 0 [(0, rv 85), (1, iv x1)] [] h Φ := by
  refine a_iload_n (pc := 0) (dk dt_X12_tick 0 rfl) rfl ?_
  refine a_iconst (pc := 1) (dk dt_X12_tick 1 rfl) (ik rfl) ?_
  refine a_sipush (pc := 2) (dk dt_X12_tick 2 rfl) (ik rfl) (spk rfl) ?_
  refine a_callSi (as := [iv x1, iv 0, iv 500]) (st := []) (pc := 5) (dk dt_X12_tick 3 rfl) cl_RX12_302 ⟨Nat.le_of_ble_eq_true rfl, Nat.le_of_ble_eq_true rfl⟩ ⟨Nat.le_of_ble_eq_true rfl, Nat.le_of_ble_eq_true rfl⟩ rfl rfl rfl (Nat.le_of_ble_eq_true rfl) (Call.of rfl (Nat.le_of_ble_eq_true rfl) rfl ?_)
  refine a_iload_n (pc := 0) (dk dt_X12_is 0 rfl) rfl ?_
  refine a_iload_n (pc := 1) (dk dt_X12_is 1 rfl) rfl ?_
  refine a_icmp_lt (pc := 2) (dk dt_X12_is 2 rfl) (tgt := 14) rfl ⟨fun c => ?_, fun c => ?_⟩
  · replace H := H.1 c
    refine a_iconst (pc := 14) (dk dt_X12_is 8 rfl) (ik rfl) ?_
    refine a_zret (pc := 15) (dk dt_X12_is 9 rfl) rfl rfl ⟨by decide, ?_⟩
    show ATW _ _ _ _ _ _ _ _ _ _
    refine a_if_ne (pc := 8) (dk dt_X12_tick 4 rfl) (tgt := 13) rfl ⟨fun c => absurd c (by decide), fun _ => ?_⟩
    refine a_iconst (pc := 11) (dk dt_X12_tick 5 rfl) (ik rfl) ?_
    exact a_iret (pc := 12) (dk dt_X12_tick 6 rfl) rfl rfl H
  · replace H := H.2 c
    refine a_iload_n (pc := 5) (dk dt_X12_is 3 rfl) rfl ?_
    refine a_iload_n (pc := 6) (dk dt_X12_is 4 rfl) rfl ?_
    refine a_icmp_gt (pc := 7) (dk dt_X12_is 5 rfl) (tgt := 14) rfl ⟨fun c => ?_, fun c => ?_⟩
    · replace H := H.1 c
      refine a_iconst (pc := 14) (dk dt_X12_is 8 rfl) (ik rfl) ?_
      refine a_zret (pc := 15) (dk dt_X12_is 9 rfl) rfl rfl ⟨by decide, ?_⟩
      show ATW _ _ _ _ _ _ _ _ _ _
      refine a_if_ne (pc := 8) (dk dt_X12_tick 4 rfl) (tgt := 13) rfl ⟨fun c => absurd c (by decide), fun _ => ?_⟩
      refine a_iconst (pc := 11) (dk dt_X12_tick 5 rfl) (ik rfl) ?_
      exact a_iret (pc := 12) (dk dt_X12_tick 6 rfl) rfl rfl H
    · replace H := H.2 c
      refine a_iconst (pc := 10) (dk dt_X12_is 6 rfl) (ik rfl) ?_
      refine a_goto (pc := 11) (dk dt_X12_is 7 rfl) (tgt := 15) rfl ?_
      refine a_zret (pc := 15) (dk dt_X12_is 9 rfl) rfl rfl ⟨by decide, ?_⟩
      show ATW _ _ _ _ _ _ _ _ _ _
      refine a_if_ne (pc := 8) (dk dt_X12_tick 4 rfl) (tgt := 13) rfl ⟨fun _ => ?_, fun c => absurd c (by decide)⟩
      refine a_iconst (pc := 13) (dk dt_X12_tick 7 rfl) (ik rfl) ?_
      refine a_istore_n (pc := 14) (dk dt_X12_tick 8 rfl) (by decide) rfl rfl ?_
      exact a_pick [0, 1, 2] rfl H
set_option maxHeartbeats 40000000 in
theorem U_X12_tick_85_15 {G : GG} {Φ : Int → Hp → Prop} {h : Hp} {x1 : Int} {x2 : Int} (H : ((x1 ≤ x2 → Φ (h 85 10) h) ∧ (x2 < x1 → Call G m_X12_serve [rv 85] (up h 85 10 (w32 ((h 85 10) + 1))) (fun _ h2 => Call G m_X12_mend [rv 85] h2 (fun _ h4 => Call G m_X12_starts [rv 85] h4 (fun _ h6 => AT G m_X12_tick 44 [(0, rv 85), (1, iv x1), (2, iv x2), (3, iv 0)] [] h6 Φ)))))) : AT G m_X12_tick 15 [(0, rv 85), (1, iv x1), (2, iv x2)] [] h Φ := by
  refine a_iload_n (pc := 15) (dk dt_X12_tick 9 rfl) rfl ?_
  refine a_iload_n (pc := 16) (dk dt_X12_tick 10 rfl) rfl ?_
  refine a_icmp_ge (pc := 17) (dk dt_X12_tick 11 rfl) (tgt := 75) rfl ⟨fun c => ?_, fun c => ?_⟩
  · replace H := H.1 c
    refine a_aload_n (pc := 75) (dk dt_X12_tick 40 rfl) rfl ?_
    refine a_geti (pc := 76) (dk dt_X12_tick 41 rfl) cls_12 fl_RX12_398 cf_85_10 ?_
    exact a_iret (pc := 79) (dk dt_X12_tick 42 rfl) rfl rfl H
  · replace H := H.2 c
    refine a_aload_n (pc := 20) (dk dt_X12_tick 12 rfl) rfl ?_
    refine a_dup (pc := 21) (dk dt_X12_tick 13 rfl) rfl ?_
    refine a_geti (pc := 22) (dk dt_X12_tick 14 rfl) cls_12 fl_RX12_398 cf_85_10 ?_
    refine a_iconst (pc := 25) (dk dt_X12_tick 15 rfl) (ik rfl) ?_
    refine a_iadd (pc := 26) (dk dt_X12_tick 16 rfl) ?_
    refine a_puti (pc := 27) (dk dt_X12_tick 17 rfl) cls_12 fl_RX12_398 cf_85_10 rfl rfl ?_
    refine a_aload_n (pc := 30) (dk dt_X12_tick 18 rfl) rfl ?_
    refine a_callVv (as := []) (st := []) (pc := 31) (dk dt_X12_tick 19 rfl) cl_RX12_533 ⟨Nat.le_of_ble_eq_true rfl, Nat.le_of_ble_eq_true rfl⟩ ⟨Nat.le_of_ble_eq_true rfl, Nat.le_of_ble_eq_true rfl⟩ cls_12 rfl cc_85 rfl rfl rfl (Nat.le_of_ble_eq_true rfl) (Call.mono H fun _ h2 H => ?_)
    refine a_aload_n (pc := 34) (dk dt_X12_tick 20 rfl) rfl ?_
    refine a_callVv (as := []) (st := []) (pc := 35) (dk dt_X12_tick 21 rfl) cl_RX12_536 ⟨Nat.le_of_ble_eq_true rfl, Nat.le_of_ble_eq_true rfl⟩ ⟨Nat.le_of_ble_eq_true rfl, Nat.le_of_ble_eq_true rfl⟩ cls_12 rfl cc_85 rfl rfl rfl (Nat.le_of_ble_eq_true rfl) (Call.mono H fun _ h4 H => ?_)
    refine a_aload_n (pc := 38) (dk dt_X12_tick 22 rfl) rfl ?_
    refine a_callVv (as := []) (st := []) (pc := 39) (dk dt_X12_tick 23 rfl) cl_RX12_539 ⟨Nat.le_of_ble_eq_true rfl, Nat.le_of_ble_eq_true rfl⟩ ⟨Nat.le_of_ble_eq_true rfl, Nat.le_of_ble_eq_true rfl⟩ cls_12 rfl cc_85 rfl rfl rfl (Nat.le_of_ble_eq_true rfl) (Call.mono H fun _ h6 H => ?_)
    refine a_iconst (pc := 42) (dk dt_X12_tick 24 rfl) (ik rfl) ?_
    refine a_istore_n (pc := 43) (dk dt_X12_tick 25 rfl) (by decide) rfl rfl ?_
    exact a_pick [0, 1, 2, 3] rfl H
set_option maxHeartbeats 40000000 in
theorem U_X12_tick_85_44 {G : GG} {Φ : Int → Hp → Prop} {h : Hp} {x1 : Int} {x2 : Int} {x3 : Int} (H : ((8 ≤ x3 → Call G m_X12_watch [rv 85] h (fun _ h2 => Call G m_X12_link [rv 85] h2 (fun _ h4 => AT G m_X12_tick 15 [(0, rv 85), (1, iv x1), (2, iv (w32 (x2 + 1)))] [] h4 Φ))) ∧ (x3 < 8 → Call G m_X12_goes [rv 85, iv x3] h (fun _ h6 => AT G m_X12_tick 44 [(0, rv 85), (1, iv x1), (2, iv x2), (3, iv (w32 (x3 + 1)))] [] h6 Φ)))) : AT G m_X12_tick 44 [(0, rv 85), (1, iv x1), (2, iv x2), (3, iv x3)] [] h Φ := by
  refine a_iload_n (pc := 44) (dk dt_X12_tick 26 rfl) rfl ?_
  refine a_bipush (pc := 45) (dk dt_X12_tick 27 rfl) (ik rfl) (bpk rfl) ?_
  refine a_icmp_ge (pc := 47) (dk dt_X12_tick 28 rfl) (tgt := 61) rfl ⟨fun c => ?_, fun c => ?_⟩
  · replace H := H.1 c
    refine a_aload_n (pc := 61) (dk dt_X12_tick 34 rfl) rfl ?_
    refine a_callVv (as := []) (st := []) (pc := 62) (dk dt_X12_tick 35 rfl) cl_RX12_545 ⟨Nat.le_of_ble_eq_true rfl, Nat.le_of_ble_eq_true rfl⟩ ⟨Nat.le_of_ble_eq_true rfl, Nat.le_of_ble_eq_true rfl⟩ cls_12 rfl cc_85 rfl rfl rfl (Nat.le_of_ble_eq_true rfl) (Call.mono H fun _ h2 H => ?_)
    refine a_aload_n (pc := 65) (dk dt_X12_tick 36 rfl) rfl ?_
    refine a_callVv (as := []) (st := []) (pc := 66) (dk dt_X12_tick 37 rfl) cl_RX12_548 ⟨Nat.le_of_ble_eq_true rfl, Nat.le_of_ble_eq_true rfl⟩ ⟨Nat.le_of_ble_eq_true rfl, Nat.le_of_ble_eq_true rfl⟩ cls_12 rfl cc_85 rfl rfl rfl (Nat.le_of_ble_eq_true rfl) (Call.mono H fun _ h4 H => ?_)
    refine a_iinc (pc := 69) (dk dt_X12_tick 38 rfl) (by decide) rfl rfl rfl ?_
    refine a_goto (pc := 72) (dk dt_X12_tick 39 rfl) (tgt := 15) rfl ?_
    exact a_pick [0, 1, 2] rfl H
  · replace H := H.2 c
    refine a_aload_n (pc := 50) (dk dt_X12_tick 29 rfl) rfl ?_
    refine a_iload_n (pc := 51) (dk dt_X12_tick 30 rfl) rfl ?_
    refine a_callVv (as := [iv x3]) (st := []) (pc := 52) (dk dt_X12_tick 31 rfl) cl_RX12_542 ⟨Nat.le_of_ble_eq_true rfl, Nat.le_of_ble_eq_true rfl⟩ ⟨Nat.le_of_ble_eq_true rfl, Nat.le_of_ble_eq_true rfl⟩ cls_12 rfl cc_85 rfl rfl rfl (Nat.le_of_ble_eq_true rfl) (Call.mono H fun _ h6 H => ?_)
    refine a_iinc (pc := 55) (dk dt_X12_tick 32 rfl) (by decide) rfl rfl rfl ?_
    refine a_goto (pc := 58) (dk dt_X12_tick 33 rfl) (tgt := 44) rfl ?_
    exact a_pick [0, 1, 2, 3] rfl H
set_option maxHeartbeats 40000000 in
theorem U_X12_ship_85_0 {G : GG} {Φ : Int → Hp → Prop} {h : Hp} {x1 : Int} (H : (((x1 = 0) → Φ (h 85 10) h) ∧ ((x1 = 1) → Call G m_X12_angle [rv 85, iv (h 85 10)] h (fun r1 h2 => Φ r1 h2)) ∧ ((x1 = 2) → Call G m_X12_isShadow [rv 85] h (fun r3 h4 => ((r3 = 0 → Φ 0 h4) ∧ (r3 ≠ 0 → Φ 1 h4)))) ∧ ((x1 = 3) → Φ (h 85 19) h) ∧ ((x1 = 4) → Φ (h 85 21) h) ∧ ((x1 = 5) → Φ (h 85 23) h) ∧ ((x1 = 6) → Φ (h 85 22) h) ∧ ((x1 = 7) → Φ (h 85 29) h) ∧ ((x1 = 8) → Φ (h 85 30) h) ∧ ((x1 = 9) → Call G m_X12_recorded [rv 85] h (fun r5 h6 => Φ r5 h6)) ∧ ((x1 = 10) → Φ (h 85 72) h) ∧ ((x1 = 11) → Φ (h 85 81) h) ∧ ((x1 = 12) → Φ (h 85 80) h) ∧ ((x1 = 13) → Φ (h 85 62) h) ∧ ((x1 = 14) → Φ (h 85 78) h) ∧ (((x1 < 0 ∨ 14 < x1)) → Φ (-1) h))) : AT G m_X12_ship 0 [(0, rv 85), (1, iv x1)] [] h Φ := by
  refine a_iload_n (pc := 0) (dk dt_X12_ship 0 rfl) rfl ?_
  have B0 : (x1 = 0) → AT G m_X12_ship 76 [(0, rv 85), (1, iv x1)] [] h Φ := by
    intro c
    replace H := H.1 c
    refine a_aload_n (pc := 76) (dk dt_X12_ship 2 rfl) rfl ?_
    refine a_geti (pc := 77) (dk dt_X12_ship 3 rfl) cls_12 fl_RX12_398 cf_85_10 ?_
    exact a_iret (pc := 80) (dk dt_X12_ship 4 rfl) rfl rfl H
  have B1 : (x1 = 1) → AT G m_X12_ship 81 [(0, rv 85), (1, iv x1)] [] h Φ := by
    intro c
    replace H := H.2.1 c
    refine a_aload_n (pc := 81) (dk dt_X12_ship 5 rfl) rfl ?_
    refine a_aload_n (pc := 82) (dk dt_X12_ship 6 rfl) rfl ?_
    refine a_geti (pc := 83) (dk dt_X12_ship 7 rfl) cls_12 fl_RX12_398 cf_85_10 ?_
    refine a_callVi (as := [iv (h 85 10)]) (st := []) (pc := 86) (dk dt_X12_ship 8 rfl) cl_RX12_401 ⟨Nat.le_of_ble_eq_true rfl, Nat.le_of_ble_eq_true rfl⟩ ⟨Nat.le_of_ble_eq_true rfl, Nat.le_of_ble_eq_true rfl⟩ cls_12 rfl cc_85 rfl rfl rfl (Nat.le_of_ble_eq_true rfl) (Call.mono H fun r1 h2 H => ?_)
    exact a_iret (pc := 89) (dk dt_X12_ship 9 rfl) rfl rfl H
  have B2 : (x1 = 2) → AT G m_X12_ship 90 [(0, rv 85), (1, iv x1)] [] h Φ := by
    intro c
    replace H := H.2.2.1 c
    refine a_aload_n (pc := 90) (dk dt_X12_ship 10 rfl) rfl ?_
    refine a_callVi (as := []) (st := []) (pc := 91) (dk dt_X12_ship 11 rfl) cl_RX12_418 ⟨Nat.le_of_ble_eq_true rfl, Nat.le_of_ble_eq_true rfl⟩ ⟨Nat.le_of_ble_eq_true rfl, Nat.le_of_ble_eq_true rfl⟩ cls_12 rfl cc_85 rfl rfl rfl (Nat.le_of_ble_eq_true rfl) (Call.mono H fun r3 h4 H => ?_)
    refine a_if_eq (pc := 94) (dk dt_X12_ship 12 rfl) (tgt := 101) rfl ⟨fun c => ?_, fun c => ?_⟩
    · replace H := H.1 c
      refine a_iconst (pc := 101) (dk dt_X12_ship 15 rfl) (ik rfl) ?_
      exact a_iret (pc := 102) (dk dt_X12_ship 16 rfl) rfl rfl H
    · replace H := H.2 c
      refine a_iconst (pc := 97) (dk dt_X12_ship 13 rfl) (ik rfl) ?_
      refine a_goto (pc := 98) (dk dt_X12_ship 14 rfl) (tgt := 102) rfl ?_
      exact a_iret (pc := 102) (dk dt_X12_ship 16 rfl) rfl rfl H
  have B3 : (x1 = 3) → AT G m_X12_ship 103 [(0, rv 85), (1, iv x1)] [] h Φ := by
    intro c
    replace H := H.2.2.2.1 c
    refine a_aload_n (pc := 103) (dk dt_X12_ship 17 rfl) rfl ?_
    refine a_geti (pc := 104) (dk dt_X12_ship 18 rfl) cls_12 fl_RX12_38 cf_85_19 ?_
    exact a_iret (pc := 107) (dk dt_X12_ship 19 rfl) rfl rfl H
  have B4 : (x1 = 4) → AT G m_X12_ship 108 [(0, rv 85), (1, iv x1)] [] h Φ := by
    intro c
    replace H := H.2.2.2.2.1 c
    refine a_aload_n (pc := 108) (dk dt_X12_ship 20 rfl) rfl ?_
    refine a_geti (pc := 109) (dk dt_X12_ship 21 rfl) cls_12 fl_RX12_424 cf_85_21 ?_
    exact a_iret (pc := 112) (dk dt_X12_ship 22 rfl) rfl rfl H
  have B5 : (x1 = 5) → AT G m_X12_ship 113 [(0, rv 85), (1, iv x1)] [] h Φ := by
    intro c
    replace H := H.2.2.2.2.2.1 c
    refine a_aload_n (pc := 113) (dk dt_X12_ship 23 rfl) rfl ?_
    refine a_geti (pc := 114) (dk dt_X12_ship 24 rfl) cls_12 fl_RX12_465 cf_85_23 ?_
    exact a_iret (pc := 117) (dk dt_X12_ship 25 rfl) rfl rfl H
  have B6 : (x1 = 6) → AT G m_X12_ship 118 [(0, rv 85), (1, iv x1)] [] h Φ := by
    intro c
    replace H := H.2.2.2.2.2.2.1 c
    refine a_aload_n (pc := 118) (dk dt_X12_ship 26 rfl) rfl ?_
    refine a_geti (pc := 119) (dk dt_X12_ship 27 rfl) cls_12 fl_RX12_426 cf_85_22 ?_
    exact a_iret (pc := 122) (dk dt_X12_ship 28 rfl) rfl rfl H
  have B7 : (x1 = 7) → AT G m_X12_ship 123 [(0, rv 85), (1, iv x1)] [] h Φ := by
    intro c
    replace H := H.2.2.2.2.2.2.2.1 c
    refine a_aload_n (pc := 123) (dk dt_X12_ship 29 rfl) rfl ?_
    refine a_geti (pc := 124) (dk dt_X12_ship 30 rfl) cls_12 fl_RX12_447 cf_85_29 ?_
    exact a_iret (pc := 127) (dk dt_X12_ship 31 rfl) rfl rfl H
  have B8 : (x1 = 8) → AT G m_X12_ship 128 [(0, rv 85), (1, iv x1)] [] h Φ := by
    intro c
    replace H := H.2.2.2.2.2.2.2.2.1 c
    refine a_aload_n (pc := 128) (dk dt_X12_ship 32 rfl) rfl ?_
    refine a_geti (pc := 129) (dk dt_X12_ship 33 rfl) cls_12 fl_RX12_444 cf_85_30 ?_
    exact a_iret (pc := 132) (dk dt_X12_ship 34 rfl) rfl rfl H
  have B9 : (x1 = 9) → AT G m_X12_ship 133 [(0, rv 85), (1, iv x1)] [] h Φ := by
    intro c
    replace H := H.2.2.2.2.2.2.2.2.2.1 c
    refine a_aload_n (pc := 133) (dk dt_X12_ship 35 rfl) rfl ?_
    refine a_callVi (as := []) (st := []) (pc := 134) (dk dt_X12_ship 36 rfl) cl_RX12_468 ⟨Nat.le_of_ble_eq_true rfl, Nat.le_of_ble_eq_true rfl⟩ ⟨Nat.le_of_ble_eq_true rfl, Nat.le_of_ble_eq_true rfl⟩ cls_12 rfl cc_85 rfl rfl rfl (Nat.le_of_ble_eq_true rfl) (Call.mono H fun r5 h6 H => ?_)
    exact a_iret (pc := 137) (dk dt_X12_ship 37 rfl) rfl rfl H
  have B10 : (x1 = 10) → AT G m_X12_ship 138 [(0, rv 85), (1, iv x1)] [] h Φ := by
    intro c
    replace H := H.2.2.2.2.2.2.2.2.2.2.1 c
    refine a_aload_n (pc := 138) (dk dt_X12_ship 38 rfl) rfl ?_
    refine a_geti (pc := 139) (dk dt_X12_ship 39 rfl) cls_12 fl_RX12_501 cf_85_72 ?_
    exact a_iret (pc := 142) (dk dt_X12_ship 40 rfl) rfl rfl H
  have B11 : (x1 = 11) → AT G m_X12_ship 143 [(0, rv 85), (1, iv x1)] [] h Φ := by
    intro c
    replace H := H.2.2.2.2.2.2.2.2.2.2.2.1 c
    refine a_aload_n (pc := 143) (dk dt_X12_ship 41 rfl) rfl ?_
    refine a_geti (pc := 144) (dk dt_X12_ship 42 rfl) cls_12 fl_RX12_520 cf_85_81 ?_
    exact a_iret (pc := 147) (dk dt_X12_ship 43 rfl) rfl rfl H
  have B12 : (x1 = 12) → AT G m_X12_ship 148 [(0, rv 85), (1, iv x1)] [] h Φ := by
    intro c
    replace H := H.2.2.2.2.2.2.2.2.2.2.2.2.1 c
    refine a_aload_n (pc := 148) (dk dt_X12_ship 44 rfl) rfl ?_
    refine a_geti (pc := 149) (dk dt_X12_ship 45 rfl) cls_12 fl_RX12_523 cf_85_80 ?_
    exact a_iret (pc := 152) (dk dt_X12_ship 46 rfl) rfl rfl H
  have B13 : (x1 = 13) → AT G m_X12_ship 153 [(0, rv 85), (1, iv x1)] [] h Φ := by
    intro c
    replace H := H.2.2.2.2.2.2.2.2.2.2.2.2.2.1 c
    refine a_aload_n (pc := 153) (dk dt_X12_ship 47 rfl) rfl ?_
    refine a_geti (pc := 154) (dk dt_X12_ship 48 rfl) cls_12 fl_RX12_495 cf_85_62 ?_
    exact a_iret (pc := 157) (dk dt_X12_ship 49 rfl) rfl rfl H
  have B14 : (x1 = 14) → AT G m_X12_ship 158 [(0, rv 85), (1, iv x1)] [] h Φ := by
    intro c
    replace H := H.2.2.2.2.2.2.2.2.2.2.2.2.2.2.1 c
    refine a_aload_n (pc := 158) (dk dt_X12_ship 50 rfl) rfl ?_
    refine a_geti (pc := 159) (dk dt_X12_ship 51 rfl) cls_12 fl_RX12_530 cf_85_78 ?_
    exact a_iret (pc := 162) (dk dt_X12_ship 52 rfl) rfl rfl H
  have BD : ((x1 < 0 ∨ 14 < x1)) → AT G m_X12_ship 163 [(0, rv 85), (1, iv x1)] [] h Φ := by
    intro c
    replace H := H.2.2.2.2.2.2.2.2.2.2.2.2.2.2.2 c
    refine a_iconst (pc := 163) (dk dt_X12_ship 53 rfl) (ik rfl) ?_
    exact a_iret (pc := 164) (dk dt_X12_ship 54 rfl) rfl rfl H
  exact a_tsw [76, 81, 90, 103, 108, 113, 118, 123, 128, 133, 138, 143, 148, 153, 158] (pc := 1) (dk dt_X12_ship 1 rfl) (by decide) (dt := 163) rfl (by decide) ⟨⟨fun c => B0 (c), fun c => B1 (c), fun c => B2 (c), fun c => B3 (c), fun c => B4 (c), fun c => B5 (c), fun c => B6 (c), fun c => B7 (c), fun c => B8 (c), fun c => B9 (c), fun c => B10 (c), fun c => B11 (c), fun c => B12 (c), fun c => B13 (c), fun c => B14 (c), trivial⟩, fun c => BD (c)⟩
set_option maxHeartbeats 40000000 in
theorem U_X12_served_85_0 {G : GG} {Φ : Int → Hp → Prop} {h : Hp} {x1 : Int} {x2 : Int} (H : ((x1 < 0 → Φ (-1) h) ∧ (0 ≤ x1 → ((7 < x1 → Φ (-1) h) ∧ (x1 ≤ 7 → ((x2 < 0 → Φ (-1) h) ∧ (0 ≤ x2 → ((1 < x2 → Φ (-1) h) ∧ (x2 ≤ 1 → ((x2 ≠ 0 → (0 ≤ x1 ∧ x1 < 8) ∧ (((h 96 x1) = 0 → Φ 0 h) ∧ ((h 96 x1) ≠ 0 → Φ 1 h))) ∧ (x2 = 0 → (0 ≤ x1 ∧ x1 < 8) ∧ (((h 95 x1) = 0 → Φ 0 h) ∧ ((h 95 x1) ≠ 0 → Φ 1 h))))))))))))) : AT G m_X12_served 0 [(0, rv 85), (1, iv x1), (2, iv x2)] [] h Φ := by
  refine a_iload_n (pc := 0) (dk dt_X12_served 0 rfl) rfl ?_
  refine a_iconst (pc := 1) (dk dt_X12_served 1 rfl) (ik rfl) ?_
  refine a_bipush (pc := 2) (dk dt_X12_served 2 rfl) (ik rfl) (bpk rfl) ?_
  refine a_callSi (as := [iv x1, iv 0, iv 7]) (st := []) (pc := 4) (dk dt_X12_served 3 rfl) cl_RX12_302 ⟨Nat.le_of_ble_eq_true rfl, Nat.le_of_ble_eq_true rfl⟩ ⟨Nat.le_of_ble_eq_true rfl, Nat.le_of_ble_eq_true rfl⟩ rfl rfl rfl (Nat.le_of_ble_eq_true rfl) (Call.of rfl (Nat.le_of_ble_eq_true rfl) rfl ?_)
  refine a_iload_n (pc := 0) (dk dt_X12_is 0 rfl) rfl ?_
  refine a_iload_n (pc := 1) (dk dt_X12_is 1 rfl) rfl ?_
  refine a_icmp_lt (pc := 2) (dk dt_X12_is 2 rfl) (tgt := 14) rfl ⟨fun c => ?_, fun c => ?_⟩
  · replace H := H.1 c
    refine a_iconst (pc := 14) (dk dt_X12_is 8 rfl) (ik rfl) ?_
    refine a_zret (pc := 15) (dk dt_X12_is 9 rfl) rfl rfl ⟨by decide, ?_⟩
    show ATW _ _ _ _ _ _ _ _ _ _
    refine a_if_eq (pc := 7) (dk dt_X12_served 4 rfl) (tgt := 19) rfl ⟨fun _ => ?_, fun c => absurd c (by decide)⟩
    refine a_iconst (pc := 19) (dk dt_X12_served 10 rfl) (ik rfl) ?_
    exact a_iret (pc := 20) (dk dt_X12_served 11 rfl) rfl rfl H
  · replace H := H.2 c
    refine a_iload_n (pc := 5) (dk dt_X12_is 3 rfl) rfl ?_
    refine a_iload_n (pc := 6) (dk dt_X12_is 4 rfl) rfl ?_
    refine a_icmp_gt (pc := 7) (dk dt_X12_is 5 rfl) (tgt := 14) rfl ⟨fun c => ?_, fun c => ?_⟩
    · replace H := H.1 c
      refine a_iconst (pc := 14) (dk dt_X12_is 8 rfl) (ik rfl) ?_
      refine a_zret (pc := 15) (dk dt_X12_is 9 rfl) rfl rfl ⟨by decide, ?_⟩
      show ATW _ _ _ _ _ _ _ _ _ _
      refine a_if_eq (pc := 7) (dk dt_X12_served 4 rfl) (tgt := 19) rfl ⟨fun _ => ?_, fun c => absurd c (by decide)⟩
      refine a_iconst (pc := 19) (dk dt_X12_served 10 rfl) (ik rfl) ?_
      exact a_iret (pc := 20) (dk dt_X12_served 11 rfl) rfl rfl H
    · replace H := H.2 c
      refine a_iconst (pc := 10) (dk dt_X12_is 6 rfl) (ik rfl) ?_
      refine a_goto (pc := 11) (dk dt_X12_is 7 rfl) (tgt := 15) rfl ?_
      refine a_zret (pc := 15) (dk dt_X12_is 9 rfl) rfl rfl ⟨by decide, ?_⟩
      show ATW _ _ _ _ _ _ _ _ _ _
      refine a_if_eq (pc := 7) (dk dt_X12_served 4 rfl) (tgt := 19) rfl ⟨fun c => absurd c (by decide), fun _ => ?_⟩
      refine a_iload_n (pc := 10) (dk dt_X12_served 5 rfl) rfl ?_
      refine a_iconst (pc := 11) (dk dt_X12_served 6 rfl) (ik rfl) ?_
      refine a_iconst (pc := 12) (dk dt_X12_served 7 rfl) (ik rfl) ?_
      refine a_callSi (as := [iv x2, iv 0, iv 1]) (st := []) (pc := 13) (dk dt_X12_served 8 rfl) cl_RX12_302 ⟨Nat.le_of_ble_eq_true rfl, Nat.le_of_ble_eq_true rfl⟩ ⟨Nat.le_of_ble_eq_true rfl, Nat.le_of_ble_eq_true rfl⟩ rfl rfl rfl (Nat.le_of_ble_eq_true rfl) (Call.of rfl (Nat.le_of_ble_eq_true rfl) rfl ?_)
      refine a_iload_n (pc := 0) (dk dt_X12_is 0 rfl) rfl ?_
      refine a_iload_n (pc := 1) (dk dt_X12_is 1 rfl) rfl ?_
      refine a_icmp_lt (pc := 2) (dk dt_X12_is 2 rfl) (tgt := 14) rfl ⟨fun c => ?_, fun c => ?_⟩
      · replace H := H.1 c
        refine a_iconst (pc := 14) (dk dt_X12_is 8 rfl) (ik rfl) ?_
        refine a_zret (pc := 15) (dk dt_X12_is 9 rfl) rfl rfl ⟨by decide, ?_⟩
        show ATW _ _ _ _ _ _ _ _ _ _
        refine a_if_ne (pc := 16) (dk dt_X12_served 9 rfl) (tgt := 21) rfl ⟨fun c => absurd c (by decide), fun _ => ?_⟩
        refine a_iconst (pc := 19) (dk dt_X12_served 10 rfl) (ik rfl) ?_
        exact a_iret (pc := 20) (dk dt_X12_served 11 rfl) rfl rfl H
      · replace H := H.2 c
        refine a_iload_n (pc := 5) (dk dt_X12_is 3 rfl) rfl ?_
        refine a_iload_n (pc := 6) (dk dt_X12_is 4 rfl) rfl ?_
        refine a_icmp_gt (pc := 7) (dk dt_X12_is 5 rfl) (tgt := 14) rfl ⟨fun c => ?_, fun c => ?_⟩
        · replace H := H.1 c
          refine a_iconst (pc := 14) (dk dt_X12_is 8 rfl) (ik rfl) ?_
          refine a_zret (pc := 15) (dk dt_X12_is 9 rfl) rfl rfl ⟨by decide, ?_⟩
          show ATW _ _ _ _ _ _ _ _ _ _
          refine a_if_ne (pc := 16) (dk dt_X12_served 9 rfl) (tgt := 21) rfl ⟨fun c => absurd c (by decide), fun _ => ?_⟩
          refine a_iconst (pc := 19) (dk dt_X12_served 10 rfl) (ik rfl) ?_
          exact a_iret (pc := 20) (dk dt_X12_served 11 rfl) rfl rfl H
        · replace H := H.2 c
          refine a_iconst (pc := 10) (dk dt_X12_is 6 rfl) (ik rfl) ?_
          refine a_goto (pc := 11) (dk dt_X12_is 7 rfl) (tgt := 15) rfl ?_
          refine a_zret (pc := 15) (dk dt_X12_is 9 rfl) rfl rfl ⟨by decide, ?_⟩
          show ATW _ _ _ _ _ _ _ _ _ _
          refine a_if_ne (pc := 16) (dk dt_X12_served 9 rfl) (tgt := 21) rfl ⟨fun _ => ?_, fun c => absurd c (by decide)⟩
          refine a_iload_n (pc := 21) (dk dt_X12_served 12 rfl) rfl ?_
          refine a_if_ne (pc := 22) (dk dt_X12_served 13 rfl) (tgt := 37) rfl ⟨fun c => ?_, fun c => ?_⟩
          · replace H := H.1 c
            refine a_aload_n (pc := 37) (dk dt_X12_served 20 rfl) rfl ?_
            refine a_getr (r := 95) (pc := 38) (dk dt_X12_served 21 rfl) cls_12 fl_RX12_54 cf_85_27 ?_
            refine a_iload_n (pc := 41) (dk dt_X12_served 22 rfl) rfl ?_
            refine a_zald (pc := 42) (dk dt_X12_served 23 rfl) ar_96 ⟨H.1, ?_⟩
            replace H := H.2
            refine a_if_eq (pc := 43) (dk dt_X12_served 24 rfl) (tgt := 50) rfl ⟨fun c => ?_, fun c => ?_⟩
            · replace H := H.1 c
              refine a_iconst (pc := 50) (dk dt_X12_served 27 rfl) (ik rfl) ?_
              exact a_iret (pc := 51) (dk dt_X12_served 28 rfl) rfl rfl H
            · replace H := H.2 c
              refine a_iconst (pc := 46) (dk dt_X12_served 25 rfl) (ik rfl) ?_
              refine a_goto (pc := 47) (dk dt_X12_served 26 rfl) (tgt := 51) rfl ?_
              exact a_iret (pc := 51) (dk dt_X12_served 28 rfl) rfl rfl H
          · replace H := H.2 c
            refine a_aload_n (pc := 25) (dk dt_X12_served 14 rfl) rfl ?_
            refine a_getr (r := 94) (pc := 26) (dk dt_X12_served 15 rfl) cls_12 fl_RX12_50 cf_85_26 ?_
            refine a_iload_n (pc := 29) (dk dt_X12_served 16 rfl) rfl ?_
            refine a_zald (pc := 30) (dk dt_X12_served 17 rfl) ar_95 ⟨H.1, ?_⟩
            replace H := H.2
            refine a_if_eq (pc := 31) (dk dt_X12_served 18 rfl) (tgt := 50) rfl ⟨fun c => ?_, fun c => ?_⟩
            · replace H := H.1 c
              refine a_iconst (pc := 50) (dk dt_X12_served 27 rfl) (ik rfl) ?_
              exact a_iret (pc := 51) (dk dt_X12_served 28 rfl) rfl rfl H
            · replace H := H.2 c
              refine a_goto (pc := 34) (dk dt_X12_served 19 rfl) (tgt := 46) rfl ?_
              refine a_iconst (pc := 46) (dk dt_X12_served 25 rfl) (ik rfl) ?_
              refine a_goto (pc := 47) (dk dt_X12_served 26 rfl) (tgt := 51) rfl ?_
              exact a_iret (pc := 51) (dk dt_X12_served 28 rfl) rfl rfl H
set_option maxHeartbeats 40000000 in
theorem U_X12_runs_85_0 {G : GG} {Φ : Int → Hp → Prop} {h : Hp} {x1 : Int} {x2 : Int} (H : ((x1 < 0 → Φ (-1) h) ∧ (0 ≤ x1 → ((7 < x1 → Φ (-1) h) ∧ (x1 ≤ 7 → (((x2 = 0) → (0 ≤ x1 ∧ x1 < 8) ∧ Φ (h 115 x1) h) ∧ ((x2 = 1) → (0 ≤ x1 ∧ x1 < 8) ∧ (((h 116 x1) ≠ (-1) → Φ 1 h) ∧ ((h 116 x1) = (-1) → Φ 0 h))) ∧ ((x2 = 2) → (0 ≤ x1 ∧ x1 < 8) ∧ Φ (h 116 x1) h) ∧ ((x2 = 3) → (0 ≤ x1 ∧ x1 < 8) ∧ (((h 116 x1) ≠ (-1) → (0 ≤ x1 ∧ x1 < 8) ∧ Φ (h 117 x1) h) ∧ ((h 116 x1) = (-1) → Φ 0 h))) ∧ (((x2 < 0 ∨ 3 < x2)) → Φ (-1) h))))))) : AT G m_X12_runs 0 [(0, rv 85), (1, iv x1), (2, iv x2)] [] h Φ := by
  refine a_iload_n (pc := 0) (dk dt_X12_runs 0 rfl) rfl ?_
  refine a_iconst (pc := 1) (dk dt_X12_runs 1 rfl) (ik rfl) ?_
  refine a_bipush (pc := 2) (dk dt_X12_runs 2 rfl) (ik rfl) (bpk rfl) ?_
  refine a_callSi (as := [iv x1, iv 0, iv 7]) (st := []) (pc := 4) (dk dt_X12_runs 3 rfl) cl_RX12_302 ⟨Nat.le_of_ble_eq_true rfl, Nat.le_of_ble_eq_true rfl⟩ ⟨Nat.le_of_ble_eq_true rfl, Nat.le_of_ble_eq_true rfl⟩ rfl rfl rfl (Nat.le_of_ble_eq_true rfl) (Call.of rfl (Nat.le_of_ble_eq_true rfl) rfl ?_)
  refine a_iload_n (pc := 0) (dk dt_X12_is 0 rfl) rfl ?_
  refine a_iload_n (pc := 1) (dk dt_X12_is 1 rfl) rfl ?_
  refine a_icmp_lt (pc := 2) (dk dt_X12_is 2 rfl) (tgt := 14) rfl ⟨fun c => ?_, fun c => ?_⟩
  · replace H := H.1 c
    refine a_iconst (pc := 14) (dk dt_X12_is 8 rfl) (ik rfl) ?_
    refine a_zret (pc := 15) (dk dt_X12_is 9 rfl) rfl rfl ⟨by decide, ?_⟩
    show ATW _ _ _ _ _ _ _ _ _ _
    refine a_if_ne (pc := 7) (dk dt_X12_runs 4 rfl) (tgt := 12) rfl ⟨fun c => absurd c (by decide), fun _ => ?_⟩
    refine a_iconst (pc := 10) (dk dt_X12_runs 5 rfl) (ik rfl) ?_
    exact a_iret (pc := 11) (dk dt_X12_runs 6 rfl) rfl rfl H
  · replace H := H.2 c
    refine a_iload_n (pc := 5) (dk dt_X12_is 3 rfl) rfl ?_
    refine a_iload_n (pc := 6) (dk dt_X12_is 4 rfl) rfl ?_
    refine a_icmp_gt (pc := 7) (dk dt_X12_is 5 rfl) (tgt := 14) rfl ⟨fun c => ?_, fun c => ?_⟩
    · replace H := H.1 c
      refine a_iconst (pc := 14) (dk dt_X12_is 8 rfl) (ik rfl) ?_
      refine a_zret (pc := 15) (dk dt_X12_is 9 rfl) rfl rfl ⟨by decide, ?_⟩
      show ATW _ _ _ _ _ _ _ _ _ _
      refine a_if_ne (pc := 7) (dk dt_X12_runs 4 rfl) (tgt := 12) rfl ⟨fun c => absurd c (by decide), fun _ => ?_⟩
      refine a_iconst (pc := 10) (dk dt_X12_runs 5 rfl) (ik rfl) ?_
      exact a_iret (pc := 11) (dk dt_X12_runs 6 rfl) rfl rfl H
    · replace H := H.2 c
      refine a_iconst (pc := 10) (dk dt_X12_is 6 rfl) (ik rfl) ?_
      refine a_goto (pc := 11) (dk dt_X12_is 7 rfl) (tgt := 15) rfl ?_
      refine a_zret (pc := 15) (dk dt_X12_is 9 rfl) rfl rfl ⟨by decide, ?_⟩
      show ATW _ _ _ _ _ _ _ _ _ _
      refine a_if_ne (pc := 7) (dk dt_X12_runs 4 rfl) (tgt := 12) rfl ⟨fun _ => ?_, fun c => absurd c (by decide)⟩
      refine a_iload_n (pc := 12) (dk dt_X12_runs 7 rfl) rfl ?_
      have B0 : (x2 = 0) → AT G m_X12_runs 44 [(0, rv 85), (1, iv x1), (2, iv x2)] [] h Φ := by
        intro c
        replace H := H.1 c
        refine a_aload_n (pc := 44) (dk dt_X12_runs 9 rfl) rfl ?_
        refine a_getr (r := 114) (pc := 45) (dk dt_X12_runs 10 rfl) cls_12 fl_RX12_174 cf_85_48 ?_
        refine a_iload_n (pc := 48) (dk dt_X12_runs 11 rfl) rfl ?_
        refine a_iald (pc := 49) (dk dt_X12_runs 12 rfl) ar_115 ⟨H.1, ?_⟩
        replace H := H.2
        exact a_iret (pc := 50) (dk dt_X12_runs 13 rfl) rfl rfl H
      have B1 : (x2 = 1) → AT G m_X12_runs 51 [(0, rv 85), (1, iv x1), (2, iv x2)] [] h Φ := by
        intro c
        replace H := H.2.1 c
        refine a_aload_n (pc := 51) (dk dt_X12_runs 14 rfl) rfl ?_
        refine a_getr (r := 115) (pc := 52) (dk dt_X12_runs 15 rfl) cls_12 fl_RX12_177 cf_85_49 ?_
        refine a_iload_n (pc := 55) (dk dt_X12_runs 16 rfl) rfl ?_
        refine a_iald (pc := 56) (dk dt_X12_runs 17 rfl) ar_116 ⟨H.1, ?_⟩
        replace H := H.2
        refine a_iconst (pc := 57) (dk dt_X12_runs 18 rfl) (ik rfl) ?_
        refine a_icmp_ne (pc := 58) (dk dt_X12_runs 19 rfl) (tgt := 65) rfl ⟨fun c => ?_, fun c => ?_⟩
        · replace H := H.1 c
          refine a_iconst (pc := 65) (dk dt_X12_runs 22 rfl) (ik rfl) ?_
          exact a_iret (pc := 66) (dk dt_X12_runs 23 rfl) rfl rfl H
        · replace H := H.2 c
          refine a_iconst (pc := 61) (dk dt_X12_runs 20 rfl) (ik rfl) ?_
          refine a_goto (pc := 62) (dk dt_X12_runs 21 rfl) (tgt := 66) rfl ?_
          exact a_iret (pc := 66) (dk dt_X12_runs 23 rfl) rfl rfl H
      have B2 : (x2 = 2) → AT G m_X12_runs 67 [(0, rv 85), (1, iv x1), (2, iv x2)] [] h Φ := by
        intro c
        replace H := H.2.2.1 c
        refine a_aload_n (pc := 67) (dk dt_X12_runs 24 rfl) rfl ?_
        refine a_getr (r := 115) (pc := 68) (dk dt_X12_runs 25 rfl) cls_12 fl_RX12_177 cf_85_49 ?_
        refine a_iload_n (pc := 71) (dk dt_X12_runs 26 rfl) rfl ?_
        refine a_iald (pc := 72) (dk dt_X12_runs 27 rfl) ar_116 ⟨H.1, ?_⟩
        replace H := H.2
        exact a_iret (pc := 73) (dk dt_X12_runs 28 rfl) rfl rfl H
      have B3 : (x2 = 3) → AT G m_X12_runs 74 [(0, rv 85), (1, iv x1), (2, iv x2)] [] h Φ := by
        intro c
        replace H := H.2.2.2.1 c
        refine a_aload_n (pc := 74) (dk dt_X12_runs 29 rfl) rfl ?_
        refine a_getr (r := 115) (pc := 75) (dk dt_X12_runs 30 rfl) cls_12 fl_RX12_177 cf_85_49 ?_
        refine a_iload_n (pc := 78) (dk dt_X12_runs 31 rfl) rfl ?_
        refine a_iald (pc := 79) (dk dt_X12_runs 32 rfl) ar_116 ⟨H.1, ?_⟩
        replace H := H.2
        refine a_iconst (pc := 80) (dk dt_X12_runs 33 rfl) (ik rfl) ?_
        refine a_icmp_ne (pc := 81) (dk dt_X12_runs 34 rfl) (tgt := 88) rfl ⟨fun c => ?_, fun c => ?_⟩
        · replace H := H.1 c
          refine a_aload_n (pc := 88) (dk dt_X12_runs 37 rfl) rfl ?_
          refine a_getr (r := 116) (pc := 89) (dk dt_X12_runs 38 rfl) cls_12 fl_RX12_180 cf_85_50 ?_
          refine a_iload_n (pc := 92) (dk dt_X12_runs 39 rfl) rfl ?_
          refine a_iald (pc := 93) (dk dt_X12_runs 40 rfl) ar_117 ⟨H.1, ?_⟩
          replace H := H.2
          exact a_iret (pc := 94) (dk dt_X12_runs 41 rfl) rfl rfl H
        · replace H := H.2 c
          refine a_iconst (pc := 84) (dk dt_X12_runs 35 rfl) (ik rfl) ?_
          refine a_goto (pc := 85) (dk dt_X12_runs 36 rfl) (tgt := 94) rfl ?_
          exact a_iret (pc := 94) (dk dt_X12_runs 41 rfl) rfl rfl H
      have BD : ((x2 < 0 ∨ 3 < x2)) → AT G m_X12_runs 95 [(0, rv 85), (1, iv x1), (2, iv x2)] [] h Φ := by
        intro c
        replace H := H.2.2.2.2 c
        refine a_iconst (pc := 95) (dk dt_X12_runs 42 rfl) (ik rfl) ?_
        exact a_iret (pc := 96) (dk dt_X12_runs 43 rfl) rfl rfl H
      exact a_tsw [44, 51, 67, 74] (pc := 13) (dk dt_X12_runs 8 rfl) (by decide) (dt := 95) rfl (by decide) ⟨⟨fun c => B0 (c), fun c => B1 (c), fun c => B2 (c), fun c => B3 (c), trivial⟩, fun c => BD (c)⟩
set_option maxHeartbeats 40000000 in
theorem U_X12_word_85_0 {G : GG} {Φ : Int → Hp → Prop} {h : Hp} {x1 : Int} {x2 : Int} (H : ((x1 < 0 → Φ (-1) h) ∧ (0 ≤ x1 → ((63 < x1 → Φ (-1) h) ∧ (x1 ≤ 63 → ((x2 < 0 → Φ (-1) h) ∧ (0 ≤ x2 → ((1 < x2 → Φ (-1) h) ∧ (x2 ≤ 1 → ((x2 ≠ 0 → Call G m_X12_read [rv 85, iv x1] h (fun r1 h2 => ((r1 ≠ (-1) → Call G m_X12_read [rv 85, iv x1] h2 (fun r3 h4 => Φ r3 h4)) ∧ (r1 = (-1) → Φ (-3) h2)))) ∧ (x2 = 0 → (0 ≤ x1 ∧ x1 < 64) ∧ Φ (h 97 x1) h))))))))))) : AT G m_X12_word 0 [(0, rv 85), (1, iv x1), (2, iv x2)] [] h Φ := by
  refine a_iload_n (pc := 0) (dk dt_X12_word 0 rfl) rfl ?_
  refine a_iconst (pc := 1) (dk dt_X12_word 1 rfl) (ik rfl) ?_
  refine a_bipush (pc := 2) (dk dt_X12_word 2 rfl) (ik rfl) (bpk rfl) ?_
  refine a_callSi (as := [iv x1, iv 0, iv 63]) (st := []) (pc := 4) (dk dt_X12_word 3 rfl) cl_RX12_302 ⟨Nat.le_of_ble_eq_true rfl, Nat.le_of_ble_eq_true rfl⟩ ⟨Nat.le_of_ble_eq_true rfl, Nat.le_of_ble_eq_true rfl⟩ rfl rfl rfl (Nat.le_of_ble_eq_true rfl) (Call.of rfl (Nat.le_of_ble_eq_true rfl) rfl ?_)
  refine a_iload_n (pc := 0) (dk dt_X12_is 0 rfl) rfl ?_
  refine a_iload_n (pc := 1) (dk dt_X12_is 1 rfl) rfl ?_
  refine a_icmp_lt (pc := 2) (dk dt_X12_is 2 rfl) (tgt := 14) rfl ⟨fun c => ?_, fun c => ?_⟩
  · replace H := H.1 c
    refine a_iconst (pc := 14) (dk dt_X12_is 8 rfl) (ik rfl) ?_
    refine a_zret (pc := 15) (dk dt_X12_is 9 rfl) rfl rfl ⟨by decide, ?_⟩
    show ATW _ _ _ _ _ _ _ _ _ _
    refine a_if_eq (pc := 7) (dk dt_X12_word 4 rfl) (tgt := 19) rfl ⟨fun _ => ?_, fun c => absurd c (by decide)⟩
    refine a_iconst (pc := 19) (dk dt_X12_word 10 rfl) (ik rfl) ?_
    exact a_iret (pc := 20) (dk dt_X12_word 11 rfl) rfl rfl H
  · replace H := H.2 c
    refine a_iload_n (pc := 5) (dk dt_X12_is 3 rfl) rfl ?_
    refine a_iload_n (pc := 6) (dk dt_X12_is 4 rfl) rfl ?_
    refine a_icmp_gt (pc := 7) (dk dt_X12_is 5 rfl) (tgt := 14) rfl ⟨fun c => ?_, fun c => ?_⟩
    · replace H := H.1 c
      refine a_iconst (pc := 14) (dk dt_X12_is 8 rfl) (ik rfl) ?_
      refine a_zret (pc := 15) (dk dt_X12_is 9 rfl) rfl rfl ⟨by decide, ?_⟩
      show ATW _ _ _ _ _ _ _ _ _ _
      refine a_if_eq (pc := 7) (dk dt_X12_word 4 rfl) (tgt := 19) rfl ⟨fun _ => ?_, fun c => absurd c (by decide)⟩
      refine a_iconst (pc := 19) (dk dt_X12_word 10 rfl) (ik rfl) ?_
      exact a_iret (pc := 20) (dk dt_X12_word 11 rfl) rfl rfl H
    · replace H := H.2 c
      refine a_iconst (pc := 10) (dk dt_X12_is 6 rfl) (ik rfl) ?_
      refine a_goto (pc := 11) (dk dt_X12_is 7 rfl) (tgt := 15) rfl ?_
      refine a_zret (pc := 15) (dk dt_X12_is 9 rfl) rfl rfl ⟨by decide, ?_⟩
      show ATW _ _ _ _ _ _ _ _ _ _
      refine a_if_eq (pc := 7) (dk dt_X12_word 4 rfl) (tgt := 19) rfl ⟨fun c => absurd c (by decide), fun _ => ?_⟩
      refine a_iload_n (pc := 10) (dk dt_X12_word 5 rfl) rfl ?_
      refine a_iconst (pc := 11) (dk dt_X12_word 6 rfl) (ik rfl) ?_
      refine a_iconst (pc := 12) (dk dt_X12_word 7 rfl) (ik rfl) ?_
      refine a_callSi (as := [iv x2, iv 0, iv 1]) (st := []) (pc := 13) (dk dt_X12_word 8 rfl) cl_RX12_302 ⟨Nat.le_of_ble_eq_true rfl, Nat.le_of_ble_eq_true rfl⟩ ⟨Nat.le_of_ble_eq_true rfl, Nat.le_of_ble_eq_true rfl⟩ rfl rfl rfl (Nat.le_of_ble_eq_true rfl) (Call.of rfl (Nat.le_of_ble_eq_true rfl) rfl ?_)
      refine a_iload_n (pc := 0) (dk dt_X12_is 0 rfl) rfl ?_
      refine a_iload_n (pc := 1) (dk dt_X12_is 1 rfl) rfl ?_
      refine a_icmp_lt (pc := 2) (dk dt_X12_is 2 rfl) (tgt := 14) rfl ⟨fun c => ?_, fun c => ?_⟩
      · replace H := H.1 c
        refine a_iconst (pc := 14) (dk dt_X12_is 8 rfl) (ik rfl) ?_
        refine a_zret (pc := 15) (dk dt_X12_is 9 rfl) rfl rfl ⟨by decide, ?_⟩
        show ATW _ _ _ _ _ _ _ _ _ _
        refine a_if_ne (pc := 16) (dk dt_X12_word 9 rfl) (tgt := 21) rfl ⟨fun c => absurd c (by decide), fun _ => ?_⟩
        refine a_iconst (pc := 19) (dk dt_X12_word 10 rfl) (ik rfl) ?_
        exact a_iret (pc := 20) (dk dt_X12_word 11 rfl) rfl rfl H
      · replace H := H.2 c
        refine a_iload_n (pc := 5) (dk dt_X12_is 3 rfl) rfl ?_
        refine a_iload_n (pc := 6) (dk dt_X12_is 4 rfl) rfl ?_
        refine a_icmp_gt (pc := 7) (dk dt_X12_is 5 rfl) (tgt := 14) rfl ⟨fun c => ?_, fun c => ?_⟩
        · replace H := H.1 c
          refine a_iconst (pc := 14) (dk dt_X12_is 8 rfl) (ik rfl) ?_
          refine a_zret (pc := 15) (dk dt_X12_is 9 rfl) rfl rfl ⟨by decide, ?_⟩
          show ATW _ _ _ _ _ _ _ _ _ _
          refine a_if_ne (pc := 16) (dk dt_X12_word 9 rfl) (tgt := 21) rfl ⟨fun c => absurd c (by decide), fun _ => ?_⟩
          refine a_iconst (pc := 19) (dk dt_X12_word 10 rfl) (ik rfl) ?_
          exact a_iret (pc := 20) (dk dt_X12_word 11 rfl) rfl rfl H
        · replace H := H.2 c
          refine a_iconst (pc := 10) (dk dt_X12_is 6 rfl) (ik rfl) ?_
          refine a_goto (pc := 11) (dk dt_X12_is 7 rfl) (tgt := 15) rfl ?_
          refine a_zret (pc := 15) (dk dt_X12_is 9 rfl) rfl rfl ⟨by decide, ?_⟩
          show ATW _ _ _ _ _ _ _ _ _ _
          refine a_if_ne (pc := 16) (dk dt_X12_word 9 rfl) (tgt := 21) rfl ⟨fun _ => ?_, fun c => absurd c (by decide)⟩
          refine a_iload_n (pc := 21) (dk dt_X12_word 12 rfl) rfl ?_
          refine a_if_ne (pc := 22) (dk dt_X12_word 13 rfl) (tgt := 34) rfl ⟨fun c => ?_, fun c => ?_⟩
          · replace H := H.1 c
            refine a_aload_n (pc := 34) (dk dt_X12_word 19 rfl) rfl ?_
            refine a_iload_n (pc := 35) (dk dt_X12_word 20 rfl) rfl ?_
            refine a_callVi (as := [iv x1]) (st := []) (pc := 36) (dk dt_X12_word 21 rfl) cl_RX12_438 ⟨Nat.le_of_ble_eq_true rfl, Nat.le_of_ble_eq_true rfl⟩ ⟨Nat.le_of_ble_eq_true rfl, Nat.le_of_ble_eq_true rfl⟩ cls_12 rfl cc_85 rfl rfl rfl (Nat.le_of_ble_eq_true rfl) (Call.mono H fun r1 h2 H => ?_)
            refine a_iconst (pc := 39) (dk dt_X12_word 22 rfl) (ik rfl) ?_
            refine a_icmp_ne (pc := 40) (dk dt_X12_word 23 rfl) (tgt := 48) rfl ⟨fun c => ?_, fun c => ?_⟩
            · replace H := H.1 c
              refine a_aload_n (pc := 48) (dk dt_X12_word 26 rfl) rfl ?_
              refine a_iload_n (pc := 49) (dk dt_X12_word 27 rfl) rfl ?_
              refine a_callVi (as := [iv x1]) (st := []) (pc := 50) (dk dt_X12_word 28 rfl) cl_RX12_438 ⟨Nat.le_of_ble_eq_true rfl, Nat.le_of_ble_eq_true rfl⟩ ⟨Nat.le_of_ble_eq_true rfl, Nat.le_of_ble_eq_true rfl⟩ cls_12 rfl cc_85 rfl rfl rfl (Nat.le_of_ble_eq_true rfl) (Call.mono H fun r3 h4 H => ?_)
              exact a_iret (pc := 53) (dk dt_X12_word 29 rfl) rfl rfl H
            · replace H := H.2 c
              refine a_bipush (pc := 43) (dk dt_X12_word 24 rfl) (ik rfl) (bpk rfl) ?_
              refine a_goto (pc := 45) (dk dt_X12_word 25 rfl) (tgt := 53) rfl ?_
              exact a_iret (pc := 53) (dk dt_X12_word 29 rfl) rfl rfl H
          · replace H := H.2 c
            refine a_aload_n (pc := 25) (dk dt_X12_word 14 rfl) rfl ?_
            refine a_getr (r := 96) (pc := 26) (dk dt_X12_word 15 rfl) cls_12 fl_RX12_57 cf_85_28 ?_
            refine a_iload_n (pc := 29) (dk dt_X12_word 16 rfl) rfl ?_
            refine a_iald (pc := 30) (dk dt_X12_word 17 rfl) ar_97 ⟨H.1, ?_⟩
            replace H := H.2
            refine a_goto (pc := 31) (dk dt_X12_word 18 rfl) (tgt := 53) rfl ?_
            exact a_iret (pc := 53) (dk dt_X12_word 29 rfl) rfl rfl H
set_option maxHeartbeats 40000000 in
theorem U_X12_noise_85_0 {G : GG} {Φ : Int → Hp → Prop} {h : Hp} {x1 : Int} {x2 : Int} (H : (((h 85 78) = 0 → Φ (-1) h) ∧ ((h 85 78) ≠ 0 → ((x1 < 0 → Φ (-1) h) ∧ (0 ≤ x1 → ((23 < x1 → Φ (-1) h) ∧ (x1 ≤ 23 → (0 ≤ x1 ∧ x1 < 720) ∧ (0 ≤ x1 ∧ x1 < 720) ∧ (0 ≤ x1 ∧ x1 < 720) ∧ Φ (bxor (h 138 x1) (band x2 255)) (up h 138 x1 (bxor (h 138 x1) (band x2 255)))))))))) : AT G m_X12_noise 0 [(0, rv 85), (1, iv x1), (2, iv x2)] [] h Φ := by
  refine a_aload_n (pc := 0) (dk dt_X12_noise 0 rfl) rfl ?_
  refine a_geti (pc := 1) (dk dt_X12_noise 1 rfl) cls_12 fl_RX12_530 cf_85_78 ?_
  refine a_if_eq (pc := 4) (dk dt_X12_noise 2 rfl) (tgt := 17) rfl ⟨fun c => ?_, fun c => ?_⟩
  · replace H := H.1 c
    refine a_iconst (pc := 17) (dk dt_X12_noise 8 rfl) (ik rfl) ?_
    exact a_iret (pc := 18) (dk dt_X12_noise 9 rfl) rfl rfl H
  · replace H := H.2 c
    refine a_iload_n (pc := 7) (dk dt_X12_noise 3 rfl) rfl ?_
    refine a_iconst (pc := 8) (dk dt_X12_noise 4 rfl) (ik rfl) ?_
    refine a_bipush (pc := 9) (dk dt_X12_noise 5 rfl) (ik rfl) (bpk rfl) ?_
    refine a_callSi (as := [iv x1, iv 0, iv 23]) (st := []) (pc := 11) (dk dt_X12_noise 6 rfl) cl_RX12_302 ⟨Nat.le_of_ble_eq_true rfl, Nat.le_of_ble_eq_true rfl⟩ ⟨Nat.le_of_ble_eq_true rfl, Nat.le_of_ble_eq_true rfl⟩ rfl rfl rfl (Nat.le_of_ble_eq_true rfl) (Call.of rfl (Nat.le_of_ble_eq_true rfl) rfl ?_)
    refine a_iload_n (pc := 0) (dk dt_X12_is 0 rfl) rfl ?_
    refine a_iload_n (pc := 1) (dk dt_X12_is 1 rfl) rfl ?_
    refine a_icmp_lt (pc := 2) (dk dt_X12_is 2 rfl) (tgt := 14) rfl ⟨fun c => ?_, fun c => ?_⟩
    · replace H := H.1 c
      refine a_iconst (pc := 14) (dk dt_X12_is 8 rfl) (ik rfl) ?_
      refine a_zret (pc := 15) (dk dt_X12_is 9 rfl) rfl rfl ⟨by decide, ?_⟩
      show ATW _ _ _ _ _ _ _ _ _ _
      refine a_if_ne (pc := 14) (dk dt_X12_noise 7 rfl) (tgt := 19) rfl ⟨fun c => absurd c (by decide), fun _ => ?_⟩
      refine a_iconst (pc := 17) (dk dt_X12_noise 8 rfl) (ik rfl) ?_
      exact a_iret (pc := 18) (dk dt_X12_noise 9 rfl) rfl rfl H
    · replace H := H.2 c
      refine a_iload_n (pc := 5) (dk dt_X12_is 3 rfl) rfl ?_
      refine a_iload_n (pc := 6) (dk dt_X12_is 4 rfl) rfl ?_
      refine a_icmp_gt (pc := 7) (dk dt_X12_is 5 rfl) (tgt := 14) rfl ⟨fun c => ?_, fun c => ?_⟩
      · replace H := H.1 c
        refine a_iconst (pc := 14) (dk dt_X12_is 8 rfl) (ik rfl) ?_
        refine a_zret (pc := 15) (dk dt_X12_is 9 rfl) rfl rfl ⟨by decide, ?_⟩
        show ATW _ _ _ _ _ _ _ _ _ _
        refine a_if_ne (pc := 14) (dk dt_X12_noise 7 rfl) (tgt := 19) rfl ⟨fun c => absurd c (by decide), fun _ => ?_⟩
        refine a_iconst (pc := 17) (dk dt_X12_noise 8 rfl) (ik rfl) ?_
        exact a_iret (pc := 18) (dk dt_X12_noise 9 rfl) rfl rfl H
      · replace H := H.2 c
        refine a_iconst (pc := 10) (dk dt_X12_is 6 rfl) (ik rfl) ?_
        refine a_goto (pc := 11) (dk dt_X12_is 7 rfl) (tgt := 15) rfl ?_
        refine a_zret (pc := 15) (dk dt_X12_is 9 rfl) rfl rfl ⟨by decide, ?_⟩
        show ATW _ _ _ _ _ _ _ _ _ _
        refine a_if_ne (pc := 14) (dk dt_X12_noise 7 rfl) (tgt := 19) rfl ⟨fun _ => ?_, fun c => absurd c (by decide)⟩
        refine a_aload_n (pc := 19) (dk dt_X12_noise 10 rfl) rfl ?_
        refine a_getr (r := 137) (pc := 20) (dk dt_X12_noise 11 rfl) cls_12 fl_RX12_241 cf_85_76 ?_
        refine a_iload_n (pc := 23) (dk dt_X12_noise 12 rfl) rfl ?_
        refine a_dup2 (pc := 24) (dk dt_X12_noise 13 rfl) rfl rfl ?_
        refine a_iald (pc := 25) (dk dt_X12_noise 14 rfl) ar_138 ⟨H.1, ?_⟩
        replace H := H.2
        refine a_iload_n (pc := 26) (dk dt_X12_noise 15 rfl) rfl ?_
        refine a_sipush (pc := 27) (dk dt_X12_noise 16 rfl) (ik rfl) (spk rfl) ?_
        refine a_iand (pc := 30) (dk dt_X12_noise 17 rfl) ?_
        refine a_ixor (pc := 31) (dk dt_X12_noise 18 rfl) ?_
        refine a_iast (pc := 32) (dk dt_X12_noise 19 rfl) ar_138 ⟨H.1, ?_⟩
        replace H := H.2
        refine a_aload_n (pc := 33) (dk dt_X12_noise 20 rfl) rfl ?_
        refine a_getr (r := 137) (pc := 34) (dk dt_X12_noise 21 rfl) cls_12 fl_RX12_241 cf_85_76 ?_
        refine a_iload_n (pc := 37) (dk dt_X12_noise 22 rfl) rfl ?_
        refine a_iald (pc := 38) (dk dt_X12_noise 23 rfl) ar_138 ⟨H.1, ?_⟩
        replace H := H.2
        refine a_top (y := (bxor (h 138 x1) (band x2 255))) (by simp [up, cpy]) ?_
        exact a_iret (pc := 39) (dk dt_X12_noise 24 rfl) rfl rfl H
set_option maxHeartbeats 40000000 in
theorem U_X12_lose_85_0 {G : GG} {Φ : Int → Hp → Prop} {h : Hp} (H : (((h 85 78) ≠ 0 → Call G m_X12_shift [rv 85] h (fun _ h2 => Φ (h2 85 78) h2)) ∧ ((h 85 78) = 0 → Φ (-1) h))) : AT G m_X12_lose 0 [(0, rv 85)] [] h Φ := by
  refine a_aload_n (pc := 0) (dk dt_X12_lose 0 rfl) rfl ?_
  refine a_geti (pc := 1) (dk dt_X12_lose 1 rfl) cls_12 fl_RX12_530 cf_85_78 ?_
  refine a_if_ne (pc := 4) (dk dt_X12_lose 2 rfl) (tgt := 9) rfl ⟨fun c => ?_, fun c => ?_⟩
  · replace H := H.1 c
    refine a_aload_n (pc := 9) (dk dt_X12_lose 5 rfl) rfl ?_
    refine a_callVv (as := []) (st := []) (pc := 10) (dk dt_X12_lose 6 rfl) cl_RX12_551 ⟨Nat.le_of_ble_eq_true rfl, Nat.le_of_ble_eq_true rfl⟩ ⟨Nat.le_of_ble_eq_true rfl, Nat.le_of_ble_eq_true rfl⟩ cls_12 rfl cc_85 rfl rfl rfl (Nat.le_of_ble_eq_true rfl) (Call.mono H fun _ h2 H => ?_)
    refine a_aload_n (pc := 13) (dk dt_X12_lose 7 rfl) rfl ?_
    refine a_geti (pc := 14) (dk dt_X12_lose 8 rfl) cls_12 fl_RX12_530 cf_85_78 ?_
    exact a_iret (pc := 17) (dk dt_X12_lose 9 rfl) rfl rfl H
  · replace H := H.2 c
    refine a_iconst (pc := 7) (dk dt_X12_lose 3 rfl) (ik rfl) ?_
    exact a_iret (pc := 8) (dk dt_X12_lose 4 rfl) rfl rfl H
set_option maxHeartbeats 40000000 in
theorem U_X12_receive_85_0 {G : GG} {Φ : Int → Hp → Prop} {h : Hp} (H : (((h 85 78) ≠ 0 → AT G m_X12_receive 11 [(0, rv 85), (1, iv 0)] [] h Φ) ∧ ((h 85 78) = 0 → Φ (-1) h))) : AT G m_X12_receive 0 [(0, rv 85)] [] h Φ := by
  refine a_aload_n (pc := 0) (dk dt_X12_receive 0 rfl) rfl ?_
  refine a_geti (pc := 1) (dk dt_X12_receive 1 rfl) cls_12 fl_RX12_530 cf_85_78 ?_
  refine a_if_ne (pc := 4) (dk dt_X12_receive 2 rfl) (tgt := 9) rfl ⟨fun c => ?_, fun c => ?_⟩
  · replace H := H.1 c
    refine a_iconst (pc := 9) (dk dt_X12_receive 5 rfl) (ik rfl) ?_
    refine a_istore_n (pc := 10) (dk dt_X12_receive 6 rfl) (by decide) rfl rfl ?_
    exact a_pick [0, 1] rfl H
  · replace H := H.2 c
    refine a_iconst (pc := 7) (dk dt_X12_receive 3 rfl) (ik rfl) ?_
    exact a_iret (pc := 8) (dk dt_X12_receive 4 rfl) rfl rfl H
set_option maxHeartbeats 40000000 in
theorem U_X12_receive_85_11 {G : GG} {Φ : Int → Hp → Prop} {h : Hp} {x1 : Int} (H : ((24 ≤ x1 → Call G m_X12_shift [rv 85] h (fun _ h2 => Call G m_X12_check [rv 139, iv 0] h2 (fun r3 h4 => ((r3 = (w32 ((w32 ((h4 139 22) * 256)) + (h4 139 23))) → (((h4 85 84) = (-1) → (((h4 85 84) ≠ (-1) → (((h4 139 3) ≤ 17 → Call G m_X12_pieces [rv 85, iv (h4 139 3)] (up (up (up h4 85 82 (w32 ((h4 85 82) + 1))) 85 85 0) 85 84 (h4 139 0)) (fun r5 h6 => Call G m_X12_acknowledge [rv 85, iv (h6 139 1)] h6 (fun _ h8 => (((h8 139 2) ≠ 1 → Φ r5 h8) ∧ ((h8 139 2) = 1 → Φ r5 (up h8 85 89 0)))))) ∧ (17 < (h4 139 3) → Call G m_X12_acknowledge [rv 85, iv (h4 139 1)] (up (up (up h4 85 82 (w32 ((h4 85 82) + 1))) 85 85 0) 85 84 (h4 139 0)) (fun _ h10 => (((h10 139 2) ≠ 1 → Φ 0 h10) ∧ ((h10 139 2) = 1 → Φ 0 (up h10 85 89 0))))))) ∧ ((h4 85 84) = (-1) → (((h4 139 3) ≤ 17 → Call G m_X12_pieces [rv 85, iv (h4 139 3)] (up (up (up h4 85 82 (w32 ((h4 85 82) + 0))) 85 85 0) 85 84 (h4 139 0)) (fun r11 h12 => Call G m_X12_acknowledge [rv 85, iv (h12 139 1)] h12 (fun _ h14 => (((h14 139 2) ≠ 1 → Φ r11 h14) ∧ ((h14 139 2) = 1 → Φ r11 (up h14 85 89 0)))))) ∧ (17 < (h4 139 3) → Call G m_X12_acknowledge [rv 85, iv (h4 139 1)] (up (up (up h4 85 82 (w32 ((h4 85 82) + 0))) 85 85 0) 85 84 (h4 139 0)) (fun _ h16 => (((h16 139 2) ≠ 1 → Φ 0 h16) ∧ ((h16 139 2) = 1 → Φ 0 (up h16 85 89 0))))))))) ∧ ((h4 85 84) ≠ (-1) → (((h4 139 0) = (band (w32 ((h4 85 84) + 1)) 255) → Call G m_X12_pieces [rv 85, iv 0] (up h4 85 84 (h4 139 0)) (fun r17 h18 => Call G m_X12_acknowledge [rv 85, iv (h18 139 1)] h18 (fun _ h20 => (((h20 139 2) ≠ 1 → Φ r17 h20) ∧ ((h20 139 2) = 1 → Φ r17 (up h20 85 89 0)))))) ∧ ((h4 139 0) ≠ (band (w32 ((h4 85 84) + 1)) 255) → (((h4 85 84) ≠ (-1) → (((h4 139 3) ≤ 17 → Call G m_X12_pieces [rv 85, iv (h4 139 3)] (up (up (up h4 85 82 (w32 ((h4 85 82) + 1))) 85 85 0) 85 84 (h4 139 0)) (fun r21 h22 => Call G m_X12_acknowledge [rv 85, iv (h22 139 1)] h22 (fun _ h24 => (((h24 139 2) ≠ 1 → Φ r21 h24) ∧ ((h24 139 2) = 1 → Φ r21 (up h24 85 89 0)))))) ∧ (17 < (h4 139 3) → Call G m_X12_acknowledge [rv 85, iv (h4 139 1)] (up (up (up h4 85 82 (w32 ((h4 85 82) + 1))) 85 85 0) 85 84 (h4 139 0)) (fun _ h26 => (((h26 139 2) ≠ 1 → Φ 0 h26) ∧ ((h26 139 2) = 1 → Φ 0 (up h26 85 89 0))))))) ∧ ((h4 85 84) = (-1) → (((h4 139 3) ≤ 17 → Call G m_X12_pieces [rv 85, iv (h4 139 3)] (up (up (up h4 85 82 (w32 ((h4 85 82) + 0))) 85 85 0) 85 84 (h4 139 0)) (fun r27 h28 => Call G m_X12_acknowledge [rv 85, iv (h28 139 1)] h28 (fun _ h30 => (((h30 139 2) ≠ 1 → Φ r27 h30) ∧ ((h30 139 2) = 1 → Φ r27 (up h30 85 89 0)))))) ∧ (17 < (h4 139 3) → Call G m_X12_acknowledge [rv 85, iv (h4 139 1)] (up (up (up h4 85 82 (w32 ((h4 85 82) + 0))) 85 85 0) 85 84 (h4 139 0)) (fun _ h32 => (((h32 139 2) ≠ 1 → Φ 0 h32) ∧ ((h32 139 2) = 1 → Φ 0 (up h32 85 89 0))))))))))))) ∧ (r3 ≠ (w32 ((w32 ((h4 139 22) * 256)) + (h4 139 23))) → Φ (-2) (up h4 85 83 (w32 ((h4 85 83) + 1)))))))) ∧ (x1 < 24 → (0 ≤ x1 ∧ x1 < 720) ∧ (0 ≤ x1 ∧ x1 < 24) ∧ AT G m_X12_receive 11 [(0, rv 85), (1, iv (w32 (x1 + 1)))] [] (up h 139 x1 (h 138 x1)) Φ))) : AT G m_X12_receive 11 [(0, rv 85), (1, iv x1)] [] h Φ := by
  refine a_iload_n (pc := 11) (dk dt_X12_receive 7 rfl) rfl ?_
  refine a_bipush (pc := 12) (dk dt_X12_receive 8 rfl) (ik rfl) (bpk rfl) ?_
  refine a_icmp_ge (pc := 14) (dk dt_X12_receive 9 rfl) (tgt := 35) rfl ⟨fun c => ?_, fun c => ?_⟩
  · replace H := H.1 c
    refine a_aload_n (pc := 35) (dk dt_X12_receive 20 rfl) rfl ?_
    refine a_callVv (as := []) (st := []) (pc := 36) (dk dt_X12_receive 21 rfl) cl_RX12_551 ⟨Nat.le_of_ble_eq_true rfl, Nat.le_of_ble_eq_true rfl⟩ ⟨Nat.le_of_ble_eq_true rfl, Nat.le_of_ble_eq_true rfl⟩ cls_12 rfl cc_85 rfl rfl rfl (Nat.le_of_ble_eq_true rfl) (Call.mono H fun _ h2 H => ?_)
    refine a_aload_n (pc := 39) (dk dt_X12_receive 22 rfl) rfl ?_
    refine a_getr (r := 138) (pc := 40) (dk dt_X12_receive 23 rfl) cls_12 fl_RX12_244 cf_85_77 ?_
    refine a_iconst (pc := 43) (dk dt_X12_receive 24 rfl) (ik rfl) ?_
    refine a_callSi (as := [rv 139, iv 0]) (st := []) (pc := 44) (dk dt_X12_receive 25 rfl) cl_RX12_526 ⟨Nat.le_of_ble_eq_true rfl, Nat.le_of_ble_eq_true rfl⟩ ⟨Nat.le_of_ble_eq_true rfl, Nat.le_of_ble_eq_true rfl⟩ rfl rfl rfl (Nat.le_of_ble_eq_true rfl) (Call.mono H fun r3 h4 H => ?_)
    refine a_aload_n (pc := 47) (dk dt_X12_receive 26 rfl) rfl ?_
    refine a_getr (r := 138) (pc := 48) (dk dt_X12_receive 27 rfl) cls_12 fl_RX12_244 cf_85_77 ?_
    refine a_bipush (pc := 51) (dk dt_X12_receive 28 rfl) (ik rfl) (bpk rfl) ?_
    refine a_iald (pc := 53) (dk dt_X12_receive 29 rfl) ar_139 ⟨⟨by decide, by decide⟩, ?_⟩
    refine a_sipush (pc := 54) (dk dt_X12_receive 30 rfl) (ik rfl) (spk rfl) ?_
    refine a_imul (pc := 57) (dk dt_X12_receive 31 rfl) ?_
    refine a_aload_n (pc := 58) (dk dt_X12_receive 32 rfl) rfl ?_
    refine a_getr (r := 138) (pc := 59) (dk dt_X12_receive 33 rfl) cls_12 fl_RX12_244 cf_85_77 ?_
    refine a_bipush (pc := 62) (dk dt_X12_receive 34 rfl) (ik rfl) (bpk rfl) ?_
    refine a_iald (pc := 64) (dk dt_X12_receive 35 rfl) ar_139 ⟨⟨by decide, by decide⟩, ?_⟩
    refine a_iadd (pc := 65) (dk dt_X12_receive 36 rfl) ?_
    refine a_icmp_eq (pc := 66) (dk dt_X12_receive 37 rfl) (tgt := 82) rfl ⟨fun c => ?_, fun c => ?_⟩
    · replace H := H.1 c
      refine a_iconst (pc := 82) (dk dt_X12_receive 46 rfl) (ik rfl) ?_
      refine a_istore_n (pc := 83) (dk dt_X12_receive 47 rfl) (by decide) rfl rfl ?_
      refine a_aload_n (pc := 84) (dk dt_X12_receive 48 rfl) rfl ?_
      refine a_geti (pc := 85) (dk dt_X12_receive 49 rfl) cls_12 fl_RX12_247 cf_85_84 ?_
      refine a_iconst (pc := 88) (dk dt_X12_receive 50 rfl) (ik rfl) ?_
      refine a_icmp_eq (pc := 89) (dk dt_X12_receive 51 rfl) (tgt := 111) rfl ⟨fun c => ?_, fun c => ?_⟩
      · replace H := H.1 c
        refine a_iconst (pc := 111) (dk dt_X12_receive 63 rfl) (ik rfl) ?_
        refine a_goto (pc := 112) (dk dt_X12_receive 64 rfl) (tgt := 116) rfl ?_
        refine a_istore_n (pc := 116) (dk dt_X12_receive 66 rfl) (by decide) rfl rfl ?_
        refine a_iload_n (pc := 117) (dk dt_X12_receive 67 rfl) rfl ?_
        refine a_if_eq (pc := 118) (dk dt_X12_receive 68 rfl) (tgt := 155) rfl ⟨fun c => absurd c (by decide), fun _ => ?_⟩
        refine a_aload_n (pc := 121) (dk dt_X12_receive 69 rfl) rfl ?_
        refine a_dup (pc := 122) (dk dt_X12_receive 70 rfl) rfl ?_
        refine a_geti (pc := 123) (dk dt_X12_receive 71 rfl) cls_12 fl_RX12_557 cf_85_82 ?_
        refine a_aload_n (pc := 126) (dk dt_X12_receive 72 rfl) rfl ?_
        refine a_geti (pc := 127) (dk dt_X12_receive 73 rfl) cls_12 fl_RX12_247 cf_85_84 ?_
        refine a_iconst (pc := 130) (dk dt_X12_receive 74 rfl) (ik rfl) ?_
        refine a_icmp_ne (pc := 131) (dk dt_X12_receive 75 rfl) (tgt := 138) rfl ⟨fun c => ?_, fun c => ?_⟩
        · replace H := H.1 c
          refine a_iconst (pc := 138) (dk dt_X12_receive 78 rfl) (ik rfl) ?_
          refine a_iadd (pc := 139) (dk dt_X12_receive 79 rfl) ?_
          refine a_puti (pc := 140) (dk dt_X12_receive 80 rfl) cls_12 fl_RX12_557 cf_85_82 rfl rfl ?_
          refine a_aload_n (pc := 143) (dk dt_X12_receive 81 rfl) rfl ?_
          refine a_iconst (pc := 144) (dk dt_X12_receive 82 rfl) (ik rfl) ?_
          refine a_puti (pc := 145) (dk dt_X12_receive 83 rfl) cls_12 fl_RX12_560 cf_85_85 rfl rfl ?_
          refine a_aload_n (pc := 148) (dk dt_X12_receive 84 rfl) rfl ?_
          refine a_getr (r := 138) (pc := 149) (dk dt_X12_receive 85 rfl) cls_12 fl_RX12_244 cf_85_77 ?_
          refine a_iconst (pc := 152) (dk dt_X12_receive 86 rfl) (ik rfl) ?_
          refine a_iald (pc := 153) (dk dt_X12_receive 87 rfl) ar_139 ⟨⟨by decide, by decide⟩, ?_⟩
          refine a_top (y := (h4 139 3)) (by simp [up, cpy]) ?_
          refine a_istore_n (pc := 154) (dk dt_X12_receive 88 rfl) (by decide) rfl rfl ?_
          refine a_aload_n (pc := 155) (dk dt_X12_receive 89 rfl) rfl ?_
          refine a_aload_n (pc := 156) (dk dt_X12_receive 90 rfl) rfl ?_
          refine a_getr (r := 138) (pc := 157) (dk dt_X12_receive 91 rfl) cls_12 fl_RX12_244 cf_85_77 ?_
          refine a_iconst (pc := 160) (dk dt_X12_receive 92 rfl) (ik rfl) ?_
          refine a_iald (pc := 161) (dk dt_X12_receive 93 rfl) ar_139 ⟨⟨by decide, by decide⟩, ?_⟩
          refine a_top (y := (h4 139 0)) (by simp [up, cpy]) ?_
          refine a_puti (pc := 162) (dk dt_X12_receive 94 rfl) cls_12 fl_RX12_247 cf_85_84 rfl rfl ?_
          refine a_iload_n (pc := 165) (dk dt_X12_receive 95 rfl) rfl ?_
          refine a_bipush (pc := 166) (dk dt_X12_receive 96 rfl) (ik rfl) (bpk rfl) ?_
          refine a_icmp_le (pc := 168) (dk dt_X12_receive 97 rfl) (tgt := 175) rfl ⟨fun c => ?_, fun c => ?_⟩
          · replace H := H.1 c
            refine a_aload_n (pc := 175) (dk dt_X12_receive 100 rfl) rfl ?_
            refine a_iload_n (pc := 176) (dk dt_X12_receive 101 rfl) rfl ?_
            refine a_callVi (as := [iv (h4 139 3)]) (st := []) (pc := 177) (dk dt_X12_receive 102 rfl) cl_RX12_563 ⟨Nat.le_of_ble_eq_true rfl, Nat.le_of_ble_eq_true rfl⟩ ⟨Nat.le_of_ble_eq_true rfl, Nat.le_of_ble_eq_true rfl⟩ cls_12 rfl cc_85 rfl rfl rfl (Nat.le_of_ble_eq_true rfl) (Call.mono H fun r5 h6 H => ?_)
            refine a_istore_n (pc := 180) (dk dt_X12_receive 103 rfl) (by decide) rfl rfl ?_
            refine a_aload_n (pc := 181) (dk dt_X12_receive 104 rfl) rfl ?_
            refine a_aload_n (pc := 182) (dk dt_X12_receive 105 rfl) rfl ?_
            refine a_getr (r := 138) (pc := 183) (dk dt_X12_receive 106 rfl) cls_12 fl_RX12_244 cf_85_77 ?_
            refine a_iconst (pc := 186) (dk dt_X12_receive 107 rfl) (ik rfl) ?_
            refine a_iald (pc := 187) (dk dt_X12_receive 108 rfl) ar_139 ⟨⟨by decide, by decide⟩, ?_⟩
            refine a_callVv (as := [iv (h6 139 1)]) (st := []) (pc := 188) (dk dt_X12_receive 109 rfl) cl_RX12_566 ⟨Nat.le_of_ble_eq_true rfl, Nat.le_of_ble_eq_true rfl⟩ ⟨Nat.le_of_ble_eq_true rfl, Nat.le_of_ble_eq_true rfl⟩ cls_12 rfl cc_85 rfl rfl rfl (Nat.le_of_ble_eq_true rfl) (Call.mono H fun _ h8 H => ?_)
            refine a_aload_n (pc := 191) (dk dt_X12_receive 110 rfl) rfl ?_
            refine a_getr (r := 138) (pc := 192) (dk dt_X12_receive 111 rfl) cls_12 fl_RX12_244 cf_85_77 ?_
            refine a_iconst (pc := 195) (dk dt_X12_receive 112 rfl) (ik rfl) ?_
            refine a_iald (pc := 196) (dk dt_X12_receive 113 rfl) ar_139 ⟨⟨by decide, by decide⟩, ?_⟩
            refine a_iconst (pc := 197) (dk dt_X12_receive 114 rfl) (ik rfl) ?_
            refine a_icmp_ne (pc := 198) (dk dt_X12_receive 115 rfl) (tgt := 206) rfl ⟨fun c => ?_, fun c => ?_⟩
            · replace H := H.1 c
              refine a_iload_n (pc := 206) (dk dt_X12_receive 119 rfl) rfl ?_
              exact a_iret (pc := 207) (dk dt_X12_receive 120 rfl) rfl rfl H
            · replace H := H.2 c
              refine a_aload_n (pc := 201) (dk dt_X12_receive 116 rfl) rfl ?_
              refine a_iconst (pc := 202) (dk dt_X12_receive 117 rfl) (ik rfl) ?_
              refine a_puti (pc := 203) (dk dt_X12_receive 118 rfl) cls_12 fl_RX12_569 cf_85_89 rfl rfl ?_
              refine a_iload_n (pc := 206) (dk dt_X12_receive 119 rfl) rfl ?_
              exact a_iret (pc := 207) (dk dt_X12_receive 120 rfl) rfl rfl H
          · replace H := H.2 c
            refine a_iconst (pc := 171) (dk dt_X12_receive 98 rfl) (ik rfl) ?_
            refine a_goto (pc := 172) (dk dt_X12_receive 99 rfl) (tgt := 180) rfl ?_
            refine a_istore_n (pc := 180) (dk dt_X12_receive 103 rfl) (by decide) rfl rfl ?_
            refine a_aload_n (pc := 181) (dk dt_X12_receive 104 rfl) rfl ?_
            refine a_aload_n (pc := 182) (dk dt_X12_receive 105 rfl) rfl ?_
            refine a_getr (r := 138) (pc := 183) (dk dt_X12_receive 106 rfl) cls_12 fl_RX12_244 cf_85_77 ?_
            refine a_iconst (pc := 186) (dk dt_X12_receive 107 rfl) (ik rfl) ?_
            refine a_iald (pc := 187) (dk dt_X12_receive 108 rfl) ar_139 ⟨⟨by decide, by decide⟩, ?_⟩
            refine a_top (y := (h4 139 1)) (by simp [up, cpy]) ?_
            refine a_callVv (as := [iv (h4 139 1)]) (st := []) (pc := 188) (dk dt_X12_receive 109 rfl) cl_RX12_566 ⟨Nat.le_of_ble_eq_true rfl, Nat.le_of_ble_eq_true rfl⟩ ⟨Nat.le_of_ble_eq_true rfl, Nat.le_of_ble_eq_true rfl⟩ cls_12 rfl cc_85 rfl rfl rfl (Nat.le_of_ble_eq_true rfl) (Call.mono H fun _ h10 H => ?_)
            refine a_aload_n (pc := 191) (dk dt_X12_receive 110 rfl) rfl ?_
            refine a_getr (r := 138) (pc := 192) (dk dt_X12_receive 111 rfl) cls_12 fl_RX12_244 cf_85_77 ?_
            refine a_iconst (pc := 195) (dk dt_X12_receive 112 rfl) (ik rfl) ?_
            refine a_iald (pc := 196) (dk dt_X12_receive 113 rfl) ar_139 ⟨⟨by decide, by decide⟩, ?_⟩
            refine a_iconst (pc := 197) (dk dt_X12_receive 114 rfl) (ik rfl) ?_
            refine a_icmp_ne (pc := 198) (dk dt_X12_receive 115 rfl) (tgt := 206) rfl ⟨fun c => ?_, fun c => ?_⟩
            · replace H := H.1 c
              refine a_iload_n (pc := 206) (dk dt_X12_receive 119 rfl) rfl ?_
              exact a_iret (pc := 207) (dk dt_X12_receive 120 rfl) rfl rfl H
            · replace H := H.2 c
              refine a_aload_n (pc := 201) (dk dt_X12_receive 116 rfl) rfl ?_
              refine a_iconst (pc := 202) (dk dt_X12_receive 117 rfl) (ik rfl) ?_
              refine a_puti (pc := 203) (dk dt_X12_receive 118 rfl) cls_12 fl_RX12_569 cf_85_89 rfl rfl ?_
              refine a_iload_n (pc := 206) (dk dt_X12_receive 119 rfl) rfl ?_
              exact a_iret (pc := 207) (dk dt_X12_receive 120 rfl) rfl rfl H
        · replace H := H.2 c
          refine a_iconst (pc := 134) (dk dt_X12_receive 76 rfl) (ik rfl) ?_
          refine a_goto (pc := 135) (dk dt_X12_receive 77 rfl) (tgt := 139) rfl ?_
          refine a_iadd (pc := 139) (dk dt_X12_receive 79 rfl) ?_
          refine a_puti (pc := 140) (dk dt_X12_receive 80 rfl) cls_12 fl_RX12_557 cf_85_82 rfl rfl ?_
          refine a_aload_n (pc := 143) (dk dt_X12_receive 81 rfl) rfl ?_
          refine a_iconst (pc := 144) (dk dt_X12_receive 82 rfl) (ik rfl) ?_
          refine a_puti (pc := 145) (dk dt_X12_receive 83 rfl) cls_12 fl_RX12_560 cf_85_85 rfl rfl ?_
          refine a_aload_n (pc := 148) (dk dt_X12_receive 84 rfl) rfl ?_
          refine a_getr (r := 138) (pc := 149) (dk dt_X12_receive 85 rfl) cls_12 fl_RX12_244 cf_85_77 ?_
          refine a_iconst (pc := 152) (dk dt_X12_receive 86 rfl) (ik rfl) ?_
          refine a_iald (pc := 153) (dk dt_X12_receive 87 rfl) ar_139 ⟨⟨by decide, by decide⟩, ?_⟩
          refine a_top (y := (h4 139 3)) (by simp [up, cpy]) ?_
          refine a_istore_n (pc := 154) (dk dt_X12_receive 88 rfl) (by decide) rfl rfl ?_
          refine a_aload_n (pc := 155) (dk dt_X12_receive 89 rfl) rfl ?_
          refine a_aload_n (pc := 156) (dk dt_X12_receive 90 rfl) rfl ?_
          refine a_getr (r := 138) (pc := 157) (dk dt_X12_receive 91 rfl) cls_12 fl_RX12_244 cf_85_77 ?_
          refine a_iconst (pc := 160) (dk dt_X12_receive 92 rfl) (ik rfl) ?_
          refine a_iald (pc := 161) (dk dt_X12_receive 93 rfl) ar_139 ⟨⟨by decide, by decide⟩, ?_⟩
          refine a_top (y := (h4 139 0)) (by simp [up, cpy]) ?_
          refine a_puti (pc := 162) (dk dt_X12_receive 94 rfl) cls_12 fl_RX12_247 cf_85_84 rfl rfl ?_
          refine a_iload_n (pc := 165) (dk dt_X12_receive 95 rfl) rfl ?_
          refine a_bipush (pc := 166) (dk dt_X12_receive 96 rfl) (ik rfl) (bpk rfl) ?_
          refine a_icmp_le (pc := 168) (dk dt_X12_receive 97 rfl) (tgt := 175) rfl ⟨fun c => ?_, fun c => ?_⟩
          · replace H := H.1 c
            refine a_aload_n (pc := 175) (dk dt_X12_receive 100 rfl) rfl ?_
            refine a_iload_n (pc := 176) (dk dt_X12_receive 101 rfl) rfl ?_
            refine a_callVi (as := [iv (h4 139 3)]) (st := []) (pc := 177) (dk dt_X12_receive 102 rfl) cl_RX12_563 ⟨Nat.le_of_ble_eq_true rfl, Nat.le_of_ble_eq_true rfl⟩ ⟨Nat.le_of_ble_eq_true rfl, Nat.le_of_ble_eq_true rfl⟩ cls_12 rfl cc_85 rfl rfl rfl (Nat.le_of_ble_eq_true rfl) (Call.mono H fun r11 h12 H => ?_)
            refine a_istore_n (pc := 180) (dk dt_X12_receive 103 rfl) (by decide) rfl rfl ?_
            refine a_aload_n (pc := 181) (dk dt_X12_receive 104 rfl) rfl ?_
            refine a_aload_n (pc := 182) (dk dt_X12_receive 105 rfl) rfl ?_
            refine a_getr (r := 138) (pc := 183) (dk dt_X12_receive 106 rfl) cls_12 fl_RX12_244 cf_85_77 ?_
            refine a_iconst (pc := 186) (dk dt_X12_receive 107 rfl) (ik rfl) ?_
            refine a_iald (pc := 187) (dk dt_X12_receive 108 rfl) ar_139 ⟨⟨by decide, by decide⟩, ?_⟩
            refine a_callVv (as := [iv (h12 139 1)]) (st := []) (pc := 188) (dk dt_X12_receive 109 rfl) cl_RX12_566 ⟨Nat.le_of_ble_eq_true rfl, Nat.le_of_ble_eq_true rfl⟩ ⟨Nat.le_of_ble_eq_true rfl, Nat.le_of_ble_eq_true rfl⟩ cls_12 rfl cc_85 rfl rfl rfl (Nat.le_of_ble_eq_true rfl) (Call.mono H fun _ h14 H => ?_)
            refine a_aload_n (pc := 191) (dk dt_X12_receive 110 rfl) rfl ?_
            refine a_getr (r := 138) (pc := 192) (dk dt_X12_receive 111 rfl) cls_12 fl_RX12_244 cf_85_77 ?_
            refine a_iconst (pc := 195) (dk dt_X12_receive 112 rfl) (ik rfl) ?_
            refine a_iald (pc := 196) (dk dt_X12_receive 113 rfl) ar_139 ⟨⟨by decide, by decide⟩, ?_⟩
            refine a_iconst (pc := 197) (dk dt_X12_receive 114 rfl) (ik rfl) ?_
            refine a_icmp_ne (pc := 198) (dk dt_X12_receive 115 rfl) (tgt := 206) rfl ⟨fun c => ?_, fun c => ?_⟩
            · replace H := H.1 c
              refine a_iload_n (pc := 206) (dk dt_X12_receive 119 rfl) rfl ?_
              exact a_iret (pc := 207) (dk dt_X12_receive 120 rfl) rfl rfl H
            · replace H := H.2 c
              refine a_aload_n (pc := 201) (dk dt_X12_receive 116 rfl) rfl ?_
              refine a_iconst (pc := 202) (dk dt_X12_receive 117 rfl) (ik rfl) ?_
              refine a_puti (pc := 203) (dk dt_X12_receive 118 rfl) cls_12 fl_RX12_569 cf_85_89 rfl rfl ?_
              refine a_iload_n (pc := 206) (dk dt_X12_receive 119 rfl) rfl ?_
              exact a_iret (pc := 207) (dk dt_X12_receive 120 rfl) rfl rfl H
          · replace H := H.2 c
            refine a_iconst (pc := 171) (dk dt_X12_receive 98 rfl) (ik rfl) ?_
            refine a_goto (pc := 172) (dk dt_X12_receive 99 rfl) (tgt := 180) rfl ?_
            refine a_istore_n (pc := 180) (dk dt_X12_receive 103 rfl) (by decide) rfl rfl ?_
            refine a_aload_n (pc := 181) (dk dt_X12_receive 104 rfl) rfl ?_
            refine a_aload_n (pc := 182) (dk dt_X12_receive 105 rfl) rfl ?_
            refine a_getr (r := 138) (pc := 183) (dk dt_X12_receive 106 rfl) cls_12 fl_RX12_244 cf_85_77 ?_
            refine a_iconst (pc := 186) (dk dt_X12_receive 107 rfl) (ik rfl) ?_
            refine a_iald (pc := 187) (dk dt_X12_receive 108 rfl) ar_139 ⟨⟨by decide, by decide⟩, ?_⟩
            refine a_top (y := (h4 139 1)) (by simp [up, cpy]) ?_
            refine a_callVv (as := [iv (h4 139 1)]) (st := []) (pc := 188) (dk dt_X12_receive 109 rfl) cl_RX12_566 ⟨Nat.le_of_ble_eq_true rfl, Nat.le_of_ble_eq_true rfl⟩ ⟨Nat.le_of_ble_eq_true rfl, Nat.le_of_ble_eq_true rfl⟩ cls_12 rfl cc_85 rfl rfl rfl (Nat.le_of_ble_eq_true rfl) (Call.mono H fun _ h16 H => ?_)
            refine a_aload_n (pc := 191) (dk dt_X12_receive 110 rfl) rfl ?_
            refine a_getr (r := 138) (pc := 192) (dk dt_X12_receive 111 rfl) cls_12 fl_RX12_244 cf_85_77 ?_
            refine a_iconst (pc := 195) (dk dt_X12_receive 112 rfl) (ik rfl) ?_
            refine a_iald (pc := 196) (dk dt_X12_receive 113 rfl) ar_139 ⟨⟨by decide, by decide⟩, ?_⟩
            refine a_iconst (pc := 197) (dk dt_X12_receive 114 rfl) (ik rfl) ?_
            refine a_icmp_ne (pc := 198) (dk dt_X12_receive 115 rfl) (tgt := 206) rfl ⟨fun c => ?_, fun c => ?_⟩
            · replace H := H.1 c
              refine a_iload_n (pc := 206) (dk dt_X12_receive 119 rfl) rfl ?_
              exact a_iret (pc := 207) (dk dt_X12_receive 120 rfl) rfl rfl H
            · replace H := H.2 c
              refine a_aload_n (pc := 201) (dk dt_X12_receive 116 rfl) rfl ?_
              refine a_iconst (pc := 202) (dk dt_X12_receive 117 rfl) (ik rfl) ?_
              refine a_puti (pc := 203) (dk dt_X12_receive 118 rfl) cls_12 fl_RX12_569 cf_85_89 rfl rfl ?_
              refine a_iload_n (pc := 206) (dk dt_X12_receive 119 rfl) rfl ?_
              exact a_iret (pc := 207) (dk dt_X12_receive 120 rfl) rfl rfl H
      · replace H := H.2 c
        refine a_aload_n (pc := 92) (dk dt_X12_receive 52 rfl) rfl ?_
        refine a_getr (r := 138) (pc := 93) (dk dt_X12_receive 53 rfl) cls_12 fl_RX12_244 cf_85_77 ?_
        refine a_iconst (pc := 96) (dk dt_X12_receive 54 rfl) (ik rfl) ?_
        refine a_iald (pc := 97) (dk dt_X12_receive 55 rfl) ar_139 ⟨⟨by decide, by decide⟩, ?_⟩
        refine a_aload_n (pc := 98) (dk dt_X12_receive 56 rfl) rfl ?_
        refine a_geti (pc := 99) (dk dt_X12_receive 57 rfl) cls_12 fl_RX12_247 cf_85_84 ?_
        refine a_iconst (pc := 102) (dk dt_X12_receive 58 rfl) (ik rfl) ?_
        refine a_iadd (pc := 103) (dk dt_X12_receive 59 rfl) ?_
        refine a_sipush (pc := 104) (dk dt_X12_receive 60 rfl) (ik rfl) (spk rfl) ?_
        refine a_iand (pc := 107) (dk dt_X12_receive 61 rfl) ?_
        refine a_icmp_eq (pc := 108) (dk dt_X12_receive 62 rfl) (tgt := 115) rfl ⟨fun c => ?_, fun c => ?_⟩
        · replace H := H.1 c
          refine a_iconst (pc := 115) (dk dt_X12_receive 65 rfl) (ik rfl) ?_
          refine a_istore_n (pc := 116) (dk dt_X12_receive 66 rfl) (by decide) rfl rfl ?_
          refine a_iload_n (pc := 117) (dk dt_X12_receive 67 rfl) rfl ?_
          refine a_if_eq (pc := 118) (dk dt_X12_receive 68 rfl) (tgt := 155) rfl ⟨fun _ => ?_, fun c => absurd c (by decide)⟩
          refine a_aload_n (pc := 155) (dk dt_X12_receive 89 rfl) rfl ?_
          refine a_aload_n (pc := 156) (dk dt_X12_receive 90 rfl) rfl ?_
          refine a_getr (r := 138) (pc := 157) (dk dt_X12_receive 91 rfl) cls_12 fl_RX12_244 cf_85_77 ?_
          refine a_iconst (pc := 160) (dk dt_X12_receive 92 rfl) (ik rfl) ?_
          refine a_iald (pc := 161) (dk dt_X12_receive 93 rfl) ar_139 ⟨⟨by decide, by decide⟩, ?_⟩
          refine a_puti (pc := 162) (dk dt_X12_receive 94 rfl) cls_12 fl_RX12_247 cf_85_84 rfl rfl ?_
          refine a_iload_n (pc := 165) (dk dt_X12_receive 95 rfl) rfl ?_
          refine a_bipush (pc := 166) (dk dt_X12_receive 96 rfl) (ik rfl) (bpk rfl) ?_
          refine a_icmp_le (pc := 168) (dk dt_X12_receive 97 rfl) (tgt := 175) rfl ⟨fun _ => ?_, fun c => absurd c (by decide)⟩
          refine a_aload_n (pc := 175) (dk dt_X12_receive 100 rfl) rfl ?_
          refine a_iload_n (pc := 176) (dk dt_X12_receive 101 rfl) rfl ?_
          refine a_callVi (as := [iv 0]) (st := []) (pc := 177) (dk dt_X12_receive 102 rfl) cl_RX12_563 ⟨Nat.le_of_ble_eq_true rfl, Nat.le_of_ble_eq_true rfl⟩ ⟨Nat.le_of_ble_eq_true rfl, Nat.le_of_ble_eq_true rfl⟩ cls_12 rfl cc_85 rfl rfl rfl (Nat.le_of_ble_eq_true rfl) (Call.mono H fun r17 h18 H => ?_)
          refine a_istore_n (pc := 180) (dk dt_X12_receive 103 rfl) (by decide) rfl rfl ?_
          refine a_aload_n (pc := 181) (dk dt_X12_receive 104 rfl) rfl ?_
          refine a_aload_n (pc := 182) (dk dt_X12_receive 105 rfl) rfl ?_
          refine a_getr (r := 138) (pc := 183) (dk dt_X12_receive 106 rfl) cls_12 fl_RX12_244 cf_85_77 ?_
          refine a_iconst (pc := 186) (dk dt_X12_receive 107 rfl) (ik rfl) ?_
          refine a_iald (pc := 187) (dk dt_X12_receive 108 rfl) ar_139 ⟨⟨by decide, by decide⟩, ?_⟩
          refine a_callVv (as := [iv (h18 139 1)]) (st := []) (pc := 188) (dk dt_X12_receive 109 rfl) cl_RX12_566 ⟨Nat.le_of_ble_eq_true rfl, Nat.le_of_ble_eq_true rfl⟩ ⟨Nat.le_of_ble_eq_true rfl, Nat.le_of_ble_eq_true rfl⟩ cls_12 rfl cc_85 rfl rfl rfl (Nat.le_of_ble_eq_true rfl) (Call.mono H fun _ h20 H => ?_)
          refine a_aload_n (pc := 191) (dk dt_X12_receive 110 rfl) rfl ?_
          refine a_getr (r := 138) (pc := 192) (dk dt_X12_receive 111 rfl) cls_12 fl_RX12_244 cf_85_77 ?_
          refine a_iconst (pc := 195) (dk dt_X12_receive 112 rfl) (ik rfl) ?_
          refine a_iald (pc := 196) (dk dt_X12_receive 113 rfl) ar_139 ⟨⟨by decide, by decide⟩, ?_⟩
          refine a_iconst (pc := 197) (dk dt_X12_receive 114 rfl) (ik rfl) ?_
          refine a_icmp_ne (pc := 198) (dk dt_X12_receive 115 rfl) (tgt := 206) rfl ⟨fun c => ?_, fun c => ?_⟩
          · replace H := H.1 c
            refine a_iload_n (pc := 206) (dk dt_X12_receive 119 rfl) rfl ?_
            exact a_iret (pc := 207) (dk dt_X12_receive 120 rfl) rfl rfl H
          · replace H := H.2 c
            refine a_aload_n (pc := 201) (dk dt_X12_receive 116 rfl) rfl ?_
            refine a_iconst (pc := 202) (dk dt_X12_receive 117 rfl) (ik rfl) ?_
            refine a_puti (pc := 203) (dk dt_X12_receive 118 rfl) cls_12 fl_RX12_569 cf_85_89 rfl rfl ?_
            refine a_iload_n (pc := 206) (dk dt_X12_receive 119 rfl) rfl ?_
            exact a_iret (pc := 207) (dk dt_X12_receive 120 rfl) rfl rfl H
        · replace H := H.2 c
          refine a_iconst (pc := 111) (dk dt_X12_receive 63 rfl) (ik rfl) ?_
          refine a_goto (pc := 112) (dk dt_X12_receive 64 rfl) (tgt := 116) rfl ?_
          refine a_istore_n (pc := 116) (dk dt_X12_receive 66 rfl) (by decide) rfl rfl ?_
          refine a_iload_n (pc := 117) (dk dt_X12_receive 67 rfl) rfl ?_
          refine a_if_eq (pc := 118) (dk dt_X12_receive 68 rfl) (tgt := 155) rfl ⟨fun c => absurd c (by decide), fun _ => ?_⟩
          refine a_aload_n (pc := 121) (dk dt_X12_receive 69 rfl) rfl ?_
          refine a_dup (pc := 122) (dk dt_X12_receive 70 rfl) rfl ?_
          refine a_geti (pc := 123) (dk dt_X12_receive 71 rfl) cls_12 fl_RX12_557 cf_85_82 ?_
          refine a_aload_n (pc := 126) (dk dt_X12_receive 72 rfl) rfl ?_
          refine a_geti (pc := 127) (dk dt_X12_receive 73 rfl) cls_12 fl_RX12_247 cf_85_84 ?_
          refine a_iconst (pc := 130) (dk dt_X12_receive 74 rfl) (ik rfl) ?_
          refine a_icmp_ne (pc := 131) (dk dt_X12_receive 75 rfl) (tgt := 138) rfl ⟨fun c => ?_, fun c => ?_⟩
          · replace H := H.1 c
            refine a_iconst (pc := 138) (dk dt_X12_receive 78 rfl) (ik rfl) ?_
            refine a_iadd (pc := 139) (dk dt_X12_receive 79 rfl) ?_
            refine a_puti (pc := 140) (dk dt_X12_receive 80 rfl) cls_12 fl_RX12_557 cf_85_82 rfl rfl ?_
            refine a_aload_n (pc := 143) (dk dt_X12_receive 81 rfl) rfl ?_
            refine a_iconst (pc := 144) (dk dt_X12_receive 82 rfl) (ik rfl) ?_
            refine a_puti (pc := 145) (dk dt_X12_receive 83 rfl) cls_12 fl_RX12_560 cf_85_85 rfl rfl ?_
            refine a_aload_n (pc := 148) (dk dt_X12_receive 84 rfl) rfl ?_
            refine a_getr (r := 138) (pc := 149) (dk dt_X12_receive 85 rfl) cls_12 fl_RX12_244 cf_85_77 ?_
            refine a_iconst (pc := 152) (dk dt_X12_receive 86 rfl) (ik rfl) ?_
            refine a_iald (pc := 153) (dk dt_X12_receive 87 rfl) ar_139 ⟨⟨by decide, by decide⟩, ?_⟩
            refine a_top (y := (h4 139 3)) (by simp [up, cpy]) ?_
            refine a_istore_n (pc := 154) (dk dt_X12_receive 88 rfl) (by decide) rfl rfl ?_
            refine a_aload_n (pc := 155) (dk dt_X12_receive 89 rfl) rfl ?_
            refine a_aload_n (pc := 156) (dk dt_X12_receive 90 rfl) rfl ?_
            refine a_getr (r := 138) (pc := 157) (dk dt_X12_receive 91 rfl) cls_12 fl_RX12_244 cf_85_77 ?_
            refine a_iconst (pc := 160) (dk dt_X12_receive 92 rfl) (ik rfl) ?_
            refine a_iald (pc := 161) (dk dt_X12_receive 93 rfl) ar_139 ⟨⟨by decide, by decide⟩, ?_⟩
            refine a_top (y := (h4 139 0)) (by simp [up, cpy]) ?_
            refine a_puti (pc := 162) (dk dt_X12_receive 94 rfl) cls_12 fl_RX12_247 cf_85_84 rfl rfl ?_
            refine a_iload_n (pc := 165) (dk dt_X12_receive 95 rfl) rfl ?_
            refine a_bipush (pc := 166) (dk dt_X12_receive 96 rfl) (ik rfl) (bpk rfl) ?_
            refine a_icmp_le (pc := 168) (dk dt_X12_receive 97 rfl) (tgt := 175) rfl ⟨fun c => ?_, fun c => ?_⟩
            · replace H := H.1 c
              refine a_aload_n (pc := 175) (dk dt_X12_receive 100 rfl) rfl ?_
              refine a_iload_n (pc := 176) (dk dt_X12_receive 101 rfl) rfl ?_
              refine a_callVi (as := [iv (h4 139 3)]) (st := []) (pc := 177) (dk dt_X12_receive 102 rfl) cl_RX12_563 ⟨Nat.le_of_ble_eq_true rfl, Nat.le_of_ble_eq_true rfl⟩ ⟨Nat.le_of_ble_eq_true rfl, Nat.le_of_ble_eq_true rfl⟩ cls_12 rfl cc_85 rfl rfl rfl (Nat.le_of_ble_eq_true rfl) (Call.mono H fun r21 h22 H => ?_)
              refine a_istore_n (pc := 180) (dk dt_X12_receive 103 rfl) (by decide) rfl rfl ?_
              refine a_aload_n (pc := 181) (dk dt_X12_receive 104 rfl) rfl ?_
              refine a_aload_n (pc := 182) (dk dt_X12_receive 105 rfl) rfl ?_
              refine a_getr (r := 138) (pc := 183) (dk dt_X12_receive 106 rfl) cls_12 fl_RX12_244 cf_85_77 ?_
              refine a_iconst (pc := 186) (dk dt_X12_receive 107 rfl) (ik rfl) ?_
              refine a_iald (pc := 187) (dk dt_X12_receive 108 rfl) ar_139 ⟨⟨by decide, by decide⟩, ?_⟩
              refine a_callVv (as := [iv (h22 139 1)]) (st := []) (pc := 188) (dk dt_X12_receive 109 rfl) cl_RX12_566 ⟨Nat.le_of_ble_eq_true rfl, Nat.le_of_ble_eq_true rfl⟩ ⟨Nat.le_of_ble_eq_true rfl, Nat.le_of_ble_eq_true rfl⟩ cls_12 rfl cc_85 rfl rfl rfl (Nat.le_of_ble_eq_true rfl) (Call.mono H fun _ h24 H => ?_)
              refine a_aload_n (pc := 191) (dk dt_X12_receive 110 rfl) rfl ?_
              refine a_getr (r := 138) (pc := 192) (dk dt_X12_receive 111 rfl) cls_12 fl_RX12_244 cf_85_77 ?_
              refine a_iconst (pc := 195) (dk dt_X12_receive 112 rfl) (ik rfl) ?_
              refine a_iald (pc := 196) (dk dt_X12_receive 113 rfl) ar_139 ⟨⟨by decide, by decide⟩, ?_⟩
              refine a_iconst (pc := 197) (dk dt_X12_receive 114 rfl) (ik rfl) ?_
              refine a_icmp_ne (pc := 198) (dk dt_X12_receive 115 rfl) (tgt := 206) rfl ⟨fun c => ?_, fun c => ?_⟩
              · replace H := H.1 c
                refine a_iload_n (pc := 206) (dk dt_X12_receive 119 rfl) rfl ?_
                exact a_iret (pc := 207) (dk dt_X12_receive 120 rfl) rfl rfl H
              · replace H := H.2 c
                refine a_aload_n (pc := 201) (dk dt_X12_receive 116 rfl) rfl ?_
                refine a_iconst (pc := 202) (dk dt_X12_receive 117 rfl) (ik rfl) ?_
                refine a_puti (pc := 203) (dk dt_X12_receive 118 rfl) cls_12 fl_RX12_569 cf_85_89 rfl rfl ?_
                refine a_iload_n (pc := 206) (dk dt_X12_receive 119 rfl) rfl ?_
                exact a_iret (pc := 207) (dk dt_X12_receive 120 rfl) rfl rfl H
            · replace H := H.2 c
              refine a_iconst (pc := 171) (dk dt_X12_receive 98 rfl) (ik rfl) ?_
              refine a_goto (pc := 172) (dk dt_X12_receive 99 rfl) (tgt := 180) rfl ?_
              refine a_istore_n (pc := 180) (dk dt_X12_receive 103 rfl) (by decide) rfl rfl ?_
              refine a_aload_n (pc := 181) (dk dt_X12_receive 104 rfl) rfl ?_
              refine a_aload_n (pc := 182) (dk dt_X12_receive 105 rfl) rfl ?_
              refine a_getr (r := 138) (pc := 183) (dk dt_X12_receive 106 rfl) cls_12 fl_RX12_244 cf_85_77 ?_
              refine a_iconst (pc := 186) (dk dt_X12_receive 107 rfl) (ik rfl) ?_
              refine a_iald (pc := 187) (dk dt_X12_receive 108 rfl) ar_139 ⟨⟨by decide, by decide⟩, ?_⟩
              refine a_top (y := (h4 139 1)) (by simp [up, cpy]) ?_
              refine a_callVv (as := [iv (h4 139 1)]) (st := []) (pc := 188) (dk dt_X12_receive 109 rfl) cl_RX12_566 ⟨Nat.le_of_ble_eq_true rfl, Nat.le_of_ble_eq_true rfl⟩ ⟨Nat.le_of_ble_eq_true rfl, Nat.le_of_ble_eq_true rfl⟩ cls_12 rfl cc_85 rfl rfl rfl (Nat.le_of_ble_eq_true rfl) (Call.mono H fun _ h26 H => ?_)
              refine a_aload_n (pc := 191) (dk dt_X12_receive 110 rfl) rfl ?_
              refine a_getr (r := 138) (pc := 192) (dk dt_X12_receive 111 rfl) cls_12 fl_RX12_244 cf_85_77 ?_
              refine a_iconst (pc := 195) (dk dt_X12_receive 112 rfl) (ik rfl) ?_
              refine a_iald (pc := 196) (dk dt_X12_receive 113 rfl) ar_139 ⟨⟨by decide, by decide⟩, ?_⟩
              refine a_iconst (pc := 197) (dk dt_X12_receive 114 rfl) (ik rfl) ?_
              refine a_icmp_ne (pc := 198) (dk dt_X12_receive 115 rfl) (tgt := 206) rfl ⟨fun c => ?_, fun c => ?_⟩
              · replace H := H.1 c
                refine a_iload_n (pc := 206) (dk dt_X12_receive 119 rfl) rfl ?_
                exact a_iret (pc := 207) (dk dt_X12_receive 120 rfl) rfl rfl H
              · replace H := H.2 c
                refine a_aload_n (pc := 201) (dk dt_X12_receive 116 rfl) rfl ?_
                refine a_iconst (pc := 202) (dk dt_X12_receive 117 rfl) (ik rfl) ?_
                refine a_puti (pc := 203) (dk dt_X12_receive 118 rfl) cls_12 fl_RX12_569 cf_85_89 rfl rfl ?_
                refine a_iload_n (pc := 206) (dk dt_X12_receive 119 rfl) rfl ?_
                exact a_iret (pc := 207) (dk dt_X12_receive 120 rfl) rfl rfl H
          · replace H := H.2 c
            refine a_iconst (pc := 134) (dk dt_X12_receive 76 rfl) (ik rfl) ?_
            refine a_goto (pc := 135) (dk dt_X12_receive 77 rfl) (tgt := 139) rfl ?_
            refine a_iadd (pc := 139) (dk dt_X12_receive 79 rfl) ?_
            refine a_puti (pc := 140) (dk dt_X12_receive 80 rfl) cls_12 fl_RX12_557 cf_85_82 rfl rfl ?_
            refine a_aload_n (pc := 143) (dk dt_X12_receive 81 rfl) rfl ?_
            refine a_iconst (pc := 144) (dk dt_X12_receive 82 rfl) (ik rfl) ?_
            refine a_puti (pc := 145) (dk dt_X12_receive 83 rfl) cls_12 fl_RX12_560 cf_85_85 rfl rfl ?_
            refine a_aload_n (pc := 148) (dk dt_X12_receive 84 rfl) rfl ?_
            refine a_getr (r := 138) (pc := 149) (dk dt_X12_receive 85 rfl) cls_12 fl_RX12_244 cf_85_77 ?_
            refine a_iconst (pc := 152) (dk dt_X12_receive 86 rfl) (ik rfl) ?_
            refine a_iald (pc := 153) (dk dt_X12_receive 87 rfl) ar_139 ⟨⟨by decide, by decide⟩, ?_⟩
            refine a_top (y := (h4 139 3)) (by simp [up, cpy]) ?_
            refine a_istore_n (pc := 154) (dk dt_X12_receive 88 rfl) (by decide) rfl rfl ?_
            refine a_aload_n (pc := 155) (dk dt_X12_receive 89 rfl) rfl ?_
            refine a_aload_n (pc := 156) (dk dt_X12_receive 90 rfl) rfl ?_
            refine a_getr (r := 138) (pc := 157) (dk dt_X12_receive 91 rfl) cls_12 fl_RX12_244 cf_85_77 ?_
            refine a_iconst (pc := 160) (dk dt_X12_receive 92 rfl) (ik rfl) ?_
            refine a_iald (pc := 161) (dk dt_X12_receive 93 rfl) ar_139 ⟨⟨by decide, by decide⟩, ?_⟩
            refine a_top (y := (h4 139 0)) (by simp [up, cpy]) ?_
            refine a_puti (pc := 162) (dk dt_X12_receive 94 rfl) cls_12 fl_RX12_247 cf_85_84 rfl rfl ?_
            refine a_iload_n (pc := 165) (dk dt_X12_receive 95 rfl) rfl ?_
            refine a_bipush (pc := 166) (dk dt_X12_receive 96 rfl) (ik rfl) (bpk rfl) ?_
            refine a_icmp_le (pc := 168) (dk dt_X12_receive 97 rfl) (tgt := 175) rfl ⟨fun c => ?_, fun c => ?_⟩
            · replace H := H.1 c
              refine a_aload_n (pc := 175) (dk dt_X12_receive 100 rfl) rfl ?_
              refine a_iload_n (pc := 176) (dk dt_X12_receive 101 rfl) rfl ?_
              refine a_callVi (as := [iv (h4 139 3)]) (st := []) (pc := 177) (dk dt_X12_receive 102 rfl) cl_RX12_563 ⟨Nat.le_of_ble_eq_true rfl, Nat.le_of_ble_eq_true rfl⟩ ⟨Nat.le_of_ble_eq_true rfl, Nat.le_of_ble_eq_true rfl⟩ cls_12 rfl cc_85 rfl rfl rfl (Nat.le_of_ble_eq_true rfl) (Call.mono H fun r27 h28 H => ?_)
              refine a_istore_n (pc := 180) (dk dt_X12_receive 103 rfl) (by decide) rfl rfl ?_
              refine a_aload_n (pc := 181) (dk dt_X12_receive 104 rfl) rfl ?_
              refine a_aload_n (pc := 182) (dk dt_X12_receive 105 rfl) rfl ?_
              refine a_getr (r := 138) (pc := 183) (dk dt_X12_receive 106 rfl) cls_12 fl_RX12_244 cf_85_77 ?_
              refine a_iconst (pc := 186) (dk dt_X12_receive 107 rfl) (ik rfl) ?_
              refine a_iald (pc := 187) (dk dt_X12_receive 108 rfl) ar_139 ⟨⟨by decide, by decide⟩, ?_⟩
              refine a_callVv (as := [iv (h28 139 1)]) (st := []) (pc := 188) (dk dt_X12_receive 109 rfl) cl_RX12_566 ⟨Nat.le_of_ble_eq_true rfl, Nat.le_of_ble_eq_true rfl⟩ ⟨Nat.le_of_ble_eq_true rfl, Nat.le_of_ble_eq_true rfl⟩ cls_12 rfl cc_85 rfl rfl rfl (Nat.le_of_ble_eq_true rfl) (Call.mono H fun _ h30 H => ?_)
              refine a_aload_n (pc := 191) (dk dt_X12_receive 110 rfl) rfl ?_
              refine a_getr (r := 138) (pc := 192) (dk dt_X12_receive 111 rfl) cls_12 fl_RX12_244 cf_85_77 ?_
              refine a_iconst (pc := 195) (dk dt_X12_receive 112 rfl) (ik rfl) ?_
              refine a_iald (pc := 196) (dk dt_X12_receive 113 rfl) ar_139 ⟨⟨by decide, by decide⟩, ?_⟩
              refine a_iconst (pc := 197) (dk dt_X12_receive 114 rfl) (ik rfl) ?_
              refine a_icmp_ne (pc := 198) (dk dt_X12_receive 115 rfl) (tgt := 206) rfl ⟨fun c => ?_, fun c => ?_⟩
              · replace H := H.1 c
                refine a_iload_n (pc := 206) (dk dt_X12_receive 119 rfl) rfl ?_
                exact a_iret (pc := 207) (dk dt_X12_receive 120 rfl) rfl rfl H
              · replace H := H.2 c
                refine a_aload_n (pc := 201) (dk dt_X12_receive 116 rfl) rfl ?_
                refine a_iconst (pc := 202) (dk dt_X12_receive 117 rfl) (ik rfl) ?_
                refine a_puti (pc := 203) (dk dt_X12_receive 118 rfl) cls_12 fl_RX12_569 cf_85_89 rfl rfl ?_
                refine a_iload_n (pc := 206) (dk dt_X12_receive 119 rfl) rfl ?_
                exact a_iret (pc := 207) (dk dt_X12_receive 120 rfl) rfl rfl H
            · replace H := H.2 c
              refine a_iconst (pc := 171) (dk dt_X12_receive 98 rfl) (ik rfl) ?_
              refine a_goto (pc := 172) (dk dt_X12_receive 99 rfl) (tgt := 180) rfl ?_
              refine a_istore_n (pc := 180) (dk dt_X12_receive 103 rfl) (by decide) rfl rfl ?_
              refine a_aload_n (pc := 181) (dk dt_X12_receive 104 rfl) rfl ?_
              refine a_aload_n (pc := 182) (dk dt_X12_receive 105 rfl) rfl ?_
              refine a_getr (r := 138) (pc := 183) (dk dt_X12_receive 106 rfl) cls_12 fl_RX12_244 cf_85_77 ?_
              refine a_iconst (pc := 186) (dk dt_X12_receive 107 rfl) (ik rfl) ?_
              refine a_iald (pc := 187) (dk dt_X12_receive 108 rfl) ar_139 ⟨⟨by decide, by decide⟩, ?_⟩
              refine a_top (y := (h4 139 1)) (by simp [up, cpy]) ?_
              refine a_callVv (as := [iv (h4 139 1)]) (st := []) (pc := 188) (dk dt_X12_receive 109 rfl) cl_RX12_566 ⟨Nat.le_of_ble_eq_true rfl, Nat.le_of_ble_eq_true rfl⟩ ⟨Nat.le_of_ble_eq_true rfl, Nat.le_of_ble_eq_true rfl⟩ cls_12 rfl cc_85 rfl rfl rfl (Nat.le_of_ble_eq_true rfl) (Call.mono H fun _ h32 H => ?_)
              refine a_aload_n (pc := 191) (dk dt_X12_receive 110 rfl) rfl ?_
              refine a_getr (r := 138) (pc := 192) (dk dt_X12_receive 111 rfl) cls_12 fl_RX12_244 cf_85_77 ?_
              refine a_iconst (pc := 195) (dk dt_X12_receive 112 rfl) (ik rfl) ?_
              refine a_iald (pc := 196) (dk dt_X12_receive 113 rfl) ar_139 ⟨⟨by decide, by decide⟩, ?_⟩
              refine a_iconst (pc := 197) (dk dt_X12_receive 114 rfl) (ik rfl) ?_
              refine a_icmp_ne (pc := 198) (dk dt_X12_receive 115 rfl) (tgt := 206) rfl ⟨fun c => ?_, fun c => ?_⟩
              · replace H := H.1 c
                refine a_iload_n (pc := 206) (dk dt_X12_receive 119 rfl) rfl ?_
                exact a_iret (pc := 207) (dk dt_X12_receive 120 rfl) rfl rfl H
              · replace H := H.2 c
                refine a_aload_n (pc := 201) (dk dt_X12_receive 116 rfl) rfl ?_
                refine a_iconst (pc := 202) (dk dt_X12_receive 117 rfl) (ik rfl) ?_
                refine a_puti (pc := 203) (dk dt_X12_receive 118 rfl) cls_12 fl_RX12_569 cf_85_89 rfl rfl ?_
                refine a_iload_n (pc := 206) (dk dt_X12_receive 119 rfl) rfl ?_
                exact a_iret (pc := 207) (dk dt_X12_receive 120 rfl) rfl rfl H
    · replace H := H.2 c
      refine a_aload_n (pc := 69) (dk dt_X12_receive 38 rfl) rfl ?_
      refine a_dup (pc := 70) (dk dt_X12_receive 39 rfl) rfl ?_
      refine a_geti (pc := 71) (dk dt_X12_receive 40 rfl) cls_12 fl_RX12_554 cf_85_83 ?_
      refine a_iconst (pc := 74) (dk dt_X12_receive 41 rfl) (ik rfl) ?_
      refine a_iadd (pc := 75) (dk dt_X12_receive 42 rfl) ?_
      refine a_puti (pc := 76) (dk dt_X12_receive 43 rfl) cls_12 fl_RX12_554 cf_85_83 rfl rfl ?_
      refine a_bipush (pc := 79) (dk dt_X12_receive 44 rfl) (ik rfl) (bpk rfl) ?_
      exact a_iret (pc := 81) (dk dt_X12_receive 45 rfl) rfl rfl H
  · replace H := H.2 c
    refine a_aload_n (pc := 17) (dk dt_X12_receive 10 rfl) rfl ?_
    refine a_getr (r := 138) (pc := 18) (dk dt_X12_receive 11 rfl) cls_12 fl_RX12_244 cf_85_77 ?_
    refine a_iload_n (pc := 21) (dk dt_X12_receive 12 rfl) rfl ?_
    refine a_aload_n (pc := 22) (dk dt_X12_receive 13 rfl) rfl ?_
    refine a_getr (r := 137) (pc := 23) (dk dt_X12_receive 14 rfl) cls_12 fl_RX12_241 cf_85_76 ?_
    refine a_iload_n (pc := 26) (dk dt_X12_receive 15 rfl) rfl ?_
    refine a_iald (pc := 27) (dk dt_X12_receive 16 rfl) ar_138 ⟨H.1, ?_⟩
    replace H := H.2
    refine a_iast (pc := 28) (dk dt_X12_receive 17 rfl) ar_139 ⟨H.1, ?_⟩
    replace H := H.2
    refine a_iinc (pc := 29) (dk dt_X12_receive 18 rfl) (by decide) rfl rfl rfl ?_
    refine a_goto (pc := 32) (dk dt_X12_receive 19 rfl) (tgt := 11) rfl ?_
    exact a_pick [0, 1] rfl H
set_option maxHeartbeats 40000000 in
theorem U_X12_packet_85_0 {G : GG} {Φ : Int → Hp → Prop} {h : Hp} {x1 : Int} (H : ((x1 < 0 → Φ (-1) h) ∧ (0 ≤ x1 → (((w32 ((h 85 87) - 1)) < x1 → Φ (-1) h) ∧ (x1 ≤ (w32 ((h 85 87) - 1)) → AT G m_X12_packet 23 [(0, rv 85), (1, iv x1), (2, iv 0)] [] (up h 85 7 0) Φ))))) : AT G m_X12_packet 0 [(0, rv 85), (1, iv x1)] [] h Φ := by
  refine a_iload_n (pc := 0) (dk dt_X12_packet 0 rfl) rfl ?_
  refine a_iconst (pc := 1) (dk dt_X12_packet 1 rfl) (ik rfl) ?_
  refine a_aload_n (pc := 2) (dk dt_X12_packet 2 rfl) rfl ?_
  refine a_geti (pc := 3) (dk dt_X12_packet 3 rfl) cls_12 fl_RX12_575 cf_85_87 ?_
  refine a_iconst (pc := 6) (dk dt_X12_packet 4 rfl) (ik rfl) ?_
  refine a_isub (pc := 7) (dk dt_X12_packet 5 rfl) ?_
  refine a_callSi (as := [iv x1, iv 0, iv (w32 ((h 85 87) - 1))]) (st := []) (pc := 8) (dk dt_X12_packet 6 rfl) cl_RX12_302 ⟨Nat.le_of_ble_eq_true rfl, Nat.le_of_ble_eq_true rfl⟩ ⟨Nat.le_of_ble_eq_true rfl, Nat.le_of_ble_eq_true rfl⟩ rfl rfl rfl (Nat.le_of_ble_eq_true rfl) (Call.of rfl (Nat.le_of_ble_eq_true rfl) rfl ?_)
  refine a_iload_n (pc := 0) (dk dt_X12_is 0 rfl) rfl ?_
  refine a_iload_n (pc := 1) (dk dt_X12_is 1 rfl) rfl ?_
  refine a_icmp_lt (pc := 2) (dk dt_X12_is 2 rfl) (tgt := 14) rfl ⟨fun c => ?_, fun c => ?_⟩
  · replace H := H.1 c
    refine a_iconst (pc := 14) (dk dt_X12_is 8 rfl) (ik rfl) ?_
    refine a_zret (pc := 15) (dk dt_X12_is 9 rfl) rfl rfl ⟨by decide, ?_⟩
    show ATW _ _ _ _ _ _ _ _ _ _
    refine a_if_ne (pc := 11) (dk dt_X12_packet 7 rfl) (tgt := 16) rfl ⟨fun c => absurd c (by decide), fun _ => ?_⟩
    refine a_iconst (pc := 14) (dk dt_X12_packet 8 rfl) (ik rfl) ?_
    exact a_iret (pc := 15) (dk dt_X12_packet 9 rfl) rfl rfl H
  · replace H := H.2 c
    refine a_iload_n (pc := 5) (dk dt_X12_is 3 rfl) rfl ?_
    refine a_iload_n (pc := 6) (dk dt_X12_is 4 rfl) rfl ?_
    refine a_icmp_gt (pc := 7) (dk dt_X12_is 5 rfl) (tgt := 14) rfl ⟨fun c => ?_, fun c => ?_⟩
    · replace H := H.1 c
      refine a_iconst (pc := 14) (dk dt_X12_is 8 rfl) (ik rfl) ?_
      refine a_zret (pc := 15) (dk dt_X12_is 9 rfl) rfl rfl ⟨by decide, ?_⟩
      show ATW _ _ _ _ _ _ _ _ _ _
      refine a_if_ne (pc := 11) (dk dt_X12_packet 7 rfl) (tgt := 16) rfl ⟨fun c => absurd c (by decide), fun _ => ?_⟩
      refine a_iconst (pc := 14) (dk dt_X12_packet 8 rfl) (ik rfl) ?_
      exact a_iret (pc := 15) (dk dt_X12_packet 9 rfl) rfl rfl H
    · replace H := H.2 c
      refine a_iconst (pc := 10) (dk dt_X12_is 6 rfl) (ik rfl) ?_
      refine a_goto (pc := 11) (dk dt_X12_is 7 rfl) (tgt := 15) rfl ?_
      refine a_zret (pc := 15) (dk dt_X12_is 9 rfl) rfl rfl ⟨by decide, ?_⟩
      show ATW _ _ _ _ _ _ _ _ _ _
      refine a_if_ne (pc := 11) (dk dt_X12_packet 7 rfl) (tgt := 16) rfl ⟨fun _ => ?_, fun c => absurd c (by decide)⟩
      refine a_aload_n (pc := 16) (dk dt_X12_packet 10 rfl) rfl ?_
      refine a_iconst (pc := 17) (dk dt_X12_packet 11 rfl) (ik rfl) ?_
      refine a_puti (pc := 18) (dk dt_X12_packet 12 rfl) cls_12 fl_RX12_299 cf_85_7 rfl rfl ?_
      refine a_iconst (pc := 21) (dk dt_X12_packet 13 rfl) (ik rfl) ?_
      refine a_istore_n (pc := 22) (dk dt_X12_packet 14 rfl) (by decide) rfl rfl ?_
      exact a_pick [0, 1, 2] rfl H
set_option maxHeartbeats 40000000 in
theorem U_X12_packet_85_23 {G : GG} {Φ : Int → Hp → Prop} {h : Hp} {x1 : Int} {x2 : Int} (H : (0 ≤ x1 ∧ x1 < 60) ∧ (((h 142 x1) ≤ x2 → Φ (h 85 7) h) ∧ (x2 < (h 142 x1) → (0 ≤ (w32 ((w32 (9 * x1)) + x2)) ∧ (w32 ((w32 (9 * x1)) + x2)) < 540) ∧ Call G m_X12_add [rv 85, iv (h 141 (w32 ((w32 (9 * x1)) + x2)))] h (fun _ h2 => AT G m_X12_packet 23 [(0, rv 85), (1, iv x1), (2, iv (w32 (x2 + 1)))] [] h2 Φ)))) : AT G m_X12_packet 23 [(0, rv 85), (1, iv x1), (2, iv x2)] [] h Φ := by
  refine a_iload_n (pc := 23) (dk dt_X12_packet 15 rfl) rfl ?_
  refine a_aload_n (pc := 24) (dk dt_X12_packet 16 rfl) rfl ?_
  refine a_getr (r := 141) (pc := 25) (dk dt_X12_packet 17 rfl) cls_12 fl_RX12_256 cf_85_93 ?_
  refine a_iload_n (pc := 28) (dk dt_X12_packet 18 rfl) rfl ?_
  refine a_iald (pc := 29) (dk dt_X12_packet 19 rfl) ar_142 ⟨H.1, ?_⟩
  replace H := H.2
  refine a_icmp_ge (pc := 30) (dk dt_X12_packet 20 rfl) (tgt := 54) rfl ⟨fun c => ?_, fun c => ?_⟩
  · replace H := H.1 c
    refine a_aload_n (pc := 54) (dk dt_X12_packet 33 rfl) rfl ?_
    refine a_geti (pc := 55) (dk dt_X12_packet 34 rfl) cls_12 fl_RX12_299 cf_85_7 ?_
    exact a_iret (pc := 58) (dk dt_X12_packet 35 rfl) rfl rfl H
  · replace H := H.2 c
    refine a_aload_n (pc := 33) (dk dt_X12_packet 21 rfl) rfl ?_
    refine a_aload_n (pc := 34) (dk dt_X12_packet 22 rfl) rfl ?_
    refine a_getr (r := 140) (pc := 35) (dk dt_X12_packet 23 rfl) cls_12 fl_RX12_253 cf_85_92 ?_
    refine a_bipush (pc := 38) (dk dt_X12_packet 24 rfl) (ik rfl) (bpk rfl) ?_
    refine a_iload_n (pc := 40) (dk dt_X12_packet 25 rfl) rfl ?_
    refine a_imul (pc := 41) (dk dt_X12_packet 26 rfl) ?_
    refine a_iload_n (pc := 42) (dk dt_X12_packet 27 rfl) rfl ?_
    refine a_iadd (pc := 43) (dk dt_X12_packet 28 rfl) ?_
    refine a_iald (pc := 44) (dk dt_X12_packet 29 rfl) ar_141 ⟨H.1, ?_⟩
    replace H := H.2
    refine a_callVv (as := [iv (h 141 (w32 ((w32 (9 * x1)) + x2)))]) (st := []) (pc := 45) (dk dt_X12_packet 30 rfl) cl_RX12_381 ⟨Nat.le_of_ble_eq_true rfl, Nat.le_of_ble_eq_true rfl⟩ ⟨Nat.le_of_ble_eq_true rfl, Nat.le_of_ble_eq_true rfl⟩ cls_12 rfl cc_85 rfl rfl rfl (Nat.le_of_ble_eq_true rfl) (Call.mono H fun _ h2 H => ?_)
    refine a_iinc (pc := 48) (dk dt_X12_packet 31 rfl) (by decide) rfl rfl rfl ?_
    refine a_goto (pc := 51) (dk dt_X12_packet 32 rfl) (tgt := 23) rfl ?_
    exact a_pick [0, 1, 2] rfl H
set_option maxHeartbeats 40000000 in
theorem U_X12_command_85_0 {G : GG} {Φ : Int → Hp → Prop} {h : Hp} (H : (((h 85 88) ≠ 8 → Call G m_X12_take [rv 85] h (fun _ h2 => Call G m_X12_wordOf [rv 85, rv 98] h2 (fun r3 h4 => ((r3 = 2 → AT G m_X12_command 61 [(0, rv 85), (1, iv (h2 85 5)), (2, iv r3), (3, iv 0), (4, iv 0)] [] h4 Φ) ∧ (r3 ≠ 2 → ((r3 = 3 → AT G m_X12_command 61 [(0, rv 85), (1, iv (h2 85 5)), (2, iv r3), (3, iv 0), (4, iv 0)] [] h4 Φ) ∧ (r3 ≠ 3 → ((r3 = 4 → AT G m_X12_command 61 [(0, rv 85), (1, iv (h2 85 5)), (2, iv r3), (3, iv 0), (4, iv 0)] [] h4 Φ) ∧ (r3 ≠ 4 → ((r3 = 5 → AT G m_X12_command 61 [(0, rv 85), (1, iv (h2 85 5)), (2, iv r3), (3, iv 0), (4, iv 0)] [] h4 Φ) ∧ (r3 ≠ 5 → ((r3 ≠ 12 → AT G m_X12_command 66 [(0, rv 85), (1, iv (h2 85 5)), (2, iv r3), (3, iv 0), (4, iv 0)] [] h4 Φ) ∧ (r3 = 12 → AT G m_X12_command 61 [(0, rv 85), (1, iv (h2 85 5)), (2, iv r3), (3, iv 0), (4, iv 0)] [] h4 Φ))))))))))))) ∧ ((h 85 88) = 8 → Φ (-4) h))) : AT G m_X12_command 0 [(0, rv 85)] [] h Φ := by
  refine a_aload_n (pc := 0) (dk dt_X12_command 0 rfl) rfl ?_
  refine a_geti (pc := 1) (dk dt_X12_command 1 rfl) cls_12 fl_RX12_578 cf_85_88 ?_
  refine a_bipush (pc := 4) (dk dt_X12_command 2 rfl) (ik rfl) (bpk rfl) ?_
  refine a_icmp_ne (pc := 6) (dk dt_X12_command 3 rfl) (tgt := 12) rfl ⟨fun c => ?_, fun c => ?_⟩
  · replace H := H.1 c
    refine a_aload_n (pc := 12) (dk dt_X12_command 6 rfl) rfl ?_
    refine a_callVv (as := []) (st := []) (pc := 13) (dk dt_X12_command 7 rfl) cl_RX12_364 ⟨Nat.le_of_ble_eq_true rfl, Nat.le_of_ble_eq_true rfl⟩ ⟨Nat.le_of_ble_eq_true rfl, Nat.le_of_ble_eq_true rfl⟩ cls_12 rfl cc_85 rfl rfl rfl (Nat.le_of_ble_eq_true rfl) (Call.mono H fun _ h2 H => ?_)
    refine a_aload_n (pc := 16) (dk dt_X12_command 8 rfl) rfl ?_
    refine a_geti (pc := 17) (dk dt_X12_command 9 rfl) cls_12 fl_RX12_309 cf_85_5 ?_
    refine a_istore_n (pc := 20) (dk dt_X12_command 10 rfl) (by decide) rfl rfl ?_
    refine a_aload_n (pc := 21) (dk dt_X12_command 11 rfl) rfl ?_
    refine a_aload_n (pc := 22) (dk dt_X12_command 12 rfl) rfl ?_
    refine a_getr (r := 97) (pc := 23) (dk dt_X12_command 13 rfl) cls_12 fl_RX12_91 cf_85_31 ?_
    refine a_callVi (as := [rv 98]) (st := []) (pc := 26) (dk dt_X12_command 14 rfl) cl_RX12_450 ⟨Nat.le_of_ble_eq_true rfl, Nat.le_of_ble_eq_true rfl⟩ ⟨Nat.le_of_ble_eq_true rfl, Nat.le_of_ble_eq_true rfl⟩ cls_12 rfl cc_85 rfl rfl rfl (Nat.le_of_ble_eq_true rfl) (Call.mono H fun r3 h4 H => ?_)
    refine a_istore_n (pc := 29) (dk dt_X12_command 15 rfl) (by decide) rfl rfl ?_
    refine a_iconst (pc := 30) (dk dt_X12_command 16 rfl) (ik rfl) ?_
    refine a_istore_n (pc := 31) (dk dt_X12_command 17 rfl) (by decide) rfl rfl ?_
    refine a_iconst (pc := 32) (dk dt_X12_command 18 rfl) (ik rfl) ?_
    refine a_istore (pc := 33) (dk dt_X12_command 19 rfl) (by decide) rfl rfl ?_
    refine a_iload_n (pc := 35) (dk dt_X12_command 20 rfl) rfl ?_
    refine a_iconst (pc := 36) (dk dt_X12_command 21 rfl) (ik rfl) ?_
    refine a_icmp_eq (pc := 37) (dk dt_X12_command 22 rfl) (tgt := 61) rfl ⟨fun c => ?_, fun c => ?_⟩
    · replace H := H.1 c
      exact a_pick [0, 1, 2, 3, 4] rfl H
    · replace H := H.2 c
      refine a_iload_n (pc := 40) (dk dt_X12_command 23 rfl) rfl ?_
      refine a_iconst (pc := 41) (dk dt_X12_command 24 rfl) (ik rfl) ?_
      refine a_icmp_eq (pc := 42) (dk dt_X12_command 25 rfl) (tgt := 61) rfl ⟨fun c => ?_, fun c => ?_⟩
      · replace H := H.1 c
        exact a_pick [0, 1, 2, 3, 4] rfl H
      · replace H := H.2 c
        refine a_iload_n (pc := 45) (dk dt_X12_command 26 rfl) rfl ?_
        refine a_iconst (pc := 46) (dk dt_X12_command 27 rfl) (ik rfl) ?_
        refine a_icmp_eq (pc := 47) (dk dt_X12_command 28 rfl) (tgt := 61) rfl ⟨fun c => ?_, fun c => ?_⟩
        · replace H := H.1 c
          exact a_pick [0, 1, 2, 3, 4] rfl H
        · replace H := H.2 c
          refine a_iload_n (pc := 50) (dk dt_X12_command 29 rfl) rfl ?_
          refine a_iconst (pc := 51) (dk dt_X12_command 30 rfl) (ik rfl) ?_
          refine a_icmp_eq (pc := 52) (dk dt_X12_command 31 rfl) (tgt := 61) rfl ⟨fun c => ?_, fun c => ?_⟩
          · replace H := H.1 c
            exact a_pick [0, 1, 2, 3, 4] rfl H
          · replace H := H.2 c
            refine a_iload_n (pc := 55) (dk dt_X12_command 32 rfl) rfl ?_
            refine a_bipush (pc := 56) (dk dt_X12_command 33 rfl) (ik rfl) (bpk rfl) ?_
            refine a_icmp_ne (pc := 58) (dk dt_X12_command 34 rfl) (tgt := 66) rfl ⟨fun c => ?_, fun c => ?_⟩
            · replace H := H.1 c
              exact a_pick [0, 1, 2, 3, 4] rfl H
            · replace H := H.2 c
              exact a_pick [0, 1, 2, 3, 4] rfl H
  · replace H := H.2 c
    refine a_bipush (pc := 9) (dk dt_X12_command 4 rfl) (ik rfl) (bpk rfl) ?_
    exact a_iret (pc := 11) (dk dt_X12_command 5 rfl) rfl rfl H
set_option maxHeartbeats 40000000 in
theorem U_X12_command_85_61 {G : GG} {Φ : Int → Hp → Prop} {h : Hp} {x1 : Int} {x2 : Int} {x3 : Int} {x4 : Int} (H : ((0 ≤ (h 85 6) → AT G m_X12_command 66 [(0, rv 85), (1, iv x1), (2, iv x2), (3, iv x3), (4, iv x4)] [] h Φ) ∧ ((h 85 6) < 0 → AT G m_X12_command 66 [(0, rv 85), (1, iv x1), (2, iv x2), (3, iv x3), (4, iv x4)] [] (up h 85 6 x1) Φ))) : AT G m_X12_command 61 [(0, rv 85), (1, iv x1), (2, iv x2), (3, iv x3), (4, iv x4)] [] h Φ := by
  refine a_aload_n (pc := 61) (dk dt_X12_command 35 rfl) rfl ?_
  refine a_iload_n (pc := 62) (dk dt_X12_command 36 rfl) rfl ?_
  refine a_callVv (as := [iv x1]) (st := []) (pc := 63) (dk dt_X12_command 37 rfl) cl_RX12_323 ⟨Nat.le_of_ble_eq_true rfl, Nat.le_of_ble_eq_true rfl⟩ ⟨Nat.le_of_ble_eq_true rfl, Nat.le_of_ble_eq_true rfl⟩ cls_12 rfl cc_85 rfl rfl rfl (Nat.le_of_ble_eq_true rfl) (Call.of rfl (Nat.le_of_ble_eq_true rfl) rfl ?_)
  refine a_aload_n (pc := 0) (dk dt_X12_fail 0 rfl) rfl ?_
  refine a_geti (pc := 1) (dk dt_X12_fail 1 rfl) cls_12 fl_RX12_312 cf_85_6 ?_
  refine a_if_ge (pc := 4) (dk dt_X12_fail 2 rfl) (tgt := 12) rfl ⟨fun c => ?_, fun c => ?_⟩
  · replace H := H.1 c
    refine a_vret (pc := 12) (dk dt_X12_fail 6 rfl) rfl rfl ?_
    show ATW _ _ _ _ _ _ _ _ _ _
    exact a_pick [0, 1, 2, 3, 4] rfl H
  · replace H := H.2 c
    refine a_aload_n (pc := 7) (dk dt_X12_fail 3 rfl) rfl ?_
    refine a_iload_n (pc := 8) (dk dt_X12_fail 4 rfl) rfl ?_
    refine a_puti (pc := 9) (dk dt_X12_fail 5 rfl) cls_12 fl_RX12_312 cf_85_6 rfl rfl ?_
    refine a_vret (pc := 12) (dk dt_X12_fail 6 rfl) rfl rfl ?_
    show ATW _ _ _ _ _ _ _ _ _ _
    exact a_pick [0, 1, 2, 3, 4] rfl H
set_option maxHeartbeats 40000000 in
theorem U_X12_command_85_66 {G : GG} {Φ : Int → Hp → Prop} {h : Hp} {x1 : Int} {x2 : Int} {x3 : Int} {x4 : Int} (H : ((x2 ≠ 13 → ((x2 ≠ 14 → (((h 85 6) < 0 → Call G m_X12_line [rv 85, rv 99] (up h 85 5 x1) (fun _ h2 => AT G m_X12_command 143 [(0, rv 85), (2, iv x2), (3, iv x3), (4, iv x4)] [] h2 Φ)) ∧ (0 ≤ (h 85 6) → AT G m_X12_command 143 [(0, rv 85), (2, iv x2), (3, iv x3), (4, iv x4)] [] h Φ))) ∧ (x2 = 14 → Call G m_X12_behind [rv 85, iv 0, iv 7] h (fun r3 h4 => AT G m_X12_command 143 [(0, rv 85), (2, iv x2), (3, iv r3), (4, iv x4)] [] h4 Φ)))) ∧ (x2 = 13 → Call G m_X12_behind [rv 85, iv 0, iv 7] h (fun r5 h6 => Call G m_X12_behind [rv 85, iv 0, iv 29] h6 (fun r7 h8 => Call G m_X12_need [rv 85, iv 32] h8 (fun _ h10 => Call G m_X12_line [rv 85, rv 99] h10 (fun _ h12 => AT G m_X12_command 143 [(0, rv 85), (2, iv x2), (3, iv r5), (4, iv r7)] [] h12 Φ))))))) : AT G m_X12_command 66 [(0, rv 85), (1, iv x1), (2, iv x2), (3, iv x3), (4, iv x4)] [] h Φ := by
  refine a_iload_n (pc := 66) (dk dt_X12_command 38 rfl) rfl ?_
  refine a_bipush (pc := 67) (dk dt_X12_command 39 rfl) (ik rfl) (bpk rfl) ?_
  refine a_icmp_ne (pc := 69) (dk dt_X12_command 40 rfl) (tgt := 106) rfl ⟨fun c => ?_, fun c => ?_⟩
  · replace H := H.1 c
    refine a_iload_n (pc := 106) (dk dt_X12_command 59 rfl) rfl ?_
    refine a_bipush (pc := 107) (dk dt_X12_command 60 rfl) (ik rfl) (bpk rfl) ?_
    refine a_icmp_ne (pc := 109) (dk dt_X12_command 61 rfl) (tgt := 123) rfl ⟨fun c => ?_, fun c => ?_⟩
    · replace H := H.1 c
      refine a_aload_n (pc := 123) (dk dt_X12_command 68 rfl) rfl ?_
      refine a_callVi (as := []) (st := []) (pc := 124) (dk dt_X12_command 69 rfl) cl_RX12_315 ⟨Nat.le_of_ble_eq_true rfl, Nat.le_of_ble_eq_true rfl⟩ ⟨Nat.le_of_ble_eq_true rfl, Nat.le_of_ble_eq_true rfl⟩ cls_12 rfl cc_85 rfl rfl rfl (Nat.le_of_ble_eq_true rfl) (Call.of rfl (Nat.le_of_ble_eq_true rfl) rfl ?_)
      refine a_aload_n (pc := 0) (dk dt_X12_bad 0 rfl) rfl ?_
      refine a_geti (pc := 1) (dk dt_X12_bad 1 rfl) cls_12 fl_RX12_312 cf_85_6 ?_
      refine a_if_lt (pc := 4) (dk dt_X12_bad 2 rfl) (tgt := 11) rfl ⟨fun c => ?_, fun c => ?_⟩
      · replace H := H.1 c
        refine a_iconst (pc := 11) (dk dt_X12_bad 5 rfl) (ik rfl) ?_
        refine a_zret (pc := 12) (dk dt_X12_bad 6 rfl) rfl rfl ⟨by decide, ?_⟩
        show ATW _ _ _ _ _ _ _ _ _ _
        refine a_if_ne (pc := 127) (dk dt_X12_command 70 rfl) (tgt := 143) rfl ⟨fun c => absurd c (by decide), fun _ => ?_⟩
        refine a_aload_n (pc := 130) (dk dt_X12_command 71 rfl) rfl ?_
        refine a_iload_n (pc := 131) (dk dt_X12_command 72 rfl) rfl ?_
        refine a_puti (pc := 132) (dk dt_X12_command 73 rfl) cls_12 fl_RX12_309 cf_85_5 rfl rfl ?_
        refine a_aload_n (pc := 135) (dk dt_X12_command 74 rfl) rfl ?_
        refine a_aload_n (pc := 136) (dk dt_X12_command 75 rfl) rfl ?_
        refine a_getr (r := 98) (pc := 137) (dk dt_X12_command 76 rfl) cls_12 fl_RX12_95 cf_85_32 ?_
        refine a_callVv (as := [rv 99]) (st := []) (pc := 140) (dk dt_X12_command 77 rfl) cl_RX12_462 ⟨Nat.le_of_ble_eq_true rfl, Nat.le_of_ble_eq_true rfl⟩ ⟨Nat.le_of_ble_eq_true rfl, Nat.le_of_ble_eq_true rfl⟩ cls_12 rfl cc_85 rfl rfl rfl (Nat.le_of_ble_eq_true rfl) (Call.mono H fun _ h2 H => ?_)
        exact a_pick [0, 2, 3, 4] rfl H
      · replace H := H.2 c
        refine a_iconst (pc := 7) (dk dt_X12_bad 3 rfl) (ik rfl) ?_
        refine a_goto (pc := 8) (dk dt_X12_bad 4 rfl) (tgt := 12) rfl ?_
        refine a_zret (pc := 12) (dk dt_X12_bad 6 rfl) rfl rfl ⟨by decide, ?_⟩
        show ATW _ _ _ _ _ _ _ _ _ _
        refine a_if_ne (pc := 127) (dk dt_X12_command 70 rfl) (tgt := 143) rfl ⟨fun _ => ?_, fun c => absurd c (by decide)⟩
        exact a_pick [0, 2, 3, 4] rfl H
    · replace H := H.2 c
      refine a_aload_n (pc := 112) (dk dt_X12_command 62 rfl) rfl ?_
      refine a_iconst (pc := 113) (dk dt_X12_command 63 rfl) (ik rfl) ?_
      refine a_bipush (pc := 114) (dk dt_X12_command 64 rfl) (ik rfl) (bpk rfl) ?_
      refine a_callVi (as := [iv 0, iv 7]) (st := []) (pc := 116) (dk dt_X12_command 65 rfl) cl_RX12_456 ⟨Nat.le_of_ble_eq_true rfl, Nat.le_of_ble_eq_true rfl⟩ ⟨Nat.le_of_ble_eq_true rfl, Nat.le_of_ble_eq_true rfl⟩ cls_12 rfl cc_85 rfl rfl rfl (Nat.le_of_ble_eq_true rfl) (Call.mono H fun r3 h4 H => ?_)
      refine a_istore_n (pc := 119) (dk dt_X12_command 66 rfl) (by decide) rfl rfl ?_
      refine a_goto (pc := 120) (dk dt_X12_command 67 rfl) (tgt := 143) rfl ?_
      exact a_pick [0, 2, 3, 4] rfl H
  · replace H := H.2 c
    refine a_aload_n (pc := 72) (dk dt_X12_command 41 rfl) rfl ?_
    refine a_iconst (pc := 73) (dk dt_X12_command 42 rfl) (ik rfl) ?_
    refine a_bipush (pc := 74) (dk dt_X12_command 43 rfl) (ik rfl) (bpk rfl) ?_
    refine a_callVi (as := [iv 0, iv 7]) (st := []) (pc := 76) (dk dt_X12_command 44 rfl) cl_RX12_456 ⟨Nat.le_of_ble_eq_true rfl, Nat.le_of_ble_eq_true rfl⟩ ⟨Nat.le_of_ble_eq_true rfl, Nat.le_of_ble_eq_true rfl⟩ cls_12 rfl cc_85 rfl rfl rfl (Nat.le_of_ble_eq_true rfl) (Call.mono H fun r5 h6 H => ?_)
    refine a_istore_n (pc := 79) (dk dt_X12_command 45 rfl) (by decide) rfl rfl ?_
    refine a_aload_n (pc := 80) (dk dt_X12_command 46 rfl) rfl ?_
    refine a_iconst (pc := 81) (dk dt_X12_command 47 rfl) (ik rfl) ?_
    refine a_bipush (pc := 82) (dk dt_X12_command 48 rfl) (ik rfl) (bpk rfl) ?_
    refine a_callVi (as := [iv 0, iv 29]) (st := []) (pc := 84) (dk dt_X12_command 49 rfl) cl_RX12_456 ⟨Nat.le_of_ble_eq_true rfl, Nat.le_of_ble_eq_true rfl⟩ ⟨Nat.le_of_ble_eq_true rfl, Nat.le_of_ble_eq_true rfl⟩ cls_12 rfl cc_85 rfl rfl rfl (Nat.le_of_ble_eq_true rfl) (Call.mono H fun r7 h8 H => ?_)
    refine a_istore (pc := 87) (dk dt_X12_command 50 rfl) (by decide) rfl rfl ?_
    refine a_aload_n (pc := 89) (dk dt_X12_command 51 rfl) rfl ?_
    refine a_bipush (pc := 90) (dk dt_X12_command 52 rfl) (ik rfl) (bpk rfl) ?_
    refine a_callVv (as := [iv 32]) (st := []) (pc := 92) (dk dt_X12_command 53 rfl) cl_RX12_330 ⟨Nat.le_of_ble_eq_true rfl, Nat.le_of_ble_eq_true rfl⟩ ⟨Nat.le_of_ble_eq_true rfl, Nat.le_of_ble_eq_true rfl⟩ cls_12 rfl cc_85 rfl rfl rfl (Nat.le_of_ble_eq_true rfl) (Call.mono H fun _ h10 H => ?_)
    refine a_aload_n (pc := 95) (dk dt_X12_command 54 rfl) rfl ?_
    refine a_aload_n (pc := 96) (dk dt_X12_command 55 rfl) rfl ?_
    refine a_getr (r := 98) (pc := 97) (dk dt_X12_command 56 rfl) cls_12 fl_RX12_95 cf_85_32 ?_
    refine a_callVv (as := [rv 99]) (st := []) (pc := 100) (dk dt_X12_command 57 rfl) cl_RX12_462 ⟨Nat.le_of_ble_eq_true rfl, Nat.le_of_ble_eq_true rfl⟩ ⟨Nat.le_of_ble_eq_true rfl, Nat.le_of_ble_eq_true rfl⟩ cls_12 rfl cc_85 rfl rfl rfl (Nat.le_of_ble_eq_true rfl) (Call.mono H fun _ h12 H => ?_)
    refine a_goto (pc := 103) (dk dt_X12_command 58 rfl) (tgt := 143) rfl ?_
    exact a_pick [0, 2, 3, 4] rfl H
set_option maxHeartbeats 40000000 in
theorem U_X12_command_85_143 {G : GG} {Φ : Int → Hp → Prop} {h : Hp} {x2 : Int} {x3 : Int} {x4 : Int} (H : Call G m_X12_done [rv 85] h (fun _ h2 => (((h2 85 6) < 0 → Call G m_X12_copyLine [rv 85, iv 240, iv (w32 (249 + (h2 85 88)))] h2 (fun _ h4 => (0 ≤ (h4 85 88) ∧ (h4 85 88) < 9) ∧ ((x2 ≠ 13 → ((x2 ≠ 14 → (0 ≤ (h4 85 88) ∧ (h4 85 88) < 9) ∧ (0 ≤ (h4 85 88) ∧ (h4 85 88) < 9) ∧ (0 ≤ (h4 85 88) ∧ (h4 85 88) < 9) ∧ Φ (band (w32 ((band (w32 ((h4 85 90) + 1)) 255) - 1)) 255) (up (up (up (up (up (up h4 143 (h4 85 88) (h4 85 90)) 146 (h4 85 88) 0) 144 (h4 85 88) x3) 145 (h4 85 88) x4) 85 88 (w32 ((h4 85 88) + 1))) 85 90 (band (w32 ((h4 85 90) + 1)) 255))) ∧ (x2 = 14 → (0 ≤ (h4 85 88) ∧ (h4 85 88) < 9) ∧ (0 ≤ (h4 85 88) ∧ (h4 85 88) < 9) ∧ (0 ≤ (h4 85 88) ∧ (h4 85 88) < 9) ∧ Φ (band (w32 ((band (w32 ((h4 85 90) + 1)) 255) - 1)) 255) (up (up (up (up (up (up h4 143 (h4 85 88) (h4 85 90)) 146 (h4 85 88) 2) 144 (h4 85 88) x3) 145 (h4 85 88) x4) 85 88 (w32 ((h4 85 88) + 1))) 85 90 (band (w32 ((h4 85 90) + 1)) 255))))) ∧ (x2 = 13 → (0 ≤ (h4 85 88) ∧ (h4 85 88) < 9) ∧ (0 ≤ (h4 85 88) ∧ (h4 85 88) < 9) ∧ (0 ≤ (h4 85 88) ∧ (h4 85 88) < 9) ∧ Φ (band (w32 ((band (w32 ((h4 85 90) + 1)) 255) - 1)) 255) (up (up (up (up (up (up h4 143 (h4 85 88) (h4 85 90)) 146 (h4 85 88) 1) 144 (h4 85 88) x3) 145 (h4 85 88) x4) 85 88 (w32 ((h4 85 88) + 1))) 85 90 (band (w32 ((h4 85 90) + 1)) 255)))))) ∧ (0 ≤ (h2 85 6) → Φ (w32 ((-1000) - (h2 85 6))) h2)))) : AT G m_X12_command 143 [(0, rv 85), (2, iv x2), (3, iv x3), (4, iv x4)] [] h Φ := by
  refine a_aload_n (pc := 143) (dk dt_X12_command 78 rfl) rfl ?_
  refine a_callVv (as := []) (st := []) (pc := 144) (dk dt_X12_command 79 rfl) cl_RX12_374 ⟨Nat.le_of_ble_eq_true rfl, Nat.le_of_ble_eq_true rfl⟩ ⟨Nat.le_of_ble_eq_true rfl, Nat.le_of_ble_eq_true rfl⟩ cls_12 rfl cc_85 rfl rfl rfl (Nat.le_of_ble_eq_true rfl) (Call.mono H fun _ h2 H => ?_)
  refine a_aload_n (pc := 147) (dk dt_X12_command 80 rfl) rfl ?_
  refine a_callVi (as := []) (st := []) (pc := 148) (dk dt_X12_command 81 rfl) cl_RX12_315 ⟨Nat.le_of_ble_eq_true rfl, Nat.le_of_ble_eq_true rfl⟩ ⟨Nat.le_of_ble_eq_true rfl, Nat.le_of_ble_eq_true rfl⟩ cls_12 rfl cc_85 rfl rfl rfl (Nat.le_of_ble_eq_true rfl) (Call.of rfl (Nat.le_of_ble_eq_true rfl) rfl ?_)
  refine a_aload_n (pc := 0) (dk dt_X12_bad 0 rfl) rfl ?_
  refine a_geti (pc := 1) (dk dt_X12_bad 1 rfl) cls_12 fl_RX12_312 cf_85_6 ?_
  refine a_if_lt (pc := 4) (dk dt_X12_bad 2 rfl) (tgt := 11) rfl ⟨fun c => ?_, fun c => ?_⟩
  · replace H := H.1 c
    refine a_iconst (pc := 11) (dk dt_X12_bad 5 rfl) (ik rfl) ?_
    refine a_zret (pc := 12) (dk dt_X12_bad 6 rfl) rfl rfl ⟨by decide, ?_⟩
    show ATW _ _ _ _ _ _ _ _ _ _
    refine a_if_eq (pc := 151) (dk dt_X12_command 82 rfl) (tgt := 163) rfl ⟨fun _ => ?_, fun c => absurd c (by decide)⟩
    refine a_aload_n (pc := 163) (dk dt_X12_command 88 rfl) rfl ?_
    refine a_sipush (pc := 164) (dk dt_X12_command 89 rfl) (ik rfl) (spk rfl) ?_
    refine a_sipush (pc := 167) (dk dt_X12_command 90 rfl) (ik rfl) (spk rfl) ?_
    refine a_aload_n (pc := 170) (dk dt_X12_command 91 rfl) rfl ?_
    refine a_geti (pc := 171) (dk dt_X12_command 92 rfl) cls_12 fl_RX12_578 cf_85_88 ?_
    refine a_iadd (pc := 174) (dk dt_X12_command 93 rfl) ?_
    refine a_callVv (as := [iv 240, iv (w32 (249 + (h2 85 88)))]) (st := []) (pc := 175) (dk dt_X12_command 94 rfl) cl_RX12_498 ⟨Nat.le_of_ble_eq_true rfl, Nat.le_of_ble_eq_true rfl⟩ ⟨Nat.le_of_ble_eq_true rfl, Nat.le_of_ble_eq_true rfl⟩ cls_12 rfl cc_85 rfl rfl rfl (Nat.le_of_ble_eq_true rfl) (Call.mono H fun _ h4 H => ?_)
    refine a_aload_n (pc := 178) (dk dt_X12_command 95 rfl) rfl ?_
    refine a_getr (r := 142) (pc := 179) (dk dt_X12_command 96 rfl) cls_12 fl_RX12_259 cf_85_94 ?_
    refine a_aload_n (pc := 182) (dk dt_X12_command 97 rfl) rfl ?_
    refine a_geti (pc := 183) (dk dt_X12_command 98 rfl) cls_12 fl_RX12_578 cf_85_88 ?_
    refine a_aload_n (pc := 186) (dk dt_X12_command 99 rfl) rfl ?_
    refine a_geti (pc := 187) (dk dt_X12_command 100 rfl) cls_12 fl_RX12_584 cf_85_90 ?_
    refine a_iast (pc := 190) (dk dt_X12_command 101 rfl) ar_143 ⟨H.1, ?_⟩
    replace H := H.2
    refine a_aload_n (pc := 191) (dk dt_X12_command 102 rfl) rfl ?_
    refine a_getr (r := 145) (pc := 192) (dk dt_X12_command 103 rfl) cls_12 fl_RX12_268 cf_85_97 ?_
    refine a_aload_n (pc := 195) (dk dt_X12_command 104 rfl) rfl ?_
    refine a_geti (pc := 196) (dk dt_X12_command 105 rfl) cls_12 fl_RX12_578 cf_85_88 ?_
    refine a_top (y := (h4 85 88)) (by simp [up, cpy]) ?_
    refine a_iload_n (pc := 199) (dk dt_X12_command 106 rfl) rfl ?_
    refine a_bipush (pc := 200) (dk dt_X12_command 107 rfl) (ik rfl) (bpk rfl) ?_
    refine a_icmp_ne (pc := 202) (dk dt_X12_command 108 rfl) (tgt := 209) rfl ⟨fun c => ?_, fun c => ?_⟩
    · replace H := H.1 c
      refine a_iload_n (pc := 209) (dk dt_X12_command 111 rfl) rfl ?_
      refine a_bipush (pc := 210) (dk dt_X12_command 112 rfl) (ik rfl) (bpk rfl) ?_
      refine a_icmp_ne (pc := 212) (dk dt_X12_command 113 rfl) (tgt := 219) rfl ⟨fun c => ?_, fun c => ?_⟩
      · replace H := H.1 c
        refine a_iconst (pc := 219) (dk dt_X12_command 116 rfl) (ik rfl) ?_
        refine a_iast (pc := 220) (dk dt_X12_command 117 rfl) ar_146 ⟨H.1, ?_⟩
        replace H := H.2
        refine a_aload_n (pc := 221) (dk dt_X12_command 118 rfl) rfl ?_
        refine a_getr (r := 143) (pc := 222) (dk dt_X12_command 119 rfl) cls_12 fl_RX12_262 cf_85_95 ?_
        refine a_aload_n (pc := 225) (dk dt_X12_command 120 rfl) rfl ?_
        refine a_geti (pc := 226) (dk dt_X12_command 121 rfl) cls_12 fl_RX12_578 cf_85_88 ?_
        refine a_top (y := (h4 85 88)) (by simp [up, cpy]) ?_
        refine a_iload_n (pc := 229) (dk dt_X12_command 122 rfl) rfl ?_
        refine a_iast (pc := 230) (dk dt_X12_command 123 rfl) ar_144 ⟨H.1, ?_⟩
        replace H := H.2
        refine a_aload_n (pc := 231) (dk dt_X12_command 124 rfl) rfl ?_
        refine a_getr (r := 144) (pc := 232) (dk dt_X12_command 125 rfl) cls_12 fl_RX12_265 cf_85_96 ?_
        refine a_aload_n (pc := 235) (dk dt_X12_command 126 rfl) rfl ?_
        refine a_geti (pc := 236) (dk dt_X12_command 127 rfl) cls_12 fl_RX12_578 cf_85_88 ?_
        refine a_top (y := (h4 85 88)) (by simp [up, cpy]) ?_
        refine a_iload (pc := 239) (dk dt_X12_command 128 rfl) rfl ?_
        refine a_iast (pc := 241) (dk dt_X12_command 129 rfl) ar_145 ⟨H.1, ?_⟩
        replace H := H.2
        refine a_aload_n (pc := 242) (dk dt_X12_command 130 rfl) rfl ?_
        refine a_dup (pc := 243) (dk dt_X12_command 131 rfl) rfl ?_
        refine a_geti (pc := 244) (dk dt_X12_command 132 rfl) cls_12 fl_RX12_578 cf_85_88 ?_
        refine a_top (y := (h4 85 88)) (by simp [up, cpy]) ?_
        refine a_iconst (pc := 247) (dk dt_X12_command 133 rfl) (ik rfl) ?_
        refine a_iadd (pc := 248) (dk dt_X12_command 134 rfl) ?_
        refine a_puti (pc := 249) (dk dt_X12_command 135 rfl) cls_12 fl_RX12_578 cf_85_88 rfl rfl ?_
        refine a_aload_n (pc := 252) (dk dt_X12_command 136 rfl) rfl ?_
        refine a_aload_n (pc := 253) (dk dt_X12_command 137 rfl) rfl ?_
        refine a_geti (pc := 254) (dk dt_X12_command 138 rfl) cls_12 fl_RX12_584 cf_85_90 ?_
        refine a_top (y := (h4 85 90)) (by simp [up, cpy]) ?_
        refine a_iconst (pc := 257) (dk dt_X12_command 139 rfl) (ik rfl) ?_
        refine a_iadd (pc := 258) (dk dt_X12_command 140 rfl) ?_
        refine a_sipush (pc := 259) (dk dt_X12_command 141 rfl) (ik rfl) (spk rfl) ?_
        refine a_iand (pc := 262) (dk dt_X12_command 142 rfl) ?_
        refine a_puti (pc := 263) (dk dt_X12_command 143 rfl) cls_12 fl_RX12_584 cf_85_90 rfl rfl ?_
        refine a_aload_n (pc := 266) (dk dt_X12_command 144 rfl) rfl ?_
        refine a_geti (pc := 267) (dk dt_X12_command 145 rfl) cls_12 fl_RX12_584 cf_85_90 ?_
        refine a_top (y := (band (w32 ((h4 85 90) + 1)) 255)) (by simp [up, cpy]) ?_
        refine a_iconst (pc := 270) (dk dt_X12_command 146 rfl) (ik rfl) ?_
        refine a_isub (pc := 271) (dk dt_X12_command 147 rfl) ?_
        refine a_sipush (pc := 272) (dk dt_X12_command 148 rfl) (ik rfl) (spk rfl) ?_
        refine a_iand (pc := 275) (dk dt_X12_command 149 rfl) ?_
        exact a_iret (pc := 276) (dk dt_X12_command 150 rfl) rfl rfl H
      · replace H := H.2 c
        refine a_iconst (pc := 215) (dk dt_X12_command 114 rfl) (ik rfl) ?_
        refine a_goto (pc := 216) (dk dt_X12_command 115 rfl) (tgt := 220) rfl ?_
        refine a_iast (pc := 220) (dk dt_X12_command 117 rfl) ar_146 ⟨H.1, ?_⟩
        replace H := H.2
        refine a_aload_n (pc := 221) (dk dt_X12_command 118 rfl) rfl ?_
        refine a_getr (r := 143) (pc := 222) (dk dt_X12_command 119 rfl) cls_12 fl_RX12_262 cf_85_95 ?_
        refine a_aload_n (pc := 225) (dk dt_X12_command 120 rfl) rfl ?_
        refine a_geti (pc := 226) (dk dt_X12_command 121 rfl) cls_12 fl_RX12_578 cf_85_88 ?_
        refine a_top (y := (h4 85 88)) (by simp [up, cpy]) ?_
        refine a_iload_n (pc := 229) (dk dt_X12_command 122 rfl) rfl ?_
        refine a_iast (pc := 230) (dk dt_X12_command 123 rfl) ar_144 ⟨H.1, ?_⟩
        replace H := H.2
        refine a_aload_n (pc := 231) (dk dt_X12_command 124 rfl) rfl ?_
        refine a_getr (r := 144) (pc := 232) (dk dt_X12_command 125 rfl) cls_12 fl_RX12_265 cf_85_96 ?_
        refine a_aload_n (pc := 235) (dk dt_X12_command 126 rfl) rfl ?_
        refine a_geti (pc := 236) (dk dt_X12_command 127 rfl) cls_12 fl_RX12_578 cf_85_88 ?_
        refine a_top (y := (h4 85 88)) (by simp [up, cpy]) ?_
        refine a_iload (pc := 239) (dk dt_X12_command 128 rfl) rfl ?_
        refine a_iast (pc := 241) (dk dt_X12_command 129 rfl) ar_145 ⟨H.1, ?_⟩
        replace H := H.2
        refine a_aload_n (pc := 242) (dk dt_X12_command 130 rfl) rfl ?_
        refine a_dup (pc := 243) (dk dt_X12_command 131 rfl) rfl ?_
        refine a_geti (pc := 244) (dk dt_X12_command 132 rfl) cls_12 fl_RX12_578 cf_85_88 ?_
        refine a_top (y := (h4 85 88)) (by simp [up, cpy]) ?_
        refine a_iconst (pc := 247) (dk dt_X12_command 133 rfl) (ik rfl) ?_
        refine a_iadd (pc := 248) (dk dt_X12_command 134 rfl) ?_
        refine a_puti (pc := 249) (dk dt_X12_command 135 rfl) cls_12 fl_RX12_578 cf_85_88 rfl rfl ?_
        refine a_aload_n (pc := 252) (dk dt_X12_command 136 rfl) rfl ?_
        refine a_aload_n (pc := 253) (dk dt_X12_command 137 rfl) rfl ?_
        refine a_geti (pc := 254) (dk dt_X12_command 138 rfl) cls_12 fl_RX12_584 cf_85_90 ?_
        refine a_top (y := (h4 85 90)) (by simp [up, cpy]) ?_
        refine a_iconst (pc := 257) (dk dt_X12_command 139 rfl) (ik rfl) ?_
        refine a_iadd (pc := 258) (dk dt_X12_command 140 rfl) ?_
        refine a_sipush (pc := 259) (dk dt_X12_command 141 rfl) (ik rfl) (spk rfl) ?_
        refine a_iand (pc := 262) (dk dt_X12_command 142 rfl) ?_
        refine a_puti (pc := 263) (dk dt_X12_command 143 rfl) cls_12 fl_RX12_584 cf_85_90 rfl rfl ?_
        refine a_aload_n (pc := 266) (dk dt_X12_command 144 rfl) rfl ?_
        refine a_geti (pc := 267) (dk dt_X12_command 145 rfl) cls_12 fl_RX12_584 cf_85_90 ?_
        refine a_top (y := (band (w32 ((h4 85 90) + 1)) 255)) (by simp [up, cpy]) ?_
        refine a_iconst (pc := 270) (dk dt_X12_command 146 rfl) (ik rfl) ?_
        refine a_isub (pc := 271) (dk dt_X12_command 147 rfl) ?_
        refine a_sipush (pc := 272) (dk dt_X12_command 148 rfl) (ik rfl) (spk rfl) ?_
        refine a_iand (pc := 275) (dk dt_X12_command 149 rfl) ?_
        exact a_iret (pc := 276) (dk dt_X12_command 150 rfl) rfl rfl H
    · replace H := H.2 c
      refine a_iconst (pc := 205) (dk dt_X12_command 109 rfl) (ik rfl) ?_
      refine a_goto (pc := 206) (dk dt_X12_command 110 rfl) (tgt := 220) rfl ?_
      refine a_iast (pc := 220) (dk dt_X12_command 117 rfl) ar_146 ⟨H.1, ?_⟩
      replace H := H.2
      refine a_aload_n (pc := 221) (dk dt_X12_command 118 rfl) rfl ?_
      refine a_getr (r := 143) (pc := 222) (dk dt_X12_command 119 rfl) cls_12 fl_RX12_262 cf_85_95 ?_
      refine a_aload_n (pc := 225) (dk dt_X12_command 120 rfl) rfl ?_
      refine a_geti (pc := 226) (dk dt_X12_command 121 rfl) cls_12 fl_RX12_578 cf_85_88 ?_
      refine a_top (y := (h4 85 88)) (by simp [up, cpy]) ?_
      refine a_iload_n (pc := 229) (dk dt_X12_command 122 rfl) rfl ?_
      refine a_iast (pc := 230) (dk dt_X12_command 123 rfl) ar_144 ⟨H.1, ?_⟩
      replace H := H.2
      refine a_aload_n (pc := 231) (dk dt_X12_command 124 rfl) rfl ?_
      refine a_getr (r := 144) (pc := 232) (dk dt_X12_command 125 rfl) cls_12 fl_RX12_265 cf_85_96 ?_
      refine a_aload_n (pc := 235) (dk dt_X12_command 126 rfl) rfl ?_
      refine a_geti (pc := 236) (dk dt_X12_command 127 rfl) cls_12 fl_RX12_578 cf_85_88 ?_
      refine a_top (y := (h4 85 88)) (by simp [up, cpy]) ?_
      refine a_iload (pc := 239) (dk dt_X12_command 128 rfl) rfl ?_
      refine a_iast (pc := 241) (dk dt_X12_command 129 rfl) ar_145 ⟨H.1, ?_⟩
      replace H := H.2
      refine a_aload_n (pc := 242) (dk dt_X12_command 130 rfl) rfl ?_
      refine a_dup (pc := 243) (dk dt_X12_command 131 rfl) rfl ?_
      refine a_geti (pc := 244) (dk dt_X12_command 132 rfl) cls_12 fl_RX12_578 cf_85_88 ?_
      refine a_top (y := (h4 85 88)) (by simp [up, cpy]) ?_
      refine a_iconst (pc := 247) (dk dt_X12_command 133 rfl) (ik rfl) ?_
      refine a_iadd (pc := 248) (dk dt_X12_command 134 rfl) ?_
      refine a_puti (pc := 249) (dk dt_X12_command 135 rfl) cls_12 fl_RX12_578 cf_85_88 rfl rfl ?_
      refine a_aload_n (pc := 252) (dk dt_X12_command 136 rfl) rfl ?_
      refine a_aload_n (pc := 253) (dk dt_X12_command 137 rfl) rfl ?_
      refine a_geti (pc := 254) (dk dt_X12_command 138 rfl) cls_12 fl_RX12_584 cf_85_90 ?_
      refine a_top (y := (h4 85 90)) (by simp [up, cpy]) ?_
      refine a_iconst (pc := 257) (dk dt_X12_command 139 rfl) (ik rfl) ?_
      refine a_iadd (pc := 258) (dk dt_X12_command 140 rfl) ?_
      refine a_sipush (pc := 259) (dk dt_X12_command 141 rfl) (ik rfl) (spk rfl) ?_
      refine a_iand (pc := 262) (dk dt_X12_command 142 rfl) ?_
      refine a_puti (pc := 263) (dk dt_X12_command 143 rfl) cls_12 fl_RX12_584 cf_85_90 rfl rfl ?_
      refine a_aload_n (pc := 266) (dk dt_X12_command 144 rfl) rfl ?_
      refine a_geti (pc := 267) (dk dt_X12_command 145 rfl) cls_12 fl_RX12_584 cf_85_90 ?_
      refine a_top (y := (band (w32 ((h4 85 90) + 1)) 255)) (by simp [up, cpy]) ?_
      refine a_iconst (pc := 270) (dk dt_X12_command 146 rfl) (ik rfl) ?_
      refine a_isub (pc := 271) (dk dt_X12_command 147 rfl) ?_
      refine a_sipush (pc := 272) (dk dt_X12_command 148 rfl) (ik rfl) (spk rfl) ?_
      refine a_iand (pc := 275) (dk dt_X12_command 149 rfl) ?_
      exact a_iret (pc := 276) (dk dt_X12_command 150 rfl) rfl rfl H
  · replace H := H.2 c
    refine a_iconst (pc := 7) (dk dt_X12_bad 3 rfl) (ik rfl) ?_
    refine a_goto (pc := 8) (dk dt_X12_bad 4 rfl) (tgt := 12) rfl ?_
    refine a_zret (pc := 12) (dk dt_X12_bad 6 rfl) rfl rfl ⟨by decide, ?_⟩
    show ATW _ _ _ _ _ _ _ _ _ _
    refine a_if_eq (pc := 151) (dk dt_X12_command 82 rfl) (tgt := 163) rfl ⟨fun c => absurd c (by decide), fun _ => ?_⟩
    refine a_sipush (pc := 154) (dk dt_X12_command 83 rfl) (ik rfl) (spk rfl) ?_
    refine a_aload_n (pc := 157) (dk dt_X12_command 84 rfl) rfl ?_
    refine a_geti (pc := 158) (dk dt_X12_command 85 rfl) cls_12 fl_RX12_312 cf_85_6 ?_
    refine a_isub (pc := 161) (dk dt_X12_command 86 rfl) ?_
    exact a_iret (pc := 162) (dk dt_X12_command 87 rfl) rfl rfl H
set_option maxHeartbeats 40000000 in
theorem U_X12_send_85_0 {G : GG} {Φ : Int → Hp → Prop} {h : Hp} {x1 : Int} (H : ((x1 < 0 → Φ (-1) h) ∧ (0 ≤ x1 → ((2 < x1 → Φ (-1) h) ∧ (x1 ≤ 2 → (((h 85 89) = (h 85 88) → Φ (-1) h) ∧ ((h 85 89) ≠ (h 85 88) → Call G m_X12_isSeen [rv 85] h (fun r1 h2 => ((r1 ≠ 0 → ((x1 ≠ 1 → (0 ≤ (h2 85 89) ∧ (h2 85 89) < 9) ∧ (((h2 143 (h2 85 89)) = (h2 85 81) → ((x1 ≠ 2 → (0 ≤ (h2 85 89) ∧ (h2 85 89) < 9) ∧ (((h2 146 (h2 85 89)) ≠ 0 → (0 ≤ (h2 85 89) ∧ (h2 85 89) < 9) ∧ (((h2 146 (h2 85 89)) ≠ 1 → (0 ≤ (h2 85 89) ∧ (h2 85 89) < 9) ∧ Call G m_X12_ready [rv 85, iv (h2 144 (h2 85 89))] (up (up (up h2 85 89 (w32 ((h2 85 89) + 1))) 85 81 (band (w32 ((h2 85 81) + 1)) 255)) 85 80 0) (fun _ h4 => Φ 1 h4)) ∧ ((h2 146 (h2 85 89)) = 1 → (0 ≤ (h2 85 89) ∧ (h2 85 89) < 9) ∧ (0 ≤ (h2 85 89) ∧ (h2 85 89) < 9) ∧ (0 ≤ (w32 (249 + (h2 85 89))) ∧ (w32 (249 + (h2 85 89))) < 260) ∧ (0 ≤ (w32 ((w32 (30 * (h2 144 (h2 85 89)))) + (h2 145 (h2 85 89)))) ∧ (w32 ((w32 (30 * (h2 144 (h2 85 89)))) + (h2 145 (h2 85 89)))) < 240) ∧ (0 ≤ (w32 (249 + (h2 85 89))) ∧ (w32 (249 + (h2 85 89))) < 260) ∧ (0 ≤ (w32 ((w32 (30 * (h2 144 (h2 85 89)))) + (h2 145 (h2 85 89)))) ∧ (w32 ((w32 (30 * (h2 144 (h2 85 89)))) + (h2 145 (h2 85 89)))) < 240) ∧ (0 ≤ (w32 (249 + (h2 85 89))) ∧ (w32 (249 + (h2 85 89))) < 260) ∧ (0 ≤ (w32 ((w32 (30 * (h2 144 (h2 85 89)))) + (h2 145 (h2 85 89)))) ∧ (w32 ((w32 (30 * (h2 144 (h2 85 89)))) + (h2 145 (h2 85 89)))) < 240) ∧ (0 ≤ (w32 (249 + (h2 85 89))) ∧ (w32 (249 + (h2 85 89))) < 260) ∧ (0 ≤ (w32 ((w32 (30 * (h2 144 (h2 85 89)))) + (h2 145 (h2 85 89)))) ∧ (w32 ((w32 (30 * (h2 144 (h2 85 89)))) + (h2 145 (h2 85 89)))) < 240) ∧ (0 ≤ (w32 (249 + (h2 85 89))) ∧ (w32 (249 + (h2 85 89))) < 260) ∧ (0 ≤ (w32 ((w32 (30 * (h2 144 (h2 85 89)))) + (h2 145 (h2 85 89)))) ∧ (w32 ((w32 (30 * (h2 144 (h2 85 89)))) + (h2 145 (h2 85 89)))) < 240) ∧ (0 ≤ (w32 (249 + (h2 85 89))) ∧ (w32 (249 + (h2 85 89))) < 260) ∧ (0 ≤ (w32 ((w32 (30 * (h2 144 (h2 85 89)))) + (h2 145 (h2 85 89)))) ∧ (w32 ((w32 (30 * (h2 144 (h2 85 89)))) + (h2 145 (h2 85 89)))) < 240) ∧ Φ 1 (up (up (up (up (up (up (up (up (up h2 85 89 (w32 ((h2 85 89) + 1))) 85 81 (band (w32 ((h2 85 81) + 1)) 255)) 85 80 0) 109 (w32 ((w32 (30 * (h2 144 (h2 85 89)))) + (h2 145 (h2 85 89)))) (h2 103 (w32 (249 + (h2 85 89))))) 110 (w32 ((w32 (30 * (h2 144 (h2 85 89)))) + (h2 145 (h2 85 89)))) (h2 104 (w32 (249 + (h2 85 89))))) 111 (w32 ((w32 (30 * (h2 144 (h2 85 89)))) + (h2 145 (h2 85 89)))) (h2 105 (w32 (249 + (h2 85 89))))) 112 (w32 ((w32 (30 * (h2 144 (h2 85 89)))) + (h2 145 (h2 85 89)))) (h2 106 (w32 (249 + (h2 85 89))))) 113 (w32 ((w32 (30 * (h2 144 (h2 85 89)))) + (h2 145 (h2 85 89)))) (h2 107 (w32 (249 + (h2 85 89))))) 114 (w32 ((w32 (30 * (h2 144 (h2 85 89)))) + (h2 145 (h2 85 89)))) (h2 108 (w32 (249 + (h2 85 89)))))))) ∧ ((h2 146 (h2 85 89)) = 0 → Call G m_X12_act [rv 85, iv (w32 (249 + (h2 85 89)))] (up (up (up h2 85 89 (w32 ((h2 85 89) + 1))) 85 81 (band (w32 ((h2 85 81) + 1)) 255)) 85 80 0) (fun r5 h6 => Φ 1 h6)))) ∧ (x1 = 2 → (0 ≤ (h2 85 89) ∧ (h2 85 89) < 9) ∧ (((h2 146 (h2 85 89)) ≠ 0 → (0 ≤ (h2 85 89) ∧ (h2 85 89) < 9) ∧ (((h2 146 (h2 85 89)) ≠ 1 → (0 ≤ (h2 85 89) ∧ (h2 85 89) < 9) ∧ Call G m_X12_ready [rv 85, iv (h2 144 (h2 85 89))] (up (up (up h2 85 89 (w32 ((h2 85 89) + 1))) 85 81 (band (w32 ((h2 85 81) + 1)) 255)) 85 80 1) (fun _ h8 => Φ 1 h8)) ∧ ((h2 146 (h2 85 89)) = 1 → (0 ≤ (h2 85 89) ∧ (h2 85 89) < 9) ∧ (0 ≤ (h2 85 89) ∧ (h2 85 89) < 9) ∧ (0 ≤ (w32 (249 + (h2 85 89))) ∧ (w32 (249 + (h2 85 89))) < 260) ∧ (0 ≤ (w32 ((w32 (30 * (h2 144 (h2 85 89)))) + (h2 145 (h2 85 89)))) ∧ (w32 ((w32 (30 * (h2 144 (h2 85 89)))) + (h2 145 (h2 85 89)))) < 240) ∧ (0 ≤ (w32 (249 + (h2 85 89))) ∧ (w32 (249 + (h2 85 89))) < 260) ∧ (0 ≤ (w32 ((w32 (30 * (h2 144 (h2 85 89)))) + (h2 145 (h2 85 89)))) ∧ (w32 ((w32 (30 * (h2 144 (h2 85 89)))) + (h2 145 (h2 85 89)))) < 240) ∧ (0 ≤ (w32 (249 + (h2 85 89))) ∧ (w32 (249 + (h2 85 89))) < 260) ∧ (0 ≤ (w32 ((w32 (30 * (h2 144 (h2 85 89)))) + (h2 145 (h2 85 89)))) ∧ (w32 ((w32 (30 * (h2 144 (h2 85 89)))) + (h2 145 (h2 85 89)))) < 240) ∧ (0 ≤ (w32 (249 + (h2 85 89))) ∧ (w32 (249 + (h2 85 89))) < 260) ∧ (0 ≤ (w32 ((w32 (30 * (h2 144 (h2 85 89)))) + (h2 145 (h2 85 89)))) ∧ (w32 ((w32 (30 * (h2 144 (h2 85 89)))) + (h2 145 (h2 85 89)))) < 240) ∧ (0 ≤ (w32 (249 + (h2 85 89))) ∧ (w32 (249 + (h2 85 89))) < 260) ∧ (0 ≤ (w32 ((w32 (30 * (h2 144 (h2 85 89)))) + (h2 145 (h2 85 89)))) ∧ (w32 ((w32 (30 * (h2 144 (h2 85 89)))) + (h2 145 (h2 85 89)))) < 240) ∧ (0 ≤ (w32 (249 + (h2 85 89))) ∧ (w32 (249 + (h2 85 89))) < 260) ∧ (0 ≤ (w32 ((w32 (30 * (h2 144 (h2 85 89)))) + (h2 145 (h2 85 89)))) ∧ (w32 ((w32 (30 * (h2 144 (h2 85 89)))) + (h2 145 (h2 85 89)))) < 240) ∧ Φ 1 (up (up (up (up (up (up (up (up (up h2 85 89 (w32 ((h2 85 89) + 1))) 85 81 (band (w32 ((h2 85 81) + 1)) 255)) 85 80 1) 109 (w32 ((w32 (30 * (h2 144 (h2 85 89)))) + (h2 145 (h2 85 89)))) (h2 103 (w32 (249 + (h2 85 89))))) 110 (w32 ((w32 (30 * (h2 144 (h2 85 89)))) + (h2 145 (h2 85 89)))) (h2 104 (w32 (249 + (h2 85 89))))) 111 (w32 ((w32 (30 * (h2 144 (h2 85 89)))) + (h2 145 (h2 85 89)))) (h2 105 (w32 (249 + (h2 85 89))))) 112 (w32 ((w32 (30 * (h2 144 (h2 85 89)))) + (h2 145 (h2 85 89)))) (h2 106 (w32 (249 + (h2 85 89))))) 113 (w32 ((w32 (30 * (h2 144 (h2 85 89)))) + (h2 145 (h2 85 89)))) (h2 107 (w32 (249 + (h2 85 89))))) 114 (w32 ((w32 (30 * (h2 144 (h2 85 89)))) + (h2 145 (h2 85 89)))) (h2 108 (w32 (249 + (h2 85 89)))))))) ∧ ((h2 146 (h2 85 89)) = 0 → Call G m_X12_act [rv 85, iv (w32 (249 + (h2 85 89)))] (up (up (up h2 85 89 (w32 ((h2 85 89) + 1))) 85 81 (band (w32 ((h2 85 81) + 1)) 255)) 85 80 1) (fun r9 h10 => Φ 1 h10)))))) ∧ ((h2 143 (h2 85 89)) ≠ (h2 85 81) → Φ 0 (up (up h2 85 89 (w32 ((h2 85 89) + 1))) 85 80 1)))) ∧ (x1 = 1 → Φ 0 (up h2 85 89 (w32 ((h2 85 89) + 1)))))) ∧ (r1 = 0 → Φ (-1) h2)))))))))) : AT G m_X12_send 0 [(0, rv 85), (1, iv x1)] [] h Φ := by
  refine a_iload_n (pc := 0) (dk dt_X12_send 0 rfl) rfl ?_
  refine a_iconst (pc := 1) (dk dt_X12_send 1 rfl) (ik rfl) ?_
  refine a_iconst (pc := 2) (dk dt_X12_send 2 rfl) (ik rfl) ?_
  refine a_callSi (as := [iv x1, iv 0, iv 2]) (st := []) (pc := 3) (dk dt_X12_send 3 rfl) cl_RX12_302 ⟨Nat.le_of_ble_eq_true rfl, Nat.le_of_ble_eq_true rfl⟩ ⟨Nat.le_of_ble_eq_true rfl, Nat.le_of_ble_eq_true rfl⟩ rfl rfl rfl (Nat.le_of_ble_eq_true rfl) (Call.of rfl (Nat.le_of_ble_eq_true rfl) rfl ?_)
  refine a_iload_n (pc := 0) (dk dt_X12_is 0 rfl) rfl ?_
  refine a_iload_n (pc := 1) (dk dt_X12_is 1 rfl) rfl ?_
  refine a_icmp_lt (pc := 2) (dk dt_X12_is 2 rfl) (tgt := 14) rfl ⟨fun c => ?_, fun c => ?_⟩
  · replace H := H.1 c
    refine a_iconst (pc := 14) (dk dt_X12_is 8 rfl) (ik rfl) ?_
    refine a_zret (pc := 15) (dk dt_X12_is 9 rfl) rfl rfl ⟨by decide, ?_⟩
    show ATW _ _ _ _ _ _ _ _ _ _
    refine a_if_eq (pc := 6) (dk dt_X12_send 4 rfl) (tgt := 27) rfl ⟨fun _ => ?_, fun c => absurd c (by decide)⟩
    refine a_iconst (pc := 27) (dk dt_X12_send 13 rfl) (ik rfl) ?_
    exact a_iret (pc := 28) (dk dt_X12_send 14 rfl) rfl rfl H
  · replace H := H.2 c
    refine a_iload_n (pc := 5) (dk dt_X12_is 3 rfl) rfl ?_
    refine a_iload_n (pc := 6) (dk dt_X12_is 4 rfl) rfl ?_
    refine a_icmp_gt (pc := 7) (dk dt_X12_is 5 rfl) (tgt := 14) rfl ⟨fun c => ?_, fun c => ?_⟩
    · replace H := H.1 c
      refine a_iconst (pc := 14) (dk dt_X12_is 8 rfl) (ik rfl) ?_
      refine a_zret (pc := 15) (dk dt_X12_is 9 rfl) rfl rfl ⟨by decide, ?_⟩
      show ATW _ _ _ _ _ _ _ _ _ _
      refine a_if_eq (pc := 6) (dk dt_X12_send 4 rfl) (tgt := 27) rfl ⟨fun _ => ?_, fun c => absurd c (by decide)⟩
      refine a_iconst (pc := 27) (dk dt_X12_send 13 rfl) (ik rfl) ?_
      exact a_iret (pc := 28) (dk dt_X12_send 14 rfl) rfl rfl H
    · replace H := H.2 c
      refine a_iconst (pc := 10) (dk dt_X12_is 6 rfl) (ik rfl) ?_
      refine a_goto (pc := 11) (dk dt_X12_is 7 rfl) (tgt := 15) rfl ?_
      refine a_zret (pc := 15) (dk dt_X12_is 9 rfl) rfl rfl ⟨by decide, ?_⟩
      show ATW _ _ _ _ _ _ _ _ _ _
      refine a_if_eq (pc := 6) (dk dt_X12_send 4 rfl) (tgt := 27) rfl ⟨fun c => absurd c (by decide), fun _ => ?_⟩
      refine a_aload_n (pc := 9) (dk dt_X12_send 5 rfl) rfl ?_
      refine a_geti (pc := 10) (dk dt_X12_send 6 rfl) cls_12 fl_RX12_569 cf_85_89 ?_
      refine a_aload_n (pc := 13) (dk dt_X12_send 7 rfl) rfl ?_
      refine a_geti (pc := 14) (dk dt_X12_send 8 rfl) cls_12 fl_RX12_578 cf_85_88 ?_
      refine a_icmp_eq (pc := 17) (dk dt_X12_send 9 rfl) (tgt := 27) rfl ⟨fun c => ?_, fun c => ?_⟩
      · replace H := H.1 c
        refine a_iconst (pc := 27) (dk dt_X12_send 13 rfl) (ik rfl) ?_
        exact a_iret (pc := 28) (dk dt_X12_send 14 rfl) rfl rfl H
      · replace H := H.2 c
        refine a_aload_n (pc := 20) (dk dt_X12_send 10 rfl) rfl ?_
        refine a_callVi (as := []) (st := []) (pc := 21) (dk dt_X12_send 11 rfl) cl_RX12_471 ⟨Nat.le_of_ble_eq_true rfl, Nat.le_of_ble_eq_true rfl⟩ ⟨Nat.le_of_ble_eq_true rfl, Nat.le_of_ble_eq_true rfl⟩ cls_12 rfl cc_85 rfl rfl rfl (Nat.le_of_ble_eq_true rfl) (Call.mono H fun r1 h2 H => ?_)
        refine a_if_ne (pc := 24) (dk dt_X12_send 12 rfl) (tgt := 29) rfl ⟨fun c => ?_, fun c => ?_⟩
        · replace H := H.1 c
          refine a_aload_n (pc := 29) (dk dt_X12_send 15 rfl) rfl ?_
          refine a_geti (pc := 30) (dk dt_X12_send 16 rfl) cls_12 fl_RX12_569 cf_85_89 ?_
          refine a_istore_n (pc := 33) (dk dt_X12_send 17 rfl) (by decide) rfl rfl ?_
          refine a_aload_n (pc := 34) (dk dt_X12_send 18 rfl) rfl ?_
          refine a_dup (pc := 35) (dk dt_X12_send 19 rfl) rfl ?_
          refine a_geti (pc := 36) (dk dt_X12_send 20 rfl) cls_12 fl_RX12_569 cf_85_89 ?_
          refine a_iconst (pc := 39) (dk dt_X12_send 21 rfl) (ik rfl) ?_
          refine a_iadd (pc := 40) (dk dt_X12_send 22 rfl) ?_
          refine a_puti (pc := 41) (dk dt_X12_send 23 rfl) cls_12 fl_RX12_569 cf_85_89 rfl rfl ?_
          refine a_iload_n (pc := 44) (dk dt_X12_send 24 rfl) rfl ?_
          refine a_iconst (pc := 45) (dk dt_X12_send 25 rfl) (ik rfl) ?_
          refine a_icmp_ne (pc := 46) (dk dt_X12_send 26 rfl) (tgt := 51) rfl ⟨fun c => ?_, fun c => ?_⟩
          · replace H := H.1 c
            refine a_aload_n (pc := 51) (dk dt_X12_send 29 rfl) rfl ?_
            refine a_getr (r := 142) (pc := 52) (dk dt_X12_send 30 rfl) cls_12 fl_RX12_259 cf_85_94 ?_
            refine a_iload_n (pc := 55) (dk dt_X12_send 31 rfl) rfl ?_
            refine a_iald (pc := 56) (dk dt_X12_send 32 rfl) ar_143 ⟨H.1, ?_⟩
            replace H := H.2
            refine a_top (y := (h2 143 (h2 85 89))) (by simp [up, cpy]) ?_
            refine a_aload_n (pc := 57) (dk dt_X12_send 33 rfl) rfl ?_
            refine a_geti (pc := 58) (dk dt_X12_send 34 rfl) cls_12 fl_RX12_520 cf_85_81 ?_
            refine a_top (y := (h2 85 81)) (by simp [up, cpy]) ?_
            refine a_icmp_eq (pc := 61) (dk dt_X12_send 35 rfl) (tgt := 71) rfl ⟨fun c => ?_, fun c => ?_⟩
            · replace H := H.1 c
              refine a_aload_n (pc := 71) (dk dt_X12_send 41 rfl) rfl ?_
              refine a_aload_n (pc := 72) (dk dt_X12_send 42 rfl) rfl ?_
              refine a_geti (pc := 73) (dk dt_X12_send 43 rfl) cls_12 fl_RX12_520 cf_85_81 ?_
              refine a_top (y := (h2 85 81)) (by simp [up, cpy]) ?_
              refine a_iconst (pc := 76) (dk dt_X12_send 44 rfl) (ik rfl) ?_
              refine a_iadd (pc := 77) (dk dt_X12_send 45 rfl) ?_
              refine a_sipush (pc := 78) (dk dt_X12_send 46 rfl) (ik rfl) (spk rfl) ?_
              refine a_iand (pc := 81) (dk dt_X12_send 47 rfl) ?_
              refine a_puti (pc := 82) (dk dt_X12_send 48 rfl) cls_12 fl_RX12_520 cf_85_81 rfl rfl ?_
              refine a_aload_n (pc := 85) (dk dt_X12_send 49 rfl) rfl ?_
              refine a_iload_n (pc := 86) (dk dt_X12_send 50 rfl) rfl ?_
              refine a_iconst (pc := 87) (dk dt_X12_send 51 rfl) (ik rfl) ?_
              refine a_icmp_ne (pc := 88) (dk dt_X12_send 52 rfl) (tgt := 95) rfl ⟨fun c => ?_, fun c => ?_⟩
              · replace H := H.1 c
                refine a_iconst (pc := 95) (dk dt_X12_send 55 rfl) (ik rfl) ?_
                refine a_puti (pc := 96) (dk dt_X12_send 56 rfl) cls_12 fl_RX12_523 cf_85_80 rfl rfl ?_
                refine a_aload_n (pc := 99) (dk dt_X12_send 57 rfl) rfl ?_
                refine a_getr (r := 145) (pc := 100) (dk dt_X12_send 58 rfl) cls_12 fl_RX12_268 cf_85_97 ?_
                refine a_iload_n (pc := 103) (dk dt_X12_send 59 rfl) rfl ?_
                refine a_iald (pc := 104) (dk dt_X12_send 60 rfl) ar_146 ⟨H.1, ?_⟩
                replace H := H.2
                refine a_top (y := (h2 146 (h2 85 89))) (by simp [up, cpy]) ?_
                refine a_if_ne (pc := 105) (dk dt_X12_send 61 rfl) (tgt := 121) rfl ⟨fun c => ?_, fun c => ?_⟩
                · replace H := H.1 c
                  refine a_aload_n (pc := 121) (dk dt_X12_send 69 rfl) rfl ?_
                  refine a_getr (r := 145) (pc := 122) (dk dt_X12_send 70 rfl) cls_12 fl_RX12_268 cf_85_97 ?_
                  refine a_iload_n (pc := 125) (dk dt_X12_send 71 rfl) rfl ?_
                  refine a_iald (pc := 126) (dk dt_X12_send 72 rfl) ar_146 ⟨H.1, ?_⟩
                  replace H := H.2
                  refine a_top (y := (h2 146 (h2 85 89))) (by simp [up, cpy]) ?_
                  refine a_iconst (pc := 127) (dk dt_X12_send 73 rfl) (ik rfl) ?_
                  refine a_icmp_ne (pc := 128) (dk dt_X12_send 74 rfl) (tgt := 236) rfl ⟨fun c => ?_, fun c => ?_⟩
                  · replace H := H.1 c
                    refine a_aload_n (pc := 236) (dk dt_X12_send 140 rfl) rfl ?_
                    refine a_aload_n (pc := 237) (dk dt_X12_send 141 rfl) rfl ?_
                    refine a_getr (r := 143) (pc := 238) (dk dt_X12_send 142 rfl) cls_12 fl_RX12_262 cf_85_95 ?_
                    refine a_iload_n (pc := 241) (dk dt_X12_send 143 rfl) rfl ?_
                    refine a_iald (pc := 242) (dk dt_X12_send 144 rfl) ar_144 ⟨H.1, ?_⟩
                    replace H := H.2
                    refine a_top (y := (h2 144 (h2 85 89))) (by simp [up, cpy]) ?_
                    refine a_callVv (as := [iv (h2 144 (h2 85 89))]) (st := []) (pc := 243) (dk dt_X12_send 145 rfl) cl_RX12_587 ⟨Nat.le_of_ble_eq_true rfl, Nat.le_of_ble_eq_true rfl⟩ ⟨Nat.le_of_ble_eq_true rfl, Nat.le_of_ble_eq_true rfl⟩ cls_12 rfl cc_85 rfl rfl rfl (Nat.le_of_ble_eq_true rfl) (Call.mono H fun _ h4 H => ?_)
                    refine a_iconst (pc := 246) (dk dt_X12_send 146 rfl) (ik rfl) ?_
                    exact a_iret (pc := 247) (dk dt_X12_send 147 rfl) rfl rfl H
                  · replace H := H.2 c
                    refine a_bipush (pc := 131) (dk dt_X12_send 75 rfl) (ik rfl) (bpk rfl) ?_
                    refine a_aload_n (pc := 133) (dk dt_X12_send 76 rfl) rfl ?_
                    refine a_getr (r := 143) (pc := 134) (dk dt_X12_send 77 rfl) cls_12 fl_RX12_262 cf_85_95 ?_
                    refine a_iload_n (pc := 137) (dk dt_X12_send 78 rfl) rfl ?_
                    refine a_iald (pc := 138) (dk dt_X12_send 79 rfl) ar_144 ⟨H.1, ?_⟩
                    replace H := H.2
                    refine a_top (y := (h2 144 (h2 85 89))) (by simp [up, cpy]) ?_
                    refine a_imul (pc := 139) (dk dt_X12_send 80 rfl) ?_
                    refine a_aload_n (pc := 140) (dk dt_X12_send 81 rfl) rfl ?_
                    refine a_getr (r := 144) (pc := 141) (dk dt_X12_send 82 rfl) cls_12 fl_RX12_265 cf_85_96 ?_
                    refine a_iload_n (pc := 144) (dk dt_X12_send 83 rfl) rfl ?_
                    refine a_iald (pc := 145) (dk dt_X12_send 84 rfl) ar_145 ⟨H.1, ?_⟩
                    replace H := H.2
                    refine a_top (y := (h2 145 (h2 85 89))) (by simp [up, cpy]) ?_
                    refine a_iadd (pc := 146) (dk dt_X12_send 85 rfl) ?_
                    refine a_istore_n (pc := 147) (dk dt_X12_send 86 rfl) (by decide) rfl rfl ?_
                    refine a_sipush (pc := 148) (dk dt_X12_send 87 rfl) (ik rfl) (spk rfl) ?_
                    refine a_iload_n (pc := 151) (dk dt_X12_send 88 rfl) rfl ?_
                    refine a_iadd (pc := 152) (dk dt_X12_send 89 rfl) ?_
                    refine a_istore (pc := 153) (dk dt_X12_send 90 rfl) (by decide) rfl rfl ?_
                    refine a_aload_n (pc := 155) (dk dt_X12_send 91 rfl) rfl ?_
                    refine a_getr (r := 108) (pc := 156) (dk dt_X12_send 92 rfl) cls_12 fl_RX12_156 cf_85_42 ?_
                    refine a_iload_n (pc := 159) (dk dt_X12_send 93 rfl) rfl ?_
                    refine a_aload_n (pc := 160) (dk dt_X12_send 94 rfl) rfl ?_
                    refine a_getr (r := 102) (pc := 161) (dk dt_X12_send 95 rfl) cls_12 fl_RX12_138 cf_85_36 ?_
                    refine a_iload (pc := 164) (dk dt_X12_send 96 rfl) rfl ?_
                    refine a_iald (pc := 166) (dk dt_X12_send 97 rfl) ar_103 ⟨H.1, ?_⟩
                    replace H := H.2
                    refine a_top (y := (h2 103 (w32 (249 + (h2 85 89))))) (by simp [up, cpy]) ?_
                    refine a_iast (pc := 167) (dk dt_X12_send 98 rfl) ar_109 ⟨H.1, ?_⟩
                    replace H := H.2
                    refine a_aload_n (pc := 168) (dk dt_X12_send 99 rfl) rfl ?_
                    refine a_getr (r := 109) (pc := 169) (dk dt_X12_send 100 rfl) cls_12 fl_RX12_159 cf_85_43 ?_
                    refine a_iload_n (pc := 172) (dk dt_X12_send 101 rfl) rfl ?_
                    refine a_aload_n (pc := 173) (dk dt_X12_send 102 rfl) rfl ?_
                    refine a_getr (r := 103) (pc := 174) (dk dt_X12_send 103 rfl) cls_12 fl_RX12_141 cf_85_37 ?_
                    refine a_iload (pc := 177) (dk dt_X12_send 104 rfl) rfl ?_
                    refine a_iald (pc := 179) (dk dt_X12_send 105 rfl) ar_104 ⟨H.1, ?_⟩
                    replace H := H.2
                    refine a_top (y := (h2 104 (w32 (249 + (h2 85 89))))) (by simp [up, cpy]) ?_
                    refine a_iast (pc := 180) (dk dt_X12_send 106 rfl) ar_110 ⟨H.1, ?_⟩
                    replace H := H.2
                    refine a_aload_n (pc := 181) (dk dt_X12_send 107 rfl) rfl ?_
                    refine a_getr (r := 110) (pc := 182) (dk dt_X12_send 108 rfl) cls_12 fl_RX12_162 cf_85_44 ?_
                    refine a_iload_n (pc := 185) (dk dt_X12_send 109 rfl) rfl ?_
                    refine a_aload_n (pc := 186) (dk dt_X12_send 110 rfl) rfl ?_
                    refine a_getr (r := 104) (pc := 187) (dk dt_X12_send 111 rfl) cls_12 fl_RX12_144 cf_85_38 ?_
                    refine a_iload (pc := 190) (dk dt_X12_send 112 rfl) rfl ?_
                    refine a_iald (pc := 192) (dk dt_X12_send 113 rfl) ar_105 ⟨H.1, ?_⟩
                    replace H := H.2
                    refine a_top (y := (h2 105 (w32 (249 + (h2 85 89))))) (by simp [up, cpy]) ?_
                    refine a_iast (pc := 193) (dk dt_X12_send 114 rfl) ar_111 ⟨H.1, ?_⟩
                    replace H := H.2
                    refine a_aload_n (pc := 194) (dk dt_X12_send 115 rfl) rfl ?_
                    refine a_getr (r := 111) (pc := 195) (dk dt_X12_send 116 rfl) cls_12 fl_RX12_165 cf_85_45 ?_
                    refine a_iload_n (pc := 198) (dk dt_X12_send 117 rfl) rfl ?_
                    refine a_aload_n (pc := 199) (dk dt_X12_send 118 rfl) rfl ?_
                    refine a_getr (r := 105) (pc := 200) (dk dt_X12_send 119 rfl) cls_12 fl_RX12_147 cf_85_39 ?_
                    refine a_iload (pc := 203) (dk dt_X12_send 120 rfl) rfl ?_
                    refine a_iald (pc := 205) (dk dt_X12_send 121 rfl) ar_106 ⟨H.1, ?_⟩
                    replace H := H.2
                    refine a_top (y := (h2 106 (w32 (249 + (h2 85 89))))) (by simp [up, cpy]) ?_
                    refine a_iast (pc := 206) (dk dt_X12_send 122 rfl) ar_112 ⟨H.1, ?_⟩
                    replace H := H.2
                    refine a_aload_n (pc := 207) (dk dt_X12_send 123 rfl) rfl ?_
                    refine a_getr (r := 112) (pc := 208) (dk dt_X12_send 124 rfl) cls_12 fl_RX12_168 cf_85_46 ?_
                    refine a_iload_n (pc := 211) (dk dt_X12_send 125 rfl) rfl ?_
                    refine a_aload_n (pc := 212) (dk dt_X12_send 126 rfl) rfl ?_
                    refine a_getr (r := 106) (pc := 213) (dk dt_X12_send 127 rfl) cls_12 fl_RX12_150 cf_85_40 ?_
                    refine a_iload (pc := 216) (dk dt_X12_send 128 rfl) rfl ?_
                    refine a_iald (pc := 218) (dk dt_X12_send 129 rfl) ar_107 ⟨H.1, ?_⟩
                    replace H := H.2
                    refine a_top (y := (h2 107 (w32 (249 + (h2 85 89))))) (by simp [up, cpy]) ?_
                    refine a_iast (pc := 219) (dk dt_X12_send 130 rfl) ar_113 ⟨H.1, ?_⟩
                    replace H := H.2
                    refine a_aload_n (pc := 220) (dk dt_X12_send 131 rfl) rfl ?_
                    refine a_getr (r := 113) (pc := 221) (dk dt_X12_send 132 rfl) cls_12 fl_RX12_171 cf_85_47 ?_
                    refine a_iload_n (pc := 224) (dk dt_X12_send 133 rfl) rfl ?_
                    refine a_aload_n (pc := 225) (dk dt_X12_send 134 rfl) rfl ?_
                    refine a_getr (r := 107) (pc := 226) (dk dt_X12_send 135 rfl) cls_12 fl_RX12_153 cf_85_41 ?_
                    refine a_iload (pc := 229) (dk dt_X12_send 136 rfl) rfl ?_
                    refine a_iald (pc := 231) (dk dt_X12_send 137 rfl) ar_108 ⟨H.1, ?_⟩
                    replace H := H.2
                    refine a_top (y := (h2 108 (w32 (249 + (h2 85 89))))) (by simp [up, cpy]) ?_
                    refine a_iast (pc := 232) (dk dt_X12_send 138 rfl) ar_114 ⟨H.1, ?_⟩
                    replace H := H.2
                    refine a_goto (pc := 233) (dk dt_X12_send 139 rfl) (tgt := 246) rfl ?_
                    refine a_iconst (pc := 246) (dk dt_X12_send 146 rfl) (ik rfl) ?_
                    exact a_iret (pc := 247) (dk dt_X12_send 147 rfl) rfl rfl H
                · replace H := H.2 c
                  refine a_aload_n (pc := 108) (dk dt_X12_send 62 rfl) rfl ?_
                  refine a_sipush (pc := 109) (dk dt_X12_send 63 rfl) (ik rfl) (spk rfl) ?_
                  refine a_iload_n (pc := 112) (dk dt_X12_send 64 rfl) rfl ?_
                  refine a_iadd (pc := 113) (dk dt_X12_send 65 rfl) ?_
                  refine a_callVi (as := [iv (w32 (249 + (h2 85 89)))]) (st := []) (pc := 114) (dk dt_X12_send 66 rfl) cl_RX12_492 ⟨Nat.le_of_ble_eq_true rfl, Nat.le_of_ble_eq_true rfl⟩ ⟨Nat.le_of_ble_eq_true rfl, Nat.le_of_ble_eq_true rfl⟩ cls_12 rfl cc_85 rfl rfl rfl (Nat.le_of_ble_eq_true rfl) (Call.mono H fun r5 h6 H => ?_)
                  refine a_pop (pc := 117) (dk dt_X12_send 67 rfl) rfl ?_
                  refine a_goto (pc := 118) (dk dt_X12_send 68 rfl) (tgt := 246) rfl ?_
                  refine a_iconst (pc := 246) (dk dt_X12_send 146 rfl) (ik rfl) ?_
                  exact a_iret (pc := 247) (dk dt_X12_send 147 rfl) rfl rfl H
              · replace H := H.2 c
                refine a_iconst (pc := 91) (dk dt_X12_send 53 rfl) (ik rfl) ?_
                refine a_goto (pc := 92) (dk dt_X12_send 54 rfl) (tgt := 96) rfl ?_
                refine a_puti (pc := 96) (dk dt_X12_send 56 rfl) cls_12 fl_RX12_523 cf_85_80 rfl rfl ?_
                refine a_aload_n (pc := 99) (dk dt_X12_send 57 rfl) rfl ?_
                refine a_getr (r := 145) (pc := 100) (dk dt_X12_send 58 rfl) cls_12 fl_RX12_268 cf_85_97 ?_
                refine a_iload_n (pc := 103) (dk dt_X12_send 59 rfl) rfl ?_
                refine a_iald (pc := 104) (dk dt_X12_send 60 rfl) ar_146 ⟨H.1, ?_⟩
                replace H := H.2
                refine a_top (y := (h2 146 (h2 85 89))) (by simp [up, cpy]) ?_
                refine a_if_ne (pc := 105) (dk dt_X12_send 61 rfl) (tgt := 121) rfl ⟨fun c => ?_, fun c => ?_⟩
                · replace H := H.1 c
                  refine a_aload_n (pc := 121) (dk dt_X12_send 69 rfl) rfl ?_
                  refine a_getr (r := 145) (pc := 122) (dk dt_X12_send 70 rfl) cls_12 fl_RX12_268 cf_85_97 ?_
                  refine a_iload_n (pc := 125) (dk dt_X12_send 71 rfl) rfl ?_
                  refine a_iald (pc := 126) (dk dt_X12_send 72 rfl) ar_146 ⟨H.1, ?_⟩
                  replace H := H.2
                  refine a_top (y := (h2 146 (h2 85 89))) (by simp [up, cpy]) ?_
                  refine a_iconst (pc := 127) (dk dt_X12_send 73 rfl) (ik rfl) ?_
                  refine a_icmp_ne (pc := 128) (dk dt_X12_send 74 rfl) (tgt := 236) rfl ⟨fun c => ?_, fun c => ?_⟩
                  · replace H := H.1 c
                    refine a_aload_n (pc := 236) (dk dt_X12_send 140 rfl) rfl ?_
                    refine a_aload_n (pc := 237) (dk dt_X12_send 141 rfl) rfl ?_
                    refine a_getr (r := 143) (pc := 238) (dk dt_X12_send 142 rfl) cls_12 fl_RX12_262 cf_85_95 ?_
                    refine a_iload_n (pc := 241) (dk dt_X12_send 143 rfl) rfl ?_
                    refine a_iald (pc := 242) (dk dt_X12_send 144 rfl) ar_144 ⟨H.1, ?_⟩
                    replace H := H.2
                    refine a_top (y := (h2 144 (h2 85 89))) (by simp [up, cpy]) ?_
                    refine a_callVv (as := [iv (h2 144 (h2 85 89))]) (st := []) (pc := 243) (dk dt_X12_send 145 rfl) cl_RX12_587 ⟨Nat.le_of_ble_eq_true rfl, Nat.le_of_ble_eq_true rfl⟩ ⟨Nat.le_of_ble_eq_true rfl, Nat.le_of_ble_eq_true rfl⟩ cls_12 rfl cc_85 rfl rfl rfl (Nat.le_of_ble_eq_true rfl) (Call.mono H fun _ h8 H => ?_)
                    refine a_iconst (pc := 246) (dk dt_X12_send 146 rfl) (ik rfl) ?_
                    exact a_iret (pc := 247) (dk dt_X12_send 147 rfl) rfl rfl H
                  · replace H := H.2 c
                    refine a_bipush (pc := 131) (dk dt_X12_send 75 rfl) (ik rfl) (bpk rfl) ?_
                    refine a_aload_n (pc := 133) (dk dt_X12_send 76 rfl) rfl ?_
                    refine a_getr (r := 143) (pc := 134) (dk dt_X12_send 77 rfl) cls_12 fl_RX12_262 cf_85_95 ?_
                    refine a_iload_n (pc := 137) (dk dt_X12_send 78 rfl) rfl ?_
                    refine a_iald (pc := 138) (dk dt_X12_send 79 rfl) ar_144 ⟨H.1, ?_⟩
                    replace H := H.2
                    refine a_top (y := (h2 144 (h2 85 89))) (by simp [up, cpy]) ?_
                    refine a_imul (pc := 139) (dk dt_X12_send 80 rfl) ?_
                    refine a_aload_n (pc := 140) (dk dt_X12_send 81 rfl) rfl ?_
                    refine a_getr (r := 144) (pc := 141) (dk dt_X12_send 82 rfl) cls_12 fl_RX12_265 cf_85_96 ?_
                    refine a_iload_n (pc := 144) (dk dt_X12_send 83 rfl) rfl ?_
                    refine a_iald (pc := 145) (dk dt_X12_send 84 rfl) ar_145 ⟨H.1, ?_⟩
                    replace H := H.2
                    refine a_top (y := (h2 145 (h2 85 89))) (by simp [up, cpy]) ?_
                    refine a_iadd (pc := 146) (dk dt_X12_send 85 rfl) ?_
                    refine a_istore_n (pc := 147) (dk dt_X12_send 86 rfl) (by decide) rfl rfl ?_
                    refine a_sipush (pc := 148) (dk dt_X12_send 87 rfl) (ik rfl) (spk rfl) ?_
                    refine a_iload_n (pc := 151) (dk dt_X12_send 88 rfl) rfl ?_
                    refine a_iadd (pc := 152) (dk dt_X12_send 89 rfl) ?_
                    refine a_istore (pc := 153) (dk dt_X12_send 90 rfl) (by decide) rfl rfl ?_
                    refine a_aload_n (pc := 155) (dk dt_X12_send 91 rfl) rfl ?_
                    refine a_getr (r := 108) (pc := 156) (dk dt_X12_send 92 rfl) cls_12 fl_RX12_156 cf_85_42 ?_
                    refine a_iload_n (pc := 159) (dk dt_X12_send 93 rfl) rfl ?_
                    refine a_aload_n (pc := 160) (dk dt_X12_send 94 rfl) rfl ?_
                    refine a_getr (r := 102) (pc := 161) (dk dt_X12_send 95 rfl) cls_12 fl_RX12_138 cf_85_36 ?_
                    refine a_iload (pc := 164) (dk dt_X12_send 96 rfl) rfl ?_
                    refine a_iald (pc := 166) (dk dt_X12_send 97 rfl) ar_103 ⟨H.1, ?_⟩
                    replace H := H.2
                    refine a_top (y := (h2 103 (w32 (249 + (h2 85 89))))) (by simp [up, cpy]) ?_
                    refine a_iast (pc := 167) (dk dt_X12_send 98 rfl) ar_109 ⟨H.1, ?_⟩
                    replace H := H.2
                    refine a_aload_n (pc := 168) (dk dt_X12_send 99 rfl) rfl ?_
                    refine a_getr (r := 109) (pc := 169) (dk dt_X12_send 100 rfl) cls_12 fl_RX12_159 cf_85_43 ?_
                    refine a_iload_n (pc := 172) (dk dt_X12_send 101 rfl) rfl ?_
                    refine a_aload_n (pc := 173) (dk dt_X12_send 102 rfl) rfl ?_
                    refine a_getr (r := 103) (pc := 174) (dk dt_X12_send 103 rfl) cls_12 fl_RX12_141 cf_85_37 ?_
                    refine a_iload (pc := 177) (dk dt_X12_send 104 rfl) rfl ?_
                    refine a_iald (pc := 179) (dk dt_X12_send 105 rfl) ar_104 ⟨H.1, ?_⟩
                    replace H := H.2
                    refine a_top (y := (h2 104 (w32 (249 + (h2 85 89))))) (by simp [up, cpy]) ?_
                    refine a_iast (pc := 180) (dk dt_X12_send 106 rfl) ar_110 ⟨H.1, ?_⟩
                    replace H := H.2
                    refine a_aload_n (pc := 181) (dk dt_X12_send 107 rfl) rfl ?_
                    refine a_getr (r := 110) (pc := 182) (dk dt_X12_send 108 rfl) cls_12 fl_RX12_162 cf_85_44 ?_
                    refine a_iload_n (pc := 185) (dk dt_X12_send 109 rfl) rfl ?_
                    refine a_aload_n (pc := 186) (dk dt_X12_send 110 rfl) rfl ?_
                    refine a_getr (r := 104) (pc := 187) (dk dt_X12_send 111 rfl) cls_12 fl_RX12_144 cf_85_38 ?_
                    refine a_iload (pc := 190) (dk dt_X12_send 112 rfl) rfl ?_
                    refine a_iald (pc := 192) (dk dt_X12_send 113 rfl) ar_105 ⟨H.1, ?_⟩
                    replace H := H.2
                    refine a_top (y := (h2 105 (w32 (249 + (h2 85 89))))) (by simp [up, cpy]) ?_
                    refine a_iast (pc := 193) (dk dt_X12_send 114 rfl) ar_111 ⟨H.1, ?_⟩
                    replace H := H.2
                    refine a_aload_n (pc := 194) (dk dt_X12_send 115 rfl) rfl ?_
                    refine a_getr (r := 111) (pc := 195) (dk dt_X12_send 116 rfl) cls_12 fl_RX12_165 cf_85_45 ?_
                    refine a_iload_n (pc := 198) (dk dt_X12_send 117 rfl) rfl ?_
                    refine a_aload_n (pc := 199) (dk dt_X12_send 118 rfl) rfl ?_
                    refine a_getr (r := 105) (pc := 200) (dk dt_X12_send 119 rfl) cls_12 fl_RX12_147 cf_85_39 ?_
                    refine a_iload (pc := 203) (dk dt_X12_send 120 rfl) rfl ?_
                    refine a_iald (pc := 205) (dk dt_X12_send 121 rfl) ar_106 ⟨H.1, ?_⟩
                    replace H := H.2
                    refine a_top (y := (h2 106 (w32 (249 + (h2 85 89))))) (by simp [up, cpy]) ?_
                    refine a_iast (pc := 206) (dk dt_X12_send 122 rfl) ar_112 ⟨H.1, ?_⟩
                    replace H := H.2
                    refine a_aload_n (pc := 207) (dk dt_X12_send 123 rfl) rfl ?_
                    refine a_getr (r := 112) (pc := 208) (dk dt_X12_send 124 rfl) cls_12 fl_RX12_168 cf_85_46 ?_
                    refine a_iload_n (pc := 211) (dk dt_X12_send 125 rfl) rfl ?_
                    refine a_aload_n (pc := 212) (dk dt_X12_send 126 rfl) rfl ?_
                    refine a_getr (r := 106) (pc := 213) (dk dt_X12_send 127 rfl) cls_12 fl_RX12_150 cf_85_40 ?_
                    refine a_iload (pc := 216) (dk dt_X12_send 128 rfl) rfl ?_
                    refine a_iald (pc := 218) (dk dt_X12_send 129 rfl) ar_107 ⟨H.1, ?_⟩
                    replace H := H.2
                    refine a_top (y := (h2 107 (w32 (249 + (h2 85 89))))) (by simp [up, cpy]) ?_
                    refine a_iast (pc := 219) (dk dt_X12_send 130 rfl) ar_113 ⟨H.1, ?_⟩
                    replace H := H.2
                    refine a_aload_n (pc := 220) (dk dt_X12_send 131 rfl) rfl ?_
                    refine a_getr (r := 113) (pc := 221) (dk dt_X12_send 132 rfl) cls_12 fl_RX12_171 cf_85_47 ?_
                    refine a_iload_n (pc := 224) (dk dt_X12_send 133 rfl) rfl ?_
                    refine a_aload_n (pc := 225) (dk dt_X12_send 134 rfl) rfl ?_
                    refine a_getr (r := 107) (pc := 226) (dk dt_X12_send 135 rfl) cls_12 fl_RX12_153 cf_85_41 ?_
                    refine a_iload (pc := 229) (dk dt_X12_send 136 rfl) rfl ?_
                    refine a_iald (pc := 231) (dk dt_X12_send 137 rfl) ar_108 ⟨H.1, ?_⟩
                    replace H := H.2
                    refine a_top (y := (h2 108 (w32 (249 + (h2 85 89))))) (by simp [up, cpy]) ?_
                    refine a_iast (pc := 232) (dk dt_X12_send 138 rfl) ar_114 ⟨H.1, ?_⟩
                    replace H := H.2
                    refine a_goto (pc := 233) (dk dt_X12_send 139 rfl) (tgt := 246) rfl ?_
                    refine a_iconst (pc := 246) (dk dt_X12_send 146 rfl) (ik rfl) ?_
                    exact a_iret (pc := 247) (dk dt_X12_send 147 rfl) rfl rfl H
                · replace H := H.2 c
                  refine a_aload_n (pc := 108) (dk dt_X12_send 62 rfl) rfl ?_
                  refine a_sipush (pc := 109) (dk dt_X12_send 63 rfl) (ik rfl) (spk rfl) ?_
                  refine a_iload_n (pc := 112) (dk dt_X12_send 64 rfl) rfl ?_
                  refine a_iadd (pc := 113) (dk dt_X12_send 65 rfl) ?_
                  refine a_callVi (as := [iv (w32 (249 + (h2 85 89)))]) (st := []) (pc := 114) (dk dt_X12_send 66 rfl) cl_RX12_492 ⟨Nat.le_of_ble_eq_true rfl, Nat.le_of_ble_eq_true rfl⟩ ⟨Nat.le_of_ble_eq_true rfl, Nat.le_of_ble_eq_true rfl⟩ cls_12 rfl cc_85 rfl rfl rfl (Nat.le_of_ble_eq_true rfl) (Call.mono H fun r9 h10 H => ?_)
                  refine a_pop (pc := 117) (dk dt_X12_send 67 rfl) rfl ?_
                  refine a_goto (pc := 118) (dk dt_X12_send 68 rfl) (tgt := 246) rfl ?_
                  refine a_iconst (pc := 246) (dk dt_X12_send 146 rfl) (ik rfl) ?_
                  exact a_iret (pc := 247) (dk dt_X12_send 147 rfl) rfl rfl H
            · replace H := H.2 c
              refine a_aload_n (pc := 64) (dk dt_X12_send 36 rfl) rfl ?_
              refine a_iconst (pc := 65) (dk dt_X12_send 37 rfl) (ik rfl) ?_
              refine a_puti (pc := 66) (dk dt_X12_send 38 rfl) cls_12 fl_RX12_523 cf_85_80 rfl rfl ?_
              refine a_iconst (pc := 69) (dk dt_X12_send 39 rfl) (ik rfl) ?_
              exact a_iret (pc := 70) (dk dt_X12_send 40 rfl) rfl rfl H
          · replace H := H.2 c
            refine a_iconst (pc := 49) (dk dt_X12_send 27 rfl) (ik rfl) ?_
            exact a_iret (pc := 50) (dk dt_X12_send 28 rfl) rfl rfl H
        · replace H := H.2 c
          refine a_iconst (pc := 27) (dk dt_X12_send 13 rfl) (ik rfl) ?_
          exact a_iret (pc := 28) (dk dt_X12_send 14 rfl) rfl rfl H
set_option maxHeartbeats 40000000 in
theorem U_X12_ground_85_0 {G : GG} {Φ : Int → Hp → Prop} {h : Hp} {x1 : Int} (H : (((x1 = 0) → Φ (h 85 82) h) ∧ ((x1 = 1) → Φ (h 85 83) h) ∧ ((x1 = 2) → Φ (h 85 87) h) ∧ ((x1 = 3) → Φ (h 85 88) h) ∧ ((x1 = 4) → Φ (w32 ((h 85 88) - (h 85 89))) h) ∧ ((x1 = 5) → Φ (h 85 90) h) ∧ (((x1 < 0 ∨ 5 < x1)) → Φ (-1) h))) : AT G m_X12_ground 0 [(0, rv 85), (1, iv x1)] [] h Φ := by
  refine a_iload_n (pc := 0) (dk dt_X12_ground 0 rfl) rfl ?_
  have B0 : (x1 = 0) → AT G m_X12_ground 40 [(0, rv 85), (1, iv x1)] [] h Φ := by
    intro c
    replace H := H.1 c
    refine a_aload_n (pc := 40) (dk dt_X12_ground 2 rfl) rfl ?_
    refine a_geti (pc := 41) (dk dt_X12_ground 3 rfl) cls_12 fl_RX12_557 cf_85_82 ?_
    exact a_iret (pc := 44) (dk dt_X12_ground 4 rfl) rfl rfl H
  have B1 : (x1 = 1) → AT G m_X12_ground 45 [(0, rv 85), (1, iv x1)] [] h Φ := by
    intro c
    replace H := H.2.1 c
    refine a_aload_n (pc := 45) (dk dt_X12_ground 5 rfl) rfl ?_
    refine a_geti (pc := 46) (dk dt_X12_ground 6 rfl) cls_12 fl_RX12_554 cf_85_83 ?_
    exact a_iret (pc := 49) (dk dt_X12_ground 7 rfl) rfl rfl H
  have B2 : (x1 = 2) → AT G m_X12_ground 50 [(0, rv 85), (1, iv x1)] [] h Φ := by
    intro c
    replace H := H.2.2.1 c
    refine a_aload_n (pc := 50) (dk dt_X12_ground 8 rfl) rfl ?_
    refine a_geti (pc := 51) (dk dt_X12_ground 9 rfl) cls_12 fl_RX12_575 cf_85_87 ?_
    exact a_iret (pc := 54) (dk dt_X12_ground 10 rfl) rfl rfl H
  have B3 : (x1 = 3) → AT G m_X12_ground 55 [(0, rv 85), (1, iv x1)] [] h Φ := by
    intro c
    replace H := H.2.2.2.1 c
    refine a_aload_n (pc := 55) (dk dt_X12_ground 11 rfl) rfl ?_
    refine a_geti (pc := 56) (dk dt_X12_ground 12 rfl) cls_12 fl_RX12_578 cf_85_88 ?_
    exact a_iret (pc := 59) (dk dt_X12_ground 13 rfl) rfl rfl H
  have B4 : (x1 = 4) → AT G m_X12_ground 60 [(0, rv 85), (1, iv x1)] [] h Φ := by
    intro c
    replace H := H.2.2.2.2.1 c
    refine a_aload_n (pc := 60) (dk dt_X12_ground 14 rfl) rfl ?_
    refine a_geti (pc := 61) (dk dt_X12_ground 15 rfl) cls_12 fl_RX12_578 cf_85_88 ?_
    refine a_aload_n (pc := 64) (dk dt_X12_ground 16 rfl) rfl ?_
    refine a_geti (pc := 65) (dk dt_X12_ground 17 rfl) cls_12 fl_RX12_569 cf_85_89 ?_
    refine a_isub (pc := 68) (dk dt_X12_ground 18 rfl) ?_
    exact a_iret (pc := 69) (dk dt_X12_ground 19 rfl) rfl rfl H
  have B5 : (x1 = 5) → AT G m_X12_ground 70 [(0, rv 85), (1, iv x1)] [] h Φ := by
    intro c
    replace H := H.2.2.2.2.2.1 c
    refine a_aload_n (pc := 70) (dk dt_X12_ground 20 rfl) rfl ?_
    refine a_geti (pc := 71) (dk dt_X12_ground 21 rfl) cls_12 fl_RX12_584 cf_85_90 ?_
    exact a_iret (pc := 74) (dk dt_X12_ground 22 rfl) rfl rfl H
  have BD : ((x1 < 0 ∨ 5 < x1)) → AT G m_X12_ground 75 [(0, rv 85), (1, iv x1)] [] h Φ := by
    intro c
    replace H := H.2.2.2.2.2.2 c
    refine a_iconst (pc := 75) (dk dt_X12_ground 23 rfl) (ik rfl) ?_
    exact a_iret (pc := 76) (dk dt_X12_ground 24 rfl) rfl rfl H
  exact a_tsw [40, 45, 50, 55, 60, 70] (pc := 1) (dk dt_X12_ground 1 rfl) (by decide) (dt := 75) rfl (by decide) ⟨⟨fun c => B0 (c), fun c => B1 (c), fun c => B2 (c), fun c => B3 (c), fun c => B4 (c), fun c => B5 (c), trivial⟩, fun c => BD (c)⟩
set_option maxHeartbeats 40000000 in
theorem U_X12_pass_85_0 {G : GG} {Φ : Int → Hp → Prop} {h : Hp} {x1 : Int} {x2 : Int} {x3 : Int} {x4 : Int} (H : ((x1 < 0 → Φ (-1) h) ∧ (0 ≤ x1 → ((3 < x1 → Φ (-1) h) ∧ (x1 ≤ 3 → ((x2 < 0 → Φ (-1) h) ∧ (0 ≤ x2 → ((99999 < x2 → Φ (-1) h) ∧ (x2 ≤ 99999 → ((x3 < 0 → Φ (-1) h) ∧ (0 ≤ x3 → ((99999 < x3 → Φ (-1) h) ∧ (x3 ≤ 99999 → ((x3 ≤ x2 → Φ (-1) h) ∧ (x2 < x3 → ((x4 < 1 → Φ (-1) h) ∧ (1 ≤ x4 → ((99 < x4 → Φ (-1) h) ∧ (x4 ≤ 99 → (((h 85 102) ≠ 12 → (0 ≤ (h 85 102) ∧ (h 85 102) < 12) ∧ (0 ≤ (h 85 102) ∧ (h 85 102) < 12) ∧ (0 ≤ (h 85 102) ∧ (h 85 102) < 12) ∧ (0 ≤ (h 85 102) ∧ (h 85 102) < 12) ∧ Φ (w32 ((w32 ((h 85 102) + 1)) - 1)) (up (up (up (up (up h 147 (h 85 102) x1) 148 (h 85 102) x2) 149 (h 85 102) x3) 150 (h 85 102) x4) 85 102 (w32 ((h 85 102) + 1)))) ∧ ((h 85 102) = 12 → Φ (-4) h))))))))))))))))))))) : AT G m_X12_pass 0 [(0, rv 85), (1, iv x1), (2, iv x2), (3, iv x3), (4, iv x4)] [] h Φ := by
  refine a_iload_n (pc := 0) (dk dt_X12_pass 0 rfl) rfl ?_
  refine a_iconst (pc := 1) (dk dt_X12_pass 1 rfl) (ik rfl) ?_
  refine a_iconst (pc := 2) (dk dt_X12_pass 2 rfl) (ik rfl) ?_
  refine a_callSi (as := [iv x1, iv 0, iv 3]) (st := []) (pc := 3) (dk dt_X12_pass 3 rfl) cl_RX12_302 ⟨Nat.le_of_ble_eq_true rfl, Nat.le_of_ble_eq_true rfl⟩ ⟨Nat.le_of_ble_eq_true rfl, Nat.le_of_ble_eq_true rfl⟩ rfl rfl rfl (Nat.le_of_ble_eq_true rfl) (Call.of rfl (Nat.le_of_ble_eq_true rfl) rfl ?_)
  refine a_iload_n (pc := 0) (dk dt_X12_is 0 rfl) rfl ?_
  refine a_iload_n (pc := 1) (dk dt_X12_is 1 rfl) rfl ?_
  refine a_icmp_lt (pc := 2) (dk dt_X12_is 2 rfl) (tgt := 14) rfl ⟨fun c => ?_, fun c => ?_⟩
  · replace H := H.1 c
    refine a_iconst (pc := 14) (dk dt_X12_is 8 rfl) (ik rfl) ?_
    refine a_zret (pc := 15) (dk dt_X12_is 9 rfl) rfl rfl ⟨by decide, ?_⟩
    show ATW _ _ _ _ _ _ _ _ _ _
    refine a_if_eq (pc := 6) (dk dt_X12_pass 4 rfl) (tgt := 47) rfl ⟨fun _ => ?_, fun c => absurd c (by decide)⟩
    refine a_iconst (pc := 47) (dk dt_X12_pass 23 rfl) (ik rfl) ?_
    exact a_iret (pc := 48) (dk dt_X12_pass 24 rfl) rfl rfl H
  · replace H := H.2 c
    refine a_iload_n (pc := 5) (dk dt_X12_is 3 rfl) rfl ?_
    refine a_iload_n (pc := 6) (dk dt_X12_is 4 rfl) rfl ?_
    refine a_icmp_gt (pc := 7) (dk dt_X12_is 5 rfl) (tgt := 14) rfl ⟨fun c => ?_, fun c => ?_⟩
    · replace H := H.1 c
      refine a_iconst (pc := 14) (dk dt_X12_is 8 rfl) (ik rfl) ?_
      refine a_zret (pc := 15) (dk dt_X12_is 9 rfl) rfl rfl ⟨by decide, ?_⟩
      show ATW _ _ _ _ _ _ _ _ _ _
      refine a_if_eq (pc := 6) (dk dt_X12_pass 4 rfl) (tgt := 47) rfl ⟨fun _ => ?_, fun c => absurd c (by decide)⟩
      refine a_iconst (pc := 47) (dk dt_X12_pass 23 rfl) (ik rfl) ?_
      exact a_iret (pc := 48) (dk dt_X12_pass 24 rfl) rfl rfl H
    · replace H := H.2 c
      refine a_iconst (pc := 10) (dk dt_X12_is 6 rfl) (ik rfl) ?_
      refine a_goto (pc := 11) (dk dt_X12_is 7 rfl) (tgt := 15) rfl ?_
      refine a_zret (pc := 15) (dk dt_X12_is 9 rfl) rfl rfl ⟨by decide, ?_⟩
      show ATW _ _ _ _ _ _ _ _ _ _
      refine a_if_eq (pc := 6) (dk dt_X12_pass 4 rfl) (tgt := 47) rfl ⟨fun c => absurd c (by decide), fun _ => ?_⟩
      refine a_iload_n (pc := 9) (dk dt_X12_pass 5 rfl) rfl ?_
      refine a_iconst (pc := 10) (dk dt_X12_pass 6 rfl) (ik rfl) ?_
      refine a_ldcw (n := 99999) (pc := 11) (dk dt_X12_pass 7 rfl) (ik rfl) co_RX12_455 ?_
      refine a_callSi (as := [iv x2, iv 0, iv 99999]) (st := []) (pc := 14) (dk dt_X12_pass 8 rfl) cl_RX12_302 ⟨Nat.le_of_ble_eq_true rfl, Nat.le_of_ble_eq_true rfl⟩ ⟨Nat.le_of_ble_eq_true rfl, Nat.le_of_ble_eq_true rfl⟩ rfl rfl rfl (Nat.le_of_ble_eq_true rfl) (Call.of rfl (Nat.le_of_ble_eq_true rfl) rfl ?_)
      refine a_iload_n (pc := 0) (dk dt_X12_is 0 rfl) rfl ?_
      refine a_iload_n (pc := 1) (dk dt_X12_is 1 rfl) rfl ?_
      refine a_icmp_lt (pc := 2) (dk dt_X12_is 2 rfl) (tgt := 14) rfl ⟨fun c => ?_, fun c => ?_⟩
      · replace H := H.1 c
        refine a_iconst (pc := 14) (dk dt_X12_is 8 rfl) (ik rfl) ?_
        refine a_zret (pc := 15) (dk dt_X12_is 9 rfl) rfl rfl ⟨by decide, ?_⟩
        show ATW _ _ _ _ _ _ _ _ _ _
        refine a_if_eq (pc := 17) (dk dt_X12_pass 9 rfl) (tgt := 47) rfl ⟨fun _ => ?_, fun c => absurd c (by decide)⟩
        refine a_iconst (pc := 47) (dk dt_X12_pass 23 rfl) (ik rfl) ?_
        exact a_iret (pc := 48) (dk dt_X12_pass 24 rfl) rfl rfl H
      · replace H := H.2 c
        refine a_iload_n (pc := 5) (dk dt_X12_is 3 rfl) rfl ?_
        refine a_iload_n (pc := 6) (dk dt_X12_is 4 rfl) rfl ?_
        refine a_icmp_gt (pc := 7) (dk dt_X12_is 5 rfl) (tgt := 14) rfl ⟨fun c => ?_, fun c => ?_⟩
        · replace H := H.1 c
          refine a_iconst (pc := 14) (dk dt_X12_is 8 rfl) (ik rfl) ?_
          refine a_zret (pc := 15) (dk dt_X12_is 9 rfl) rfl rfl ⟨by decide, ?_⟩
          show ATW _ _ _ _ _ _ _ _ _ _
          refine a_if_eq (pc := 17) (dk dt_X12_pass 9 rfl) (tgt := 47) rfl ⟨fun _ => ?_, fun c => absurd c (by decide)⟩
          refine a_iconst (pc := 47) (dk dt_X12_pass 23 rfl) (ik rfl) ?_
          exact a_iret (pc := 48) (dk dt_X12_pass 24 rfl) rfl rfl H
        · replace H := H.2 c
          refine a_iconst (pc := 10) (dk dt_X12_is 6 rfl) (ik rfl) ?_
          refine a_goto (pc := 11) (dk dt_X12_is 7 rfl) (tgt := 15) rfl ?_
          refine a_zret (pc := 15) (dk dt_X12_is 9 rfl) rfl rfl ⟨by decide, ?_⟩
          show ATW _ _ _ _ _ _ _ _ _ _
          refine a_if_eq (pc := 17) (dk dt_X12_pass 9 rfl) (tgt := 47) rfl ⟨fun c => absurd c (by decide), fun _ => ?_⟩
          refine a_iload_n (pc := 20) (dk dt_X12_pass 10 rfl) rfl ?_
          refine a_iconst (pc := 21) (dk dt_X12_pass 11 rfl) (ik rfl) ?_
          refine a_ldcw (n := 99999) (pc := 22) (dk dt_X12_pass 12 rfl) (ik rfl) co_RX12_455 ?_
          refine a_callSi (as := [iv x3, iv 0, iv 99999]) (st := []) (pc := 25) (dk dt_X12_pass 13 rfl) cl_RX12_302 ⟨Nat.le_of_ble_eq_true rfl, Nat.le_of_ble_eq_true rfl⟩ ⟨Nat.le_of_ble_eq_true rfl, Nat.le_of_ble_eq_true rfl⟩ rfl rfl rfl (Nat.le_of_ble_eq_true rfl) (Call.of rfl (Nat.le_of_ble_eq_true rfl) rfl ?_)
          refine a_iload_n (pc := 0) (dk dt_X12_is 0 rfl) rfl ?_
          refine a_iload_n (pc := 1) (dk dt_X12_is 1 rfl) rfl ?_
          refine a_icmp_lt (pc := 2) (dk dt_X12_is 2 rfl) (tgt := 14) rfl ⟨fun c => ?_, fun c => ?_⟩
          · replace H := H.1 c
            refine a_iconst (pc := 14) (dk dt_X12_is 8 rfl) (ik rfl) ?_
            refine a_zret (pc := 15) (dk dt_X12_is 9 rfl) rfl rfl ⟨by decide, ?_⟩
            show ATW _ _ _ _ _ _ _ _ _ _
            refine a_if_eq (pc := 28) (dk dt_X12_pass 14 rfl) (tgt := 47) rfl ⟨fun _ => ?_, fun c => absurd c (by decide)⟩
            refine a_iconst (pc := 47) (dk dt_X12_pass 23 rfl) (ik rfl) ?_
            exact a_iret (pc := 48) (dk dt_X12_pass 24 rfl) rfl rfl H
          · replace H := H.2 c
            refine a_iload_n (pc := 5) (dk dt_X12_is 3 rfl) rfl ?_
            refine a_iload_n (pc := 6) (dk dt_X12_is 4 rfl) rfl ?_
            refine a_icmp_gt (pc := 7) (dk dt_X12_is 5 rfl) (tgt := 14) rfl ⟨fun c => ?_, fun c => ?_⟩
            · replace H := H.1 c
              refine a_iconst (pc := 14) (dk dt_X12_is 8 rfl) (ik rfl) ?_
              refine a_zret (pc := 15) (dk dt_X12_is 9 rfl) rfl rfl ⟨by decide, ?_⟩
              show ATW _ _ _ _ _ _ _ _ _ _
              refine a_if_eq (pc := 28) (dk dt_X12_pass 14 rfl) (tgt := 47) rfl ⟨fun _ => ?_, fun c => absurd c (by decide)⟩
              refine a_iconst (pc := 47) (dk dt_X12_pass 23 rfl) (ik rfl) ?_
              exact a_iret (pc := 48) (dk dt_X12_pass 24 rfl) rfl rfl H
            · replace H := H.2 c
              refine a_iconst (pc := 10) (dk dt_X12_is 6 rfl) (ik rfl) ?_
              refine a_goto (pc := 11) (dk dt_X12_is 7 rfl) (tgt := 15) rfl ?_
              refine a_zret (pc := 15) (dk dt_X12_is 9 rfl) rfl rfl ⟨by decide, ?_⟩
              show ATW _ _ _ _ _ _ _ _ _ _
              refine a_if_eq (pc := 28) (dk dt_X12_pass 14 rfl) (tgt := 47) rfl ⟨fun c => absurd c (by decide), fun _ => ?_⟩
              refine a_iload_n (pc := 31) (dk dt_X12_pass 15 rfl) rfl ?_
              refine a_iload_n (pc := 32) (dk dt_X12_pass 16 rfl) rfl ?_
              refine a_icmp_le (pc := 33) (dk dt_X12_pass 17 rfl) (tgt := 47) rfl ⟨fun c => ?_, fun c => ?_⟩
              · replace H := H.1 c
                refine a_iconst (pc := 47) (dk dt_X12_pass 23 rfl) (ik rfl) ?_
                exact a_iret (pc := 48) (dk dt_X12_pass 24 rfl) rfl rfl H
              · replace H := H.2 c
                refine a_iload (pc := 36) (dk dt_X12_pass 18 rfl) rfl ?_
                refine a_iconst (pc := 38) (dk dt_X12_pass 19 rfl) (ik rfl) ?_
                refine a_bipush (pc := 39) (dk dt_X12_pass 20 rfl) (ik rfl) (bpk rfl) ?_
                refine a_callSi (as := [iv x4, iv 1, iv 99]) (st := []) (pc := 41) (dk dt_X12_pass 21 rfl) cl_RX12_302 ⟨Nat.le_of_ble_eq_true rfl, Nat.le_of_ble_eq_true rfl⟩ ⟨Nat.le_of_ble_eq_true rfl, Nat.le_of_ble_eq_true rfl⟩ rfl rfl rfl (Nat.le_of_ble_eq_true rfl) (Call.of rfl (Nat.le_of_ble_eq_true rfl) rfl ?_)
                refine a_iload_n (pc := 0) (dk dt_X12_is 0 rfl) rfl ?_
                refine a_iload_n (pc := 1) (dk dt_X12_is 1 rfl) rfl ?_
                refine a_icmp_lt (pc := 2) (dk dt_X12_is 2 rfl) (tgt := 14) rfl ⟨fun c => ?_, fun c => ?_⟩
                · replace H := H.1 c
                  refine a_iconst (pc := 14) (dk dt_X12_is 8 rfl) (ik rfl) ?_
                  refine a_zret (pc := 15) (dk dt_X12_is 9 rfl) rfl rfl ⟨by decide, ?_⟩
                  show ATW _ _ _ _ _ _ _ _ _ _
                  refine a_if_ne (pc := 44) (dk dt_X12_pass 22 rfl) (tgt := 49) rfl ⟨fun c => absurd c (by decide), fun _ => ?_⟩
                  refine a_iconst (pc := 47) (dk dt_X12_pass 23 rfl) (ik rfl) ?_
                  exact a_iret (pc := 48) (dk dt_X12_pass 24 rfl) rfl rfl H
                · replace H := H.2 c
                  refine a_iload_n (pc := 5) (dk dt_X12_is 3 rfl) rfl ?_
                  refine a_iload_n (pc := 6) (dk dt_X12_is 4 rfl) rfl ?_
                  refine a_icmp_gt (pc := 7) (dk dt_X12_is 5 rfl) (tgt := 14) rfl ⟨fun c => ?_, fun c => ?_⟩
                  · replace H := H.1 c
                    refine a_iconst (pc := 14) (dk dt_X12_is 8 rfl) (ik rfl) ?_
                    refine a_zret (pc := 15) (dk dt_X12_is 9 rfl) rfl rfl ⟨by decide, ?_⟩
                    show ATW _ _ _ _ _ _ _ _ _ _
                    refine a_if_ne (pc := 44) (dk dt_X12_pass 22 rfl) (tgt := 49) rfl ⟨fun c => absurd c (by decide), fun _ => ?_⟩
                    refine a_iconst (pc := 47) (dk dt_X12_pass 23 rfl) (ik rfl) ?_
                    exact a_iret (pc := 48) (dk dt_X12_pass 24 rfl) rfl rfl H
                  · replace H := H.2 c
                    refine a_iconst (pc := 10) (dk dt_X12_is 6 rfl) (ik rfl) ?_
                    refine a_goto (pc := 11) (dk dt_X12_is 7 rfl) (tgt := 15) rfl ?_
                    refine a_zret (pc := 15) (dk dt_X12_is 9 rfl) rfl rfl ⟨by decide, ?_⟩
                    show ATW _ _ _ _ _ _ _ _ _ _
                    refine a_if_ne (pc := 44) (dk dt_X12_pass 22 rfl) (tgt := 49) rfl ⟨fun _ => ?_, fun c => absurd c (by decide)⟩
                    refine a_aload_n (pc := 49) (dk dt_X12_pass 25 rfl) rfl ?_
                    refine a_geti (pc := 50) (dk dt_X12_pass 26 rfl) cls_12 fl_RX12_589 cf_85_102 ?_
                    refine a_bipush (pc := 53) (dk dt_X12_pass 27 rfl) (ik rfl) (bpk rfl) ?_
                    refine a_icmp_ne (pc := 55) (dk dt_X12_pass 28 rfl) (tgt := 61) rfl ⟨fun c => ?_, fun c => ?_⟩
                    · replace H := H.1 c
                      refine a_aload_n (pc := 61) (dk dt_X12_pass 31 rfl) rfl ?_
                      refine a_getr (r := 146) (pc := 62) (dk dt_X12_pass 32 rfl) cls_12 fl_RX12_271 cf_85_98 ?_
                      refine a_aload_n (pc := 65) (dk dt_X12_pass 33 rfl) rfl ?_
                      refine a_geti (pc := 66) (dk dt_X12_pass 34 rfl) cls_12 fl_RX12_589 cf_85_102 ?_
                      refine a_iload_n (pc := 69) (dk dt_X12_pass 35 rfl) rfl ?_
                      refine a_iast (pc := 70) (dk dt_X12_pass 36 rfl) ar_147 ⟨H.1, ?_⟩
                      replace H := H.2
                      refine a_aload_n (pc := 71) (dk dt_X12_pass 37 rfl) rfl ?_
                      refine a_getr (r := 147) (pc := 72) (dk dt_X12_pass 38 rfl) cls_12 fl_RX12_274 cf_85_99 ?_
                      refine a_aload_n (pc := 75) (dk dt_X12_pass 39 rfl) rfl ?_
                      refine a_geti (pc := 76) (dk dt_X12_pass 40 rfl) cls_12 fl_RX12_589 cf_85_102 ?_
                      refine a_top (y := (h 85 102)) (by simp [up, cpy]) ?_
                      refine a_iload_n (pc := 79) (dk dt_X12_pass 41 rfl) rfl ?_
                      refine a_iast (pc := 80) (dk dt_X12_pass 42 rfl) ar_148 ⟨H.1, ?_⟩
                      replace H := H.2
                      refine a_aload_n (pc := 81) (dk dt_X12_pass 43 rfl) rfl ?_
                      refine a_getr (r := 148) (pc := 82) (dk dt_X12_pass 44 rfl) cls_12 fl_RX12_277 cf_85_100 ?_
                      refine a_aload_n (pc := 85) (dk dt_X12_pass 45 rfl) rfl ?_
                      refine a_geti (pc := 86) (dk dt_X12_pass 46 rfl) cls_12 fl_RX12_589 cf_85_102 ?_
                      refine a_top (y := (h 85 102)) (by simp [up, cpy]) ?_
                      refine a_iload_n (pc := 89) (dk dt_X12_pass 47 rfl) rfl ?_
                      refine a_iast (pc := 90) (dk dt_X12_pass 48 rfl) ar_149 ⟨H.1, ?_⟩
                      replace H := H.2
                      refine a_aload_n (pc := 91) (dk dt_X12_pass 49 rfl) rfl ?_
                      refine a_getr (r := 149) (pc := 92) (dk dt_X12_pass 50 rfl) cls_12 fl_RX12_280 cf_85_101 ?_
                      refine a_aload_n (pc := 95) (dk dt_X12_pass 51 rfl) rfl ?_
                      refine a_geti (pc := 96) (dk dt_X12_pass 52 rfl) cls_12 fl_RX12_589 cf_85_102 ?_
                      refine a_top (y := (h 85 102)) (by simp [up, cpy]) ?_
                      refine a_iload (pc := 99) (dk dt_X12_pass 53 rfl) rfl ?_
                      refine a_iast (pc := 101) (dk dt_X12_pass 54 rfl) ar_150 ⟨H.1, ?_⟩
                      replace H := H.2
                      refine a_aload_n (pc := 102) (dk dt_X12_pass 55 rfl) rfl ?_
                      refine a_dup (pc := 103) (dk dt_X12_pass 56 rfl) rfl ?_
                      refine a_geti (pc := 104) (dk dt_X12_pass 57 rfl) cls_12 fl_RX12_589 cf_85_102 ?_
                      refine a_top (y := (h 85 102)) (by simp [up, cpy]) ?_
                      refine a_iconst (pc := 107) (dk dt_X12_pass 58 rfl) (ik rfl) ?_
                      refine a_iadd (pc := 108) (dk dt_X12_pass 59 rfl) ?_
                      refine a_puti (pc := 109) (dk dt_X12_pass 60 rfl) cls_12 fl_RX12_589 cf_85_102 rfl rfl ?_
                      refine a_aload_n (pc := 112) (dk dt_X12_pass 61 rfl) rfl ?_
                      refine a_geti (pc := 113) (dk dt_X12_pass 62 rfl) cls_12 fl_RX12_589 cf_85_102 ?_
                      refine a_top (y := (w32 ((h 85 102) + 1))) (by simp [up, cpy]) ?_
                      refine a_iconst (pc := 116) (dk dt_X12_pass 63 rfl) (ik rfl) ?_
                      refine a_isub (pc := 117) (dk dt_X12_pass 64 rfl) ?_
                      exact a_iret (pc := 118) (dk dt_X12_pass 65 rfl) rfl rfl H
                    · replace H := H.2 c
                      refine a_bipush (pc := 58) (dk dt_X12_pass 29 rfl) (ik rfl) (bpk rfl) ?_
                      exact a_iret (pc := 60) (dk dt_X12_pass 30 rfl) rfl rfl H
set_option maxHeartbeats 40000000 in
theorem U_X12_gap_85_0 {G : GG} {Φ : Int → Hp → Prop} {h : Hp} {x1 : Int} (H : ((x1 < 0 → Φ (-1) h) ∧ (0 ≤ x1 → ((999 < x1 → Φ (-1) h) ∧ (x1 ≤ 999 → Φ (h 85 103) (up h 85 103 x1)))))) : AT G m_X12_gap 0 [(0, rv 85), (1, iv x1)] [] h Φ := by
  refine a_iload_n (pc := 0) (dk dt_X12_gap 0 rfl) rfl ?_
  refine a_iconst (pc := 1) (dk dt_X12_gap 1 rfl) (ik rfl) ?_
  refine a_sipush (pc := 2) (dk dt_X12_gap 2 rfl) (ik rfl) (spk rfl) ?_
  refine a_callSi (as := [iv x1, iv 0, iv 999]) (st := []) (pc := 5) (dk dt_X12_gap 3 rfl) cl_RX12_302 ⟨Nat.le_of_ble_eq_true rfl, Nat.le_of_ble_eq_true rfl⟩ ⟨Nat.le_of_ble_eq_true rfl, Nat.le_of_ble_eq_true rfl⟩ rfl rfl rfl (Nat.le_of_ble_eq_true rfl) (Call.of rfl (Nat.le_of_ble_eq_true rfl) rfl ?_)
  refine a_iload_n (pc := 0) (dk dt_X12_is 0 rfl) rfl ?_
  refine a_iload_n (pc := 1) (dk dt_X12_is 1 rfl) rfl ?_
  refine a_icmp_lt (pc := 2) (dk dt_X12_is 2 rfl) (tgt := 14) rfl ⟨fun c => ?_, fun c => ?_⟩
  · replace H := H.1 c
    refine a_iconst (pc := 14) (dk dt_X12_is 8 rfl) (ik rfl) ?_
    refine a_zret (pc := 15) (dk dt_X12_is 9 rfl) rfl rfl ⟨by decide, ?_⟩
    show ATW _ _ _ _ _ _ _ _ _ _
    refine a_if_ne (pc := 8) (dk dt_X12_gap 4 rfl) (tgt := 13) rfl ⟨fun c => absurd c (by decide), fun _ => ?_⟩
    refine a_iconst (pc := 11) (dk dt_X12_gap 5 rfl) (ik rfl) ?_
    exact a_iret (pc := 12) (dk dt_X12_gap 6 rfl) rfl rfl H
  · replace H := H.2 c
    refine a_iload_n (pc := 5) (dk dt_X12_is 3 rfl) rfl ?_
    refine a_iload_n (pc := 6) (dk dt_X12_is 4 rfl) rfl ?_
    refine a_icmp_gt (pc := 7) (dk dt_X12_is 5 rfl) (tgt := 14) rfl ⟨fun c => ?_, fun c => ?_⟩
    · replace H := H.1 c
      refine a_iconst (pc := 14) (dk dt_X12_is 8 rfl) (ik rfl) ?_
      refine a_zret (pc := 15) (dk dt_X12_is 9 rfl) rfl rfl ⟨by decide, ?_⟩
      show ATW _ _ _ _ _ _ _ _ _ _
      refine a_if_ne (pc := 8) (dk dt_X12_gap 4 rfl) (tgt := 13) rfl ⟨fun c => absurd c (by decide), fun _ => ?_⟩
      refine a_iconst (pc := 11) (dk dt_X12_gap 5 rfl) (ik rfl) ?_
      exact a_iret (pc := 12) (dk dt_X12_gap 6 rfl) rfl rfl H
    · replace H := H.2 c
      refine a_iconst (pc := 10) (dk dt_X12_is 6 rfl) (ik rfl) ?_
      refine a_goto (pc := 11) (dk dt_X12_is 7 rfl) (tgt := 15) rfl ?_
      refine a_zret (pc := 15) (dk dt_X12_is 9 rfl) rfl rfl ⟨by decide, ?_⟩
      show ATW _ _ _ _ _ _ _ _ _ _
      refine a_if_ne (pc := 8) (dk dt_X12_gap 4 rfl) (tgt := 13) rfl ⟨fun _ => ?_, fun c => absurd c (by decide)⟩
      refine a_aload_n (pc := 13) (dk dt_X12_gap 7 rfl) rfl ?_
      refine a_geti (pc := 14) (dk dt_X12_gap 8 rfl) cls_12 fl_RX12_283 cf_85_103 ?_
      refine a_istore_n (pc := 17) (dk dt_X12_gap 9 rfl) (by decide) rfl rfl ?_
      refine a_aload_n (pc := 18) (dk dt_X12_gap 10 rfl) rfl ?_
      refine a_iload_n (pc := 19) (dk dt_X12_gap 11 rfl) rfl ?_
      refine a_puti (pc := 20) (dk dt_X12_gap 12 rfl) cls_12 fl_RX12_283 cf_85_103 rfl rfl ?_
      refine a_iload_n (pc := 23) (dk dt_X12_gap 13 rfl) rfl ?_
      exact a_iret (pc := 24) (dk dt_X12_gap 14 rfl) rfl rfl H
