set_option maxHeartbeats 40000000 in
theorem U_X12_shift_85_0 {G : GG} {Φ : Int → Hp → Prop} {h : Hp} (H : AT G m_X12_shift 12 [(0, rv 85), (1, iv 0)] [] (up h 85 78 (w32 ((h 85 78) - 1))) Φ) : AT G m_X12_shift 0 [(0, rv 85)] [] h Φ := by
  refine a_aload_n (pc := 0) (dk dt_X12_shift 0 rfl) rfl ?_
  refine a_dup (pc := 1) (dk dt_X12_shift 1 rfl) rfl ?_
  refine a_geti (pc := 2) (dk dt_X12_shift 2 rfl) cls_12 fl_RX12_530 cf_85_78 ?_
  refine a_iconst (pc := 5) (dk dt_X12_shift 3 rfl) (ik rfl) ?_
  refine a_isub (pc := 6) (dk dt_X12_shift 4 rfl) ?_
  refine a_puti (pc := 7) (dk dt_X12_shift 5 rfl) cls_12 fl_RX12_530 cf_85_78 rfl rfl ?_
  refine a_iconst (pc := 10) (dk dt_X12_shift 6 rfl) (ik rfl) ?_
  refine a_istore_n (pc := 11) (dk dt_X12_shift 7 rfl) (by decide) rfl rfl ?_
  exact a_pick [0, 1] rfl H
set_option maxHeartbeats 40000000 in
theorem U_X12_shift_85_12 {G : GG} {Φ : Int → Hp → Prop} {h : Hp} {x1 : Int} (H : (((w32 (24 * (h 85 78))) ≤ x1 → Φ 0 h) ∧ (x1 < (w32 (24 * (h 85 78))) → (0 ≤ (w32 (x1 + 24)) ∧ (w32 (x1 + 24)) < 720) ∧ (0 ≤ x1 ∧ x1 < 720) ∧ AT G m_X12_shift 12 [(0, rv 85), (1, iv (w32 (x1 + 1)))] [] (up h 138 x1 (h 138 (w32 (x1 + 24)))) Φ))) : AT G m_X12_shift 12 [(0, rv 85), (1, iv x1)] [] h Φ := by
  refine a_iload_n (pc := 12) (dk dt_X12_shift 8 rfl) rfl ?_
  refine a_bipush (pc := 13) (dk dt_X12_shift 9 rfl) (ik rfl) (bpk rfl) ?_
  refine a_aload_n (pc := 15) (dk dt_X12_shift 10 rfl) rfl ?_
  refine a_geti (pc := 16) (dk dt_X12_shift 11 rfl) cls_12 fl_RX12_530 cf_85_78 ?_
  refine a_imul (pc := 19) (dk dt_X12_shift 12 rfl) ?_
  refine a_icmp_ge (pc := 20) (dk dt_X12_shift 13 rfl) (tgt := 44) rfl ⟨fun c => ?_, fun c => ?_⟩
  · replace H := H.1 c
    exact a_vret (pc := 44) (dk dt_X12_shift 26 rfl) rfl rfl H
  · replace H := H.2 c
    refine a_aload_n (pc := 23) (dk dt_X12_shift 14 rfl) rfl ?_
    refine a_getr (r := 137) (pc := 24) (dk dt_X12_shift 15 rfl) cls_12 fl_RX12_241 cf_85_76 ?_
    refine a_iload_n (pc := 27) (dk dt_X12_shift 16 rfl) rfl ?_
    refine a_aload_n (pc := 28) (dk dt_X12_shift 17 rfl) rfl ?_
    refine a_getr (r := 137) (pc := 29) (dk dt_X12_shift 18 rfl) cls_12 fl_RX12_241 cf_85_76 ?_
    refine a_iload_n (pc := 32) (dk dt_X12_shift 19 rfl) rfl ?_
    refine a_bipush (pc := 33) (dk dt_X12_shift 20 rfl) (ik rfl) (bpk rfl) ?_
    refine a_iadd (pc := 35) (dk dt_X12_shift 21 rfl) ?_
    refine a_iald (pc := 36) (dk dt_X12_shift 22 rfl) ar_138 ⟨H.1, ?_⟩
    replace H := H.2
    refine a_iast (pc := 37) (dk dt_X12_shift 23 rfl) ar_138 ⟨H.1, ?_⟩
    replace H := H.2
    refine a_iinc (pc := 38) (dk dt_X12_shift 24 rfl) (by decide) rfl rfl rfl ?_
    refine a_goto (pc := 41) (dk dt_X12_shift 25 rfl) (tgt := 12) rfl ?_
    exact a_pick [0, 1] rfl H
set_option maxHeartbeats 40000000 in
theorem U_X12_acknowledge_85_0 {G : GG} {Φ : Int → Hp → Prop} {h : Hp} {x1 : Int} (H : (((h 85 88) ≠ 0 → (((band (w32 (x1 - (h 143 0))) 255) ≤ (h 85 88) → AT G m_X12_acknowledge 32 [(0, rv 85), (2, iv (band (w32 (x1 - (h 143 0))) 255)), (3, iv (band (w32 (x1 - (h 143 0))) 255))] [] h Φ) ∧ ((h 85 88) < (band (w32 (x1 - (h 143 0))) 255) → Φ 0 h))) ∧ ((h 85 88) = 0 → Φ 0 h))) : AT G m_X12_acknowledge 0 [(0, rv 85), (1, iv x1)] [] h Φ := by
  refine a_aload_n (pc := 0) (dk dt_X12_acknowledge 0 rfl) rfl ?_
  refine a_geti (pc := 1) (dk dt_X12_acknowledge 1 rfl) cls_12 fl_RX12_578 cf_85_88 ?_
  refine a_if_ne (pc := 4) (dk dt_X12_acknowledge 2 rfl) (tgt := 8) rfl ⟨fun c => ?_, fun c => ?_⟩
  · replace H := H.1 c
    refine a_iload_n (pc := 8) (dk dt_X12_acknowledge 4 rfl) rfl ?_
    refine a_aload_n (pc := 9) (dk dt_X12_acknowledge 5 rfl) rfl ?_
    refine a_getr (r := 142) (pc := 10) (dk dt_X12_acknowledge 6 rfl) cls_12 fl_RX12_259 cf_85_94 ?_
    refine a_iconst (pc := 13) (dk dt_X12_acknowledge 7 rfl) (ik rfl) ?_
    refine a_iald (pc := 14) (dk dt_X12_acknowledge 8 rfl) ar_143 ⟨⟨by decide, by decide⟩, ?_⟩
    refine a_isub (pc := 15) (dk dt_X12_acknowledge 9 rfl) ?_
    refine a_sipush (pc := 16) (dk dt_X12_acknowledge 10 rfl) (ik rfl) (spk rfl) ?_
    refine a_iand (pc := 19) (dk dt_X12_acknowledge 11 rfl) ?_
    refine a_istore_n (pc := 20) (dk dt_X12_acknowledge 12 rfl) (by decide) rfl rfl ?_
    refine a_iload_n (pc := 21) (dk dt_X12_acknowledge 13 rfl) rfl ?_
    refine a_aload_n (pc := 22) (dk dt_X12_acknowledge 14 rfl) rfl ?_
    refine a_geti (pc := 23) (dk dt_X12_acknowledge 15 rfl) cls_12 fl_RX12_578 cf_85_88 ?_
    refine a_icmp_le (pc := 26) (dk dt_X12_acknowledge 16 rfl) (tgt := 30) rfl ⟨fun c => ?_, fun c => ?_⟩
    · replace H := H.1 c
      refine a_iload_n (pc := 30) (dk dt_X12_acknowledge 18 rfl) rfl ?_
      refine a_istore_n (pc := 31) (dk dt_X12_acknowledge 19 rfl) (by decide) rfl rfl ?_
      exact a_pick [0, 2, 3] rfl H
    · replace H := H.2 c
      exact a_vret (pc := 29) (dk dt_X12_acknowledge 17 rfl) rfl rfl H
  · replace H := H.2 c
    exact a_vret (pc := 7) (dk dt_X12_acknowledge 3 rfl) rfl rfl H
set_option maxHeartbeats 40000000 in
theorem U_X12_acknowledge_85_32 {G : GG} {Φ : Int → Hp → Prop} {h : Hp} {x2 : Int} {x3 : Int} (H : (((h 85 88) ≤ x3 → Φ 0 (up (up h 85 88 (w32 ((h 85 88) - x2))) 85 89 (imax 0 (w32 ((h 85 89) - x2))))) ∧ (x3 < (h 85 88) → Call G m_X12_copyLine [rv 85, iv (w32 (249 + x3)), iv (w32 ((w32 (249 + x3)) - x2))] h (fun _ h2 => (0 ≤ x3 ∧ x3 < 9) ∧ (0 ≤ (w32 (x3 - x2)) ∧ (w32 (x3 - x2)) < 9) ∧ (0 ≤ x3 ∧ x3 < 9) ∧ (0 ≤ (w32 (x3 - x2)) ∧ (w32 (x3 - x2)) < 9) ∧ (0 ≤ x3 ∧ x3 < 9) ∧ (0 ≤ (w32 (x3 - x2)) ∧ (w32 (x3 - x2)) < 9) ∧ (0 ≤ x3 ∧ x3 < 9) ∧ (0 ≤ (w32 (x3 - x2)) ∧ (w32 (x3 - x2)) < 9) ∧ AT G m_X12_acknowledge 32 [(0, rv 85), (2, iv x2), (3, iv (w32 (x3 + 1)))] [] (up (up (up (up h2 143 (w32 (x3 - x2)) (h2 143 x3)) 144 (w32 (x3 - x2)) (h2 144 x3)) 145 (w32 (x3 - x2)) (h2 145 x3)) 146 (w32 (x3 - x2)) (h2 146 x3)) Φ)))) : AT G m_X12_acknowledge 32 [(0, rv 85), (2, iv x2), (3, iv x3)] [] h Φ := by
  refine a_iload_n (pc := 32) (dk dt_X12_acknowledge 20 rfl) rfl ?_
  refine a_aload_n (pc := 33) (dk dt_X12_acknowledge 21 rfl) rfl ?_
  refine a_geti (pc := 34) (dk dt_X12_acknowledge 22 rfl) cls_12 fl_RX12_578 cf_85_88 ?_
  refine a_icmp_ge (pc := 37) (dk dt_X12_acknowledge 23 rfl) (tgt := 118) rfl ⟨fun c => ?_, fun c => ?_⟩
  · replace H := H.1 c
    refine a_aload_n (pc := 118) (dk dt_X12_acknowledge 76 rfl) rfl ?_
    refine a_dup (pc := 119) (dk dt_X12_acknowledge 77 rfl) rfl ?_
    refine a_geti (pc := 120) (dk dt_X12_acknowledge 78 rfl) cls_12 fl_RX12_578 cf_85_88 ?_
    refine a_iload_n (pc := 123) (dk dt_X12_acknowledge 79 rfl) rfl ?_
    refine a_isub (pc := 124) (dk dt_X12_acknowledge 80 rfl) ?_
    refine a_puti (pc := 125) (dk dt_X12_acknowledge 81 rfl) cls_12 fl_RX12_578 cf_85_88 rfl rfl ?_
    refine a_aload_n (pc := 128) (dk dt_X12_acknowledge 82 rfl) rfl ?_
    refine a_iconst (pc := 129) (dk dt_X12_acknowledge 83 rfl) (ik rfl) ?_
    refine a_aload_n (pc := 130) (dk dt_X12_acknowledge 84 rfl) rfl ?_
    refine a_geti (pc := 131) (dk dt_X12_acknowledge 85 rfl) cls_12 fl_RX12_569 cf_85_89 ?_
    refine a_top (y := (h 85 89)) (by simp [up, cpy]) ?_
    refine a_iload_n (pc := 134) (dk dt_X12_acknowledge 86 rfl) rfl ?_
    refine a_isub (pc := 135) (dk dt_X12_acknowledge 87 rfl) ?_
    refine a_mmax (pc := 136) (dk dt_X12_acknowledge 88 rfl) cl_RX12_581 ⟨Nat.le_of_ble_eq_true rfl, Nat.le_of_ble_eq_true rfl⟩ ⟨Nat.le_of_ble_eq_true rfl, Nat.le_of_ble_eq_true rfl⟩ ?_
    refine a_puti (pc := 139) (dk dt_X12_acknowledge 89 rfl) cls_12 fl_RX12_569 cf_85_89 rfl rfl ?_
    exact a_vret (pc := 142) (dk dt_X12_acknowledge 90 rfl) rfl rfl H
  · replace H := H.2 c
    refine a_aload_n (pc := 40) (dk dt_X12_acknowledge 24 rfl) rfl ?_
    refine a_sipush (pc := 41) (dk dt_X12_acknowledge 25 rfl) (ik rfl) (spk rfl) ?_
    refine a_iload_n (pc := 44) (dk dt_X12_acknowledge 26 rfl) rfl ?_
    refine a_iadd (pc := 45) (dk dt_X12_acknowledge 27 rfl) ?_
    refine a_sipush (pc := 46) (dk dt_X12_acknowledge 28 rfl) (ik rfl) (spk rfl) ?_
    refine a_iload_n (pc := 49) (dk dt_X12_acknowledge 29 rfl) rfl ?_
    refine a_iadd (pc := 50) (dk dt_X12_acknowledge 30 rfl) ?_
    refine a_iload_n (pc := 51) (dk dt_X12_acknowledge 31 rfl) rfl ?_
    refine a_isub (pc := 52) (dk dt_X12_acknowledge 32 rfl) ?_
    refine a_callVv (as := [iv (w32 (249 + x3)), iv (w32 ((w32 (249 + x3)) - x2))]) (st := []) (pc := 53) (dk dt_X12_acknowledge 33 rfl) cl_RX12_498 ⟨Nat.le_of_ble_eq_true rfl, Nat.le_of_ble_eq_true rfl⟩ ⟨Nat.le_of_ble_eq_true rfl, Nat.le_of_ble_eq_true rfl⟩ cls_12 rfl cc_85 rfl rfl rfl (Nat.le_of_ble_eq_true rfl) (Call.mono H fun _ h2 H => ?_)
    refine a_aload_n (pc := 56) (dk dt_X12_acknowledge 34 rfl) rfl ?_
    refine a_getr (r := 142) (pc := 57) (dk dt_X12_acknowledge 35 rfl) cls_12 fl_RX12_259 cf_85_94 ?_
    refine a_iload_n (pc := 60) (dk dt_X12_acknowledge 36 rfl) rfl ?_
    refine a_iload_n (pc := 61) (dk dt_X12_acknowledge 37 rfl) rfl ?_
    refine a_isub (pc := 62) (dk dt_X12_acknowledge 38 rfl) ?_
    refine a_aload_n (pc := 63) (dk dt_X12_acknowledge 39 rfl) rfl ?_
    refine a_getr (r := 142) (pc := 64) (dk dt_X12_acknowledge 40 rfl) cls_12 fl_RX12_259 cf_85_94 ?_
    refine a_iload_n (pc := 67) (dk dt_X12_acknowledge 41 rfl) rfl ?_
    refine a_iald (pc := 68) (dk dt_X12_acknowledge 42 rfl) ar_143 ⟨H.1, ?_⟩
    replace H := H.2
    refine a_iast (pc := 69) (dk dt_X12_acknowledge 43 rfl) ar_143 ⟨H.1, ?_⟩
    replace H := H.2
    refine a_aload_n (pc := 70) (dk dt_X12_acknowledge 44 rfl) rfl ?_
    refine a_getr (r := 143) (pc := 71) (dk dt_X12_acknowledge 45 rfl) cls_12 fl_RX12_262 cf_85_95 ?_
    refine a_iload_n (pc := 74) (dk dt_X12_acknowledge 46 rfl) rfl ?_
    refine a_iload_n (pc := 75) (dk dt_X12_acknowledge 47 rfl) rfl ?_
    refine a_isub (pc := 76) (dk dt_X12_acknowledge 48 rfl) ?_
    refine a_aload_n (pc := 77) (dk dt_X12_acknowledge 49 rfl) rfl ?_
    refine a_getr (r := 143) (pc := 78) (dk dt_X12_acknowledge 50 rfl) cls_12 fl_RX12_262 cf_85_95 ?_
    refine a_iload_n (pc := 81) (dk dt_X12_acknowledge 51 rfl) rfl ?_
    refine a_iald (pc := 82) (dk dt_X12_acknowledge 52 rfl) ar_144 ⟨H.1, ?_⟩
    replace H := H.2
    refine a_top (y := (h2 144 x3)) (by simp [up, cpy]) ?_
    refine a_iast (pc := 83) (dk dt_X12_acknowledge 53 rfl) ar_144 ⟨H.1, ?_⟩
    replace H := H.2
    refine a_aload_n (pc := 84) (dk dt_X12_acknowledge 54 rfl) rfl ?_
    refine a_getr (r := 144) (pc := 85) (dk dt_X12_acknowledge 55 rfl) cls_12 fl_RX12_265 cf_85_96 ?_
    refine a_iload_n (pc := 88) (dk dt_X12_acknowledge 56 rfl) rfl ?_
    refine a_iload_n (pc := 89) (dk dt_X12_acknowledge 57 rfl) rfl ?_
    refine a_isub (pc := 90) (dk dt_X12_acknowledge 58 rfl) ?_
    refine a_aload_n (pc := 91) (dk dt_X12_acknowledge 59 rfl) rfl ?_
    refine a_getr (r := 144) (pc := 92) (dk dt_X12_acknowledge 60 rfl) cls_12 fl_RX12_265 cf_85_96 ?_
    refine a_iload_n (pc := 95) (dk dt_X12_acknowledge 61 rfl) rfl ?_
    refine a_iald (pc := 96) (dk dt_X12_acknowledge 62 rfl) ar_145 ⟨H.1, ?_⟩
    replace H := H.2
    refine a_top (y := (h2 145 x3)) (by simp [up, cpy]) ?_
    refine a_iast (pc := 97) (dk dt_X12_acknowledge 63 rfl) ar_145 ⟨H.1, ?_⟩
    replace H := H.2
    refine a_aload_n (pc := 98) (dk dt_X12_acknowledge 64 rfl) rfl ?_
    refine a_getr (r := 145) (pc := 99) (dk dt_X12_acknowledge 65 rfl) cls_12 fl_RX12_268 cf_85_97 ?_
    refine a_iload_n (pc := 102) (dk dt_X12_acknowledge 66 rfl) rfl ?_
    refine a_iload_n (pc := 103) (dk dt_X12_acknowledge 67 rfl) rfl ?_
    refine a_isub (pc := 104) (dk dt_X12_acknowledge 68 rfl) ?_
    refine a_aload_n (pc := 105) (dk dt_X12_acknowledge 69 rfl) rfl ?_
    refine a_getr (r := 145) (pc := 106) (dk dt_X12_acknowledge 70 rfl) cls_12 fl_RX12_268 cf_85_97 ?_
    refine a_iload_n (pc := 109) (dk dt_X12_acknowledge 71 rfl) rfl ?_
    refine a_iald (pc := 110) (dk dt_X12_acknowledge 72 rfl) ar_146 ⟨H.1, ?_⟩
    replace H := H.2
    refine a_top (y := (h2 146 x3)) (by simp [up, cpy]) ?_
    refine a_iast (pc := 111) (dk dt_X12_acknowledge 73 rfl) ar_146 ⟨H.1, ?_⟩
    replace H := H.2
    refine a_iinc (pc := 112) (dk dt_X12_acknowledge 74 rfl) (by decide) rfl rfl rfl ?_
    refine a_goto (pc := 115) (dk dt_X12_acknowledge 75 rfl) (tgt := 32) rfl ?_
    exact a_pick [0, 1, 2] rfl H
set_option maxHeartbeats 40000000 in
theorem U_X12_pieces_85_0 {G : GG} {Φ : Int → Hp → Prop} {h : Hp} {x1 : Int} (H : AT G m_X12_pieces 4 [(0, rv 85), (2, iv 0), (3, iv x1)] [] h Φ) : AT G m_X12_pieces 0 [(0, rv 85), (1, iv x1)] [] h Φ := by
  refine a_iconst (pc := 0) (dk dt_X12_pieces 0 rfl) (ik rfl) ?_
  refine a_istore_n (pc := 1) (dk dt_X12_pieces 1 rfl) (by decide) rfl rfl ?_
  refine a_iload_n (pc := 2) (dk dt_X12_pieces 2 rfl) rfl ?_
  refine a_istore_n (pc := 3) (dk dt_X12_pieces 3 rfl) (by decide) rfl rfl ?_
  exact a_pick [0, 2, 3] rfl H
set_option maxHeartbeats 40000000 in
theorem U_X12_pieces_85_4 {G : GG} {Φ : Int → Hp → Prop} {h : Hp} {x2 : Int} {x3 : Int} (H : ((18 ≤ x3 → Φ x2 h) ∧ (x3 < 18 → (0 ≤ (w32 (4 + x3)) ∧ (w32 (4 + x3)) < 24) ∧ (((h 85 85) ≠ 0 → (((h 85 85) ≠ 4 → (((h 85 85) ≠ 4 → ((4 ≤ (h 85 85) → (0 ≤ (h 85 85) ∧ (h 85 85) < 9) ∧ (((h 85 86) ≤ (w32 ((h 85 85) + 1)) → ((60 ≤ (h 85 87) → AT G m_X12_pieces 4 [(0, rv 85), (2, iv (w32 (x2 + 1))), (3, iv (w32 (x3 + 1)))] [] (up (up (up (up h 85 86 (h 85 86)) 140 (h 85 85) (h 139 (w32 (4 + x3)))) 85 85 (w32 ((h 85 85) + 1))) 85 85 0) Φ) ∧ ((h 85 87) < 60 → (0 ≤ (h 85 87) ∧ (h 85 87) < 60) ∧ AT G m_X12_pieces 168 [(0, rv 85), (2, iv (w32 (x2 + 1))), (3, iv (w32 (x3 + 1))), (5, iv 0)] [] (up (up (up (up h 85 86 (h 85 86)) 140 (h 85 85) (h 139 (w32 (4 + x3)))) 85 85 (w32 ((h 85 85) + 1))) 142 (h 85 87) (w32 ((h 85 85) + 1))) Φ))) ∧ ((w32 ((h 85 85) + 1)) < (h 85 86) → AT G m_X12_pieces 4 [(0, rv 85), (2, iv x2), (3, iv (w32 (x3 + 1)))] [] (up (up (up h 85 86 (h 85 86)) 140 (h 85 85) (h 139 (w32 (4 + x3)))) 85 85 (w32 ((h 85 85) + 1))) Φ))) ∧ ((h 85 85) < 4 → (0 ≤ (h 85 85) ∧ (h 85 85) < 9) ∧ ((9 ≤ (w32 ((h 85 85) + 1)) → ((60 ≤ (h 85 87) → AT G m_X12_pieces 4 [(0, rv 85), (2, iv (w32 (x2 + 1))), (3, iv (w32 (x3 + 1)))] [] (up (up (up (up h 85 86 9) 140 (h 85 85) (h 139 (w32 (4 + x3)))) 85 85 (w32 ((h 85 85) + 1))) 85 85 0) Φ) ∧ ((h 85 87) < 60 → (0 ≤ (h 85 87) ∧ (h 85 87) < 60) ∧ AT G m_X12_pieces 168 [(0, rv 85), (2, iv (w32 (x2 + 1))), (3, iv (w32 (x3 + 1))), (5, iv 0)] [] (up (up (up (up h 85 86 9) 140 (h 85 85) (h 139 (w32 (4 + x3)))) 85 85 (w32 ((h 85 85) + 1))) 142 (h 85 87) (w32 ((h 85 85) + 1))) Φ))) ∧ ((w32 ((h 85 85) + 1)) < 9 → AT G m_X12_pieces 4 [(0, rv 85), (2, iv x2), (3, iv (w32 (x3 + 1)))] [] (up (up (up h 85 86 9) 140 (h 85 85) (h 139 (w32 (4 + x3)))) 85 85 (w32 ((h 85 85) + 1))) Φ))))) ∧ ((h 85 85) = 4 → (0 ≤ (h 85 85) ∧ (h 85 85) < 9) ∧ (((w32 (5 + (h 139 (w32 (4 + x3))))) ≤ (w32 ((h 85 85) + 1)) → ((60 ≤ (h 85 87) → AT G m_X12_pieces 4 [(0, rv 85), (2, iv (w32 (x2 + 1))), (3, iv (w32 (x3 + 1)))] [] (up (up (up (up h 85 86 (w32 (5 + (h 139 (w32 (4 + x3)))))) 140 (h 85 85) (h 139 (w32 (4 + x3)))) 85 85 (w32 ((h 85 85) + 1))) 85 85 0) Φ) ∧ ((h 85 87) < 60 → (0 ≤ (h 85 87) ∧ (h 85 87) < 60) ∧ AT G m_X12_pieces 168 [(0, rv 85), (2, iv (w32 (x2 + 1))), (3, iv (w32 (x3 + 1))), (5, iv 0)] [] (up (up (up (up h 85 86 (w32 (5 + (h 139 (w32 (4 + x3)))))) 140 (h 85 85) (h 139 (w32 (4 + x3)))) 85 85 (w32 ((h 85 85) + 1))) 142 (h 85 87) (w32 ((h 85 85) + 1))) Φ))) ∧ ((w32 ((h 85 85) + 1)) < (w32 (5 + (h 139 (w32 (4 + x3))))) → AT G m_X12_pieces 4 [(0, rv 85), (2, iv x2), (3, iv (w32 (x3 + 1)))] [] (up (up (up h 85 86 (w32 (5 + (h 139 (w32 (4 + x3)))))) 140 (h 85 85) (h 139 (w32 (4 + x3)))) 85 85 (w32 ((h 85 85) + 1))) Φ))))) ∧ ((h 85 85) = 4 → (((h 139 (w32 (4 + x3))) < 1 → Φ x2 (up h 85 85 0)) ∧ (1 ≤ (h 139 (w32 (4 + x3))) → ((4 < (h 139 (w32 (4 + x3))) → Φ x2 (up h 85 85 0)) ∧ ((h 139 (w32 (4 + x3))) ≤ 4 → (((h 85 85) ≠ 4 → ((4 ≤ (h 85 85) → (0 ≤ (h 85 85) ∧ (h 85 85) < 9) ∧ (((h 85 86) ≤ (w32 ((h 85 85) + 1)) → ((60 ≤ (h 85 87) → AT G m_X12_pieces 4 [(0, rv 85), (2, iv (w32 (x2 + 1))), (3, iv (w32 (x3 + 1)))] [] (up (up (up (up h 85 86 (h 85 86)) 140 (h 85 85) (h 139 (w32 (4 + x3)))) 85 85 (w32 ((h 85 85) + 1))) 85 85 0) Φ) ∧ ((h 85 87) < 60 → (0 ≤ (h 85 87) ∧ (h 85 87) < 60) ∧ AT G m_X12_pieces 168 [(0, rv 85), (2, iv (w32 (x2 + 1))), (3, iv (w32 (x3 + 1))), (5, iv 0)] [] (up (up (up (up h 85 86 (h 85 86)) 140 (h 85 85) (h 139 (w32 (4 + x3)))) 85 85 (w32 ((h 85 85) + 1))) 142 (h 85 87) (w32 ((h 85 85) + 1))) Φ))) ∧ ((w32 ((h 85 85) + 1)) < (h 85 86) → AT G m_X12_pieces 4 [(0, rv 85), (2, iv x2), (3, iv (w32 (x3 + 1)))] [] (up (up (up h 85 86 (h 85 86)) 140 (h 85 85) (h 139 (w32 (4 + x3)))) 85 85 (w32 ((h 85 85) + 1))) Φ))) ∧ ((h 85 85) < 4 → (0 ≤ (h 85 85) ∧ (h 85 85) < 9) ∧ ((9 ≤ (w32 ((h 85 85) + 1)) → ((60 ≤ (h 85 87) → AT G m_X12_pieces 4 [(0, rv 85), (2, iv (w32 (x2 + 1))), (3, iv (w32 (x3 + 1)))] [] (up (up (up (up h 85 86 9) 140 (h 85 85) (h 139 (w32 (4 + x3)))) 85 85 (w32 ((h 85 85) + 1))) 85 85 0) Φ) ∧ ((h 85 87) < 60 → (0 ≤ (h 85 87) ∧ (h 85 87) < 60) ∧ AT G m_X12_pieces 168 [(0, rv 85), (2, iv (w32 (x2 + 1))), (3, iv (w32 (x3 + 1))), (5, iv 0)] [] (up (up (up (up h 85 86 9) 140 (h 85 85) (h 139 (w32 (4 + x3)))) 85 85 (w32 ((h 85 85) + 1))) 142 (h 85 87) (w32 ((h 85 85) + 1))) Φ))) ∧ ((w32 ((h 85 85) + 1)) < 9 → AT G m_X12_pieces 4 [(0, rv 85), (2, iv x2), (3, iv (w32 (x3 + 1)))] [] (up (up (up h 85 86 9) 140 (h 85 85) (h 139 (w32 (4 + x3)))) 85 85 (w32 ((h 85 85) + 1))) Φ))))) ∧ ((h 85 85) = 4 → (0 ≤ (h 85 85) ∧ (h 85 85) < 9) ∧ (((w32 (5 + (h 139 (w32 (4 + x3))))) ≤ (w32 ((h 85 85) + 1)) → ((60 ≤ (h 85 87) → AT G m_X12_pieces 4 [(0, rv 85), (2, iv (w32 (x2 + 1))), (3, iv (w32 (x3 + 1)))] [] (up (up (up (up h 85 86 (w32 (5 + (h 139 (w32 (4 + x3)))))) 140 (h 85 85) (h 139 (w32 (4 + x3)))) 85 85 (w32 ((h 85 85) + 1))) 85 85 0) Φ) ∧ ((h 85 87) < 60 → (0 ≤ (h 85 87) ∧ (h 85 87) < 60) ∧ AT G m_X12_pieces 168 [(0, rv 85), (2, iv (w32 (x2 + 1))), (3, iv (w32 (x3 + 1))), (5, iv 0)] [] (up (up (up (up h 85 86 (w32 (5 + (h 139 (w32 (4 + x3)))))) 140 (h 85 85) (h 139 (w32 (4 + x3)))) 85 85 (w32 ((h 85 85) + 1))) 142 (h 85 87) (w32 ((h 85 85) + 1))) Φ))) ∧ ((w32 ((h 85 85) + 1)) < (w32 (5 + (h 139 (w32 (4 + x3))))) → AT G m_X12_pieces 4 [(0, rv 85), (2, iv x2), (3, iv (w32 (x3 + 1)))] [] (up (up (up h 85 86 (w32 (5 + (h 139 (w32 (4 + x3)))))) 140 (h 85 85) (h 139 (w32 (4 + x3)))) 85 85 (w32 ((h 85 85) + 1))) Φ))))))))))) ∧ ((h 85 85) = 0 → (((h 139 (w32 (4 + x3))) < 10 → Φ x2 h) ∧ (10 ≤ (h 139 (w32 (4 + x3))) → ((25 < (h 139 (w32 (4 + x3))) → Φ x2 h) ∧ ((h 139 (w32 (4 + x3))) ≤ 25 → (((h 85 85) ≠ 4 → (((h 85 85) ≠ 4 → ((4 ≤ (h 85 85) → (0 ≤ (h 85 85) ∧ (h 85 85) < 9) ∧ (((h 85 86) ≤ (w32 ((h 85 85) + 1)) → ((60 ≤ (h 85 87) → AT G m_X12_pieces 4 [(0, rv 85), (2, iv (w32 (x2 + 1))), (3, iv (w32 (x3 + 1)))] [] (up (up (up (up h 85 86 (h 85 86)) 140 (h 85 85) (h 139 (w32 (4 + x3)))) 85 85 (w32 ((h 85 85) + 1))) 85 85 0) Φ) ∧ ((h 85 87) < 60 → (0 ≤ (h 85 87) ∧ (h 85 87) < 60) ∧ AT G m_X12_pieces 168 [(0, rv 85), (2, iv (w32 (x2 + 1))), (3, iv (w32 (x3 + 1))), (5, iv 0)] [] (up (up (up (up h 85 86 (h 85 86)) 140 (h 85 85) (h 139 (w32 (4 + x3)))) 85 85 (w32 ((h 85 85) + 1))) 142 (h 85 87) (w32 ((h 85 85) + 1))) Φ))) ∧ ((w32 ((h 85 85) + 1)) < (h 85 86) → AT G m_X12_pieces 4 [(0, rv 85), (2, iv x2), (3, iv (w32 (x3 + 1)))] [] (up (up (up h 85 86 (h 85 86)) 140 (h 85 85) (h 139 (w32 (4 + x3)))) 85 85 (w32 ((h 85 85) + 1))) Φ))) ∧ ((h 85 85) < 4 → (0 ≤ (h 85 85) ∧ (h 85 85) < 9) ∧ ((9 ≤ (w32 ((h 85 85) + 1)) → ((60 ≤ (h 85 87) → AT G m_X12_pieces 4 [(0, rv 85), (2, iv (w32 (x2 + 1))), (3, iv (w32 (x3 + 1)))] [] (up (up (up (up h 85 86 9) 140 (h 85 85) (h 139 (w32 (4 + x3)))) 85 85 (w32 ((h 85 85) + 1))) 85 85 0) Φ) ∧ ((h 85 87) < 60 → (0 ≤ (h 85 87) ∧ (h 85 87) < 60) ∧ AT G m_X12_pieces 168 [(0, rv 85), (2, iv (w32 (x2 + 1))), (3, iv (w32 (x3 + 1))), (5, iv 0)] [] (up (up (up (up h 85 86 9) 140 (h 85 85) (h 139 (w32 (4 + x3)))) 85 85 (w32 ((h 85 85) + 1))) 142 (h 85 87) (w32 ((h 85 85) + 1))) Φ))) ∧ ((w32 ((h 85 85) + 1)) < 9 → AT G m_X12_pieces 4 [(0, rv 85), (2, iv x2), (3, iv (w32 (x3 + 1)))] [] (up (up (up h 85 86 9) 140 (h 85 85) (h 139 (w32 (4 + x3)))) 85 85 (w32 ((h 85 85) + 1))) Φ))))) ∧ ((h 85 85) = 4 → (0 ≤ (h 85 85) ∧ (h 85 85) < 9) ∧ (((w32 (5 + (h 139 (w32 (4 + x3))))) ≤ (w32 ((h 85 85) + 1)) → ((60 ≤ (h 85 87) → AT G m_X12_pieces 4 [(0, rv 85), (2, iv (w32 (x2 + 1))), (3, iv (w32 (x3 + 1)))] [] (up (up (up (up h 85 86 (w32 (5 + (h 139 (w32 (4 + x3)))))) 140 (h 85 85) (h 139 (w32 (4 + x3)))) 85 85 (w32 ((h 85 85) + 1))) 85 85 0) Φ) ∧ ((h 85 87) < 60 → (0 ≤ (h 85 87) ∧ (h 85 87) < 60) ∧ AT G m_X12_pieces 168 [(0, rv 85), (2, iv (w32 (x2 + 1))), (3, iv (w32 (x3 + 1))), (5, iv 0)] [] (up (up (up (up h 85 86 (w32 (5 + (h 139 (w32 (4 + x3)))))) 140 (h 85 85) (h 139 (w32 (4 + x3)))) 85 85 (w32 ((h 85 85) + 1))) 142 (h 85 87) (w32 ((h 85 85) + 1))) Φ))) ∧ ((w32 ((h 85 85) + 1)) < (w32 (5 + (h 139 (w32 (4 + x3))))) → AT G m_X12_pieces 4 [(0, rv 85), (2, iv x2), (3, iv (w32 (x3 + 1)))] [] (up (up (up h 85 86 (w32 (5 + (h 139 (w32 (4 + x3)))))) 140 (h 85 85) (h 139 (w32 (4 + x3)))) 85 85 (w32 ((h 85 85) + 1))) Φ))))) ∧ ((h 85 85) = 4 → (((h 139 (w32 (4 + x3))) < 1 → Φ x2 (up h 85 85 0)) ∧ (1 ≤ (h 139 (w32 (4 + x3))) → ((4 < (h 139 (w32 (4 + x3))) → Φ x2 (up h 85 85 0)) ∧ ((h 139 (w32 (4 + x3))) ≤ 4 → (((h 85 85) ≠ 4 → ((4 ≤ (h 85 85) → (0 ≤ (h 85 85) ∧ (h 85 85) < 9) ∧ (((h 85 86) ≤ (w32 ((h 85 85) + 1)) → ((60 ≤ (h 85 87) → AT G m_X12_pieces 4 [(0, rv 85), (2, iv (w32 (x2 + 1))), (3, iv (w32 (x3 + 1)))] [] (up (up (up (up h 85 86 (h 85 86)) 140 (h 85 85) (h 139 (w32 (4 + x3)))) 85 85 (w32 ((h 85 85) + 1))) 85 85 0) Φ) ∧ ((h 85 87) < 60 → (0 ≤ (h 85 87) ∧ (h 85 87) < 60) ∧ AT G m_X12_pieces 168 [(0, rv 85), (2, iv (w32 (x2 + 1))), (3, iv (w32 (x3 + 1))), (5, iv 0)] [] (up (up (up (up h 85 86 (h 85 86)) 140 (h 85 85) (h 139 (w32 (4 + x3)))) 85 85 (w32 ((h 85 85) + 1))) 142 (h 85 87) (w32 ((h 85 85) + 1))) Φ))) ∧ ((w32 ((h 85 85) + 1)) < (h 85 86) → AT G m_X12_pieces 4 [(0, rv 85), (2, iv x2), (3, iv (w32 (x3 + 1)))] [] (up (up (up h 85 86 (h 85 86)) 140 (h 85 85) (h 139 (w32 (4 + x3)))) 85 85 (w32 ((h 85 85) + 1))) Φ))) ∧ ((h 85 85) < 4 → (0 ≤ (h 85 85) ∧ (h 85 85) < 9) ∧ ((9 ≤ (w32 ((h 85 85) + 1)) → ((60 ≤ (h 85 87) → AT G m_X12_pieces 4 [(0, rv 85), (2, iv (w32 (x2 + 1))), (3, iv (w32 (x3 + 1)))] [] (up (up (up (up h 85 86 9) 140 (h 85 85) (h 139 (w32 (4 + x3)))) 85 85 (w32 ((h 85 85) + 1))) 85 85 0) Φ) ∧ ((h 85 87) < 60 → (0 ≤ (h 85 87) ∧ (h 85 87) < 60) ∧ AT G m_X12_pieces 168 [(0, rv 85), (2, iv (w32 (x2 + 1))), (3, iv (w32 (x3 + 1))), (5, iv 0)] [] (up (up (up (up h 85 86 9) 140 (h 85 85) (h 139 (w32 (4 + x3)))) 85 85 (w32 ((h 85 85) + 1))) 142 (h 85 87) (w32 ((h 85 85) + 1))) Φ))) ∧ ((w32 ((h 85 85) + 1)) < 9 → AT G m_X12_pieces 4 [(0, rv 85), (2, iv x2), (3, iv (w32 (x3 + 1)))] [] (up (up (up h 85 86 9) 140 (h 85 85) (h 139 (w32 (4 + x3)))) 85 85 (w32 ((h 85 85) + 1))) Φ))))) ∧ ((h 85 85) = 4 → (0 ≤ (h 85 85) ∧ (h 85 85) < 9) ∧ (((w32 (5 + (h 139 (w32 (4 + x3))))) ≤ (w32 ((h 85 85) + 1)) → ((60 ≤ (h 85 87) → AT G m_X12_pieces 4 [(0, rv 85), (2, iv (w32 (x2 + 1))), (3, iv (w32 (x3 + 1)))] [] (up (up (up (up h 85 86 (w32 (5 + (h 139 (w32 (4 + x3)))))) 140 (h 85 85) (h 139 (w32 (4 + x3)))) 85 85 (w32 ((h 85 85) + 1))) 85 85 0) Φ) ∧ ((h 85 87) < 60 → (0 ≤ (h 85 87) ∧ (h 85 87) < 60) ∧ AT G m_X12_pieces 168 [(0, rv 85), (2, iv (w32 (x2 + 1))), (3, iv (w32 (x3 + 1))), (5, iv 0)] [] (up (up (up (up h 85 86 (w32 (5 + (h 139 (w32 (4 + x3)))))) 140 (h 85 85) (h 139 (w32 (4 + x3)))) 85 85 (w32 ((h 85 85) + 1))) 142 (h 85 87) (w32 ((h 85 85) + 1))) Φ))) ∧ ((w32 ((h 85 85) + 1)) < (w32 (5 + (h 139 (w32 (4 + x3))))) → AT G m_X12_pieces 4 [(0, rv 85), (2, iv x2), (3, iv (w32 (x3 + 1)))] [] (up (up (up h 85 86 (w32 (5 + (h 139 (w32 (4 + x3)))))) 140 (h 85 85) (h 139 (w32 (4 + x3)))) 85 85 (w32 ((h 85 85) + 1))) Φ))))))))))))))))))) : AT G m_X12_pieces 4 [(0, rv 85), (2, iv x2), (3, iv x3)] [] h Φ := by
  refine a_iload_n (pc := 4) (dk dt_X12_pieces 4 rfl) rfl ?_
  refine a_bipush (pc := 5) (dk dt_X12_pieces 5 rfl) (ik rfl) (bpk rfl) ?_
  refine a_icmp_ge (pc := 7) (dk dt_X12_pieces 6 rfl) (tgt := 223) rfl ⟨fun c => ?_, fun c => ?_⟩
  · replace H := H.1 c
    refine a_iload_n (pc := 223) (dk dt_X12_pieces 118 rfl) rfl ?_
    exact a_iret (pc := 224) (dk dt_X12_pieces 119 rfl) rfl rfl H
  · replace H := H.2 c
    refine a_aload_n (pc := 10) (dk dt_X12_pieces 7 rfl) rfl ?_
    refine a_getr (r := 138) (pc := 11) (dk dt_X12_pieces 8 rfl) cls_12 fl_RX12_244 cf_85_77 ?_
    refine a_iconst (pc := 14) (dk dt_X12_pieces 9 rfl) (ik rfl) ?_
    refine a_iload_n (pc := 15) (dk dt_X12_pieces 10 rfl) rfl ?_
    refine a_iadd (pc := 16) (dk dt_X12_pieces 11 rfl) ?_
    refine a_iald (pc := 17) (dk dt_X12_pieces 12 rfl) ar_139 ⟨H.1, ?_⟩
    replace H := H.2
    refine a_istore (pc := 18) (dk dt_X12_pieces 13 rfl) (by decide) rfl rfl ?_
    refine a_aload_n (pc := 20) (dk dt_X12_pieces 14 rfl) rfl ?_
    refine a_geti (pc := 21) (dk dt_X12_pieces 15 rfl) cls_12 fl_RX12_560 cf_85_85 ?_
    refine a_if_ne (pc := 24) (dk dt_X12_pieces 16 rfl) (tgt := 41) rfl ⟨fun c => ?_, fun c => ?_⟩
    · replace H := H.1 c
      refine a_aload_n (pc := 41) (dk dt_X12_pieces 24 rfl) rfl ?_
      refine a_geti (pc := 42) (dk dt_X12_pieces 25 rfl) cls_12 fl_RX12_560 cf_85_85 ?_
      refine a_iconst (pc := 45) (dk dt_X12_pieces 26 rfl) (ik rfl) ?_
      refine a_icmp_ne (pc := 46) (dk dt_X12_pieces 27 rfl) (tgt := 66) rfl ⟨fun c => ?_, fun c => ?_⟩
      · replace H := H.1 c
        refine a_aload_n (pc := 66) (dk dt_X12_pieces 38 rfl) rfl ?_
        refine a_aload_n (pc := 67) (dk dt_X12_pieces 39 rfl) rfl ?_
        refine a_geti (pc := 68) (dk dt_X12_pieces 40 rfl) cls_12 fl_RX12_560 cf_85_85 ?_
        refine a_iconst (pc := 71) (dk dt_X12_pieces 41 rfl) (ik rfl) ?_
        refine a_icmp_ne (pc := 72) (dk dt_X12_pieces 42 rfl) (tgt := 82) rfl ⟨fun c => ?_, fun c => ?_⟩
        · replace H := H.1 c
          refine a_aload_n (pc := 82) (dk dt_X12_pieces 47 rfl) rfl ?_
          refine a_geti (pc := 83) (dk dt_X12_pieces 48 rfl) cls_12 fl_RX12_560 cf_85_85 ?_
          refine a_iconst (pc := 86) (dk dt_X12_pieces 49 rfl) (ik rfl) ?_
          refine a_icmp_ge (pc := 87) (dk dt_X12_pieces 50 rfl) (tgt := 95) rfl ⟨fun c => ?_, fun c => ?_⟩
          · replace H := H.1 c
            refine a_aload_n (pc := 95) (dk dt_X12_pieces 53 rfl) rfl ?_
            refine a_geti (pc := 96) (dk dt_X12_pieces 54 rfl) cls_12 fl_RX12_572 cf_85_86 ?_
            refine a_puti (pc := 99) (dk dt_X12_pieces 55 rfl) cls_12 fl_RX12_572 cf_85_86 rfl rfl ?_
            refine a_aload_n (pc := 102) (dk dt_X12_pieces 56 rfl) rfl ?_
            refine a_getr (r := 139) (pc := 103) (dk dt_X12_pieces 57 rfl) cls_12 fl_RX12_250 cf_85_91 ?_
            refine a_aload_n (pc := 106) (dk dt_X12_pieces 58 rfl) rfl ?_
            refine a_geti (pc := 107) (dk dt_X12_pieces 59 rfl) cls_12 fl_RX12_560 cf_85_85 ?_
            refine a_top (y := (h 85 85)) (by simp [up, cpy]) ?_
            refine a_iload (pc := 110) (dk dt_X12_pieces 60 rfl) rfl ?_
            refine a_iast (pc := 112) (dk dt_X12_pieces 61 rfl) ar_140 ⟨H.1, ?_⟩
            replace H := H.2
            refine a_aload_n (pc := 113) (dk dt_X12_pieces 62 rfl) rfl ?_
            refine a_dup (pc := 114) (dk dt_X12_pieces 63 rfl) rfl ?_
            refine a_geti (pc := 115) (dk dt_X12_pieces 64 rfl) cls_12 fl_RX12_560 cf_85_85 ?_
            refine a_top (y := (h 85 85)) (by simp [up, cpy]) ?_
            refine a_iconst (pc := 118) (dk dt_X12_pieces 65 rfl) (ik rfl) ?_
            refine a_iadd (pc := 119) (dk dt_X12_pieces 66 rfl) ?_
            refine a_puti (pc := 120) (dk dt_X12_pieces 67 rfl) cls_12 fl_RX12_560 cf_85_85 rfl rfl ?_
            refine a_iinc (pc := 123) (dk dt_X12_pieces 68 rfl) (by decide) rfl rfl rfl ?_
            refine a_aload_n (pc := 126) (dk dt_X12_pieces 69 rfl) rfl ?_
            refine a_geti (pc := 127) (dk dt_X12_pieces 70 rfl) cls_12 fl_RX12_560 cf_85_85 ?_
            refine a_top (y := (w32 ((h 85 85) + 1))) (by simp [up, cpy]) ?_
            refine a_aload_n (pc := 130) (dk dt_X12_pieces 71 rfl) rfl ?_
            refine a_geti (pc := 131) (dk dt_X12_pieces 72 rfl) cls_12 fl_RX12_572 cf_85_86 ?_
            refine a_top (y := (h 85 86)) (by simp [up, cpy]) ?_
            refine a_icmp_ge (pc := 134) (dk dt_X12_pieces 73 rfl) (tgt := 140) rfl ⟨fun c => ?_, fun c => ?_⟩
            · replace H := H.1 c
              refine a_iinc (pc := 140) (dk dt_X12_pieces 75 rfl) (by decide) rfl rfl rfl ?_
              refine a_aload_n (pc := 143) (dk dt_X12_pieces 76 rfl) rfl ?_
              refine a_geti (pc := 144) (dk dt_X12_pieces 77 rfl) cls_12 fl_RX12_575 cf_85_87 ?_
              refine a_top (y := (h 85 87)) (by simp [up, cpy]) ?_
              refine a_bipush (pc := 147) (dk dt_X12_pieces 78 rfl) (ik rfl) (bpk rfl) ?_
              refine a_icmp_ge (pc := 149) (dk dt_X12_pieces 79 rfl) (tgt := 215) rfl ⟨fun c => ?_, fun c => ?_⟩
              · replace H := H.1 c
                refine a_aload_n (pc := 215) (dk dt_X12_pieces 114 rfl) rfl ?_
                refine a_iconst (pc := 216) (dk dt_X12_pieces 115 rfl) (ik rfl) ?_
                refine a_puti (pc := 217) (dk dt_X12_pieces 116 rfl) cls_12 fl_RX12_560 cf_85_85 rfl rfl ?_
                refine a_goto (pc := 220) (dk dt_X12_pieces 117 rfl) (tgt := 4) rfl ?_
                exact a_pick [0, 1, 2] rfl H
              · replace H := H.2 c
                refine a_aload_n (pc := 152) (dk dt_X12_pieces 80 rfl) rfl ?_
                refine a_getr (r := 141) (pc := 153) (dk dt_X12_pieces 81 rfl) cls_12 fl_RX12_256 cf_85_93 ?_
                refine a_aload_n (pc := 156) (dk dt_X12_pieces 82 rfl) rfl ?_
                refine a_geti (pc := 157) (dk dt_X12_pieces 83 rfl) cls_12 fl_RX12_575 cf_85_87 ?_
                refine a_top (y := (h 85 87)) (by simp [up, cpy]) ?_
                refine a_aload_n (pc := 160) (dk dt_X12_pieces 84 rfl) rfl ?_
                refine a_geti (pc := 161) (dk dt_X12_pieces 85 rfl) cls_12 fl_RX12_560 cf_85_85 ?_
                refine a_top (y := (w32 ((h 85 85) + 1))) (by simp [up, cpy]) ?_
                refine a_iast (pc := 164) (dk dt_X12_pieces 86 rfl) ar_142 ⟨H.1, ?_⟩
                replace H := H.2
                refine a_iconst (pc := 165) (dk dt_X12_pieces 87 rfl) (ik rfl) ?_
                refine a_istore (pc := 166) (dk dt_X12_pieces 88 rfl) (by decide) rfl rfl ?_
                exact a_pick [0, 1, 2, 4] rfl H
            · replace H := H.2 c
              refine a_goto (pc := 137) (dk dt_X12_pieces 74 rfl) (tgt := 4) rfl ?_
              exact a_pick [0, 1, 2] rfl H
          · replace H := H.2 c
            refine a_bipush (pc := 90) (dk dt_X12_pieces 51 rfl) (ik rfl) (bpk rfl) ?_
            refine a_goto (pc := 92) (dk dt_X12_pieces 52 rfl) (tgt := 99) rfl ?_
            refine a_puti (pc := 99) (dk dt_X12_pieces 55 rfl) cls_12 fl_RX12_572 cf_85_86 rfl rfl ?_
            refine a_aload_n (pc := 102) (dk dt_X12_pieces 56 rfl) rfl ?_
            refine a_getr (r := 139) (pc := 103) (dk dt_X12_pieces 57 rfl) cls_12 fl_RX12_250 cf_85_91 ?_
            refine a_aload_n (pc := 106) (dk dt_X12_pieces 58 rfl) rfl ?_
            refine a_geti (pc := 107) (dk dt_X12_pieces 59 rfl) cls_12 fl_RX12_560 cf_85_85 ?_
            refine a_top (y := (h 85 85)) (by simp [up, cpy]) ?_
            refine a_iload (pc := 110) (dk dt_X12_pieces 60 rfl) rfl ?_
            refine a_iast (pc := 112) (dk dt_X12_pieces 61 rfl) ar_140 ⟨H.1, ?_⟩
            replace H := H.2
            refine a_aload_n (pc := 113) (dk dt_X12_pieces 62 rfl) rfl ?_
            refine a_dup (pc := 114) (dk dt_X12_pieces 63 rfl) rfl ?_
            refine a_geti (pc := 115) (dk dt_X12_pieces 64 rfl) cls_12 fl_RX12_560 cf_85_85 ?_
            refine a_top (y := (h 85 85)) (by simp [up, cpy]) ?_
            refine a_iconst (pc := 118) (dk dt_X12_pieces 65 rfl) (ik rfl) ?_
            refine a_iadd (pc := 119) (dk dt_X12_pieces 66 rfl) ?_
            refine a_puti (pc := 120) (dk dt_X12_pieces 67 rfl) cls_12 fl_RX12_560 cf_85_85 rfl rfl ?_
            refine a_iinc (pc := 123) (dk dt_X12_pieces 68 rfl) (by decide) rfl rfl rfl ?_
            refine a_aload_n (pc := 126) (dk dt_X12_pieces 69 rfl) rfl ?_
            refine a_geti (pc := 127) (dk dt_X12_pieces 70 rfl) cls_12 fl_RX12_560 cf_85_85 ?_
            refine a_top (y := (w32 ((h 85 85) + 1))) (by simp [up, cpy]) ?_
            refine a_aload_n (pc := 130) (dk dt_X12_pieces 71 rfl) rfl ?_
            refine a_geti (pc := 131) (dk dt_X12_pieces 72 rfl) cls_12 fl_RX12_572 cf_85_86 ?_
            refine a_top (y := 9) (by simp [up, cpy]) ?_
            refine a_icmp_ge (pc := 134) (dk dt_X12_pieces 73 rfl) (tgt := 140) rfl ⟨fun c => ?_, fun c => ?_⟩
            · replace H := H.1 c
              refine a_iinc (pc := 140) (dk dt_X12_pieces 75 rfl) (by decide) rfl rfl rfl ?_
              refine a_aload_n (pc := 143) (dk dt_X12_pieces 76 rfl) rfl ?_
              refine a_geti (pc := 144) (dk dt_X12_pieces 77 rfl) cls_12 fl_RX12_575 cf_85_87 ?_
              refine a_top (y := (h 85 87)) (by simp [up, cpy]) ?_
              refine a_bipush (pc := 147) (dk dt_X12_pieces 78 rfl) (ik rfl) (bpk rfl) ?_
              refine a_icmp_ge (pc := 149) (dk dt_X12_pieces 79 rfl) (tgt := 215) rfl ⟨fun c => ?_, fun c => ?_⟩
              · replace H := H.1 c
                refine a_aload_n (pc := 215) (dk dt_X12_pieces 114 rfl) rfl ?_
                refine a_iconst (pc := 216) (dk dt_X12_pieces 115 rfl) (ik rfl) ?_
                refine a_puti (pc := 217) (dk dt_X12_pieces 116 rfl) cls_12 fl_RX12_560 cf_85_85 rfl rfl ?_
                refine a_goto (pc := 220) (dk dt_X12_pieces 117 rfl) (tgt := 4) rfl ?_
                exact a_pick [0, 1, 2] rfl H
              · replace H := H.2 c
                refine a_aload_n (pc := 152) (dk dt_X12_pieces 80 rfl) rfl ?_
                refine a_getr (r := 141) (pc := 153) (dk dt_X12_pieces 81 rfl) cls_12 fl_RX12_256 cf_85_93 ?_
                refine a_aload_n (pc := 156) (dk dt_X12_pieces 82 rfl) rfl ?_
                refine a_geti (pc := 157) (dk dt_X12_pieces 83 rfl) cls_12 fl_RX12_575 cf_85_87 ?_
                refine a_top (y := (h 85 87)) (by simp [up, cpy]) ?_
                refine a_aload_n (pc := 160) (dk dt_X12_pieces 84 rfl) rfl ?_
                refine a_geti (pc := 161) (dk dt_X12_pieces 85 rfl) cls_12 fl_RX12_560 cf_85_85 ?_
                refine a_top (y := (w32 ((h 85 85) + 1))) (by simp [up, cpy]) ?_
                refine a_iast (pc := 164) (dk dt_X12_pieces 86 rfl) ar_142 ⟨H.1, ?_⟩
                replace H := H.2
                refine a_iconst (pc := 165) (dk dt_X12_pieces 87 rfl) (ik rfl) ?_
                refine a_istore (pc := 166) (dk dt_X12_pieces 88 rfl) (by decide) rfl rfl ?_
                exact a_pick [0, 1, 2, 4] rfl H
            · replace H := H.2 c
              refine a_goto (pc := 137) (dk dt_X12_pieces 74 rfl) (tgt := 4) rfl ?_
              exact a_pick [0, 1, 2] rfl H
        · replace H := H.2 c
          refine a_iconst (pc := 75) (dk dt_X12_pieces 43 rfl) (ik rfl) ?_
          refine a_iload (pc := 76) (dk dt_X12_pieces 44 rfl) rfl ?_
          refine a_iadd (pc := 78) (dk dt_X12_pieces 45 rfl) ?_
          refine a_goto (pc := 79) (dk dt_X12_pieces 46 rfl) (tgt := 99) rfl ?_
          refine a_puti (pc := 99) (dk dt_X12_pieces 55 rfl) cls_12 fl_RX12_572 cf_85_86 rfl rfl ?_
          refine a_aload_n (pc := 102) (dk dt_X12_pieces 56 rfl) rfl ?_
          refine a_getr (r := 139) (pc := 103) (dk dt_X12_pieces 57 rfl) cls_12 fl_RX12_250 cf_85_91 ?_
          refine a_aload_n (pc := 106) (dk dt_X12_pieces 58 rfl) rfl ?_
          refine a_geti (pc := 107) (dk dt_X12_pieces 59 rfl) cls_12 fl_RX12_560 cf_85_85 ?_
          refine a_top (y := (h 85 85)) (by simp [up, cpy]) ?_
          refine a_iload (pc := 110) (dk dt_X12_pieces 60 rfl) rfl ?_
          refine a_iast (pc := 112) (dk dt_X12_pieces 61 rfl) ar_140 ⟨H.1, ?_⟩
          replace H := H.2
          refine a_aload_n (pc := 113) (dk dt_X12_pieces 62 rfl) rfl ?_
          refine a_dup (pc := 114) (dk dt_X12_pieces 63 rfl) rfl ?_
          refine a_geti (pc := 115) (dk dt_X12_pieces 64 rfl) cls_12 fl_RX12_560 cf_85_85 ?_
          refine a_top (y := (h 85 85)) (by simp [up, cpy]) ?_
          refine a_iconst (pc := 118) (dk dt_X12_pieces 65 rfl) (ik rfl) ?_
          refine a_iadd (pc := 119) (dk dt_X12_pieces 66 rfl) ?_
          refine a_puti (pc := 120) (dk dt_X12_pieces 67 rfl) cls_12 fl_RX12_560 cf_85_85 rfl rfl ?_
          refine a_iinc (pc := 123) (dk dt_X12_pieces 68 rfl) (by decide) rfl rfl rfl ?_
          refine a_aload_n (pc := 126) (dk dt_X12_pieces 69 rfl) rfl ?_
          refine a_geti (pc := 127) (dk dt_X12_pieces 70 rfl) cls_12 fl_RX12_560 cf_85_85 ?_
          refine a_top (y := (w32 ((h 85 85) + 1))) (by simp [up, cpy]) ?_
          refine a_aload_n (pc := 130) (dk dt_X12_pieces 71 rfl) rfl ?_
          refine a_geti (pc := 131) (dk dt_X12_pieces 72 rfl) cls_12 fl_RX12_572 cf_85_86 ?_
          refine a_top (y := (w32 (5 + (h 139 (w32 (4 + x3)))))) (by simp [up, cpy]) ?_
          refine a_icmp_ge (pc := 134) (dk dt_X12_pieces 73 rfl) (tgt := 140) rfl ⟨fun c => ?_, fun c => ?_⟩
          · replace H := H.1 c
            refine a_iinc (pc := 140) (dk dt_X12_pieces 75 rfl) (by decide) rfl rfl rfl ?_
            refine a_aload_n (pc := 143) (dk dt_X12_pieces 76 rfl) rfl ?_
            refine a_geti (pc := 144) (dk dt_X12_pieces 77 rfl) cls_12 fl_RX12_575 cf_85_87 ?_
            refine a_top (y := (h 85 87)) (by simp [up, cpy]) ?_
            refine a_bipush (pc := 147) (dk dt_X12_pieces 78 rfl) (ik rfl) (bpk rfl) ?_
            refine a_icmp_ge (pc := 149) (dk dt_X12_pieces 79 rfl) (tgt := 215) rfl ⟨fun c => ?_, fun c => ?_⟩
            · replace H := H.1 c
              refine a_aload_n (pc := 215) (dk dt_X12_pieces 114 rfl) rfl ?_
              refine a_iconst (pc := 216) (dk dt_X12_pieces 115 rfl) (ik rfl) ?_
              refine a_puti (pc := 217) (dk dt_X12_pieces 116 rfl) cls_12 fl_RX12_560 cf_85_85 rfl rfl ?_
              refine a_goto (pc := 220) (dk dt_X12_pieces 117 rfl) (tgt := 4) rfl ?_
              exact a_pick [0, 1, 2] rfl H
            · replace H := H.2 c
              refine a_aload_n (pc := 152) (dk dt_X12_pieces 80 rfl) rfl ?_
              refine a_getr (r := 141) (pc := 153) (dk dt_X12_pieces 81 rfl) cls_12 fl_RX12_256 cf_85_93 ?_
              refine a_aload_n (pc := 156) (dk dt_X12_pieces 82 rfl) rfl ?_
              refine a_geti (pc := 157) (dk dt_X12_pieces 83 rfl) cls_12 fl_RX12_575 cf_85_87 ?_
              refine a_top (y := (h 85 87)) (by simp [up, cpy]) ?_
              refine a_aload_n (pc := 160) (dk dt_X12_pieces 84 rfl) rfl ?_
              refine a_geti (pc := 161) (dk dt_X12_pieces 85 rfl) cls_12 fl_RX12_560 cf_85_85 ?_
              refine a_top (y := (w32 ((h 85 85) + 1))) (by simp [up, cpy]) ?_
              refine a_iast (pc := 164) (dk dt_X12_pieces 86 rfl) ar_142 ⟨H.1, ?_⟩
              replace H := H.2
              refine a_iconst (pc := 165) (dk dt_X12_pieces 87 rfl) (ik rfl) ?_
              refine a_istore (pc := 166) (dk dt_X12_pieces 88 rfl) (by decide) rfl rfl ?_
              exact a_pick [0, 1, 2, 4] rfl H
          · replace H := H.2 c
            refine a_goto (pc := 137) (dk dt_X12_pieces 74 rfl) (tgt := 4) rfl ?_
            exact a_pick [0, 1, 2] rfl H
      · replace H := H.2 c
        refine a_iload (pc := 49) (dk dt_X12_pieces 28 rfl) rfl ?_
        refine a_iconst (pc := 51) (dk dt_X12_pieces 29 rfl) (ik rfl) ?_
        refine a_iconst (pc := 52) (dk dt_X12_pieces 30 rfl) (ik rfl) ?_
        refine a_callSi (as := [iv (h 139 (w32 (4 + x3))), iv 1, iv 4]) (st := []) (pc := 53) (dk dt_X12_pieces 31 rfl) cl_RX12_302 ⟨Nat.le_of_ble_eq_true rfl, Nat.le_of_ble_eq_true rfl⟩ ⟨Nat.le_of_ble_eq_true rfl, Nat.le_of_ble_eq_true rfl⟩ rfl rfl rfl (Nat.le_of_ble_eq_true rfl) (Call.of rfl (Nat.le_of_ble_eq_true rfl) rfl ?_)
        refine a_iload_n (pc := 0) (dk dt_X12_is 0 rfl) rfl ?_
        refine a_iload_n (pc := 1) (dk dt_X12_is 1 rfl) rfl ?_
        refine a_icmp_lt (pc := 2) (dk dt_X12_is 2 rfl) (tgt := 14) rfl ⟨fun c => ?_, fun c => ?_⟩
        · replace H := H.1 c
          refine a_iconst (pc := 14) (dk dt_X12_is 8 rfl) (ik rfl) ?_
          refine a_zret (pc := 15) (dk dt_X12_is 9 rfl) rfl rfl ⟨by decide, ?_⟩
          show ATW _ _ _ _ _ _ _ _ _ _
          refine a_if_ne (pc := 56) (dk dt_X12_pieces 32 rfl) (tgt := 66) rfl ⟨fun c => absurd c (by decide), fun _ => ?_⟩
          refine a_aload_n (pc := 59) (dk dt_X12_pieces 33 rfl) rfl ?_
          refine a_iconst (pc := 60) (dk dt_X12_pieces 34 rfl) (ik rfl) ?_
          refine a_puti (pc := 61) (dk dt_X12_pieces 35 rfl) cls_12 fl_RX12_560 cf_85_85 rfl rfl ?_
          refine a_iload_n (pc := 64) (dk dt_X12_pieces 36 rfl) rfl ?_
          exact a_iret (pc := 65) (dk dt_X12_pieces 37 rfl) rfl rfl H
        · replace H := H.2 c
          refine a_iload_n (pc := 5) (dk dt_X12_is 3 rfl) rfl ?_
          refine a_iload_n (pc := 6) (dk dt_X12_is 4 rfl) rfl ?_
          refine a_icmp_gt (pc := 7) (dk dt_X12_is 5 rfl) (tgt := 14) rfl ⟨fun c => ?_, fun c => ?_⟩
          · replace H := H.1 c
            refine a_iconst (pc := 14) (dk dt_X12_is 8 rfl) (ik rfl) ?_
            refine a_zret (pc := 15) (dk dt_X12_is 9 rfl) rfl rfl ⟨by decide, ?_⟩
            show ATW _ _ _ _ _ _ _ _ _ _
            refine a_if_ne (pc := 56) (dk dt_X12_pieces 32 rfl) (tgt := 66) rfl ⟨fun c => absurd c (by decide), fun _ => ?_⟩
            refine a_aload_n (pc := 59) (dk dt_X12_pieces 33 rfl) rfl ?_
            refine a_iconst (pc := 60) (dk dt_X12_pieces 34 rfl) (ik rfl) ?_
            refine a_puti (pc := 61) (dk dt_X12_pieces 35 rfl) cls_12 fl_RX12_560 cf_85_85 rfl rfl ?_
            refine a_iload_n (pc := 64) (dk dt_X12_pieces 36 rfl) rfl ?_
            exact a_iret (pc := 65) (dk dt_X12_pieces 37 rfl) rfl rfl H
          · replace H := H.2 c
            refine a_iconst (pc := 10) (dk dt_X12_is 6 rfl) (ik rfl) ?_
            refine a_goto (pc := 11) (dk dt_X12_is 7 rfl) (tgt := 15) rfl ?_
            refine a_zret (pc := 15) (dk dt_X12_is 9 rfl) rfl rfl ⟨by decide, ?_⟩
            show ATW _ _ _ _ _ _ _ _ _ _
            refine a_if_ne (pc := 56) (dk dt_X12_pieces 32 rfl) (tgt := 66) rfl ⟨fun _ => ?_, fun c => absurd c (by decide)⟩
            refine a_aload_n (pc := 66) (dk dt_X12_pieces 38 rfl) rfl ?_
            refine a_aload_n (pc := 67) (dk dt_X12_pieces 39 rfl) rfl ?_
            refine a_geti (pc := 68) (dk dt_X12_pieces 40 rfl) cls_12 fl_RX12_560 cf_85_85 ?_
            refine a_iconst (pc := 71) (dk dt_X12_pieces 41 rfl) (ik rfl) ?_
            refine a_icmp_ne (pc := 72) (dk dt_X12_pieces 42 rfl) (tgt := 82) rfl ⟨fun c => ?_, fun c => ?_⟩
            · replace H := H.1 c
              refine a_aload_n (pc := 82) (dk dt_X12_pieces 47 rfl) rfl ?_
              refine a_geti (pc := 83) (dk dt_X12_pieces 48 rfl) cls_12 fl_RX12_560 cf_85_85 ?_
              refine a_iconst (pc := 86) (dk dt_X12_pieces 49 rfl) (ik rfl) ?_
              refine a_icmp_ge (pc := 87) (dk dt_X12_pieces 50 rfl) (tgt := 95) rfl ⟨fun c => ?_, fun c => ?_⟩
              · replace H := H.1 c
                refine a_aload_n (pc := 95) (dk dt_X12_pieces 53 rfl) rfl ?_
                refine a_geti (pc := 96) (dk dt_X12_pieces 54 rfl) cls_12 fl_RX12_572 cf_85_86 ?_
                refine a_puti (pc := 99) (dk dt_X12_pieces 55 rfl) cls_12 fl_RX12_572 cf_85_86 rfl rfl ?_
                refine a_aload_n (pc := 102) (dk dt_X12_pieces 56 rfl) rfl ?_
                refine a_getr (r := 139) (pc := 103) (dk dt_X12_pieces 57 rfl) cls_12 fl_RX12_250 cf_85_91 ?_
                refine a_aload_n (pc := 106) (dk dt_X12_pieces 58 rfl) rfl ?_
                refine a_geti (pc := 107) (dk dt_X12_pieces 59 rfl) cls_12 fl_RX12_560 cf_85_85 ?_
                refine a_top (y := (h 85 85)) (by simp [up, cpy]) ?_
                refine a_iload (pc := 110) (dk dt_X12_pieces 60 rfl) rfl ?_
                refine a_iast (pc := 112) (dk dt_X12_pieces 61 rfl) ar_140 ⟨H.1, ?_⟩
                replace H := H.2
                refine a_aload_n (pc := 113) (dk dt_X12_pieces 62 rfl) rfl ?_
                refine a_dup (pc := 114) (dk dt_X12_pieces 63 rfl) rfl ?_
                refine a_geti (pc := 115) (dk dt_X12_pieces 64 rfl) cls_12 fl_RX12_560 cf_85_85 ?_
                refine a_top (y := (h 85 85)) (by simp [up, cpy]) ?_
                refine a_iconst (pc := 118) (dk dt_X12_pieces 65 rfl) (ik rfl) ?_
                refine a_iadd (pc := 119) (dk dt_X12_pieces 66 rfl) ?_
                refine a_puti (pc := 120) (dk dt_X12_pieces 67 rfl) cls_12 fl_RX12_560 cf_85_85 rfl rfl ?_
                refine a_iinc (pc := 123) (dk dt_X12_pieces 68 rfl) (by decide) rfl rfl rfl ?_
                refine a_aload_n (pc := 126) (dk dt_X12_pieces 69 rfl) rfl ?_
                refine a_geti (pc := 127) (dk dt_X12_pieces 70 rfl) cls_12 fl_RX12_560 cf_85_85 ?_
                refine a_top (y := (w32 ((h 85 85) + 1))) (by simp [up, cpy]) ?_
                refine a_aload_n (pc := 130) (dk dt_X12_pieces 71 rfl) rfl ?_
                refine a_geti (pc := 131) (dk dt_X12_pieces 72 rfl) cls_12 fl_RX12_572 cf_85_86 ?_
                refine a_top (y := (h 85 86)) (by simp [up, cpy]) ?_
                refine a_icmp_ge (pc := 134) (dk dt_X12_pieces 73 rfl) (tgt := 140) rfl ⟨fun c => ?_, fun c => ?_⟩
                · replace H := H.1 c
                  refine a_iinc (pc := 140) (dk dt_X12_pieces 75 rfl) (by decide) rfl rfl rfl ?_
                  refine a_aload_n (pc := 143) (dk dt_X12_pieces 76 rfl) rfl ?_
                  refine a_geti (pc := 144) (dk dt_X12_pieces 77 rfl) cls_12 fl_RX12_575 cf_85_87 ?_
                  refine a_top (y := (h 85 87)) (by simp [up, cpy]) ?_
                  refine a_bipush (pc := 147) (dk dt_X12_pieces 78 rfl) (ik rfl) (bpk rfl) ?_
                  refine a_icmp_ge (pc := 149) (dk dt_X12_pieces 79 rfl) (tgt := 215) rfl ⟨fun c => ?_, fun c => ?_⟩
                  · replace H := H.1 c
                    refine a_aload_n (pc := 215) (dk dt_X12_pieces 114 rfl) rfl ?_
                    refine a_iconst (pc := 216) (dk dt_X12_pieces 115 rfl) (ik rfl) ?_
                    refine a_puti (pc := 217) (dk dt_X12_pieces 116 rfl) cls_12 fl_RX12_560 cf_85_85 rfl rfl ?_
                    refine a_goto (pc := 220) (dk dt_X12_pieces 117 rfl) (tgt := 4) rfl ?_
                    exact a_pick [0, 1, 2] rfl H
                  · replace H := H.2 c
                    refine a_aload_n (pc := 152) (dk dt_X12_pieces 80 rfl) rfl ?_
                    refine a_getr (r := 141) (pc := 153) (dk dt_X12_pieces 81 rfl) cls_12 fl_RX12_256 cf_85_93 ?_
                    refine a_aload_n (pc := 156) (dk dt_X12_pieces 82 rfl) rfl ?_
                    refine a_geti (pc := 157) (dk dt_X12_pieces 83 rfl) cls_12 fl_RX12_575 cf_85_87 ?_
                    refine a_top (y := (h 85 87)) (by simp [up, cpy]) ?_
                    refine a_aload_n (pc := 160) (dk dt_X12_pieces 84 rfl) rfl ?_
                    refine a_geti (pc := 161) (dk dt_X12_pieces 85 rfl) cls_12 fl_RX12_560 cf_85_85 ?_
                    refine a_top (y := (w32 ((h 85 85) + 1))) (by simp [up, cpy]) ?_
                    refine a_iast (pc := 164) (dk dt_X12_pieces 86 rfl) ar_142 ⟨H.1, ?_⟩
                    replace H := H.2
                    refine a_iconst (pc := 165) (dk dt_X12_pieces 87 rfl) (ik rfl) ?_
                    refine a_istore (pc := 166) (dk dt_X12_pieces 88 rfl) (by decide) rfl rfl ?_
                    exact a_pick [0, 1, 2, 4] rfl H
                · replace H := H.2 c
                  refine a_goto (pc := 137) (dk dt_X12_pieces 74 rfl) (tgt := 4) rfl ?_
                  exact a_pick [0, 1, 2] rfl H
              · replace H := H.2 c
                refine a_bipush (pc := 90) (dk dt_X12_pieces 51 rfl) (ik rfl) (bpk rfl) ?_
                refine a_goto (pc := 92) (dk dt_X12_pieces 52 rfl) (tgt := 99) rfl ?_
                refine a_puti (pc := 99) (dk dt_X12_pieces 55 rfl) cls_12 fl_RX12_572 cf_85_86 rfl rfl ?_
                refine a_aload_n (pc := 102) (dk dt_X12_pieces 56 rfl) rfl ?_
                refine a_getr (r := 139) (pc := 103) (dk dt_X12_pieces 57 rfl) cls_12 fl_RX12_250 cf_85_91 ?_
                refine a_aload_n (pc := 106) (dk dt_X12_pieces 58 rfl) rfl ?_
                refine a_geti (pc := 107) (dk dt_X12_pieces 59 rfl) cls_12 fl_RX12_560 cf_85_85 ?_
                refine a_top (y := (h 85 85)) (by simp [up, cpy]) ?_
                refine a_iload (pc := 110) (dk dt_X12_pieces 60 rfl) rfl ?_
                refine a_iast (pc := 112) (dk dt_X12_pieces 61 rfl) ar_140 ⟨H.1, ?_⟩
                replace H := H.2
                refine a_aload_n (pc := 113) (dk dt_X12_pieces 62 rfl) rfl ?_
                refine a_dup (pc := 114) (dk dt_X12_pieces 63 rfl) rfl ?_
                refine a_geti (pc := 115) (dk dt_X12_pieces 64 rfl) cls_12 fl_RX12_560 cf_85_85 ?_
                refine a_top (y := (h 85 85)) (by simp [up, cpy]) ?_
                refine a_iconst (pc := 118) (dk dt_X12_pieces 65 rfl) (ik rfl) ?_
                refine a_iadd (pc := 119) (dk dt_X12_pieces 66 rfl) ?_
                refine a_puti (pc := 120) (dk dt_X12_pieces 67 rfl) cls_12 fl_RX12_560 cf_85_85 rfl rfl ?_
                refine a_iinc (pc := 123) (dk dt_X12_pieces 68 rfl) (by decide) rfl rfl rfl ?_
                refine a_aload_n (pc := 126) (dk dt_X12_pieces 69 rfl) rfl ?_
                refine a_geti (pc := 127) (dk dt_X12_pieces 70 rfl) cls_12 fl_RX12_560 cf_85_85 ?_
                refine a_top (y := (w32 ((h 85 85) + 1))) (by simp [up, cpy]) ?_
                refine a_aload_n (pc := 130) (dk dt_X12_pieces 71 rfl) rfl ?_
                refine a_geti (pc := 131) (dk dt_X12_pieces 72 rfl) cls_12 fl_RX12_572 cf_85_86 ?_
                refine a_top (y := 9) (by simp [up, cpy]) ?_
                refine a_icmp_ge (pc := 134) (dk dt_X12_pieces 73 rfl) (tgt := 140) rfl ⟨fun c => ?_, fun c => ?_⟩
                · replace H := H.1 c
                  refine a_iinc (pc := 140) (dk dt_X12_pieces 75 rfl) (by decide) rfl rfl rfl ?_
                  refine a_aload_n (pc := 143) (dk dt_X12_pieces 76 rfl) rfl ?_
                  refine a_geti (pc := 144) (dk dt_X12_pieces 77 rfl) cls_12 fl_RX12_575 cf_85_87 ?_
                  refine a_top (y := (h 85 87)) (by simp [up, cpy]) ?_
                  refine a_bipush (pc := 147) (dk dt_X12_pieces 78 rfl) (ik rfl) (bpk rfl) ?_
                  refine a_icmp_ge (pc := 149) (dk dt_X12_pieces 79 rfl) (tgt := 215) rfl ⟨fun c => ?_, fun c => ?_⟩
                  · replace H := H.1 c
                    refine a_aload_n (pc := 215) (dk dt_X12_pieces 114 rfl) rfl ?_
                    refine a_iconst (pc := 216) (dk dt_X12_pieces 115 rfl) (ik rfl) ?_
                    refine a_puti (pc := 217) (dk dt_X12_pieces 116 rfl) cls_12 fl_RX12_560 cf_85_85 rfl rfl ?_
                    refine a_goto (pc := 220) (dk dt_X12_pieces 117 rfl) (tgt := 4) rfl ?_
                    exact a_pick [0, 1, 2] rfl H
                  · replace H := H.2 c
                    refine a_aload_n (pc := 152) (dk dt_X12_pieces 80 rfl) rfl ?_
                    refine a_getr (r := 141) (pc := 153) (dk dt_X12_pieces 81 rfl) cls_12 fl_RX12_256 cf_85_93 ?_
                    refine a_aload_n (pc := 156) (dk dt_X12_pieces 82 rfl) rfl ?_
                    refine a_geti (pc := 157) (dk dt_X12_pieces 83 rfl) cls_12 fl_RX12_575 cf_85_87 ?_
                    refine a_top (y := (h 85 87)) (by simp [up, cpy]) ?_
                    refine a_aload_n (pc := 160) (dk dt_X12_pieces 84 rfl) rfl ?_
                    refine a_geti (pc := 161) (dk dt_X12_pieces 85 rfl) cls_12 fl_RX12_560 cf_85_85 ?_
                    refine a_top (y := (w32 ((h 85 85) + 1))) (by simp [up, cpy]) ?_
                    refine a_iast (pc := 164) (dk dt_X12_pieces 86 rfl) ar_142 ⟨H.1, ?_⟩
                    replace H := H.2
                    refine a_iconst (pc := 165) (dk dt_X12_pieces 87 rfl) (ik rfl) ?_
                    refine a_istore (pc := 166) (dk dt_X12_pieces 88 rfl) (by decide) rfl rfl ?_
                    exact a_pick [0, 1, 2, 4] rfl H
                · replace H := H.2 c
                  refine a_goto (pc := 137) (dk dt_X12_pieces 74 rfl) (tgt := 4) rfl ?_
                  exact a_pick [0, 1, 2] rfl H
            · replace H := H.2 c
              refine a_iconst (pc := 75) (dk dt_X12_pieces 43 rfl) (ik rfl) ?_
              refine a_iload (pc := 76) (dk dt_X12_pieces 44 rfl) rfl ?_
              refine a_iadd (pc := 78) (dk dt_X12_pieces 45 rfl) ?_
              refine a_goto (pc := 79) (dk dt_X12_pieces 46 rfl) (tgt := 99) rfl ?_
              refine a_puti (pc := 99) (dk dt_X12_pieces 55 rfl) cls_12 fl_RX12_572 cf_85_86 rfl rfl ?_
              refine a_aload_n (pc := 102) (dk dt_X12_pieces 56 rfl) rfl ?_
              refine a_getr (r := 139) (pc := 103) (dk dt_X12_pieces 57 rfl) cls_12 fl_RX12_250 cf_85_91 ?_
              refine a_aload_n (pc := 106) (dk dt_X12_pieces 58 rfl) rfl ?_
              refine a_geti (pc := 107) (dk dt_X12_pieces 59 rfl) cls_12 fl_RX12_560 cf_85_85 ?_
              refine a_top (y := (h 85 85)) (by simp [up, cpy]) ?_
              refine a_iload (pc := 110) (dk dt_X12_pieces 60 rfl) rfl ?_
              refine a_iast (pc := 112) (dk dt_X12_pieces 61 rfl) ar_140 ⟨H.1, ?_⟩
              replace H := H.2
              refine a_aload_n (pc := 113) (dk dt_X12_pieces 62 rfl) rfl ?_
              refine a_dup (pc := 114) (dk dt_X12_pieces 63 rfl) rfl ?_
              refine a_geti (pc := 115) (dk dt_X12_pieces 64 rfl) cls_12 fl_RX12_560 cf_85_85 ?_
              refine a_top (y := (h 85 85)) (by simp [up, cpy]) ?_
              refine a_iconst (pc := 118) (dk dt_X12_pieces 65 rfl) (ik rfl) ?_
              refine a_iadd (pc := 119) (dk dt_X12_pieces 66 rfl) ?_
              refine a_puti (pc := 120) (dk dt_X12_pieces 67 rfl) cls_12 fl_RX12_560 cf_85_85 rfl rfl ?_
              refine a_iinc (pc := 123) (dk dt_X12_pieces 68 rfl) (by decide) rfl rfl rfl ?_
              refine a_aload_n (pc := 126) (dk dt_X12_pieces 69 rfl) rfl ?_
              refine a_geti (pc := 127) (dk dt_X12_pieces 70 rfl) cls_12 fl_RX12_560 cf_85_85 ?_
              refine a_top (y := (w32 ((h 85 85) + 1))) (by simp [up, cpy]) ?_
              refine a_aload_n (pc := 130) (dk dt_X12_pieces 71 rfl) rfl ?_
              refine a_geti (pc := 131) (dk dt_X12_pieces 72 rfl) cls_12 fl_RX12_572 cf_85_86 ?_
              refine a_top (y := (w32 (5 + (h 139 (w32 (4 + x3)))))) (by simp [up, cpy]) ?_
              refine a_icmp_ge (pc := 134) (dk dt_X12_pieces 73 rfl) (tgt := 140) rfl ⟨fun c => ?_, fun c => ?_⟩
              · replace H := H.1 c
                refine a_iinc (pc := 140) (dk dt_X12_pieces 75 rfl) (by decide) rfl rfl rfl ?_
                refine a_aload_n (pc := 143) (dk dt_X12_pieces 76 rfl) rfl ?_
                refine a_geti (pc := 144) (dk dt_X12_pieces 77 rfl) cls_12 fl_RX12_575 cf_85_87 ?_
                refine a_top (y := (h 85 87)) (by simp [up, cpy]) ?_
                refine a_bipush (pc := 147) (dk dt_X12_pieces 78 rfl) (ik rfl) (bpk rfl) ?_
                refine a_icmp_ge (pc := 149) (dk dt_X12_pieces 79 rfl) (tgt := 215) rfl ⟨fun c => ?_, fun c => ?_⟩
                · replace H := H.1 c
                  refine a_aload_n (pc := 215) (dk dt_X12_pieces 114 rfl) rfl ?_
                  refine a_iconst (pc := 216) (dk dt_X12_pieces 115 rfl) (ik rfl) ?_
                  refine a_puti (pc := 217) (dk dt_X12_pieces 116 rfl) cls_12 fl_RX12_560 cf_85_85 rfl rfl ?_
                  refine a_goto (pc := 220) (dk dt_X12_pieces 117 rfl) (tgt := 4) rfl ?_
                  exact a_pick [0, 1, 2] rfl H
                · replace H := H.2 c
                  refine a_aload_n (pc := 152) (dk dt_X12_pieces 80 rfl) rfl ?_
                  refine a_getr (r := 141) (pc := 153) (dk dt_X12_pieces 81 rfl) cls_12 fl_RX12_256 cf_85_93 ?_
                  refine a_aload_n (pc := 156) (dk dt_X12_pieces 82 rfl) rfl ?_
                  refine a_geti (pc := 157) (dk dt_X12_pieces 83 rfl) cls_12 fl_RX12_575 cf_85_87 ?_
                  refine a_top (y := (h 85 87)) (by simp [up, cpy]) ?_
                  refine a_aload_n (pc := 160) (dk dt_X12_pieces 84 rfl) rfl ?_
                  refine a_geti (pc := 161) (dk dt_X12_pieces 85 rfl) cls_12 fl_RX12_560 cf_85_85 ?_
                  refine a_top (y := (w32 ((h 85 85) + 1))) (by simp [up, cpy]) ?_
                  refine a_iast (pc := 164) (dk dt_X12_pieces 86 rfl) ar_142 ⟨H.1, ?_⟩
                  replace H := H.2
                  refine a_iconst (pc := 165) (dk dt_X12_pieces 87 rfl) (ik rfl) ?_
                  refine a_istore (pc := 166) (dk dt_X12_pieces 88 rfl) (by decide) rfl rfl ?_
                  exact a_pick [0, 1, 2, 4] rfl H
              · replace H := H.2 c
                refine a_goto (pc := 137) (dk dt_X12_pieces 74 rfl) (tgt := 4) rfl ?_
                exact a_pick [0, 1, 2] rfl H
    · replace H := H.2 c
      refine a_iload (pc := 27) (dk dt_X12_pieces 17 rfl) rfl ?_
      refine a_bipush (pc := 29) (dk dt_X12_pieces 18 rfl) (ik rfl) (bpk rfl) ?_
      refine a_bipush (pc := 31) (dk dt_X12_pieces 19 rfl) (ik rfl) (bpk rfl) ?_
      refine a_callSi (as := [iv (h 139 (w32 (4 + x3))), iv 10, iv 25]) (st := []) (pc := 33) (dk dt_X12_pieces 20 rfl) cl_RX12_302 ⟨Nat.le_of_ble_eq_true rfl, Nat.le_of_ble_eq_true rfl⟩ ⟨Nat.le_of_ble_eq_true rfl, Nat.le_of_ble_eq_true rfl⟩ rfl rfl rfl (Nat.le_of_ble_eq_true rfl) (Call.of rfl (Nat.le_of_ble_eq_true rfl) rfl ?_)
      refine a_iload_n (pc := 0) (dk dt_X12_is 0 rfl) rfl ?_
      refine a_iload_n (pc := 1) (dk dt_X12_is 1 rfl) rfl ?_
      refine a_icmp_lt (pc := 2) (dk dt_X12_is 2 rfl) (tgt := 14) rfl ⟨fun c => ?_, fun c => ?_⟩
      · replace H := H.1 c
        refine a_iconst (pc := 14) (dk dt_X12_is 8 rfl) (ik rfl) ?_
        refine a_zret (pc := 15) (dk dt_X12_is 9 rfl) rfl rfl ⟨by decide, ?_⟩
        show ATW _ _ _ _ _ _ _ _ _ _
        refine a_if_ne (pc := 36) (dk dt_X12_pieces 21 rfl) (tgt := 41) rfl ⟨fun c => absurd c (by decide), fun _ => ?_⟩
        refine a_iload_n (pc := 39) (dk dt_X12_pieces 22 rfl) rfl ?_
        exact a_iret (pc := 40) (dk dt_X12_pieces 23 rfl) rfl rfl H
      · replace H := H.2 c
        refine a_iload_n (pc := 5) (dk dt_X12_is 3 rfl) rfl ?_
        refine a_iload_n (pc := 6) (dk dt_X12_is 4 rfl) rfl ?_
        refine a_icmp_gt (pc := 7) (dk dt_X12_is 5 rfl) (tgt := 14) rfl ⟨fun c => ?_, fun c => ?_⟩
        · replace H := H.1 c
          refine a_iconst (pc := 14) (dk dt_X12_is 8 rfl) (ik rfl) ?_
          refine a_zret (pc := 15) (dk dt_X12_is 9 rfl) rfl rfl ⟨by decide, ?_⟩
          show ATW _ _ _ _ _ _ _ _ _ _
          refine a_if_ne (pc := 36) (dk dt_X12_pieces 21 rfl) (tgt := 41) rfl ⟨fun c => absurd c (by decide), fun _ => ?_⟩
          refine a_iload_n (pc := 39) (dk dt_X12_pieces 22 rfl) rfl ?_
          exact a_iret (pc := 40) (dk dt_X12_pieces 23 rfl) rfl rfl H
        · replace H := H.2 c
          refine a_iconst (pc := 10) (dk dt_X12_is 6 rfl) (ik rfl) ?_
          refine a_goto (pc := 11) (dk dt_X12_is 7 rfl) (tgt := 15) rfl ?_
          refine a_zret (pc := 15) (dk dt_X12_is 9 rfl) rfl rfl ⟨by decide, ?_⟩
          show ATW _ _ _ _ _ _ _ _ _ _
          refine a_if_ne (pc := 36) (dk dt_X12_pieces 21 rfl) (tgt := 41) rfl ⟨fun _ => ?_, fun c => absurd c (by decide)⟩
          refine a_aload_n (pc := 41) (dk dt_X12_pieces 24 rfl) rfl ?_
          refine a_geti (pc := 42) (dk dt_X12_pieces 25 rfl) cls_12 fl_RX12_560 cf_85_85 ?_
          refine a_iconst (pc := 45) (dk dt_X12_pieces 26 rfl) (ik rfl) ?_
          refine a_icmp_ne (pc := 46) (dk dt_X12_pieces 27 rfl) (tgt := 66) rfl ⟨fun c => ?_, fun c => ?_⟩
          · replace H := H.1 c
            refine a_aload_n (pc := 66) (dk dt_X12_pieces 38 rfl) rfl ?_
            refine a_aload_n (pc := 67) (dk dt_X12_pieces 39 rfl) rfl ?_
            refine a_geti (pc := 68) (dk dt_X12_pieces 40 rfl) cls_12 fl_RX12_560 cf_85_85 ?_
            refine a_iconst (pc := 71) (dk dt_X12_pieces 41 rfl) (ik rfl) ?_
            refine a_icmp_ne (pc := 72) (dk dt_X12_pieces 42 rfl) (tgt := 82) rfl ⟨fun c => ?_, fun c => ?_⟩
            · replace H := H.1 c
              refine a_aload_n (pc := 82) (dk dt_X12_pieces 47 rfl) rfl ?_
              refine a_geti (pc := 83) (dk dt_X12_pieces 48 rfl) cls_12 fl_RX12_560 cf_85_85 ?_
              refine a_iconst (pc := 86) (dk dt_X12_pieces 49 rfl) (ik rfl) ?_
              refine a_icmp_ge (pc := 87) (dk dt_X12_pieces 50 rfl) (tgt := 95) rfl ⟨fun c => ?_, fun c => ?_⟩
              · replace H := H.1 c
                refine a_aload_n (pc := 95) (dk dt_X12_pieces 53 rfl) rfl ?_
                refine a_geti (pc := 96) (dk dt_X12_pieces 54 rfl) cls_12 fl_RX12_572 cf_85_86 ?_
                refine a_puti (pc := 99) (dk dt_X12_pieces 55 rfl) cls_12 fl_RX12_572 cf_85_86 rfl rfl ?_
                refine a_aload_n (pc := 102) (dk dt_X12_pieces 56 rfl) rfl ?_
                refine a_getr (r := 139) (pc := 103) (dk dt_X12_pieces 57 rfl) cls_12 fl_RX12_250 cf_85_91 ?_
                refine a_aload_n (pc := 106) (dk dt_X12_pieces 58 rfl) rfl ?_
                refine a_geti (pc := 107) (dk dt_X12_pieces 59 rfl) cls_12 fl_RX12_560 cf_85_85 ?_
                refine a_top (y := (h 85 85)) (by simp [up, cpy]) ?_
                refine a_iload (pc := 110) (dk dt_X12_pieces 60 rfl) rfl ?_
                refine a_iast (pc := 112) (dk dt_X12_pieces 61 rfl) ar_140 ⟨H.1, ?_⟩
                replace H := H.2
                refine a_aload_n (pc := 113) (dk dt_X12_pieces 62 rfl) rfl ?_
                refine a_dup (pc := 114) (dk dt_X12_pieces 63 rfl) rfl ?_
                refine a_geti (pc := 115) (dk dt_X12_pieces 64 rfl) cls_12 fl_RX12_560 cf_85_85 ?_
                refine a_top (y := (h 85 85)) (by simp [up, cpy]) ?_
                refine a_iconst (pc := 118) (dk dt_X12_pieces 65 rfl) (ik rfl) ?_
                refine a_iadd (pc := 119) (dk dt_X12_pieces 66 rfl) ?_
                refine a_puti (pc := 120) (dk dt_X12_pieces 67 rfl) cls_12 fl_RX12_560 cf_85_85 rfl rfl ?_
                refine a_iinc (pc := 123) (dk dt_X12_pieces 68 rfl) (by decide) rfl rfl rfl ?_
                refine a_aload_n (pc := 126) (dk dt_X12_pieces 69 rfl) rfl ?_
                refine a_geti (pc := 127) (dk dt_X12_pieces 70 rfl) cls_12 fl_RX12_560 cf_85_85 ?_
                refine a_top (y := (w32 ((h 85 85) + 1))) (by simp [up, cpy]) ?_
                refine a_aload_n (pc := 130) (dk dt_X12_pieces 71 rfl) rfl ?_
                refine a_geti (pc := 131) (dk dt_X12_pieces 72 rfl) cls_12 fl_RX12_572 cf_85_86 ?_
                refine a_top (y := (h 85 86)) (by simp [up, cpy]) ?_
                refine a_icmp_ge (pc := 134) (dk dt_X12_pieces 73 rfl) (tgt := 140) rfl ⟨fun c => ?_, fun c => ?_⟩
                · replace H := H.1 c
                  refine a_iinc (pc := 140) (dk dt_X12_pieces 75 rfl) (by decide) rfl rfl rfl ?_
                  refine a_aload_n (pc := 143) (dk dt_X12_pieces 76 rfl) rfl ?_
                  refine a_geti (pc := 144) (dk dt_X12_pieces 77 rfl) cls_12 fl_RX12_575 cf_85_87 ?_
                  refine a_top (y := (h 85 87)) (by simp [up, cpy]) ?_
                  refine a_bipush (pc := 147) (dk dt_X12_pieces 78 rfl) (ik rfl) (bpk rfl) ?_
                  refine a_icmp_ge (pc := 149) (dk dt_X12_pieces 79 rfl) (tgt := 215) rfl ⟨fun c => ?_, fun c => ?_⟩
                  · replace H := H.1 c
                    refine a_aload_n (pc := 215) (dk dt_X12_pieces 114 rfl) rfl ?_
                    refine a_iconst (pc := 216) (dk dt_X12_pieces 115 rfl) (ik rfl) ?_
                    refine a_puti (pc := 217) (dk dt_X12_pieces 116 rfl) cls_12 fl_RX12_560 cf_85_85 rfl rfl ?_
                    refine a_goto (pc := 220) (dk dt_X12_pieces 117 rfl) (tgt := 4) rfl ?_
                    exact a_pick [0, 1, 2] rfl H
                  · replace H := H.2 c
                    refine a_aload_n (pc := 152) (dk dt_X12_pieces 80 rfl) rfl ?_
                    refine a_getr (r := 141) (pc := 153) (dk dt_X12_pieces 81 rfl) cls_12 fl_RX12_256 cf_85_93 ?_
                    refine a_aload_n (pc := 156) (dk dt_X12_pieces 82 rfl) rfl ?_
                    refine a_geti (pc := 157) (dk dt_X12_pieces 83 rfl) cls_12 fl_RX12_575 cf_85_87 ?_
                    refine a_top (y := (h 85 87)) (by simp [up, cpy]) ?_
                    refine a_aload_n (pc := 160) (dk dt_X12_pieces 84 rfl) rfl ?_
                    refine a_geti (pc := 161) (dk dt_X12_pieces 85 rfl) cls_12 fl_RX12_560 cf_85_85 ?_
                    refine a_top (y := (w32 ((h 85 85) + 1))) (by simp [up, cpy]) ?_
                    refine a_iast (pc := 164) (dk dt_X12_pieces 86 rfl) ar_142 ⟨H.1, ?_⟩
                    replace H := H.2
                    refine a_iconst (pc := 165) (dk dt_X12_pieces 87 rfl) (ik rfl) ?_
                    refine a_istore (pc := 166) (dk dt_X12_pieces 88 rfl) (by decide) rfl rfl ?_
                    exact a_pick [0, 1, 2, 4] rfl H
                · replace H := H.2 c
                  refine a_goto (pc := 137) (dk dt_X12_pieces 74 rfl) (tgt := 4) rfl ?_
                  exact a_pick [0, 1, 2] rfl H
              · replace H := H.2 c
                refine a_bipush (pc := 90) (dk dt_X12_pieces 51 rfl) (ik rfl) (bpk rfl) ?_
                refine a_goto (pc := 92) (dk dt_X12_pieces 52 rfl) (tgt := 99) rfl ?_
                refine a_puti (pc := 99) (dk dt_X12_pieces 55 rfl) cls_12 fl_RX12_572 cf_85_86 rfl rfl ?_
                refine a_aload_n (pc := 102) (dk dt_X12_pieces 56 rfl) rfl ?_
                refine a_getr (r := 139) (pc := 103) (dk dt_X12_pieces 57 rfl) cls_12 fl_RX12_250 cf_85_91 ?_
                refine a_aload_n (pc := 106) (dk dt_X12_pieces 58 rfl) rfl ?_
                refine a_geti (pc := 107) (dk dt_X12_pieces 59 rfl) cls_12 fl_RX12_560 cf_85_85 ?_
                refine a_top (y := (h 85 85)) (by simp [up, cpy]) ?_
                refine a_iload (pc := 110) (dk dt_X12_pieces 60 rfl) rfl ?_
                refine a_iast (pc := 112) (dk dt_X12_pieces 61 rfl) ar_140 ⟨H.1, ?_⟩
                replace H := H.2
                refine a_aload_n (pc := 113) (dk dt_X12_pieces 62 rfl) rfl ?_
                refine a_dup (pc := 114) (dk dt_X12_pieces 63 rfl) rfl ?_
                refine a_geti (pc := 115) (dk dt_X12_pieces 64 rfl) cls_12 fl_RX12_560 cf_85_85 ?_
                refine a_top (y := (h 85 85)) (by simp [up, cpy]) ?_
                refine a_iconst (pc := 118) (dk dt_X12_pieces 65 rfl) (ik rfl) ?_
                refine a_iadd (pc := 119) (dk dt_X12_pieces 66 rfl) ?_
                refine a_puti (pc := 120) (dk dt_X12_pieces 67 rfl) cls_12 fl_RX12_560 cf_85_85 rfl rfl ?_
                refine a_iinc (pc := 123) (dk dt_X12_pieces 68 rfl) (by decide) rfl rfl rfl ?_
                refine a_aload_n (pc := 126) (dk dt_X12_pieces 69 rfl) rfl ?_
                refine a_geti (pc := 127) (dk dt_X12_pieces 70 rfl) cls_12 fl_RX12_560 cf_85_85 ?_
                refine a_top (y := (w32 ((h 85 85) + 1))) (by simp [up, cpy]) ?_
                refine a_aload_n (pc := 130) (dk dt_X12_pieces 71 rfl) rfl ?_
                refine a_geti (pc := 131) (dk dt_X12_pieces 72 rfl) cls_12 fl_RX12_572 cf_85_86 ?_
                refine a_top (y := 9) (by simp [up, cpy]) ?_
                refine a_icmp_ge (pc := 134) (dk dt_X12_pieces 73 rfl) (tgt := 140) rfl ⟨fun c => ?_, fun c => ?_⟩
                · replace H := H.1 c
                  refine a_iinc (pc := 140) (dk dt_X12_pieces 75 rfl) (by decide) rfl rfl rfl ?_
                  refine a_aload_n (pc := 143) (dk dt_X12_pieces 76 rfl) rfl ?_
                  refine a_geti (pc := 144) (dk dt_X12_pieces 77 rfl) cls_12 fl_RX12_575 cf_85_87 ?_
                  refine a_top (y := (h 85 87)) (by simp [up, cpy]) ?_
                  refine a_bipush (pc := 147) (dk dt_X12_pieces 78 rfl) (ik rfl) (bpk rfl) ?_
                  refine a_icmp_ge (pc := 149) (dk dt_X12_pieces 79 rfl) (tgt := 215) rfl ⟨fun c => ?_, fun c => ?_⟩
                  · replace H := H.1 c
                    refine a_aload_n (pc := 215) (dk dt_X12_pieces 114 rfl) rfl ?_
                    refine a_iconst (pc := 216) (dk dt_X12_pieces 115 rfl) (ik rfl) ?_
                    refine a_puti (pc := 217) (dk dt_X12_pieces 116 rfl) cls_12 fl_RX12_560 cf_85_85 rfl rfl ?_
                    refine a_goto (pc := 220) (dk dt_X12_pieces 117 rfl) (tgt := 4) rfl ?_
                    exact a_pick [0, 1, 2] rfl H
                  · replace H := H.2 c
                    refine a_aload_n (pc := 152) (dk dt_X12_pieces 80 rfl) rfl ?_
                    refine a_getr (r := 141) (pc := 153) (dk dt_X12_pieces 81 rfl) cls_12 fl_RX12_256 cf_85_93 ?_
                    refine a_aload_n (pc := 156) (dk dt_X12_pieces 82 rfl) rfl ?_
                    refine a_geti (pc := 157) (dk dt_X12_pieces 83 rfl) cls_12 fl_RX12_575 cf_85_87 ?_
                    refine a_top (y := (h 85 87)) (by simp [up, cpy]) ?_
                    refine a_aload_n (pc := 160) (dk dt_X12_pieces 84 rfl) rfl ?_
                    refine a_geti (pc := 161) (dk dt_X12_pieces 85 rfl) cls_12 fl_RX12_560 cf_85_85 ?_
                    refine a_top (y := (w32 ((h 85 85) + 1))) (by simp [up, cpy]) ?_
                    refine a_iast (pc := 164) (dk dt_X12_pieces 86 rfl) ar_142 ⟨H.1, ?_⟩
                    replace H := H.2
                    refine a_iconst (pc := 165) (dk dt_X12_pieces 87 rfl) (ik rfl) ?_
                    refine a_istore (pc := 166) (dk dt_X12_pieces 88 rfl) (by decide) rfl rfl ?_
                    exact a_pick [0, 1, 2, 4] rfl H
                · replace H := H.2 c
                  refine a_goto (pc := 137) (dk dt_X12_pieces 74 rfl) (tgt := 4) rfl ?_
                  exact a_pick [0, 1, 2] rfl H
            · replace H := H.2 c
              refine a_iconst (pc := 75) (dk dt_X12_pieces 43 rfl) (ik rfl) ?_
              refine a_iload (pc := 76) (dk dt_X12_pieces 44 rfl) rfl ?_
              refine a_iadd (pc := 78) (dk dt_X12_pieces 45 rfl) ?_
              refine a_goto (pc := 79) (dk dt_X12_pieces 46 rfl) (tgt := 99) rfl ?_
              refine a_puti (pc := 99) (dk dt_X12_pieces 55 rfl) cls_12 fl_RX12_572 cf_85_86 rfl rfl ?_
              refine a_aload_n (pc := 102) (dk dt_X12_pieces 56 rfl) rfl ?_
              refine a_getr (r := 139) (pc := 103) (dk dt_X12_pieces 57 rfl) cls_12 fl_RX12_250 cf_85_91 ?_
              refine a_aload_n (pc := 106) (dk dt_X12_pieces 58 rfl) rfl ?_
              refine a_geti (pc := 107) (dk dt_X12_pieces 59 rfl) cls_12 fl_RX12_560 cf_85_85 ?_
              refine a_top (y := (h 85 85)) (by simp [up, cpy]) ?_
              refine a_iload (pc := 110) (dk dt_X12_pieces 60 rfl) rfl ?_
              refine a_iast (pc := 112) (dk dt_X12_pieces 61 rfl) ar_140 ⟨H.1, ?_⟩
              replace H := H.2
              refine a_aload_n (pc := 113) (dk dt_X12_pieces 62 rfl) rfl ?_
              refine a_dup (pc := 114) (dk dt_X12_pieces 63 rfl) rfl ?_
              refine a_geti (pc := 115) (dk dt_X12_pieces 64 rfl) cls_12 fl_RX12_560 cf_85_85 ?_
              refine a_top (y := (h 85 85)) (by simp [up, cpy]) ?_
              refine a_iconst (pc := 118) (dk dt_X12_pieces 65 rfl) (ik rfl) ?_
              refine a_iadd (pc := 119) (dk dt_X12_pieces 66 rfl) ?_
              refine a_puti (pc := 120) (dk dt_X12_pieces 67 rfl) cls_12 fl_RX12_560 cf_85_85 rfl rfl ?_
              refine a_iinc (pc := 123) (dk dt_X12_pieces 68 rfl) (by decide) rfl rfl rfl ?_
              refine a_aload_n (pc := 126) (dk dt_X12_pieces 69 rfl) rfl ?_
              refine a_geti (pc := 127) (dk dt_X12_pieces 70 rfl) cls_12 fl_RX12_560 cf_85_85 ?_
              refine a_top (y := (w32 ((h 85 85) + 1))) (by simp [up, cpy]) ?_
              refine a_aload_n (pc := 130) (dk dt_X12_pieces 71 rfl) rfl ?_
              refine a_geti (pc := 131) (dk dt_X12_pieces 72 rfl) cls_12 fl_RX12_572 cf_85_86 ?_
              refine a_top (y := (w32 (5 + (h 139 (w32 (4 + x3)))))) (by simp [up, cpy]) ?_
              refine a_icmp_ge (pc := 134) (dk dt_X12_pieces 73 rfl) (tgt := 140) rfl ⟨fun c => ?_, fun c => ?_⟩
              · replace H := H.1 c
                refine a_iinc (pc := 140) (dk dt_X12_pieces 75 rfl) (by decide) rfl rfl rfl ?_
                refine a_aload_n (pc := 143) (dk dt_X12_pieces 76 rfl) rfl ?_
                refine a_geti (pc := 144) (dk dt_X12_pieces 77 rfl) cls_12 fl_RX12_575 cf_85_87 ?_
                refine a_top (y := (h 85 87)) (by simp [up, cpy]) ?_
                refine a_bipush (pc := 147) (dk dt_X12_pieces 78 rfl) (ik rfl) (bpk rfl) ?_
                refine a_icmp_ge (pc := 149) (dk dt_X12_pieces 79 rfl) (tgt := 215) rfl ⟨fun c => ?_, fun c => ?_⟩
                · replace H := H.1 c
                  refine a_aload_n (pc := 215) (dk dt_X12_pieces 114 rfl) rfl ?_
                  refine a_iconst (pc := 216) (dk dt_X12_pieces 115 rfl) (ik rfl) ?_
                  refine a_puti (pc := 217) (dk dt_X12_pieces 116 rfl) cls_12 fl_RX12_560 cf_85_85 rfl rfl ?_
                  refine a_goto (pc := 220) (dk dt_X12_pieces 117 rfl) (tgt := 4) rfl ?_
                  exact a_pick [0, 1, 2] rfl H
                · replace H := H.2 c
                  refine a_aload_n (pc := 152) (dk dt_X12_pieces 80 rfl) rfl ?_
                  refine a_getr (r := 141) (pc := 153) (dk dt_X12_pieces 81 rfl) cls_12 fl_RX12_256 cf_85_93 ?_
                  refine a_aload_n (pc := 156) (dk dt_X12_pieces 82 rfl) rfl ?_
                  refine a_geti (pc := 157) (dk dt_X12_pieces 83 rfl) cls_12 fl_RX12_575 cf_85_87 ?_
                  refine a_top (y := (h 85 87)) (by simp [up, cpy]) ?_
                  refine a_aload_n (pc := 160) (dk dt_X12_pieces 84 rfl) rfl ?_
                  refine a_geti (pc := 161) (dk dt_X12_pieces 85 rfl) cls_12 fl_RX12_560 cf_85_85 ?_
                  refine a_top (y := (w32 ((h 85 85) + 1))) (by simp [up, cpy]) ?_
                  refine a_iast (pc := 164) (dk dt_X12_pieces 86 rfl) ar_142 ⟨H.1, ?_⟩
                  replace H := H.2
                  refine a_iconst (pc := 165) (dk dt_X12_pieces 87 rfl) (ik rfl) ?_
                  refine a_istore (pc := 166) (dk dt_X12_pieces 88 rfl) (by decide) rfl rfl ?_
                  exact a_pick [0, 1, 2, 4] rfl H
              · replace H := H.2 c
                refine a_goto (pc := 137) (dk dt_X12_pieces 74 rfl) (tgt := 4) rfl ?_
                exact a_pick [0, 1, 2] rfl H
          · replace H := H.2 c
            refine a_iload (pc := 49) (dk dt_X12_pieces 28 rfl) rfl ?_
            refine a_iconst (pc := 51) (dk dt_X12_pieces 29 rfl) (ik rfl) ?_
            refine a_iconst (pc := 52) (dk dt_X12_pieces 30 rfl) (ik rfl) ?_
            refine a_callSi (as := [iv (h 139 (w32 (4 + x3))), iv 1, iv 4]) (st := []) (pc := 53) (dk dt_X12_pieces 31 rfl) cl_RX12_302 ⟨Nat.le_of_ble_eq_true rfl, Nat.le_of_ble_eq_true rfl⟩ ⟨Nat.le_of_ble_eq_true rfl, Nat.le_of_ble_eq_true rfl⟩ rfl rfl rfl (Nat.le_of_ble_eq_true rfl) (Call.of rfl (Nat.le_of_ble_eq_true rfl) rfl ?_)
            refine a_iload_n (pc := 0) (dk dt_X12_is 0 rfl) rfl ?_
            refine a_iload_n (pc := 1) (dk dt_X12_is 1 rfl) rfl ?_
            refine a_icmp_lt (pc := 2) (dk dt_X12_is 2 rfl) (tgt := 14) rfl ⟨fun c => ?_, fun c => ?_⟩
            · replace H := H.1 c
              refine a_iconst (pc := 14) (dk dt_X12_is 8 rfl) (ik rfl) ?_
              refine a_zret (pc := 15) (dk dt_X12_is 9 rfl) rfl rfl ⟨by decide, ?_⟩
              show ATW _ _ _ _ _ _ _ _ _ _
              refine a_if_ne (pc := 56) (dk dt_X12_pieces 32 rfl) (tgt := 66) rfl ⟨fun c => absurd c (by decide), fun _ => ?_⟩
              refine a_aload_n (pc := 59) (dk dt_X12_pieces 33 rfl) rfl ?_
              refine a_iconst (pc := 60) (dk dt_X12_pieces 34 rfl) (ik rfl) ?_
              refine a_puti (pc := 61) (dk dt_X12_pieces 35 rfl) cls_12 fl_RX12_560 cf_85_85 rfl rfl ?_
              refine a_iload_n (pc := 64) (dk dt_X12_pieces 36 rfl) rfl ?_
              exact a_iret (pc := 65) (dk dt_X12_pieces 37 rfl) rfl rfl H
            · replace H := H.2 c
              refine a_iload_n (pc := 5) (dk dt_X12_is 3 rfl) rfl ?_
              refine a_iload_n (pc := 6) (dk dt_X12_is 4 rfl) rfl ?_
              refine a_icmp_gt (pc := 7) (dk dt_X12_is 5 rfl) (tgt := 14) rfl ⟨fun c => ?_, fun c => ?_⟩
              · replace H := H.1 c
                refine a_iconst (pc := 14) (dk dt_X12_is 8 rfl) (ik rfl) ?_
                refine a_zret (pc := 15) (dk dt_X12_is 9 rfl) rfl rfl ⟨by decide, ?_⟩
                show ATW _ _ _ _ _ _ _ _ _ _
                refine a_if_ne (pc := 56) (dk dt_X12_pieces 32 rfl) (tgt := 66) rfl ⟨fun c => absurd c (by decide), fun _ => ?_⟩
                refine a_aload_n (pc := 59) (dk dt_X12_pieces 33 rfl) rfl ?_
                refine a_iconst (pc := 60) (dk dt_X12_pieces 34 rfl) (ik rfl) ?_
                refine a_puti (pc := 61) (dk dt_X12_pieces 35 rfl) cls_12 fl_RX12_560 cf_85_85 rfl rfl ?_
                refine a_iload_n (pc := 64) (dk dt_X12_pieces 36 rfl) rfl ?_
                exact a_iret (pc := 65) (dk dt_X12_pieces 37 rfl) rfl rfl H
              · replace H := H.2 c
                refine a_iconst (pc := 10) (dk dt_X12_is 6 rfl) (ik rfl) ?_
                refine a_goto (pc := 11) (dk dt_X12_is 7 rfl) (tgt := 15) rfl ?_
                refine a_zret (pc := 15) (dk dt_X12_is 9 rfl) rfl rfl ⟨by decide, ?_⟩
                show ATW _ _ _ _ _ _ _ _ _ _
                refine a_if_ne (pc := 56) (dk dt_X12_pieces 32 rfl) (tgt := 66) rfl ⟨fun _ => ?_, fun c => absurd c (by decide)⟩
                refine a_aload_n (pc := 66) (dk dt_X12_pieces 38 rfl) rfl ?_
                refine a_aload_n (pc := 67) (dk dt_X12_pieces 39 rfl) rfl ?_
                refine a_geti (pc := 68) (dk dt_X12_pieces 40 rfl) cls_12 fl_RX12_560 cf_85_85 ?_
                refine a_iconst (pc := 71) (dk dt_X12_pieces 41 rfl) (ik rfl) ?_
                refine a_icmp_ne (pc := 72) (dk dt_X12_pieces 42 rfl) (tgt := 82) rfl ⟨fun c => ?_, fun c => ?_⟩
                · replace H := H.1 c
                  refine a_aload_n (pc := 82) (dk dt_X12_pieces 47 rfl) rfl ?_
                  refine a_geti (pc := 83) (dk dt_X12_pieces 48 rfl) cls_12 fl_RX12_560 cf_85_85 ?_
                  refine a_iconst (pc := 86) (dk dt_X12_pieces 49 rfl) (ik rfl) ?_
                  refine a_icmp_ge (pc := 87) (dk dt_X12_pieces 50 rfl) (tgt := 95) rfl ⟨fun c => ?_, fun c => ?_⟩
                  · replace H := H.1 c
                    refine a_aload_n (pc := 95) (dk dt_X12_pieces 53 rfl) rfl ?_
                    refine a_geti (pc := 96) (dk dt_X12_pieces 54 rfl) cls_12 fl_RX12_572 cf_85_86 ?_
                    refine a_puti (pc := 99) (dk dt_X12_pieces 55 rfl) cls_12 fl_RX12_572 cf_85_86 rfl rfl ?_
                    refine a_aload_n (pc := 102) (dk dt_X12_pieces 56 rfl) rfl ?_
                    refine a_getr (r := 139) (pc := 103) (dk dt_X12_pieces 57 rfl) cls_12 fl_RX12_250 cf_85_91 ?_
                    refine a_aload_n (pc := 106) (dk dt_X12_pieces 58 rfl) rfl ?_
                    refine a_geti (pc := 107) (dk dt_X12_pieces 59 rfl) cls_12 fl_RX12_560 cf_85_85 ?_
                    refine a_top (y := (h 85 85)) (by simp [up, cpy]) ?_
                    refine a_iload (pc := 110) (dk dt_X12_pieces 60 rfl) rfl ?_
                    refine a_iast (pc := 112) (dk dt_X12_pieces 61 rfl) ar_140 ⟨H.1, ?_⟩
                    replace H := H.2
                    refine a_aload_n (pc := 113) (dk dt_X12_pieces 62 rfl) rfl ?_
                    refine a_dup (pc := 114) (dk dt_X12_pieces 63 rfl) rfl ?_
                    refine a_geti (pc := 115) (dk dt_X12_pieces 64 rfl) cls_12 fl_RX12_560 cf_85_85 ?_
                    refine a_top (y := (h 85 85)) (by simp [up, cpy]) ?_
                    refine a_iconst (pc := 118) (dk dt_X12_pieces 65 rfl) (ik rfl) ?_
                    refine a_iadd (pc := 119) (dk dt_X12_pieces 66 rfl) ?_
                    refine a_puti (pc := 120) (dk dt_X12_pieces 67 rfl) cls_12 fl_RX12_560 cf_85_85 rfl rfl ?_
                    refine a_iinc (pc := 123) (dk dt_X12_pieces 68 rfl) (by decide) rfl rfl rfl ?_
                    refine a_aload_n (pc := 126) (dk dt_X12_pieces 69 rfl) rfl ?_
                    refine a_geti (pc := 127) (dk dt_X12_pieces 70 rfl) cls_12 fl_RX12_560 cf_85_85 ?_
                    refine a_top (y := (w32 ((h 85 85) + 1))) (by simp [up, cpy]) ?_
                    refine a_aload_n (pc := 130) (dk dt_X12_pieces 71 rfl) rfl ?_
                    refine a_geti (pc := 131) (dk dt_X12_pieces 72 rfl) cls_12 fl_RX12_572 cf_85_86 ?_
                    refine a_top (y := (h 85 86)) (by simp [up, cpy]) ?_
                    refine a_icmp_ge (pc := 134) (dk dt_X12_pieces 73 rfl) (tgt := 140) rfl ⟨fun c => ?_, fun c => ?_⟩
                    · replace H := H.1 c
                      refine a_iinc (pc := 140) (dk dt_X12_pieces 75 rfl) (by decide) rfl rfl rfl ?_
                      refine a_aload_n (pc := 143) (dk dt_X12_pieces 76 rfl) rfl ?_
                      refine a_geti (pc := 144) (dk dt_X12_pieces 77 rfl) cls_12 fl_RX12_575 cf_85_87 ?_
                      refine a_top (y := (h 85 87)) (by simp [up, cpy]) ?_
                      refine a_bipush (pc := 147) (dk dt_X12_pieces 78 rfl) (ik rfl) (bpk rfl) ?_
                      refine a_icmp_ge (pc := 149) (dk dt_X12_pieces 79 rfl) (tgt := 215) rfl ⟨fun c => ?_, fun c => ?_⟩
                      · replace H := H.1 c
                        refine a_aload_n (pc := 215) (dk dt_X12_pieces 114 rfl) rfl ?_
                        refine a_iconst (pc := 216) (dk dt_X12_pieces 115 rfl) (ik rfl) ?_
                        refine a_puti (pc := 217) (dk dt_X12_pieces 116 rfl) cls_12 fl_RX12_560 cf_85_85 rfl rfl ?_
                        refine a_goto (pc := 220) (dk dt_X12_pieces 117 rfl) (tgt := 4) rfl ?_
                        exact a_pick [0, 1, 2] rfl H
                      · replace H := H.2 c
                        refine a_aload_n (pc := 152) (dk dt_X12_pieces 80 rfl) rfl ?_
                        refine a_getr (r := 141) (pc := 153) (dk dt_X12_pieces 81 rfl) cls_12 fl_RX12_256 cf_85_93 ?_
                        refine a_aload_n (pc := 156) (dk dt_X12_pieces 82 rfl) rfl ?_
                        refine a_geti (pc := 157) (dk dt_X12_pieces 83 rfl) cls_12 fl_RX12_575 cf_85_87 ?_
                        refine a_top (y := (h 85 87)) (by simp [up, cpy]) ?_
                        refine a_aload_n (pc := 160) (dk dt_X12_pieces 84 rfl) rfl ?_
                        refine a_geti (pc := 161) (dk dt_X12_pieces 85 rfl) cls_12 fl_RX12_560 cf_85_85 ?_
                        refine a_top (y := (w32 ((h 85 85) + 1))) (by simp [up, cpy]) ?_
                        refine a_iast (pc := 164) (dk dt_X12_pieces 86 rfl) ar_142 ⟨H.1, ?_⟩
                        replace H := H.2
                        refine a_iconst (pc := 165) (dk dt_X12_pieces 87 rfl) (ik rfl) ?_
                        refine a_istore (pc := 166) (dk dt_X12_pieces 88 rfl) (by decide) rfl rfl ?_
                        exact a_pick [0, 1, 2, 4] rfl H
                    · replace H := H.2 c
                      refine a_goto (pc := 137) (dk dt_X12_pieces 74 rfl) (tgt := 4) rfl ?_
                      exact a_pick [0, 1, 2] rfl H
                  · replace H := H.2 c
                    refine a_bipush (pc := 90) (dk dt_X12_pieces 51 rfl) (ik rfl) (bpk rfl) ?_
                    refine a_goto (pc := 92) (dk dt_X12_pieces 52 rfl) (tgt := 99) rfl ?_
                    refine a_puti (pc := 99) (dk dt_X12_pieces 55 rfl) cls_12 fl_RX12_572 cf_85_86 rfl rfl ?_
                    refine a_aload_n (pc := 102) (dk dt_X12_pieces 56 rfl) rfl ?_
                    refine a_getr (r := 139) (pc := 103) (dk dt_X12_pieces 57 rfl) cls_12 fl_RX12_250 cf_85_91 ?_
                    refine a_aload_n (pc := 106) (dk dt_X12_pieces 58 rfl) rfl ?_
                    refine a_geti (pc := 107) (dk dt_X12_pieces 59 rfl) cls_12 fl_RX12_560 cf_85_85 ?_
                    refine a_top (y := (h 85 85)) (by simp [up, cpy]) ?_
                    refine a_iload (pc := 110) (dk dt_X12_pieces 60 rfl) rfl ?_
                    refine a_iast (pc := 112) (dk dt_X12_pieces 61 rfl) ar_140 ⟨H.1, ?_⟩
                    replace H := H.2
                    refine a_aload_n (pc := 113) (dk dt_X12_pieces 62 rfl) rfl ?_
                    refine a_dup (pc := 114) (dk dt_X12_pieces 63 rfl) rfl ?_
                    refine a_geti (pc := 115) (dk dt_X12_pieces 64 rfl) cls_12 fl_RX12_560 cf_85_85 ?_
                    refine a_top (y := (h 85 85)) (by simp [up, cpy]) ?_
                    refine a_iconst (pc := 118) (dk dt_X12_pieces 65 rfl) (ik rfl) ?_
                    refine a_iadd (pc := 119) (dk dt_X12_pieces 66 rfl) ?_
                    refine a_puti (pc := 120) (dk dt_X12_pieces 67 rfl) cls_12 fl_RX12_560 cf_85_85 rfl rfl ?_
                    refine a_iinc (pc := 123) (dk dt_X12_pieces 68 rfl) (by decide) rfl rfl rfl ?_
                    refine a_aload_n (pc := 126) (dk dt_X12_pieces 69 rfl) rfl ?_
                    refine a_geti (pc := 127) (dk dt_X12_pieces 70 rfl) cls_12 fl_RX12_560 cf_85_85 ?_
                    refine a_top (y := (w32 ((h 85 85) + 1))) (by simp [up, cpy]) ?_
                    refine a_aload_n (pc := 130) (dk dt_X12_pieces 71 rfl) rfl ?_
                    refine a_geti (pc := 131) (dk dt_X12_pieces 72 rfl) cls_12 fl_RX12_572 cf_85_86 ?_
                    refine a_top (y := 9) (by simp [up, cpy]) ?_
                    refine a_icmp_ge (pc := 134) (dk dt_X12_pieces 73 rfl) (tgt := 140) rfl ⟨fun c => ?_, fun c => ?_⟩
                    · replace H := H.1 c
                      refine a_iinc (pc := 140) (dk dt_X12_pieces 75 rfl) (by decide) rfl rfl rfl ?_
                      refine a_aload_n (pc := 143) (dk dt_X12_pieces 76 rfl) rfl ?_
                      refine a_geti (pc := 144) (dk dt_X12_pieces 77 rfl) cls_12 fl_RX12_575 cf_85_87 ?_
                      refine a_top (y := (h 85 87)) (by simp [up, cpy]) ?_
                      refine a_bipush (pc := 147) (dk dt_X12_pieces 78 rfl) (ik rfl) (bpk rfl) ?_
                      refine a_icmp_ge (pc := 149) (dk dt_X12_pieces 79 rfl) (tgt := 215) rfl ⟨fun c => ?_, fun c => ?_⟩
                      · replace H := H.1 c
                        refine a_aload_n (pc := 215) (dk dt_X12_pieces 114 rfl) rfl ?_
                        refine a_iconst (pc := 216) (dk dt_X12_pieces 115 rfl) (ik rfl) ?_
                        refine a_puti (pc := 217) (dk dt_X12_pieces 116 rfl) cls_12 fl_RX12_560 cf_85_85 rfl rfl ?_
                        refine a_goto (pc := 220) (dk dt_X12_pieces 117 rfl) (tgt := 4) rfl ?_
                        exact a_pick [0, 1, 2] rfl H
                      · replace H := H.2 c
                        refine a_aload_n (pc := 152) (dk dt_X12_pieces 80 rfl) rfl ?_
                        refine a_getr (r := 141) (pc := 153) (dk dt_X12_pieces 81 rfl) cls_12 fl_RX12_256 cf_85_93 ?_
                        refine a_aload_n (pc := 156) (dk dt_X12_pieces 82 rfl) rfl ?_
                        refine a_geti (pc := 157) (dk dt_X12_pieces 83 rfl) cls_12 fl_RX12_575 cf_85_87 ?_
                        refine a_top (y := (h 85 87)) (by simp [up, cpy]) ?_
                        refine a_aload_n (pc := 160) (dk dt_X12_pieces 84 rfl) rfl ?_
                        refine a_geti (pc := 161) (dk dt_X12_pieces 85 rfl) cls_12 fl_RX12_560 cf_85_85 ?_
                        refine a_top (y := (w32 ((h 85 85) + 1))) (by simp [up, cpy]) ?_
                        refine a_iast (pc := 164) (dk dt_X12_pieces 86 rfl) ar_142 ⟨H.1, ?_⟩
                        replace H := H.2
                        refine a_iconst (pc := 165) (dk dt_X12_pieces 87 rfl) (ik rfl) ?_
                        refine a_istore (pc := 166) (dk dt_X12_pieces 88 rfl) (by decide) rfl rfl ?_
                        exact a_pick [0, 1, 2, 4] rfl H
                    · replace H := H.2 c
                      refine a_goto (pc := 137) (dk dt_X12_pieces 74 rfl) (tgt := 4) rfl ?_
                      exact a_pick [0, 1, 2] rfl H
                · replace H := H.2 c
                  refine a_iconst (pc := 75) (dk dt_X12_pieces 43 rfl) (ik rfl) ?_
                  refine a_iload (pc := 76) (dk dt_X12_pieces 44 rfl) rfl ?_
                  refine a_iadd (pc := 78) (dk dt_X12_pieces 45 rfl) ?_
                  refine a_goto (pc := 79) (dk dt_X12_pieces 46 rfl) (tgt := 99) rfl ?_
                  refine a_puti (pc := 99) (dk dt_X12_pieces 55 rfl) cls_12 fl_RX12_572 cf_85_86 rfl rfl ?_
                  refine a_aload_n (pc := 102) (dk dt_X12_pieces 56 rfl) rfl ?_
                  refine a_getr (r := 139) (pc := 103) (dk dt_X12_pieces 57 rfl) cls_12 fl_RX12_250 cf_85_91 ?_
                  refine a_aload_n (pc := 106) (dk dt_X12_pieces 58 rfl) rfl ?_
                  refine a_geti (pc := 107) (dk dt_X12_pieces 59 rfl) cls_12 fl_RX12_560 cf_85_85 ?_
                  refine a_top (y := (h 85 85)) (by simp [up, cpy]) ?_
                  refine a_iload (pc := 110) (dk dt_X12_pieces 60 rfl) rfl ?_
                  refine a_iast (pc := 112) (dk dt_X12_pieces 61 rfl) ar_140 ⟨H.1, ?_⟩
                  replace H := H.2
                  refine a_aload_n (pc := 113) (dk dt_X12_pieces 62 rfl) rfl ?_
                  refine a_dup (pc := 114) (dk dt_X12_pieces 63 rfl) rfl ?_
                  refine a_geti (pc := 115) (dk dt_X12_pieces 64 rfl) cls_12 fl_RX12_560 cf_85_85 ?_
                  refine a_top (y := (h 85 85)) (by simp [up, cpy]) ?_
                  refine a_iconst (pc := 118) (dk dt_X12_pieces 65 rfl) (ik rfl) ?_
                  refine a_iadd (pc := 119) (dk dt_X12_pieces 66 rfl) ?_
                  refine a_puti (pc := 120) (dk dt_X12_pieces 67 rfl) cls_12 fl_RX12_560 cf_85_85 rfl rfl ?_
                  refine a_iinc (pc := 123) (dk dt_X12_pieces 68 rfl) (by decide) rfl rfl rfl ?_
                  refine a_aload_n (pc := 126) (dk dt_X12_pieces 69 rfl) rfl ?_
                  refine a_geti (pc := 127) (dk dt_X12_pieces 70 rfl) cls_12 fl_RX12_560 cf_85_85 ?_
                  refine a_top (y := (w32 ((h 85 85) + 1))) (by simp [up, cpy]) ?_
                  refine a_aload_n (pc := 130) (dk dt_X12_pieces 71 rfl) rfl ?_
                  refine a_geti (pc := 131) (dk dt_X12_pieces 72 rfl) cls_12 fl_RX12_572 cf_85_86 ?_
                  refine a_top (y := (w32 (5 + (h 139 (w32 (4 + x3)))))) (by simp [up, cpy]) ?_
                  refine a_icmp_ge (pc := 134) (dk dt_X12_pieces 73 rfl) (tgt := 140) rfl ⟨fun c => ?_, fun c => ?_⟩
                  · replace H := H.1 c
                    refine a_iinc (pc := 140) (dk dt_X12_pieces 75 rfl) (by decide) rfl rfl rfl ?_
                    refine a_aload_n (pc := 143) (dk dt_X12_pieces 76 rfl) rfl ?_
                    refine a_geti (pc := 144) (dk dt_X12_pieces 77 rfl) cls_12 fl_RX12_575 cf_85_87 ?_
                    refine a_top (y := (h 85 87)) (by simp [up, cpy]) ?_
                    refine a_bipush (pc := 147) (dk dt_X12_pieces 78 rfl) (ik rfl) (bpk rfl) ?_
                    refine a_icmp_ge (pc := 149) (dk dt_X12_pieces 79 rfl) (tgt := 215) rfl ⟨fun c => ?_, fun c => ?_⟩
                    · replace H := H.1 c
                      refine a_aload_n (pc := 215) (dk dt_X12_pieces 114 rfl) rfl ?_
                      refine a_iconst (pc := 216) (dk dt_X12_pieces 115 rfl) (ik rfl) ?_
                      refine a_puti (pc := 217) (dk dt_X12_pieces 116 rfl) cls_12 fl_RX12_560 cf_85_85 rfl rfl ?_
                      refine a_goto (pc := 220) (dk dt_X12_pieces 117 rfl) (tgt := 4) rfl ?_
                      exact a_pick [0, 1, 2] rfl H
                    · replace H := H.2 c
                      refine a_aload_n (pc := 152) (dk dt_X12_pieces 80 rfl) rfl ?_
                      refine a_getr (r := 141) (pc := 153) (dk dt_X12_pieces 81 rfl) cls_12 fl_RX12_256 cf_85_93 ?_
                      refine a_aload_n (pc := 156) (dk dt_X12_pieces 82 rfl) rfl ?_
                      refine a_geti (pc := 157) (dk dt_X12_pieces 83 rfl) cls_12 fl_RX12_575 cf_85_87 ?_
                      refine a_top (y := (h 85 87)) (by simp [up, cpy]) ?_
                      refine a_aload_n (pc := 160) (dk dt_X12_pieces 84 rfl) rfl ?_
                      refine a_geti (pc := 161) (dk dt_X12_pieces 85 rfl) cls_12 fl_RX12_560 cf_85_85 ?_
                      refine a_top (y := (w32 ((h 85 85) + 1))) (by simp [up, cpy]) ?_
                      refine a_iast (pc := 164) (dk dt_X12_pieces 86 rfl) ar_142 ⟨H.1, ?_⟩
                      replace H := H.2
                      refine a_iconst (pc := 165) (dk dt_X12_pieces 87 rfl) (ik rfl) ?_
                      refine a_istore (pc := 166) (dk dt_X12_pieces 88 rfl) (by decide) rfl rfl ?_
                      exact a_pick [0, 1, 2, 4] rfl H
                  · replace H := H.2 c
                    refine a_goto (pc := 137) (dk dt_X12_pieces 74 rfl) (tgt := 4) rfl ?_
                    exact a_pick [0, 1, 2] rfl H
set_option maxHeartbeats 40000000 in
theorem U_X12_pieces_85_168 {G : GG} {Φ : Int → Hp → Prop} {h : Hp} {x2 : Int} {x3 : Int} {x5 : Int} (H : (((h 85 85) ≤ x5 → AT G m_X12_pieces 4 [(0, rv 85), (2, iv x2), (3, iv x3)] [] (up (up h 85 87 (w32 ((h 85 87) + 1))) 85 85 0) Φ) ∧ (x5 < (h 85 85) → (0 ≤ x5 ∧ x5 < 9) ∧ (0 ≤ (w32 ((w32 (9 * (h 85 87))) + x5)) ∧ (w32 ((w32 (9 * (h 85 87))) + x5)) < 540) ∧ AT G m_X12_pieces 168 [(0, rv 85), (2, iv x2), (3, iv x3), (5, iv (w32 (x5 + 1)))] [] (up h 141 (w32 ((w32 (9 * (h 85 87))) + x5)) (h 140 x5)) Φ))) : AT G m_X12_pieces 168 [(0, rv 85), (2, iv x2), (3, iv x3), (5, iv x5)] [] h Φ := by
  refine a_iload (pc := 168) (dk dt_X12_pieces 89 rfl) rfl ?_
  refine a_aload_n (pc := 170) (dk dt_X12_pieces 90 rfl) rfl ?_
  refine a_geti (pc := 171) (dk dt_X12_pieces 91 rfl) cls_12 fl_RX12_560 cf_85_85 ?_
  refine a_icmp_ge (pc := 174) (dk dt_X12_pieces 92 rfl) (tgt := 205) rfl ⟨fun c => ?_, fun c => ?_⟩
  · replace H := H.1 c
    refine a_aload_n (pc := 205) (dk dt_X12_pieces 108 rfl) rfl ?_
    refine a_dup (pc := 206) (dk dt_X12_pieces 109 rfl) rfl ?_
    refine a_geti (pc := 207) (dk dt_X12_pieces 110 rfl) cls_12 fl_RX12_575 cf_85_87 ?_
    refine a_iconst (pc := 210) (dk dt_X12_pieces 111 rfl) (ik rfl) ?_
    refine a_iadd (pc := 211) (dk dt_X12_pieces 112 rfl) ?_
    refine a_puti (pc := 212) (dk dt_X12_pieces 113 rfl) cls_12 fl_RX12_575 cf_85_87 rfl rfl ?_
    refine a_aload_n (pc := 215) (dk dt_X12_pieces 114 rfl) rfl ?_
    refine a_iconst (pc := 216) (dk dt_X12_pieces 115 rfl) (ik rfl) ?_
    refine a_puti (pc := 217) (dk dt_X12_pieces 116 rfl) cls_12 fl_RX12_560 cf_85_85 rfl rfl ?_
    refine a_goto (pc := 220) (dk dt_X12_pieces 117 rfl) (tgt := 4) rfl ?_
    exact a_pick [0, 1, 2] rfl H
  · replace H := H.2 c
    refine a_aload_n (pc := 177) (dk dt_X12_pieces 93 rfl) rfl ?_
    refine a_getr (r := 140) (pc := 178) (dk dt_X12_pieces 94 rfl) cls_12 fl_RX12_253 cf_85_92 ?_
    refine a_bipush (pc := 181) (dk dt_X12_pieces 95 rfl) (ik rfl) (bpk rfl) ?_
    refine a_aload_n (pc := 183) (dk dt_X12_pieces 96 rfl) rfl ?_
    refine a_geti (pc := 184) (dk dt_X12_pieces 97 rfl) cls_12 fl_RX12_575 cf_85_87 ?_
    refine a_imul (pc := 187) (dk dt_X12_pieces 98 rfl) ?_
    refine a_iload (pc := 188) (dk dt_X12_pieces 99 rfl) rfl ?_
    refine a_iadd (pc := 190) (dk dt_X12_pieces 100 rfl) ?_
    refine a_aload_n (pc := 191) (dk dt_X12_pieces 101 rfl) rfl ?_
    refine a_getr (r := 139) (pc := 192) (dk dt_X12_pieces 102 rfl) cls_12 fl_RX12_250 cf_85_91 ?_
    refine a_iload (pc := 195) (dk dt_X12_pieces 103 rfl) rfl ?_
    refine a_iald (pc := 197) (dk dt_X12_pieces 104 rfl) ar_140 ⟨H.1, ?_⟩
    replace H := H.2
    refine a_iast (pc := 198) (dk dt_X12_pieces 105 rfl) ar_141 ⟨H.1, ?_⟩
    replace H := H.2
    refine a_iinc (pc := 199) (dk dt_X12_pieces 106 rfl) (by decide) rfl rfl rfl ?_
    refine a_goto (pc := 202) (dk dt_X12_pieces 107 rfl) (tgt := 168) rfl ?_
    exact a_pick [0, 1, 2, 3] rfl H
set_option maxHeartbeats 40000000 in
theorem U_X12_check_139_0 {G : GG} {Φ : Int → Hp → Prop} {h : Hp} {x1 : Int} (H : AT G m_X12_check 6 [(0, rv 139), (1, iv x1), (2, iv 65535), (3, iv 0)] [] h Φ) : AT G m_X12_check 0 [(0, rv 139), (1, iv x1)] [] h Φ := by
  refine a_ldcw (n := 65535) (pc := 0) (dk dt_X12_check 0 rfl) (ik rfl) co_RX12_510 ?_
  refine a_istore_n (pc := 3) (dk dt_X12_check 1 rfl) (by decide) rfl rfl ?_
  refine a_iconst (pc := 4) (dk dt_X12_check 2 rfl) (ik rfl) ?_
  refine a_istore_n (pc := 5) (dk dt_X12_check 3 rfl) (by decide) rfl rfl ?_
  exact a_pick [0, 1, 2, 3] rfl H
set_option maxHeartbeats 40000000 in
theorem U_X12_check_139_6 {G : GG} {Φ : Int → Hp → Prop} {h : Hp} {x1 : Int} {x2 : Int} {x3 : Int} (H : ((22 ≤ x3 → Φ x2 h) ∧ (x3 < 22 → (0 ≤ (w32 (x1 + x3)) ∧ (w32 (x1 + x3)) < 24) ∧ AT G m_X12_check 26 [(0, rv 139), (1, iv x1), (2, iv (bxor x2 (bshl (h 139 (w32 (x1 + x3))) 8))), (3, iv x3), (4, iv 0)] [] h Φ))) : AT G m_X12_check 6 [(0, rv 139), (1, iv x1), (2, iv x2), (3, iv x3)] [] h Φ := by
  refine a_iload_n (pc := 6) (dk dt_X12_check 4 rfl) rfl ?_
  refine a_bipush (pc := 7) (dk dt_X12_check 5 rfl) (ik rfl) (bpk rfl) ?_
  refine a_icmp_ge (pc := 9) (dk dt_X12_check 6 rfl) (tgt := 68) rfl ⟨fun c => ?_, fun c => ?_⟩
  · replace H := H.1 c
    refine a_iload_n (pc := 68) (dk dt_X12_check 39 rfl) rfl ?_
    exact a_iret (pc := 69) (dk dt_X12_check 40 rfl) rfl rfl H
  · replace H := H.2 c
    refine a_iload_n (pc := 12) (dk dt_X12_check 7 rfl) rfl ?_
    refine a_aload_n (pc := 13) (dk dt_X12_check 8 rfl) rfl ?_
    refine a_iload_n (pc := 14) (dk dt_X12_check 9 rfl) rfl ?_
    refine a_iload_n (pc := 15) (dk dt_X12_check 10 rfl) rfl ?_
    refine a_iadd (pc := 16) (dk dt_X12_check 11 rfl) ?_
    refine a_iald (pc := 17) (dk dt_X12_check 12 rfl) ar_139 ⟨H.1, ?_⟩
    replace H := H.2
    refine a_bipush (pc := 18) (dk dt_X12_check 13 rfl) (ik rfl) (bpk rfl) ?_
    refine a_ishl (pc := 20) (dk dt_X12_check 14 rfl) ?_
    refine a_ixor (pc := 21) (dk dt_X12_check 15 rfl) ?_
    refine a_istore_n (pc := 22) (dk dt_X12_check 16 rfl) (by decide) rfl rfl ?_
    refine a_iconst (pc := 23) (dk dt_X12_check 17 rfl) (ik rfl) ?_
    refine a_istore (pc := 24) (dk dt_X12_check 18 rfl) (by decide) rfl rfl ?_
    exact a_pick [0, 1, 2, 3, 4] rfl H
set_option maxHeartbeats 40000000 in
theorem U_X12_check_139_26 {G : GG} {Φ : Int → Hp → Prop} {h : Hp} {x1 : Int} {x2 : Int} {x3 : Int} {x4 : Int} (H : ((8 ≤ x4 → AT G m_X12_check 6 [(0, rv 139), (1, iv x1), (2, iv x2), (3, iv (w32 (x3 + 1)))] [] h Φ) ∧ (x4 < 8 → ((x2 ≤ 32767 → AT G m_X12_check 26 [(0, rv 139), (1, iv x1), (2, iv (band (bxor (bshl x2 1) 0) 65535)), (3, iv x3), (4, iv (w32 (x4 + 1)))] [] h Φ) ∧ (32767 < x2 → AT G m_X12_check 26 [(0, rv 139), (1, iv x1), (2, iv (band (bxor (bshl x2 1) 4129) 65535)), (3, iv x3), (4, iv (w32 (x4 + 1)))] [] h Φ))))) : AT G m_X12_check 26 [(0, rv 139), (1, iv x1), (2, iv x2), (3, iv x3), (4, iv x4)] [] h Φ := by
  refine a_iload (pc := 26) (dk dt_X12_check 19 rfl) rfl ?_
  refine a_bipush (pc := 28) (dk dt_X12_check 20 rfl) (ik rfl) (bpk rfl) ?_
  refine a_icmp_ge (pc := 30) (dk dt_X12_check 21 rfl) (tgt := 62) rfl ⟨fun c => ?_, fun c => ?_⟩
  · replace H := H.1 c
    refine a_iinc (pc := 62) (dk dt_X12_check 37 rfl) (by decide) rfl rfl rfl ?_
    refine a_goto (pc := 65) (dk dt_X12_check 38 rfl) (tgt := 6) rfl ?_
    exact a_pick [0, 1, 2, 3] rfl H
  · replace H := H.2 c
    refine a_iload_n (pc := 33) (dk dt_X12_check 22 rfl) rfl ?_
    refine a_iconst (pc := 34) (dk dt_X12_check 23 rfl) (ik rfl) ?_
    refine a_ishl (pc := 35) (dk dt_X12_check 24 rfl) ?_
    refine a_iload_n (pc := 36) (dk dt_X12_check 25 rfl) rfl ?_
    refine a_sipush (pc := 37) (dk dt_X12_check 26 rfl) (ik rfl) (spk rfl) ?_
    refine a_icmp_le (pc := 40) (dk dt_X12_check 27 rfl) (tgt := 49) rfl ⟨fun c => ?_, fun c => ?_⟩
    · replace H := H.1 c
      refine a_iconst (pc := 49) (dk dt_X12_check 30 rfl) (ik rfl) ?_
      refine a_ixor (pc := 50) (dk dt_X12_check 31 rfl) ?_
      refine a_ldcw (n := 65535) (pc := 51) (dk dt_X12_check 32 rfl) (ik rfl) co_RX12_510 ?_
      refine a_iand (pc := 54) (dk dt_X12_check 33 rfl) ?_
      refine a_istore_n (pc := 55) (dk dt_X12_check 34 rfl) (by decide) rfl rfl ?_
      refine a_iinc (pc := 56) (dk dt_X12_check 35 rfl) (by decide) rfl rfl rfl ?_
      refine a_goto (pc := 59) (dk dt_X12_check 36 rfl) (tgt := 26) rfl ?_
      exact a_pick [0, 1, 2, 3, 4] rfl H
    · replace H := H.2 c
      refine a_sipush (pc := 43) (dk dt_X12_check 28 rfl) (ik rfl) (spk rfl) ?_
      refine a_goto (pc := 46) (dk dt_X12_check 29 rfl) (tgt := 50) rfl ?_
      refine a_ixor (pc := 50) (dk dt_X12_check 31 rfl) ?_
      refine a_ldcw (n := 65535) (pc := 51) (dk dt_X12_check 32 rfl) (ik rfl) co_RX12_510 ?_
      refine a_iand (pc := 54) (dk dt_X12_check 33 rfl) ?_
      refine a_istore_n (pc := 55) (dk dt_X12_check 34 rfl) (by decide) rfl rfl ?_
      refine a_iinc (pc := 56) (dk dt_X12_check 35 rfl) (by decide) rfl rfl rfl ?_
      refine a_goto (pc := 59) (dk dt_X12_check 36 rfl) (tgt := 26) rfl ?_
      exact a_pick [0, 1, 2, 3, 4] rfl H
set_option maxHeartbeats 40000000 in
theorem U_X12_wordOf_85_98_0 {G : GG} {Φ : Int → Hp → Prop} {h : Hp} (H : (((h 85 6) < 0 → Call G m_X12_wordEnd [rv 85] h (fun r1 h2 => AT G m_X12_wordOf 16 [(0, rv 85), (1, rv 98), (2, iv r1), (3, iv 0)] [] h2 Φ)) ∧ (0 ≤ (h 85 6) → Φ (-1) h))) : AT G m_X12_wordOf 0 [(0, rv 85), (1, rv 98)] [] h Φ := by
  refine a_aload_n (pc := 0) (dk dt_X12_wordOf 0 rfl) rfl ?_
  refine a_callVi (as := []) (st := []) (pc := 1) (dk dt_X12_wordOf 1 rfl) cl_RX12_315 ⟨Nat.le_of_ble_eq_true rfl, Nat.le_of_ble_eq_true rfl⟩ ⟨Nat.le_of_ble_eq_true rfl, Nat.le_of_ble_eq_true rfl⟩ cls_12 rfl cc_85 rfl rfl rfl (Nat.le_of_ble_eq_true rfl) (Call.of rfl (Nat.le_of_ble_eq_true rfl) rfl ?_)
  refine a_aload_n (pc := 0) (dk dt_X12_bad 0 rfl) rfl ?_
  refine a_geti (pc := 1) (dk dt_X12_bad 1 rfl) cls_12 fl_RX12_312 cf_85_6 ?_
  refine a_if_lt (pc := 4) (dk dt_X12_bad 2 rfl) (tgt := 11) rfl ⟨fun c => ?_, fun c => ?_⟩
  · replace H := H.1 c
    refine a_iconst (pc := 11) (dk dt_X12_bad 5 rfl) (ik rfl) ?_
    refine a_zret (pc := 12) (dk dt_X12_bad 6 rfl) rfl rfl ⟨by decide, ?_⟩
    show ATW _ _ _ _ _ _ _ _ _ _
    refine a_if_eq (pc := 4) (dk dt_X12_wordOf 2 rfl) (tgt := 9) rfl ⟨fun _ => ?_, fun c => absurd c (by decide)⟩
    refine a_aload_n (pc := 9) (dk dt_X12_wordOf 5 rfl) rfl ?_
    refine a_callVi (as := []) (st := []) (pc := 10) (dk dt_X12_wordOf 6 rfl) cl_RX12_340 ⟨Nat.le_of_ble_eq_true rfl, Nat.le_of_ble_eq_true rfl⟩ ⟨Nat.le_of_ble_eq_true rfl, Nat.le_of_ble_eq_true rfl⟩ cls_12 rfl cc_85 rfl rfl rfl (Nat.le_of_ble_eq_true rfl) (Call.mono H fun r1 h2 H => ?_)
    refine a_istore_n (pc := 13) (dk dt_X12_wordOf 7 rfl) (by decide) rfl rfl ?_
    refine a_iconst (pc := 14) (dk dt_X12_wordOf 8 rfl) (ik rfl) ?_
    refine a_istore_n (pc := 15) (dk dt_X12_wordOf 9 rfl) (by decide) rfl rfl ?_
    exact a_pick [0, 1, 2, 3] rfl H
  · replace H := H.2 c
    refine a_iconst (pc := 7) (dk dt_X12_bad 3 rfl) (ik rfl) ?_
    refine a_goto (pc := 8) (dk dt_X12_bad 4 rfl) (tgt := 12) rfl ?_
    refine a_zret (pc := 12) (dk dt_X12_bad 6 rfl) rfl rfl ⟨by decide, ?_⟩
    show ATW _ _ _ _ _ _ _ _ _ _
    refine a_if_eq (pc := 4) (dk dt_X12_wordOf 2 rfl) (tgt := 9) rfl ⟨fun c => absurd c (by decide), fun _ => ?_⟩
    refine a_iconst (pc := 7) (dk dt_X12_wordOf 3 rfl) (ik rfl) ?_
    exact a_iret (pc := 8) (dk dt_X12_wordOf 4 rfl) rfl rfl H
set_option maxHeartbeats 40000000 in
theorem U_X12_wordOf_85_98_16 {G : GG} {Φ : Int → Hp → Prop} {h : Hp} {x2 : Int} {x3 : Int} (H : ((15 ≤ x3 → ((0 ≤ (h 85 6) → Φ (-1) h) ∧ ((h 85 6) < 0 → Φ (-1) (up h 85 6 (h 85 5))))) ∧ (x3 < 15 → (0 ≤ x3 ∧ x3 < 15) ∧ (1000 ≤ (rf 98 (x3).toNat) ∧ (rf 98 (x3).toNat) < 1063) ∧ Call G m_J0_length_8abf5 [rv (rf 98 (x3).toNat)] h (fun r1 h2 => (((w32 (x2 - (h 85 5))) ≠ r1 → AT G m_X12_wordOf 47 [(0, rv 85), (1, rv 98), (2, iv x2), (3, iv x3), (4, iv 0), (5, iv 0)] [] h2 Φ) ∧ ((w32 (x2 - (h 85 5))) = r1 → AT G m_X12_wordOf 47 [(0, rv 85), (1, rv 98), (2, iv x2), (3, iv x3), (4, iv 1), (5, iv 0)] [] h2 Φ)))))) : AT G m_X12_wordOf 16 [(0, rv 85), (1, rv 98), (2, iv x2), (3, iv x3)] [] h Φ := by
  refine a_iload_n (pc := 16) (dk dt_X12_wordOf 10 rfl) rfl ?_
  refine a_aload_n (pc := 17) (dk dt_X12_wordOf 11 rfl) rfl ?_
  refine a_alen (pc := 18) (dk dt_X12_wordOf 12 rfl) ar_98 (by decide) ?_
  refine a_icmp_ge (pc := 19) (dk dt_X12_wordOf 13 rfl) (tgt := 117) rfl ⟨fun c => ?_, fun c => ?_⟩
  · replace H := H.1 c
    refine a_aload_n (pc := 117) (dk dt_X12_wordOf 65 rfl) rfl ?_
    refine a_aload_n (pc := 118) (dk dt_X12_wordOf 66 rfl) rfl ?_
    refine a_geti (pc := 119) (dk dt_X12_wordOf 67 rfl) cls_12 fl_RX12_309 cf_85_5 ?_
    refine a_callVv (as := [iv (h 85 5)]) (st := []) (pc := 122) (dk dt_X12_wordOf 68 rfl) cl_RX12_323 ⟨Nat.le_of_ble_eq_true rfl, Nat.le_of_ble_eq_true rfl⟩ ⟨Nat.le_of_ble_eq_true rfl, Nat.le_of_ble_eq_true rfl⟩ cls_12 rfl cc_85 rfl rfl rfl (Nat.le_of_ble_eq_true rfl) (Call.of rfl (Nat.le_of_ble_eq_true rfl) rfl ?_)
    refine a_aload_n (pc := 0) (dk dt_X12_fail 0 rfl) rfl ?_
    refine a_geti (pc := 1) (dk dt_X12_fail 1 rfl) cls_12 fl_RX12_312 cf_85_6 ?_
    refine a_if_ge (pc := 4) (dk dt_X12_fail 2 rfl) (tgt := 12) rfl ⟨fun c => ?_, fun c => ?_⟩
    · replace H := H.1 c
      refine a_vret (pc := 12) (dk dt_X12_fail 6 rfl) rfl rfl ?_
      show ATW _ _ _ _ _ _ _ _ _ _
      refine a_iconst (pc := 125) (dk dt_X12_wordOf 69 rfl) (ik rfl) ?_
      exact a_iret (pc := 126) (dk dt_X12_wordOf 70 rfl) rfl rfl H
    · replace H := H.2 c
      refine a_aload_n (pc := 7) (dk dt_X12_fail 3 rfl) rfl ?_
      refine a_iload_n (pc := 8) (dk dt_X12_fail 4 rfl) rfl ?_
      refine a_puti (pc := 9) (dk dt_X12_fail 5 rfl) cls_12 fl_RX12_312 cf_85_6 rfl rfl ?_
      refine a_vret (pc := 12) (dk dt_X12_fail 6 rfl) rfl rfl ?_
      show ATW _ _ _ _ _ _ _ _ _ _
      refine a_iconst (pc := 125) (dk dt_X12_wordOf 69 rfl) (ik rfl) ?_
      exact a_iret (pc := 126) (dk dt_X12_wordOf 70 rfl) rfl rfl H
  · replace H := H.2 c
    refine a_iload_n (pc := 22) (dk dt_X12_wordOf 14 rfl) rfl ?_
    refine a_aload_n (pc := 23) (dk dt_X12_wordOf 15 rfl) rfl ?_
    refine a_geti (pc := 24) (dk dt_X12_wordOf 16 rfl) cls_12 fl_RX12_309 cf_85_5 ?_
    refine a_isub (pc := 27) (dk dt_X12_wordOf 17 rfl) ?_
    refine a_aload_n (pc := 28) (dk dt_X12_wordOf 18 rfl) rfl ?_
    refine a_iload_n (pc := 29) (dk dt_X12_wordOf 19 rfl) rfl ?_
    refine a_aald (pc := 30) (dk dt_X12_wordOf 20 rfl) ar_98 (by decide) ⟨H.1, ?_⟩
    replace H := H.2
    have hS := H.1
    replace H := H.2
    refine a_callTi (as := []) (st := [iv (w32 (x2 - (h 85 5)))]) (pc := 31) (dk dt_X12_wordOf 21 rfl) cl_RX12_343 ⟨Nat.le_of_ble_eq_true rfl, Nat.le_of_ble_eq_true rfl⟩ ⟨Nat.le_of_ble_eq_true rfl, Nat.le_of_ble_eq_true rfl⟩ hS rfl rfl rfl rfl (Nat.le_of_ble_eq_true rfl) (Call.mono H fun r1 h2 H => ?_)
    refine a_icmp_ne (pc := 34) (dk dt_X12_wordOf 22 rfl) (tgt := 41) rfl ⟨fun c => ?_, fun c => ?_⟩
    · replace H := H.1 c
      refine a_iconst (pc := 41) (dk dt_X12_wordOf 25 rfl) (ik rfl) ?_
      refine a_istore (pc := 42) (dk dt_X12_wordOf 26 rfl) (by decide) rfl rfl ?_
      refine a_iconst (pc := 44) (dk dt_X12_wordOf 27 rfl) (ik rfl) ?_
      refine a_istore (pc := 45) (dk dt_X12_wordOf 28 rfl) (by decide) rfl rfl ?_
      exact a_pick [0, 1, 2, 3, 4, 5] rfl H
    · replace H := H.2 c
      refine a_iconst (pc := 37) (dk dt_X12_wordOf 23 rfl) (ik rfl) ?_
      refine a_goto (pc := 38) (dk dt_X12_wordOf 24 rfl) (tgt := 42) rfl ?_
      refine a_istore (pc := 42) (dk dt_X12_wordOf 26 rfl) (by decide) rfl rfl ?_
      refine a_iconst (pc := 44) (dk dt_X12_wordOf 27 rfl) (ik rfl) ?_
      refine a_istore (pc := 45) (dk dt_X12_wordOf 28 rfl) (by decide) rfl rfl ?_
      exact a_pick [0, 1, 2, 3, 4, 5] rfl H
set_option maxHeartbeats 40000000 in
theorem U_X12_wordOf_85_98_47 {G : GG} {Φ : Int → Hp → Prop} {h : Hp} {x2 : Int} {x3 : Int} {x4 : Int} {x5 : Int} (H : (0 ≤ x3 ∧ x3 < 15) ∧ (1000 ≤ (rf 98 (x3).toNat) ∧ (rf 98 (x3).toNat) < 1063) ∧ Call G m_J0_length_8abf5 [rv (rf 98 (x3).toNat)] h (fun r1 h2 => ((r1 ≤ x5 → ((x4 = 0 → AT G m_X12_wordOf 16 [(0, rv 85), (1, rv 98), (2, iv x2), (3, iv (w32 (x3 + 1)))] [] h2 Φ) ∧ (x4 ≠ 0 → Φ x3 (up h2 85 5 x2)))) ∧ (x5 < r1 → ((x4 = 0 → ((x4 = 0 → AT G m_X12_wordOf 16 [(0, rv 85), (1, rv 98), (2, iv x2), (3, iv (w32 (x3 + 1)))] [] h2 Φ) ∧ (x4 ≠ 0 → Φ x3 (up h2 85 5 x2)))) ∧ (x4 ≠ 0 → (0 ≤ (w32 ((h2 85 5) + x5)) ∧ (w32 ((h2 85 5) + x5)) < 1600) ∧ (0 ≤ x3 ∧ x3 < 15) ∧ (1000 ≤ (rf 98 (x3).toNat) ∧ (rf 98 (x3).toNat) < 1063) ∧ Call G m_J0_charAt_5068e [rv (rf 98 (x3).toNat), iv x5] h2 (fun r3 h4 => (((h2 87 (w32 ((h2 85 5) + x5))) ≠ r3 → AT G m_X12_wordOf 47 [(0, rv 85), (1, rv 98), (2, iv x2), (3, iv x3), (4, iv 0), (5, iv (w32 (x5 + 1)))] [] h4 Φ) ∧ ((h2 87 (w32 ((h2 85 5) + x5))) = r3 → AT G m_X12_wordOf 47 [(0, rv 85), (1, rv 98), (2, iv x2), (3, iv x3), (4, iv 1), (5, iv (w32 (x5 + 1)))] [] h4 Φ))))))))) : AT G m_X12_wordOf 47 [(0, rv 85), (1, rv 98), (2, iv x2), (3, iv x3), (4, iv x4), (5, iv x5)] [] h Φ := by
  refine a_iload (pc := 47) (dk dt_X12_wordOf 29 rfl) rfl ?_
  refine a_aload_n (pc := 49) (dk dt_X12_wordOf 30 rfl) rfl ?_
  refine a_iload_n (pc := 50) (dk dt_X12_wordOf 31 rfl) rfl ?_
  refine a_aald (pc := 51) (dk dt_X12_wordOf 32 rfl) ar_98 (by decide) ⟨H.1, ?_⟩
  replace H := H.2
  have hS := H.1
  replace H := H.2
  refine a_callTi (as := []) (st := [iv x5]) (pc := 52) (dk dt_X12_wordOf 33 rfl) cl_RX12_343 ⟨Nat.le_of_ble_eq_true rfl, Nat.le_of_ble_eq_true rfl⟩ ⟨Nat.le_of_ble_eq_true rfl, Nat.le_of_ble_eq_true rfl⟩ hS rfl rfl rfl rfl (Nat.le_of_ble_eq_true rfl) (Call.mono H fun r1 h2 H => ?_)
  refine a_icmp_ge (pc := 55) (dk dt_X12_wordOf 34 rfl) (tgt := 99) rfl ⟨fun c => ?_, fun c => ?_⟩
  · replace H := H.1 c
    refine a_iload (pc := 99) (dk dt_X12_wordOf 56 rfl) rfl ?_
    refine a_if_eq (pc := 101) (dk dt_X12_wordOf 57 rfl) (tgt := 111) rfl ⟨fun c => ?_, fun c => ?_⟩
    · replace H := H.1 c
      refine a_iinc (pc := 111) (dk dt_X12_wordOf 63 rfl) (by decide) rfl rfl rfl ?_
      refine a_goto (pc := 114) (dk dt_X12_wordOf 64 rfl) (tgt := 16) rfl ?_
      exact a_pick [0, 1, 2, 3] rfl H
    · replace H := H.2 c
      refine a_aload_n (pc := 104) (dk dt_X12_wordOf 58 rfl) rfl ?_
      refine a_iload_n (pc := 105) (dk dt_X12_wordOf 59 rfl) rfl ?_
      refine a_puti (pc := 106) (dk dt_X12_wordOf 60 rfl) cls_12 fl_RX12_309 cf_85_5 rfl rfl ?_
      refine a_iload_n (pc := 109) (dk dt_X12_wordOf 61 rfl) rfl ?_
      exact a_iret (pc := 110) (dk dt_X12_wordOf 62 rfl) rfl rfl H
  · replace H := H.2 c
    refine a_iload (pc := 58) (dk dt_X12_wordOf 35 rfl) rfl ?_
    refine a_if_eq (pc := 60) (dk dt_X12_wordOf 36 rfl) (tgt := 99) rfl ⟨fun c => ?_, fun c => ?_⟩
    · replace H := H.1 c
      refine a_iload (pc := 99) (dk dt_X12_wordOf 56 rfl) rfl ?_
      refine a_if_eq (pc := 101) (dk dt_X12_wordOf 57 rfl) (tgt := 111) rfl ⟨fun c => ?_, fun c => ?_⟩
      · replace H := H.1 c
        refine a_iinc (pc := 111) (dk dt_X12_wordOf 63 rfl) (by decide) rfl rfl rfl ?_
        refine a_goto (pc := 114) (dk dt_X12_wordOf 64 rfl) (tgt := 16) rfl ?_
        exact a_pick [0, 1, 2, 3] rfl H
      · replace H := H.2 c
        refine a_aload_n (pc := 104) (dk dt_X12_wordOf 58 rfl) rfl ?_
        refine a_iload_n (pc := 105) (dk dt_X12_wordOf 59 rfl) rfl ?_
        refine a_puti (pc := 106) (dk dt_X12_wordOf 60 rfl) cls_12 fl_RX12_309 cf_85_5 rfl rfl ?_
        refine a_iload_n (pc := 109) (dk dt_X12_wordOf 61 rfl) rfl ?_
        exact a_iret (pc := 110) (dk dt_X12_wordOf 62 rfl) rfl rfl H
    · replace H := H.2 c
      refine a_aload_n (pc := 63) (dk dt_X12_wordOf 37 rfl) rfl ?_
      refine a_getr (r := 86) (pc := 64) (dk dt_X12_wordOf 38 rfl) cls_12 fl_RX12_13 cf_85_1 ?_
      refine a_aload_n (pc := 67) (dk dt_X12_wordOf 39 rfl) rfl ?_
      refine a_geti (pc := 68) (dk dt_X12_wordOf 40 rfl) cls_12 fl_RX12_309 cf_85_5 ?_
      refine a_iload (pc := 71) (dk dt_X12_wordOf 41 rfl) rfl ?_
      refine a_iadd (pc := 73) (dk dt_X12_wordOf 42 rfl) ?_
      refine a_iald (pc := 74) (dk dt_X12_wordOf 43 rfl) ar_87 ⟨H.1, ?_⟩
      replace H := H.2
      refine a_aload_n (pc := 75) (dk dt_X12_wordOf 44 rfl) rfl ?_
      refine a_iload_n (pc := 76) (dk dt_X12_wordOf 45 rfl) rfl ?_
      refine a_aald (pc := 77) (dk dt_X12_wordOf 46 rfl) ar_98 (by decide) ⟨H.1, ?_⟩
      replace H := H.2
      refine a_iload (pc := 78) (dk dt_X12_wordOf 47 rfl) rfl ?_
      have hS := H.1
      replace H := H.2
      refine a_callTi (as := [iv x5]) (st := [iv (h2 87 (w32 ((h2 85 5) + x5)))]) (pc := 80) (dk dt_X12_wordOf 48 rfl) cl_RX12_346 ⟨Nat.le_of_ble_eq_true rfl, Nat.le_of_ble_eq_true rfl⟩ ⟨Nat.le_of_ble_eq_true rfl, Nat.le_of_ble_eq_true rfl⟩ hS rfl rfl rfl rfl (Nat.le_of_ble_eq_true rfl) (Call.mono H fun r3 h4 H => ?_)
      refine a_icmp_ne (pc := 83) (dk dt_X12_wordOf 49 rfl) (tgt := 90) rfl ⟨fun c => ?_, fun c => ?_⟩
      · replace H := H.1 c
        refine a_iconst (pc := 90) (dk dt_X12_wordOf 52 rfl) (ik rfl) ?_
        refine a_istore (pc := 91) (dk dt_X12_wordOf 53 rfl) (by decide) rfl rfl ?_
        refine a_iinc (pc := 93) (dk dt_X12_wordOf 54 rfl) (by decide) rfl rfl rfl ?_
        refine a_goto (pc := 96) (dk dt_X12_wordOf 55 rfl) (tgt := 47) rfl ?_
        exact a_pick [0, 1, 2, 3, 4, 5] rfl H
      · replace H := H.2 c
        refine a_iconst (pc := 86) (dk dt_X12_wordOf 50 rfl) (ik rfl) ?_
        refine a_goto (pc := 87) (dk dt_X12_wordOf 51 rfl) (tgt := 91) rfl ?_
        refine a_istore (pc := 91) (dk dt_X12_wordOf 53 rfl) (by decide) rfl rfl ?_
        refine a_iinc (pc := 93) (dk dt_X12_wordOf 54 rfl) (by decide) rfl rfl rfl ?_
        refine a_goto (pc := 96) (dk dt_X12_wordOf 55 rfl) (tgt := 47) rfl ?_
        exact a_pick [0, 1, 2, 3, 4, 5] rfl H
set_option maxHeartbeats 40000000 in
theorem U_X12_behind_85_0 {G : GG} {Φ : Int → Hp → Prop} {h : Hp} {x1 : Int} {x2 : Int} (H : Call G m_X12_need [rv 85, iv 32] h (fun _ h2 => Call G m_X12_whole [rv 85, iv 0, iv x1, iv x2] h2 (fun r3 h4 => Φ r3 h4))) : AT G m_X12_behind 0 [(0, rv 85), (1, iv x1), (2, iv x2)] [] h Φ := by
  refine a_aload_n (pc := 0) (dk dt_X12_behind 0 rfl) rfl ?_
  refine a_bipush (pc := 1) (dk dt_X12_behind 1 rfl) (ik rfl) (bpk rfl) ?_
  refine a_callVv (as := [iv 32]) (st := []) (pc := 3) (dk dt_X12_behind 2 rfl) cl_RX12_330 ⟨Nat.le_of_ble_eq_true rfl, Nat.le_of_ble_eq_true rfl⟩ ⟨Nat.le_of_ble_eq_true rfl, Nat.le_of_ble_eq_true rfl⟩ cls_12 rfl cc_85 rfl rfl rfl (Nat.le_of_ble_eq_true rfl) (Call.mono H fun _ h2 H => ?_)
  refine a_aload_n (pc := 6) (dk dt_X12_behind 3 rfl) rfl ?_
  refine a_iconst (pc := 7) (dk dt_X12_behind 4 rfl) (ik rfl) ?_
  refine a_iload_n (pc := 8) (dk dt_X12_behind 5 rfl) rfl ?_
  refine a_iload_n (pc := 9) (dk dt_X12_behind 6 rfl) rfl ?_
  refine a_callVi (as := [iv 0, iv x1, iv x2]) (st := []) (pc := 10) (dk dt_X12_behind 7 rfl) cl_RX12_333 ⟨Nat.le_of_ble_eq_true rfl, Nat.le_of_ble_eq_true rfl⟩ ⟨Nat.le_of_ble_eq_true rfl, Nat.le_of_ble_eq_true rfl⟩ cls_12 rfl cc_85 rfl rfl rfl (Nat.le_of_ble_eq_true rfl) (Call.mono H fun r3 h4 H => ?_)
  exact a_iret (pc := 13) (dk dt_X12_behind 8 rfl) rfl rfl H
set_option maxHeartbeats 40000000 in
theorem U_X12_ready_85_0 {G : GG} {Φ : Int → Hp → Prop} {h : Hp} {x1 : Int} (H : (0 ≤ (w32 (30 * x1)) ∧ (w32 (30 * x1)) < 240) ∧ (((h 109 (w32 (30 * x1))) ≠ (-1) → AT G m_X12_ready 16 [(0, rv 85), (1, iv x1), (2, iv 0)] [] h Φ) ∧ ((h 109 (w32 (30 * x1))) = (-1) → Φ 0 h))) : AT G m_X12_ready 0 [(0, rv 85), (1, iv x1)] [] h Φ := by
  refine a_aload_n (pc := 0) (dk dt_X12_ready 0 rfl) rfl ?_
  refine a_getr (r := 108) (pc := 1) (dk dt_X12_ready 1 rfl) cls_12 fl_RX12_156 cf_85_42 ?_
  refine a_bipush (pc := 4) (dk dt_X12_ready 2 rfl) (ik rfl) (bpk rfl) ?_
  refine a_iload_n (pc := 6) (dk dt_X12_ready 3 rfl) rfl ?_
  refine a_imul (pc := 7) (dk dt_X12_ready 4 rfl) ?_
  refine a_iald (pc := 8) (dk dt_X12_ready 5 rfl) ar_109 ⟨H.1, ?_⟩
  replace H := H.2
  refine a_iconst (pc := 9) (dk dt_X12_ready 6 rfl) (ik rfl) ?_
  refine a_icmp_ne (pc := 10) (dk dt_X12_ready 7 rfl) (tgt := 14) rfl ⟨fun c => ?_, fun c => ?_⟩
  · replace H := H.1 c
    refine a_iconst (pc := 14) (dk dt_X12_ready 9 rfl) (ik rfl) ?_
    refine a_istore_n (pc := 15) (dk dt_X12_ready 10 rfl) (by decide) rfl rfl ?_
    exact a_pick [0, 1, 2] rfl H
  · replace H := H.2 c
    exact a_vret (pc := 13) (dk dt_X12_ready 8 rfl) rfl rfl H
set_option maxHeartbeats 40000000 in
theorem U_X12_ready_85_16 {G : GG} {Φ : Int → Hp → Prop} {h : Hp} {x1 : Int} {x2 : Int} (H : ((30 ≤ x2 → AT G m_X12_ready 124 [(0, rv 85), (1, iv x1), (2, iv x2), (3, iv 0)] [] h Φ) ∧ (x2 < 30 → (0 ≤ (w32 ((w32 (30 * x1)) + x2)) ∧ (w32 ((w32 (30 * x1)) + x2)) < 240) ∧ (((h 109 (w32 ((w32 (30 * x1)) + x2))) = (-1) → AT G m_X12_ready 124 [(0, rv 85), (1, iv x1), (2, iv x2), (3, iv 0)] [] h Φ) ∧ ((h 109 (w32 ((w32 (30 * x1)) + x2))) ≠ (-1) → (0 ≤ (w32 ((w32 (30 * x1)) + x2)) ∧ (w32 ((w32 (30 * x1)) + x2)) < 240) ∧ (0 ≤ (w32 ((w32 (30 * x1)) + x2)) ∧ (w32 ((w32 (30 * x1)) + x2)) < 260) ∧ (0 ≤ (w32 ((w32 (30 * x1)) + x2)) ∧ (w32 ((w32 (30 * x1)) + x2)) < 240) ∧ (0 ≤ (w32 ((w32 (30 * x1)) + x2)) ∧ (w32 ((w32 (30 * x1)) + x2)) < 260) ∧ (0 ≤ (w32 ((w32 (30 * x1)) + x2)) ∧ (w32 ((w32 (30 * x1)) + x2)) < 240) ∧ (0 ≤ (w32 ((w32 (30 * x1)) + x2)) ∧ (w32 ((w32 (30 * x1)) + x2)) < 260) ∧ (0 ≤ (w32 ((w32 (30 * x1)) + x2)) ∧ (w32 ((w32 (30 * x1)) + x2)) < 240) ∧ (0 ≤ (w32 ((w32 (30 * x1)) + x2)) ∧ (w32 ((w32 (30 * x1)) + x2)) < 260) ∧ (0 ≤ (w32 ((w32 (30 * x1)) + x2)) ∧ (w32 ((w32 (30 * x1)) + x2)) < 240) ∧ (0 ≤ (w32 ((w32 (30 * x1)) + x2)) ∧ (w32 ((w32 (30 * x1)) + x2)) < 260) ∧ (0 ≤ (w32 ((w32 (30 * x1)) + x2)) ∧ (w32 ((w32 (30 * x1)) + x2)) < 240) ∧ (0 ≤ (w32 ((w32 (30 * x1)) + x2)) ∧ (w32 ((w32 (30 * x1)) + x2)) < 260) ∧ AT G m_X12_ready 16 [(0, rv 85), (1, iv x1), (2, iv (w32 (x2 + 1)))] [] (up (up (up (up (up (up h 103 (w32 ((w32 (30 * x1)) + x2)) (h 109 (w32 ((w32 (30 * x1)) + x2)))) 104 (w32 ((w32 (30 * x1)) + x2)) (h 110 (w32 ((w32 (30 * x1)) + x2)))) 105 (w32 ((w32 (30 * x1)) + x2)) (h 111 (w32 ((w32 (30 * x1)) + x2)))) 106 (w32 ((w32 (30 * x1)) + x2)) (h 112 (w32 ((w32 (30 * x1)) + x2)))) 107 (w32 ((w32 (30 * x1)) + x2)) (h 113 (w32 ((w32 (30 * x1)) + x2)))) 108 (w32 ((w32 (30 * x1)) + x2)) (h 114 (w32 ((w32 (30 * x1)) + x2)))) Φ))))) : AT G m_X12_ready 16 [(0, rv 85), (1, iv x1), (2, iv x2)] [] h Φ := by
  refine a_iload_n (pc := 16) (dk dt_X12_ready 11 rfl) rfl ?_
  refine a_bipush (pc := 17) (dk dt_X12_ready 12 rfl) (ik rfl) (bpk rfl) ?_
  refine a_icmp_ge (pc := 19) (dk dt_X12_ready 13 rfl) (tgt := 122) rfl ⟨fun c => ?_, fun c => ?_⟩
  · replace H := H.1 c
    refine a_iconst (pc := 122) (dk dt_X12_ready 80 rfl) (ik rfl) ?_
    refine a_istore_n (pc := 123) (dk dt_X12_ready 81 rfl) (by decide) rfl rfl ?_
    exact a_pick [0, 1, 2, 3] rfl H
  · replace H := H.2 c
    refine a_aload_n (pc := 22) (dk dt_X12_ready 14 rfl) rfl ?_
    refine a_getr (r := 108) (pc := 23) (dk dt_X12_ready 15 rfl) cls_12 fl_RX12_156 cf_85_42 ?_
    refine a_bipush (pc := 26) (dk dt_X12_ready 16 rfl) (ik rfl) (bpk rfl) ?_
    refine a_iload_n (pc := 28) (dk dt_X12_ready 17 rfl) rfl ?_
    refine a_imul (pc := 29) (dk dt_X12_ready 18 rfl) ?_
    refine a_iload_n (pc := 30) (dk dt_X12_ready 19 rfl) rfl ?_
    refine a_iadd (pc := 31) (dk dt_X12_ready 20 rfl) ?_
    refine a_iald (pc := 32) (dk dt_X12_ready 21 rfl) ar_109 ⟨H.1, ?_⟩
    replace H := H.2
    refine a_iconst (pc := 33) (dk dt_X12_ready 22 rfl) (ik rfl) ?_
    refine a_icmp_eq (pc := 34) (dk dt_X12_ready 23 rfl) (tgt := 122) rfl ⟨fun c => ?_, fun c => ?_⟩
    · replace H := H.1 c
      refine a_iconst (pc := 122) (dk dt_X12_ready 80 rfl) (ik rfl) ?_
      refine a_istore_n (pc := 123) (dk dt_X12_ready 81 rfl) (by decide) rfl rfl ?_
      exact a_pick [0, 1, 2, 3] rfl H
    · replace H := H.2 c
      refine a_bipush (pc := 37) (dk dt_X12_ready 24 rfl) (ik rfl) (bpk rfl) ?_
      refine a_iload_n (pc := 39) (dk dt_X12_ready 25 rfl) rfl ?_
      refine a_imul (pc := 40) (dk dt_X12_ready 26 rfl) ?_
      refine a_iload_n (pc := 41) (dk dt_X12_ready 27 rfl) rfl ?_
      refine a_iadd (pc := 42) (dk dt_X12_ready 28 rfl) ?_
      refine a_istore_n (pc := 43) (dk dt_X12_ready 29 rfl) (by decide) rfl rfl ?_
      refine a_aload_n (pc := 44) (dk dt_X12_ready 30 rfl) rfl ?_
      refine a_getr (r := 102) (pc := 45) (dk dt_X12_ready 31 rfl) cls_12 fl_RX12_138 cf_85_36 ?_
      refine a_iload_n (pc := 48) (dk dt_X12_ready 32 rfl) rfl ?_
      refine a_aload_n (pc := 49) (dk dt_X12_ready 33 rfl) rfl ?_
      refine a_getr (r := 108) (pc := 50) (dk dt_X12_ready 34 rfl) cls_12 fl_RX12_156 cf_85_42 ?_
      refine a_iload_n (pc := 53) (dk dt_X12_ready 35 rfl) rfl ?_
      refine a_iald (pc := 54) (dk dt_X12_ready 36 rfl) ar_109 ⟨H.1, ?_⟩
      replace H := H.2
      refine a_iast (pc := 55) (dk dt_X12_ready 37 rfl) ar_103 ⟨H.1, ?_⟩
      replace H := H.2
      refine a_aload_n (pc := 56) (dk dt_X12_ready 38 rfl) rfl ?_
      refine a_getr (r := 103) (pc := 57) (dk dt_X12_ready 39 rfl) cls_12 fl_RX12_141 cf_85_37 ?_
      refine a_iload_n (pc := 60) (dk dt_X12_ready 40 rfl) rfl ?_
      refine a_aload_n (pc := 61) (dk dt_X12_ready 41 rfl) rfl ?_
      refine a_getr (r := 109) (pc := 62) (dk dt_X12_ready 42 rfl) cls_12 fl_RX12_159 cf_85_43 ?_
      refine a_iload_n (pc := 65) (dk dt_X12_ready 43 rfl) rfl ?_
      refine a_iald (pc := 66) (dk dt_X12_ready 44 rfl) ar_110 ⟨H.1, ?_⟩
      replace H := H.2
      refine a_top (y := (h 110 (w32 ((w32 (30 * x1)) + x2)))) (by simp [up, cpy]) ?_
      refine a_iast (pc := 67) (dk dt_X12_ready 45 rfl) ar_104 ⟨H.1, ?_⟩
      replace H := H.2
      refine a_aload_n (pc := 68) (dk dt_X12_ready 46 rfl) rfl ?_
      refine a_getr (r := 104) (pc := 69) (dk dt_X12_ready 47 rfl) cls_12 fl_RX12_144 cf_85_38 ?_
      refine a_iload_n (pc := 72) (dk dt_X12_ready 48 rfl) rfl ?_
      refine a_aload_n (pc := 73) (dk dt_X12_ready 49 rfl) rfl ?_
      refine a_getr (r := 110) (pc := 74) (dk dt_X12_ready 50 rfl) cls_12 fl_RX12_162 cf_85_44 ?_
      refine a_iload_n (pc := 77) (dk dt_X12_ready 51 rfl) rfl ?_
      refine a_iald (pc := 78) (dk dt_X12_ready 52 rfl) ar_111 ⟨H.1, ?_⟩
      replace H := H.2
      refine a_top (y := (h 111 (w32 ((w32 (30 * x1)) + x2)))) (by simp [up, cpy]) ?_
      refine a_iast (pc := 79) (dk dt_X12_ready 53 rfl) ar_105 ⟨H.1, ?_⟩
      replace H := H.2
      refine a_aload_n (pc := 80) (dk dt_X12_ready 54 rfl) rfl ?_
      refine a_getr (r := 105) (pc := 81) (dk dt_X12_ready 55 rfl) cls_12 fl_RX12_147 cf_85_39 ?_
      refine a_iload_n (pc := 84) (dk dt_X12_ready 56 rfl) rfl ?_
      refine a_aload_n (pc := 85) (dk dt_X12_ready 57 rfl) rfl ?_
      refine a_getr (r := 111) (pc := 86) (dk dt_X12_ready 58 rfl) cls_12 fl_RX12_165 cf_85_45 ?_
      refine a_iload_n (pc := 89) (dk dt_X12_ready 59 rfl) rfl ?_
      refine a_iald (pc := 90) (dk dt_X12_ready 60 rfl) ar_112 ⟨H.1, ?_⟩
      replace H := H.2
      refine a_top (y := (h 112 (w32 ((w32 (30 * x1)) + x2)))) (by simp [up, cpy]) ?_
      refine a_iast (pc := 91) (dk dt_X12_ready 61 rfl) ar_106 ⟨H.1, ?_⟩
      replace H := H.2
      refine a_aload_n (pc := 92) (dk dt_X12_ready 62 rfl) rfl ?_
      refine a_getr (r := 106) (pc := 93) (dk dt_X12_ready 63 rfl) cls_12 fl_RX12_150 cf_85_40 ?_
      refine a_iload_n (pc := 96) (dk dt_X12_ready 64 rfl) rfl ?_
      refine a_aload_n (pc := 97) (dk dt_X12_ready 65 rfl) rfl ?_
      refine a_getr (r := 112) (pc := 98) (dk dt_X12_ready 66 rfl) cls_12 fl_RX12_168 cf_85_46 ?_
      refine a_iload_n (pc := 101) (dk dt_X12_ready 67 rfl) rfl ?_
      refine a_iald (pc := 102) (dk dt_X12_ready 68 rfl) ar_113 ⟨H.1, ?_⟩
      replace H := H.2
      refine a_top (y := (h 113 (w32 ((w32 (30 * x1)) + x2)))) (by simp [up, cpy]) ?_
      refine a_iast (pc := 103) (dk dt_X12_ready 69 rfl) ar_107 ⟨H.1, ?_⟩
      replace H := H.2
      refine a_aload_n (pc := 104) (dk dt_X12_ready 70 rfl) rfl ?_
      refine a_getr (r := 107) (pc := 105) (dk dt_X12_ready 71 rfl) cls_12 fl_RX12_153 cf_85_41 ?_
      refine a_iload_n (pc := 108) (dk dt_X12_ready 72 rfl) rfl ?_
      refine a_aload_n (pc := 109) (dk dt_X12_ready 73 rfl) rfl ?_
      refine a_getr (r := 113) (pc := 110) (dk dt_X12_ready 74 rfl) cls_12 fl_RX12_171 cf_85_47 ?_
      refine a_iload_n (pc := 113) (dk dt_X12_ready 75 rfl) rfl ?_
      refine a_iald (pc := 114) (dk dt_X12_ready 76 rfl) ar_114 ⟨H.1, ?_⟩
      replace H := H.2
      refine a_top (y := (h 114 (w32 ((w32 (30 * x1)) + x2)))) (by simp [up, cpy]) ?_
      refine a_iast (pc := 115) (dk dt_X12_ready 77 rfl) ar_108 ⟨H.1, ?_⟩
      replace H := H.2
      refine a_iinc (pc := 116) (dk dt_X12_ready 78 rfl) (by decide) rfl rfl rfl ?_
      refine a_goto (pc := 119) (dk dt_X12_ready 79 rfl) (tgt := 16) rfl ?_
      exact a_pick [0, 1, 2] rfl H
set_option maxHeartbeats 40000000 in
theorem U_X12_ready_85_124 {G : GG} {Φ : Int → Hp → Prop} {h : Hp} {x1 : Int} {x2 : Int} {x3 : Int} (H : ((30 ≤ x3 → (0 ≤ x1 ∧ x1 < 8) ∧ (0 ≤ x1 ∧ x1 < 8) ∧ Φ 0 (up (up h 115 x1 x2) 116 x1 (-1))) ∧ (x3 < 30 → (0 ≤ (w32 ((w32 (30 * x1)) + x3)) ∧ (w32 ((w32 (30 * x1)) + x3)) < 240) ∧ AT G m_X12_ready 124 [(0, rv 85), (1, iv x1), (2, iv x2), (3, iv (w32 (x3 + 1)))] [] (up h 109 (w32 ((w32 (30 * x1)) + x3)) (-1)) Φ))) : AT G m_X12_ready 124 [(0, rv 85), (1, iv x1), (2, iv x2), (3, iv x3)] [] h Φ := by
  refine a_iload_n (pc := 124) (dk dt_X12_ready 82 rfl) rfl ?_
  refine a_bipush (pc := 125) (dk dt_X12_ready 83 rfl) (ik rfl) (bpk rfl) ?_
  refine a_icmp_ge (pc := 127) (dk dt_X12_ready 84 rfl) (tgt := 148) rfl ⟨fun c => ?_, fun c => ?_⟩
  · replace H := H.1 c
    refine a_aload_n (pc := 148) (dk dt_X12_ready 96 rfl) rfl ?_
    refine a_getr (r := 114) (pc := 149) (dk dt_X12_ready 97 rfl) cls_12 fl_RX12_174 cf_85_48 ?_
    refine a_iload_n (pc := 152) (dk dt_X12_ready 98 rfl) rfl ?_
    refine a_iload_n (pc := 153) (dk dt_X12_ready 99 rfl) rfl ?_
    refine a_iast (pc := 154) (dk dt_X12_ready 100 rfl) ar_115 ⟨H.1, ?_⟩
    replace H := H.2
    refine a_aload_n (pc := 155) (dk dt_X12_ready 101 rfl) rfl ?_
    refine a_getr (r := 115) (pc := 156) (dk dt_X12_ready 102 rfl) cls_12 fl_RX12_177 cf_85_49 ?_
    refine a_iload_n (pc := 159) (dk dt_X12_ready 103 rfl) rfl ?_
    refine a_iconst (pc := 160) (dk dt_X12_ready 104 rfl) (ik rfl) ?_
    refine a_iast (pc := 161) (dk dt_X12_ready 105 rfl) ar_116 ⟨H.1, ?_⟩
    replace H := H.2
    exact a_vret (pc := 162) (dk dt_X12_ready 106 rfl) rfl rfl H
  · replace H := H.2 c
    refine a_aload_n (pc := 130) (dk dt_X12_ready 85 rfl) rfl ?_
    refine a_getr (r := 108) (pc := 131) (dk dt_X12_ready 86 rfl) cls_12 fl_RX12_156 cf_85_42 ?_
    refine a_bipush (pc := 134) (dk dt_X12_ready 87 rfl) (ik rfl) (bpk rfl) ?_
    refine a_iload_n (pc := 136) (dk dt_X12_ready 88 rfl) rfl ?_
    refine a_imul (pc := 137) (dk dt_X12_ready 89 rfl) ?_
    refine a_iload_n (pc := 138) (dk dt_X12_ready 90 rfl) rfl ?_
    refine a_iadd (pc := 139) (dk dt_X12_ready 91 rfl) ?_
    refine a_iconst (pc := 140) (dk dt_X12_ready 92 rfl) (ik rfl) ?_
    refine a_iast (pc := 141) (dk dt_X12_ready 93 rfl) ar_109 ⟨H.1, ?_⟩
    replace H := H.2
    refine a_iinc (pc := 142) (dk dt_X12_ready 94 rfl) (by decide) rfl rfl rfl ?_
    refine a_goto (pc := 145) (dk dt_X12_ready 95 rfl) (tgt := 124) rfl ?_
    exact a_pick [0, 1, 2, 3] rfl H
set_option maxHeartbeats 40000000 in
theorem U_X12_act_85_0 {G : GG} {Φ : Int → Hp → Prop} {h : Hp} {x1 : Int} (H : (0 ≤ x1 ∧ x1 < 260) ∧ ((((h 103 x1) = 0) → (0 ≤ x1 ∧ x1 < 260) ∧ (0 ≤ (h 104 x1) ∧ (h 104 x1) < 8) ∧ Φ 1 (up (up h 85 57 0) 95 (h 104 x1) 1)) ∧ (((h 103 x1) = 1) → (0 ≤ x1 ∧ x1 < 260) ∧ (0 ≤ (h 104 x1) ∧ (h 104 x1) < 8) ∧ Φ 1 (up (up h 85 57 0) 95 (h 104 x1) 0)) ∧ (((h 103 x1) = 6) → (0 ≤ x1 ∧ x1 < 260) ∧ (0 ≤ x1 ∧ x1 < 260) ∧ Call G m_X12_encoded [iv (h 105 x1)] (up h 85 57 0) (fun r1 h2 => (0 ≤ (h 104 x1) ∧ (h 104 x1) < 64) ∧ (((h2 85 57) = 0 → (((h2 85 57) ≠ 0 → Φ 0 (up h2 97 (h 104 x1) r1)) ∧ ((h2 85 57) = 0 → Φ 1 (up h2 97 (h 104 x1) r1)))) ∧ ((h2 85 57) ≠ 0 → (((h2 85 57) ≠ 0 → Φ 0 (up (up h2 97 (h 104 x1) r1) 85 22 (w32 ((h2 85 22) + 1)))) ∧ ((h2 85 57) = 0 → Φ 1 (up (up h2 97 (h 104 x1) r1) 85 22 (w32 ((h2 85 22) + 1))))))))) ∧ (((h 103 x1) = 7) → (0 ≤ x1 ∧ x1 < 260) ∧ Call G m_X12_valueOf [rv 85, iv (w32 (9 + (h 104 x1)))] (up h 85 57 0) (fun r3 h4 => (((h4 85 57) ≠ 0 → (((h4 85 57) = 0 → (((h4 85 57) ≠ 0 → Φ 0 h4) ∧ ((h4 85 57) = 0 → Φ 1 h4))) ∧ ((h4 85 57) ≠ 0 → (((h4 85 57) ≠ 0 → Φ 0 (up h4 85 22 (w32 ((h4 85 22) + 1)))) ∧ ((h4 85 57) = 0 → Φ 1 (up h4 85 22 (w32 ((h4 85 22) + 1)))))))) ∧ ((h4 85 57) = 0 → (0 ≤ x1 ∧ x1 < 260) ∧ (0 ≤ x1 ∧ x1 < 260) ∧ Call G m_X12_encoded [iv (band (w32 (r3 + (h4 105 x1))) 255)] h4 (fun r5 h6 => (0 ≤ (h4 104 x1) ∧ (h4 104 x1) < 64) ∧ (((h6 85 57) = 0 → (((h6 85 57) ≠ 0 → Φ 0 (up h6 97 (h4 104 x1) r5)) ∧ ((h6 85 57) = 0 → Φ 1 (up h6 97 (h4 104 x1) r5)))) ∧ ((h6 85 57) ≠ 0 → (((h6 85 57) ≠ 0 → Φ 0 (up (up h6 97 (h4 104 x1) r5) 85 22 (w32 ((h6 85 22) + 1)))) ∧ ((h6 85 57) = 0 → Φ 1 (up (up h6 97 (h4 104 x1) r5) 85 22 (w32 ((h6 85 22) + 1)))))))))))) ∧ (((h 103 x1) = 8) → (0 ≤ x1 ∧ x1 < 260) ∧ Call G m_X12_emit [rv 85, iv (h 105 x1)] (up h 85 57 0) (fun _ h8 => (((h8 85 57) = 0 → (((h8 85 57) ≠ 0 → Φ 0 h8) ∧ ((h8 85 57) = 0 → Φ 1 h8))) ∧ ((h8 85 57) ≠ 0 → (((h8 85 57) ≠ 0 → Φ 0 (up h8 85 22 (w32 ((h8 85 22) + 1)))) ∧ ((h8 85 57) = 0 → Φ 1 (up h8 85 22 (w32 ((h8 85 22) + 1))))))))) ∧ (((h 103 x1) = 9) → (0 ≤ x1 ∧ x1 < 260) ∧ Call G m_X12_goTo [rv 85, iv (h 105 x1)] (up h 85 57 0) (fun _ h10 => (((h10 85 57) = 0 → (((h10 85 57) ≠ 0 → Φ 0 h10) ∧ ((h10 85 57) = 0 → Φ 1 h10))) ∧ ((h10 85 57) ≠ 0 → (((h10 85 57) ≠ 0 → Φ 0 (up h10 85 22 (w32 ((h10 85 22) + 1)))) ∧ ((h10 85 57) = 0 → Φ 1 (up h10 85 22 (w32 ((h10 85 22) + 1))))))))) ∧ (((h 103 x1) = 10) → (0 ≤ x1 ∧ x1 < 260) ∧ (0 ≤ (h 104 x1) ∧ (h 104 x1) < 8) ∧ (0 ≤ (h 104 x1) ∧ (h 104 x1) < 8) ∧ Φ 1 (up (up (up h 85 57 0) 116 (h 104 x1) 0) 117 (h 104 x1) 0)) ∧ (((h 103 x1) = 11) → (0 ≤ x1 ∧ x1 < 260) ∧ (0 ≤ (h 104 x1) ∧ (h 104 x1) < 8) ∧ Φ 1 (up (up h 85 57 0) 116 (h 104 x1) (-1))) ∧ ((((h 103 x1) < 0 ∨ 11 < (h 103 x1)) ∨ (h 103 x1) = 2 ∨ (h 103 x1) = 3 ∨ (h 103 x1) = 4 ∨ (h 103 x1) = 5) → Φ 1 (up h 85 57 0)))) : AT G m_X12_act 0 [(0, rv 85), (1, iv x1)] [] h Φ := by
  refine a_aload_n (pc := 0) (dk dt_X12_act 0 rfl) rfl ?_
  refine a_iconst (pc := 1) (dk dt_X12_act 1 rfl) (ik rfl) ?_
  refine a_putz (pc := 2) (dk dt_X12_act 2 rfl) cls_12 fl_RX12_474 cf_85_57 rfl rfl ⟨by decide, ?_⟩
  refine a_aload_n (pc := 5) (dk dt_X12_act 3 rfl) rfl ?_
  refine a_getr (r := 102) (pc := 6) (dk dt_X12_act 4 rfl) cls_12 fl_RX12_138 cf_85_36 ?_
  refine a_iload_n (pc := 9) (dk dt_X12_act 5 rfl) rfl ?_
  refine a_iald (pc := 10) (dk dt_X12_act 6 rfl) ar_103 ⟨H.1, ?_⟩
  replace H := H.2
  refine a_top (y := (h 103 x1)) (by simp [up, cpy]) ?_
  have B0 : ((h 103 x1) = 0) → AT G m_X12_act 72 [(0, rv 85), (1, iv x1)] [] (up h 85 57 0) Φ := by
    intro c
    replace H := H.1 c
    refine a_aload_n (pc := 72) (dk dt_X12_act 8 rfl) rfl ?_
    refine a_getr (r := 94) (pc := 73) (dk dt_X12_act 9 rfl) cls_12 fl_RX12_50 cf_85_26 ?_
    refine a_aload_n (pc := 76) (dk dt_X12_act 10 rfl) rfl ?_
    refine a_getr (r := 103) (pc := 77) (dk dt_X12_act 11 rfl) cls_12 fl_RX12_141 cf_85_37 ?_
    refine a_iload_n (pc := 80) (dk dt_X12_act 12 rfl) rfl ?_
    refine a_iald (pc := 81) (dk dt_X12_act 13 rfl) ar_104 ⟨H.1, ?_⟩
    replace H := H.2
    refine a_top (y := (h 104 x1)) (by simp [up, cpy]) ?_
    refine a_iconst (pc := 82) (dk dt_X12_act 14 rfl) (ik rfl) ?_
    refine a_zast (pc := 83) (dk dt_X12_act 15 rfl) ar_95 ⟨H.1, by decide, ?_⟩
    replace H := H.2
    refine a_goto (pc := 84) (dk dt_X12_act 16 rfl) (tgt := 229) rfl ?_
    refine a_aload_n (pc := 229) (dk dt_X12_act 98 rfl) rfl ?_
    refine a_geti (pc := 230) (dk dt_X12_act 99 rfl) cls_12 fl_RX12_474 cf_85_57 ?_
    refine a_top (y := 0) (by simp [up, cpy]) ?_
    refine a_if_eq (pc := 233) (dk dt_X12_act 100 rfl) (tgt := 246) rfl ⟨fun _ => ?_, fun c => absurd c (by decide)⟩
    refine a_aload_n (pc := 246) (dk dt_X12_act 107 rfl) rfl ?_
    refine a_geti (pc := 247) (dk dt_X12_act 108 rfl) cls_12 fl_RX12_474 cf_85_57 ?_
    refine a_top (y := 0) (by simp [up, cpy]) ?_
    refine a_if_ne (pc := 250) (dk dt_X12_act 109 rfl) (tgt := 257) rfl ⟨fun c => absurd c (by decide), fun _ => ?_⟩
    refine a_iconst (pc := 253) (dk dt_X12_act 110 rfl) (ik rfl) ?_
    refine a_goto (pc := 254) (dk dt_X12_act 111 rfl) (tgt := 258) rfl ?_
    exact a_zret (pc := 258) (dk dt_X12_act 113 rfl) rfl rfl ⟨by decide, H⟩
  have B1 : ((h 103 x1) = 1) → AT G m_X12_act 87 [(0, rv 85), (1, iv x1)] [] (up h 85 57 0) Φ := by
    intro c
    replace H := H.2.1 c
    refine a_aload_n (pc := 87) (dk dt_X12_act 17 rfl) rfl ?_
    refine a_getr (r := 94) (pc := 88) (dk dt_X12_act 18 rfl) cls_12 fl_RX12_50 cf_85_26 ?_
    refine a_aload_n (pc := 91) (dk dt_X12_act 19 rfl) rfl ?_
    refine a_getr (r := 103) (pc := 92) (dk dt_X12_act 20 rfl) cls_12 fl_RX12_141 cf_85_37 ?_
    refine a_iload_n (pc := 95) (dk dt_X12_act 21 rfl) rfl ?_
    refine a_iald (pc := 96) (dk dt_X12_act 22 rfl) ar_104 ⟨H.1, ?_⟩
    replace H := H.2
    refine a_top (y := (h 104 x1)) (by simp [up, cpy]) ?_
    refine a_iconst (pc := 97) (dk dt_X12_act 23 rfl) (ik rfl) ?_
    refine a_zast (pc := 98) (dk dt_X12_act 24 rfl) ar_95 ⟨H.1, by decide, ?_⟩
    replace H := H.2
    refine a_goto (pc := 99) (dk dt_X12_act 25 rfl) (tgt := 229) rfl ?_
    refine a_aload_n (pc := 229) (dk dt_X12_act 98 rfl) rfl ?_
    refine a_geti (pc := 230) (dk dt_X12_act 99 rfl) cls_12 fl_RX12_474 cf_85_57 ?_
    refine a_top (y := 0) (by simp [up, cpy]) ?_
    refine a_if_eq (pc := 233) (dk dt_X12_act 100 rfl) (tgt := 246) rfl ⟨fun _ => ?_, fun c => absurd c (by decide)⟩
    refine a_aload_n (pc := 246) (dk dt_X12_act 107 rfl) rfl ?_
    refine a_geti (pc := 247) (dk dt_X12_act 108 rfl) cls_12 fl_RX12_474 cf_85_57 ?_
    refine a_top (y := 0) (by simp [up, cpy]) ?_
    refine a_if_ne (pc := 250) (dk dt_X12_act 109 rfl) (tgt := 257) rfl ⟨fun c => absurd c (by decide), fun _ => ?_⟩
    refine a_iconst (pc := 253) (dk dt_X12_act 110 rfl) (ik rfl) ?_
    refine a_goto (pc := 254) (dk dt_X12_act 111 rfl) (tgt := 258) rfl ?_
    exact a_zret (pc := 258) (dk dt_X12_act 113 rfl) rfl rfl ⟨by decide, H⟩
  have B2 : ((h 103 x1) = 6) → AT G m_X12_act 102 [(0, rv 85), (1, iv x1)] [] (up h 85 57 0) Φ := by
    intro c
    replace H := H.2.2.1 c
    refine a_aload_n (pc := 102) (dk dt_X12_act 26 rfl) rfl ?_
    refine a_getr (r := 96) (pc := 103) (dk dt_X12_act 27 rfl) cls_12 fl_RX12_57 cf_85_28 ?_
    refine a_aload_n (pc := 106) (dk dt_X12_act 28 rfl) rfl ?_
    refine a_getr (r := 103) (pc := 107) (dk dt_X12_act 29 rfl) cls_12 fl_RX12_141 cf_85_37 ?_
    refine a_iload_n (pc := 110) (dk dt_X12_act 30 rfl) rfl ?_
    refine a_iald (pc := 111) (dk dt_X12_act 31 rfl) ar_104 ⟨H.1, ?_⟩
    replace H := H.2
    refine a_top (y := (h 104 x1)) (by simp [up, cpy]) ?_
    refine a_aload_n (pc := 112) (dk dt_X12_act 32 rfl) rfl ?_
    refine a_getr (r := 104) (pc := 113) (dk dt_X12_act 33 rfl) cls_12 fl_RX12_144 cf_85_38 ?_
    refine a_iload_n (pc := 116) (dk dt_X12_act 34 rfl) rfl ?_
    refine a_iald (pc := 117) (dk dt_X12_act 35 rfl) ar_105 ⟨H.1, ?_⟩
    replace H := H.2
    refine a_top (y := (h 105 x1)) (by simp [up, cpy]) ?_
    refine a_callSi (as := [iv (h 105 x1)]) (st := [iv (h 104 x1), rv 97]) (pc := 118) (dk dt_X12_act 36 rfl) cl_RX12_441 ⟨Nat.le_of_ble_eq_true rfl, Nat.le_of_ble_eq_true rfl⟩ ⟨Nat.le_of_ble_eq_true rfl, Nat.le_of_ble_eq_true rfl⟩ rfl rfl rfl (Nat.le_of_ble_eq_true rfl) (Call.mono H fun r1 h2 H => ?_)
    refine a_iast (pc := 121) (dk dt_X12_act 37 rfl) ar_97 ⟨H.1, ?_⟩
    replace H := H.2
    refine a_goto (pc := 122) (dk dt_X12_act 38 rfl) (tgt := 229) rfl ?_
    refine a_aload_n (pc := 229) (dk dt_X12_act 98 rfl) rfl ?_
    refine a_geti (pc := 230) (dk dt_X12_act 99 rfl) cls_12 fl_RX12_474 cf_85_57 ?_
    refine a_top (y := (h2 85 57)) (by simp [up, cpy]) ?_
    refine a_if_eq (pc := 233) (dk dt_X12_act 100 rfl) (tgt := 246) rfl ⟨fun c => ?_, fun c => ?_⟩
    · replace H := H.1 c
      refine a_aload_n (pc := 246) (dk dt_X12_act 107 rfl) rfl ?_
      refine a_geti (pc := 247) (dk dt_X12_act 108 rfl) cls_12 fl_RX12_474 cf_85_57 ?_
      refine a_top (y := (h2 85 57)) (by simp [up, cpy]) ?_
      refine a_if_ne (pc := 250) (dk dt_X12_act 109 rfl) (tgt := 257) rfl ⟨fun c => ?_, fun c => ?_⟩
      · replace H := H.1 c
        refine a_iconst (pc := 257) (dk dt_X12_act 112 rfl) (ik rfl) ?_
        exact a_zret (pc := 258) (dk dt_X12_act 113 rfl) rfl rfl ⟨by decide, H⟩
      · replace H := H.2 c
        refine a_iconst (pc := 253) (dk dt_X12_act 110 rfl) (ik rfl) ?_
        refine a_goto (pc := 254) (dk dt_X12_act 111 rfl) (tgt := 258) rfl ?_
        exact a_zret (pc := 258) (dk dt_X12_act 113 rfl) rfl rfl ⟨by decide, H⟩
    · replace H := H.2 c
      refine a_aload_n (pc := 236) (dk dt_X12_act 101 rfl) rfl ?_
      refine a_dup (pc := 237) (dk dt_X12_act 102 rfl) rfl ?_
      refine a_geti (pc := 238) (dk dt_X12_act 103 rfl) cls_12 fl_RX12_426 cf_85_22 ?_
      refine a_top (y := (h2 85 22)) (by simp [up, cpy]) ?_
      refine a_iconst (pc := 241) (dk dt_X12_act 104 rfl) (ik rfl) ?_
      refine a_iadd (pc := 242) (dk dt_X12_act 105 rfl) ?_
      refine a_puti (pc := 243) (dk dt_X12_act 106 rfl) cls_12 fl_RX12_426 cf_85_22 rfl rfl ?_
      refine a_aload_n (pc := 246) (dk dt_X12_act 107 rfl) rfl ?_
      refine a_geti (pc := 247) (dk dt_X12_act 108 rfl) cls_12 fl_RX12_474 cf_85_57 ?_
      refine a_top (y := (h2 85 57)) (by simp [up, cpy]) ?_
      refine a_if_ne (pc := 250) (dk dt_X12_act 109 rfl) (tgt := 257) rfl ⟨fun c => ?_, fun c => ?_⟩
      · replace H := H.1 c
        refine a_iconst (pc := 257) (dk dt_X12_act 112 rfl) (ik rfl) ?_
        exact a_zret (pc := 258) (dk dt_X12_act 113 rfl) rfl rfl ⟨by decide, H⟩
      · replace H := H.2 c
        refine a_iconst (pc := 253) (dk dt_X12_act 110 rfl) (ik rfl) ?_
        refine a_goto (pc := 254) (dk dt_X12_act 111 rfl) (tgt := 258) rfl ?_
        exact a_zret (pc := 258) (dk dt_X12_act 113 rfl) rfl rfl ⟨by decide, H⟩
  have B3 : ((h 103 x1) = 7) → AT G m_X12_act 125 [(0, rv 85), (1, iv x1)] [] (up h 85 57 0) Φ := by
    intro c
    replace H := H.2.2.2.1 c
    refine a_aload_n (pc := 125) (dk dt_X12_act 39 rfl) rfl ?_
    refine a_bipush (pc := 126) (dk dt_X12_act 40 rfl) (ik rfl) (bpk rfl) ?_
    refine a_aload_n (pc := 128) (dk dt_X12_act 41 rfl) rfl ?_
    refine a_getr (r := 103) (pc := 129) (dk dt_X12_act 42 rfl) cls_12 fl_RX12_141 cf_85_37 ?_
    refine a_iload_n (pc := 132) (dk dt_X12_act 43 rfl) rfl ?_
    refine a_iald (pc := 133) (dk dt_X12_act 44 rfl) ar_104 ⟨H.1, ?_⟩
    replace H := H.2
    refine a_top (y := (h 104 x1)) (by simp [up, cpy]) ?_
    refine a_iadd (pc := 134) (dk dt_X12_act 45 rfl) ?_
    refine a_callVi (as := [iv (w32 (9 + (h 104 x1)))]) (st := []) (pc := 135) (dk dt_X12_act 46 rfl) cl_RX12_478 ⟨Nat.le_of_ble_eq_true rfl, Nat.le_of_ble_eq_true rfl⟩ ⟨Nat.le_of_ble_eq_true rfl, Nat.le_of_ble_eq_true rfl⟩ cls_12 rfl cc_85 rfl rfl rfl (Nat.le_of_ble_eq_true rfl) (Call.mono H fun r3 h4 H => ?_)
    refine a_istore_n (pc := 138) (dk dt_X12_act 47 rfl) (by decide) rfl rfl ?_
    refine a_aload_n (pc := 139) (dk dt_X12_act 48 rfl) rfl ?_
    refine a_geti (pc := 140) (dk dt_X12_act 49 rfl) cls_12 fl_RX12_474 cf_85_57 ?_
    refine a_if_ne (pc := 143) (dk dt_X12_act 50 rfl) (tgt := 229) rfl ⟨fun c => ?_, fun c => ?_⟩
    · replace H := H.1 c
      refine a_aload_n (pc := 229) (dk dt_X12_act 98 rfl) rfl ?_
      refine a_geti (pc := 230) (dk dt_X12_act 99 rfl) cls_12 fl_RX12_474 cf_85_57 ?_
      refine a_if_eq (pc := 233) (dk dt_X12_act 100 rfl) (tgt := 246) rfl ⟨fun c => ?_, fun c => ?_⟩
      · replace H := H.1 c
        refine a_aload_n (pc := 246) (dk dt_X12_act 107 rfl) rfl ?_
        refine a_geti (pc := 247) (dk dt_X12_act 108 rfl) cls_12 fl_RX12_474 cf_85_57 ?_
        refine a_if_ne (pc := 250) (dk dt_X12_act 109 rfl) (tgt := 257) rfl ⟨fun c => ?_, fun c => ?_⟩
        · replace H := H.1 c
          refine a_iconst (pc := 257) (dk dt_X12_act 112 rfl) (ik rfl) ?_
          exact a_zret (pc := 258) (dk dt_X12_act 113 rfl) rfl rfl ⟨by decide, H⟩
        · replace H := H.2 c
          refine a_iconst (pc := 253) (dk dt_X12_act 110 rfl) (ik rfl) ?_
          refine a_goto (pc := 254) (dk dt_X12_act 111 rfl) (tgt := 258) rfl ?_
          exact a_zret (pc := 258) (dk dt_X12_act 113 rfl) rfl rfl ⟨by decide, H⟩
      · replace H := H.2 c
        refine a_aload_n (pc := 236) (dk dt_X12_act 101 rfl) rfl ?_
        refine a_dup (pc := 237) (dk dt_X12_act 102 rfl) rfl ?_
        refine a_geti (pc := 238) (dk dt_X12_act 103 rfl) cls_12 fl_RX12_426 cf_85_22 ?_
        refine a_iconst (pc := 241) (dk dt_X12_act 104 rfl) (ik rfl) ?_
        refine a_iadd (pc := 242) (dk dt_X12_act 105 rfl) ?_
        refine a_puti (pc := 243) (dk dt_X12_act 106 rfl) cls_12 fl_RX12_426 cf_85_22 rfl rfl ?_
        refine a_aload_n (pc := 246) (dk dt_X12_act 107 rfl) rfl ?_
        refine a_geti (pc := 247) (dk dt_X12_act 108 rfl) cls_12 fl_RX12_474 cf_85_57 ?_
        refine a_top (y := (h4 85 57)) (by simp [up, cpy]) ?_
        refine a_if_ne (pc := 250) (dk dt_X12_act 109 rfl) (tgt := 257) rfl ⟨fun c => ?_, fun c => ?_⟩
        · replace H := H.1 c
          refine a_iconst (pc := 257) (dk dt_X12_act 112 rfl) (ik rfl) ?_
          exact a_zret (pc := 258) (dk dt_X12_act 113 rfl) rfl rfl ⟨by decide, H⟩
        · replace H := H.2 c
          refine a_iconst (pc := 253) (dk dt_X12_act 110 rfl) (ik rfl) ?_
          refine a_goto (pc := 254) (dk dt_X12_act 111 rfl) (tgt := 258) rfl ?_
          exact a_zret (pc := 258) (dk dt_X12_act 113 rfl) rfl rfl ⟨by decide, H⟩
    · replace H := H.2 c
      refine a_aload_n (pc := 146) (dk dt_X12_act 51 rfl) rfl ?_
      refine a_getr (r := 96) (pc := 147) (dk dt_X12_act 52 rfl) cls_12 fl_RX12_57 cf_85_28 ?_
      refine a_aload_n (pc := 150) (dk dt_X12_act 53 rfl) rfl ?_
      refine a_getr (r := 103) (pc := 151) (dk dt_X12_act 54 rfl) cls_12 fl_RX12_141 cf_85_37 ?_
      refine a_iload_n (pc := 154) (dk dt_X12_act 55 rfl) rfl ?_
      refine a_iald (pc := 155) (dk dt_X12_act 56 rfl) ar_104 ⟨H.1, ?_⟩
      replace H := H.2
      refine a_iload_n (pc := 156) (dk dt_X12_act 57 rfl) rfl ?_
      refine a_aload_n (pc := 157) (dk dt_X12_act 58 rfl) rfl ?_
      refine a_getr (r := 104) (pc := 158) (dk dt_X12_act 59 rfl) cls_12 fl_RX12_144 cf_85_38 ?_
      refine a_iload_n (pc := 161) (dk dt_X12_act 60 rfl) rfl ?_
      refine a_iald (pc := 162) (dk dt_X12_act 61 rfl) ar_105 ⟨H.1, ?_⟩
      replace H := H.2
      refine a_iadd (pc := 163) (dk dt_X12_act 62 rfl) ?_
      refine a_sipush (pc := 164) (dk dt_X12_act 63 rfl) (ik rfl) (spk rfl) ?_
      refine a_iand (pc := 167) (dk dt_X12_act 64 rfl) ?_
      refine a_callSi (as := [iv (band (w32 (r3 + (h4 105 x1))) 255)]) (st := [iv (h4 104 x1), rv 97]) (pc := 168) (dk dt_X12_act 65 rfl) cl_RX12_441 ⟨Nat.le_of_ble_eq_true rfl, Nat.le_of_ble_eq_true rfl⟩ ⟨Nat.le_of_ble_eq_true rfl, Nat.le_of_ble_eq_true rfl⟩ rfl rfl rfl (Nat.le_of_ble_eq_true rfl) (Call.mono H fun r5 h6 H => ?_)
      refine a_iast (pc := 171) (dk dt_X12_act 66 rfl) ar_97 ⟨H.1, ?_⟩
      replace H := H.2
      refine a_goto (pc := 172) (dk dt_X12_act 67 rfl) (tgt := 229) rfl ?_
      refine a_aload_n (pc := 229) (dk dt_X12_act 98 rfl) rfl ?_
      refine a_geti (pc := 230) (dk dt_X12_act 99 rfl) cls_12 fl_RX12_474 cf_85_57 ?_
      refine a_top (y := (h6 85 57)) (by simp [up, cpy]) ?_
      refine a_if_eq (pc := 233) (dk dt_X12_act 100 rfl) (tgt := 246) rfl ⟨fun c => ?_, fun c => ?_⟩
      · replace H := H.1 c
        refine a_aload_n (pc := 246) (dk dt_X12_act 107 rfl) rfl ?_
        refine a_geti (pc := 247) (dk dt_X12_act 108 rfl) cls_12 fl_RX12_474 cf_85_57 ?_
        refine a_top (y := (h6 85 57)) (by simp [up, cpy]) ?_
        refine a_if_ne (pc := 250) (dk dt_X12_act 109 rfl) (tgt := 257) rfl ⟨fun c => ?_, fun c => ?_⟩
        · replace H := H.1 c
          refine a_iconst (pc := 257) (dk dt_X12_act 112 rfl) (ik rfl) ?_
          exact a_zret (pc := 258) (dk dt_X12_act 113 rfl) rfl rfl ⟨by decide, H⟩
        · replace H := H.2 c
          refine a_iconst (pc := 253) (dk dt_X12_act 110 rfl) (ik rfl) ?_
          refine a_goto (pc := 254) (dk dt_X12_act 111 rfl) (tgt := 258) rfl ?_
          exact a_zret (pc := 258) (dk dt_X12_act 113 rfl) rfl rfl ⟨by decide, H⟩
      · replace H := H.2 c
        refine a_aload_n (pc := 236) (dk dt_X12_act 101 rfl) rfl ?_
        refine a_dup (pc := 237) (dk dt_X12_act 102 rfl) rfl ?_
        refine a_geti (pc := 238) (dk dt_X12_act 103 rfl) cls_12 fl_RX12_426 cf_85_22 ?_
        refine a_top (y := (h6 85 22)) (by simp [up, cpy]) ?_
        refine a_iconst (pc := 241) (dk dt_X12_act 104 rfl) (ik rfl) ?_
        refine a_iadd (pc := 242) (dk dt_X12_act 105 rfl) ?_
        refine a_puti (pc := 243) (dk dt_X12_act 106 rfl) cls_12 fl_RX12_426 cf_85_22 rfl rfl ?_
        refine a_aload_n (pc := 246) (dk dt_X12_act 107 rfl) rfl ?_
        refine a_geti (pc := 247) (dk dt_X12_act 108 rfl) cls_12 fl_RX12_474 cf_85_57 ?_
        refine a_top (y := (h6 85 57)) (by simp [up, cpy]) ?_
        refine a_if_ne (pc := 250) (dk dt_X12_act 109 rfl) (tgt := 257) rfl ⟨fun c => ?_, fun c => ?_⟩
        · replace H := H.1 c
          refine a_iconst (pc := 257) (dk dt_X12_act 112 rfl) (ik rfl) ?_
          exact a_zret (pc := 258) (dk dt_X12_act 113 rfl) rfl rfl ⟨by decide, H⟩
        · replace H := H.2 c
          refine a_iconst (pc := 253) (dk dt_X12_act 110 rfl) (ik rfl) ?_
          refine a_goto (pc := 254) (dk dt_X12_act 111 rfl) (tgt := 258) rfl ?_
          exact a_zret (pc := 258) (dk dt_X12_act 113 rfl) rfl rfl ⟨by decide, H⟩
  have B4 : ((h 103 x1) = 8) → AT G m_X12_act 175 [(0, rv 85), (1, iv x1)] [] (up h 85 57 0) Φ := by
    intro c
    replace H := H.2.2.2.2.1 c
    refine a_aload_n (pc := 175) (dk dt_X12_act 68 rfl) rfl ?_
    refine a_aload_n (pc := 176) (dk dt_X12_act 69 rfl) rfl ?_
    refine a_getr (r := 104) (pc := 177) (dk dt_X12_act 70 rfl) cls_12 fl_RX12_144 cf_85_38 ?_
    refine a_iload_n (pc := 180) (dk dt_X12_act 71 rfl) rfl ?_
    refine a_iald (pc := 181) (dk dt_X12_act 72 rfl) ar_105 ⟨H.1, ?_⟩
    replace H := H.2
    refine a_top (y := (h 105 x1)) (by simp [up, cpy]) ?_
    refine a_callVv (as := [iv (h 105 x1)]) (st := []) (pc := 182) (dk dt_X12_act 73 rfl) cl_RX12_481 ⟨Nat.le_of_ble_eq_true rfl, Nat.le_of_ble_eq_true rfl⟩ ⟨Nat.le_of_ble_eq_true rfl, Nat.le_of_ble_eq_true rfl⟩ cls_12 rfl cc_85 rfl rfl rfl (Nat.le_of_ble_eq_true rfl) (Call.mono H fun _ h8 H => ?_)
    refine a_goto (pc := 185) (dk dt_X12_act 74 rfl) (tgt := 229) rfl ?_
    refine a_aload_n (pc := 229) (dk dt_X12_act 98 rfl) rfl ?_
    refine a_geti (pc := 230) (dk dt_X12_act 99 rfl) cls_12 fl_RX12_474 cf_85_57 ?_
    refine a_if_eq (pc := 233) (dk dt_X12_act 100 rfl) (tgt := 246) rfl ⟨fun c => ?_, fun c => ?_⟩
    · replace H := H.1 c
      refine a_aload_n (pc := 246) (dk dt_X12_act 107 rfl) rfl ?_
      refine a_geti (pc := 247) (dk dt_X12_act 108 rfl) cls_12 fl_RX12_474 cf_85_57 ?_
      refine a_if_ne (pc := 250) (dk dt_X12_act 109 rfl) (tgt := 257) rfl ⟨fun c => ?_, fun c => ?_⟩
      · replace H := H.1 c
        refine a_iconst (pc := 257) (dk dt_X12_act 112 rfl) (ik rfl) ?_
        exact a_zret (pc := 258) (dk dt_X12_act 113 rfl) rfl rfl ⟨by decide, H⟩
      · replace H := H.2 c
        refine a_iconst (pc := 253) (dk dt_X12_act 110 rfl) (ik rfl) ?_
        refine a_goto (pc := 254) (dk dt_X12_act 111 rfl) (tgt := 258) rfl ?_
        exact a_zret (pc := 258) (dk dt_X12_act 113 rfl) rfl rfl ⟨by decide, H⟩
    · replace H := H.2 c
      refine a_aload_n (pc := 236) (dk dt_X12_act 101 rfl) rfl ?_
      refine a_dup (pc := 237) (dk dt_X12_act 102 rfl) rfl ?_
      refine a_geti (pc := 238) (dk dt_X12_act 103 rfl) cls_12 fl_RX12_426 cf_85_22 ?_
      refine a_iconst (pc := 241) (dk dt_X12_act 104 rfl) (ik rfl) ?_
      refine a_iadd (pc := 242) (dk dt_X12_act 105 rfl) ?_
      refine a_puti (pc := 243) (dk dt_X12_act 106 rfl) cls_12 fl_RX12_426 cf_85_22 rfl rfl ?_
      refine a_aload_n (pc := 246) (dk dt_X12_act 107 rfl) rfl ?_
      refine a_geti (pc := 247) (dk dt_X12_act 108 rfl) cls_12 fl_RX12_474 cf_85_57 ?_
      refine a_top (y := (h8 85 57)) (by simp [up, cpy]) ?_
      refine a_if_ne (pc := 250) (dk dt_X12_act 109 rfl) (tgt := 257) rfl ⟨fun c => ?_, fun c => ?_⟩
      · replace H := H.1 c
        refine a_iconst (pc := 257) (dk dt_X12_act 112 rfl) (ik rfl) ?_
        exact a_zret (pc := 258) (dk dt_X12_act 113 rfl) rfl rfl ⟨by decide, H⟩
      · replace H := H.2 c
        refine a_iconst (pc := 253) (dk dt_X12_act 110 rfl) (ik rfl) ?_
        refine a_goto (pc := 254) (dk dt_X12_act 111 rfl) (tgt := 258) rfl ?_
        exact a_zret (pc := 258) (dk dt_X12_act 113 rfl) rfl rfl ⟨by decide, H⟩
  have B5 : ((h 103 x1) = 9) → AT G m_X12_act 188 [(0, rv 85), (1, iv x1)] [] (up h 85 57 0) Φ := by
    intro c
    replace H := H.2.2.2.2.2.1 c
    refine a_aload_n (pc := 188) (dk dt_X12_act 75 rfl) rfl ?_
    refine a_aload_n (pc := 189) (dk dt_X12_act 76 rfl) rfl ?_
    refine a_getr (r := 104) (pc := 190) (dk dt_X12_act 77 rfl) cls_12 fl_RX12_144 cf_85_38 ?_
    refine a_iload_n (pc := 193) (dk dt_X12_act 78 rfl) rfl ?_
    refine a_iald (pc := 194) (dk dt_X12_act 79 rfl) ar_105 ⟨H.1, ?_⟩
    replace H := H.2
    refine a_top (y := (h 105 x1)) (by simp [up, cpy]) ?_
    refine a_callVv (as := [iv (h 105 x1)]) (st := []) (pc := 195) (dk dt_X12_act 80 rfl) cl_RX12_483 ⟨Nat.le_of_ble_eq_true rfl, Nat.le_of_ble_eq_true rfl⟩ ⟨Nat.le_of_ble_eq_true rfl, Nat.le_of_ble_eq_true rfl⟩ cls_12 rfl cc_85 rfl rfl rfl (Nat.le_of_ble_eq_true rfl) (Call.mono H fun _ h10 H => ?_)
    refine a_goto (pc := 198) (dk dt_X12_act 81 rfl) (tgt := 229) rfl ?_
    refine a_aload_n (pc := 229) (dk dt_X12_act 98 rfl) rfl ?_
    refine a_geti (pc := 230) (dk dt_X12_act 99 rfl) cls_12 fl_RX12_474 cf_85_57 ?_
    refine a_if_eq (pc := 233) (dk dt_X12_act 100 rfl) (tgt := 246) rfl ⟨fun c => ?_, fun c => ?_⟩
    · replace H := H.1 c
      refine a_aload_n (pc := 246) (dk dt_X12_act 107 rfl) rfl ?_
      refine a_geti (pc := 247) (dk dt_X12_act 108 rfl) cls_12 fl_RX12_474 cf_85_57 ?_
      refine a_if_ne (pc := 250) (dk dt_X12_act 109 rfl) (tgt := 257) rfl ⟨fun c => ?_, fun c => ?_⟩
      · replace H := H.1 c
        refine a_iconst (pc := 257) (dk dt_X12_act 112 rfl) (ik rfl) ?_
        exact a_zret (pc := 258) (dk dt_X12_act 113 rfl) rfl rfl ⟨by decide, H⟩
      · replace H := H.2 c
        refine a_iconst (pc := 253) (dk dt_X12_act 110 rfl) (ik rfl) ?_
        refine a_goto (pc := 254) (dk dt_X12_act 111 rfl) (tgt := 258) rfl ?_
        exact a_zret (pc := 258) (dk dt_X12_act 113 rfl) rfl rfl ⟨by decide, H⟩
    · replace H := H.2 c
      refine a_aload_n (pc := 236) (dk dt_X12_act 101 rfl) rfl ?_
      refine a_dup (pc := 237) (dk dt_X12_act 102 rfl) rfl ?_
      refine a_geti (pc := 238) (dk dt_X12_act 103 rfl) cls_12 fl_RX12_426 cf_85_22 ?_
      refine a_iconst (pc := 241) (dk dt_X12_act 104 rfl) (ik rfl) ?_
      refine a_iadd (pc := 242) (dk dt_X12_act 105 rfl) ?_
      refine a_puti (pc := 243) (dk dt_X12_act 106 rfl) cls_12 fl_RX12_426 cf_85_22 rfl rfl ?_
      refine a_aload_n (pc := 246) (dk dt_X12_act 107 rfl) rfl ?_
      refine a_geti (pc := 247) (dk dt_X12_act 108 rfl) cls_12 fl_RX12_474 cf_85_57 ?_
      refine a_top (y := (h10 85 57)) (by simp [up, cpy]) ?_
      refine a_if_ne (pc := 250) (dk dt_X12_act 109 rfl) (tgt := 257) rfl ⟨fun c => ?_, fun c => ?_⟩
      · replace H := H.1 c
        refine a_iconst (pc := 257) (dk dt_X12_act 112 rfl) (ik rfl) ?_
        exact a_zret (pc := 258) (dk dt_X12_act 113 rfl) rfl rfl ⟨by decide, H⟩
      · replace H := H.2 c
        refine a_iconst (pc := 253) (dk dt_X12_act 110 rfl) (ik rfl) ?_
        refine a_goto (pc := 254) (dk dt_X12_act 111 rfl) (tgt := 258) rfl ?_
        exact a_zret (pc := 258) (dk dt_X12_act 113 rfl) rfl rfl ⟨by decide, H⟩
  have B6 : ((h 103 x1) = 10) → AT G m_X12_act 201 [(0, rv 85), (1, iv x1)] [] (up h 85 57 0) Φ := by
    intro c
    replace H := H.2.2.2.2.2.2.1 c
    refine a_aload_n (pc := 201) (dk dt_X12_act 82 rfl) rfl ?_
    refine a_aload_n (pc := 202) (dk dt_X12_act 83 rfl) rfl ?_
    refine a_getr (r := 103) (pc := 203) (dk dt_X12_act 84 rfl) cls_12 fl_RX12_141 cf_85_37 ?_
    refine a_iload_n (pc := 206) (dk dt_X12_act 85 rfl) rfl ?_
    refine a_iald (pc := 207) (dk dt_X12_act 86 rfl) ar_104 ⟨H.1, ?_⟩
    replace H := H.2
    refine a_top (y := (h 104 x1)) (by simp [up, cpy]) ?_
    refine a_callVv (as := [iv (h 104 x1)]) (st := []) (pc := 208) (dk dt_X12_act 87 rfl) cl_RX12_486 ⟨Nat.le_of_ble_eq_true rfl, Nat.le_of_ble_eq_true rfl⟩ ⟨Nat.le_of_ble_eq_true rfl, Nat.le_of_ble_eq_true rfl⟩ cls_12 rfl cc_85 rfl rfl rfl (Nat.le_of_ble_eq_true rfl) (Call.of rfl (Nat.le_of_ble_eq_true rfl) rfl ?_)
    refine a_aload_n (pc := 0) (dk dt_X12_begin 0 rfl) rfl ?_
    refine a_getr (r := 115) (pc := 1) (dk dt_X12_begin 1 rfl) cls_12 fl_RX12_177 cf_85_49 ?_
    refine a_iload_n (pc := 4) (dk dt_X12_begin 2 rfl) rfl ?_
    refine a_iconst (pc := 5) (dk dt_X12_begin 3 rfl) (ik rfl) ?_
    refine a_iast (pc := 6) (dk dt_X12_begin 4 rfl) ar_116 ⟨H.1, ?_⟩
    replace H := H.2
    refine a_aload_n (pc := 7) (dk dt_X12_begin 5 rfl) rfl ?_
    refine a_getr (r := 116) (pc := 8) (dk dt_X12_begin 6 rfl) cls_12 fl_RX12_180 cf_85_50 ?_
    refine a_iload_n (pc := 11) (dk dt_X12_begin 7 rfl) rfl ?_
    refine a_iconst (pc := 12) (dk dt_X12_begin 8 rfl) (ik rfl) ?_
    refine a_iast (pc := 13) (dk dt_X12_begin 9 rfl) ar_117 ⟨H.1, ?_⟩
    replace H := H.2
    refine a_vret (pc := 14) (dk dt_X12_begin 10 rfl) rfl rfl ?_
    show ATW _ _ _ _ _ _ _ _ _ _
    refine a_goto (pc := 211) (dk dt_X12_act 88 rfl) (tgt := 229) rfl ?_
    refine a_aload_n (pc := 229) (dk dt_X12_act 98 rfl) rfl ?_
    refine a_geti (pc := 230) (dk dt_X12_act 99 rfl) cls_12 fl_RX12_474 cf_85_57 ?_
    refine a_top (y := 0) (by simp [up, cpy]) ?_
    refine a_if_eq (pc := 233) (dk dt_X12_act 100 rfl) (tgt := 246) rfl ⟨fun _ => ?_, fun c => absurd c (by decide)⟩
    refine a_aload_n (pc := 246) (dk dt_X12_act 107 rfl) rfl ?_
    refine a_geti (pc := 247) (dk dt_X12_act 108 rfl) cls_12 fl_RX12_474 cf_85_57 ?_
    refine a_top (y := 0) (by simp [up, cpy]) ?_
    refine a_if_ne (pc := 250) (dk dt_X12_act 109 rfl) (tgt := 257) rfl ⟨fun c => absurd c (by decide), fun _ => ?_⟩
    refine a_iconst (pc := 253) (dk dt_X12_act 110 rfl) (ik rfl) ?_
    refine a_goto (pc := 254) (dk dt_X12_act 111 rfl) (tgt := 258) rfl ?_
    exact a_zret (pc := 258) (dk dt_X12_act 113 rfl) rfl rfl ⟨by decide, H⟩
  have B7 : ((h 103 x1) = 11) → AT G m_X12_act 214 [(0, rv 85), (1, iv x1)] [] (up h 85 57 0) Φ := by
    intro c
    replace H := H.2.2.2.2.2.2.2.1 c
    refine a_aload_n (pc := 214) (dk dt_X12_act 89 rfl) rfl ?_
    refine a_getr (r := 115) (pc := 215) (dk dt_X12_act 90 rfl) cls_12 fl_RX12_177 cf_85_49 ?_
    refine a_aload_n (pc := 218) (dk dt_X12_act 91 rfl) rfl ?_
    refine a_getr (r := 103) (pc := 219) (dk dt_X12_act 92 rfl) cls_12 fl_RX12_141 cf_85_37 ?_
    refine a_iload_n (pc := 222) (dk dt_X12_act 93 rfl) rfl ?_
    refine a_iald (pc := 223) (dk dt_X12_act 94 rfl) ar_104 ⟨H.1, ?_⟩
    replace H := H.2
    refine a_top (y := (h 104 x1)) (by simp [up, cpy]) ?_
    refine a_iconst (pc := 224) (dk dt_X12_act 95 rfl) (ik rfl) ?_
    refine a_iast (pc := 225) (dk dt_X12_act 96 rfl) ar_116 ⟨H.1, ?_⟩
    replace H := H.2
    refine a_goto (pc := 226) (dk dt_X12_act 97 rfl) (tgt := 229) rfl ?_
    refine a_aload_n (pc := 229) (dk dt_X12_act 98 rfl) rfl ?_
    refine a_geti (pc := 230) (dk dt_X12_act 99 rfl) cls_12 fl_RX12_474 cf_85_57 ?_
    refine a_top (y := 0) (by simp [up, cpy]) ?_
    refine a_if_eq (pc := 233) (dk dt_X12_act 100 rfl) (tgt := 246) rfl ⟨fun _ => ?_, fun c => absurd c (by decide)⟩
    refine a_aload_n (pc := 246) (dk dt_X12_act 107 rfl) rfl ?_
    refine a_geti (pc := 247) (dk dt_X12_act 108 rfl) cls_12 fl_RX12_474 cf_85_57 ?_
    refine a_top (y := 0) (by simp [up, cpy]) ?_
    refine a_if_ne (pc := 250) (dk dt_X12_act 109 rfl) (tgt := 257) rfl ⟨fun c => absurd c (by decide), fun _ => ?_⟩
    refine a_iconst (pc := 253) (dk dt_X12_act 110 rfl) (ik rfl) ?_
    refine a_goto (pc := 254) (dk dt_X12_act 111 rfl) (tgt := 258) rfl ?_
    exact a_zret (pc := 258) (dk dt_X12_act 113 rfl) rfl rfl ⟨by decide, H⟩
  have BD : (((h 103 x1) < 0 ∨ 11 < (h 103 x1)) ∨ (h 103 x1) = 2 ∨ (h 103 x1) = 3 ∨ (h 103 x1) = 4 ∨ (h 103 x1) = 5) → AT G m_X12_act 229 [(0, rv 85), (1, iv x1)] [] (up h 85 57 0) Φ := by
    intro c
    replace H := H.2.2.2.2.2.2.2.2 c
    refine a_aload_n (pc := 229) (dk dt_X12_act 98 rfl) rfl ?_
    refine a_geti (pc := 230) (dk dt_X12_act 99 rfl) cls_12 fl_RX12_474 cf_85_57 ?_
    refine a_top (y := 0) (by simp [up, cpy]) ?_
    refine a_if_eq (pc := 233) (dk dt_X12_act 100 rfl) (tgt := 246) rfl ⟨fun _ => ?_, fun c => absurd c (by decide)⟩
    refine a_aload_n (pc := 246) (dk dt_X12_act 107 rfl) rfl ?_
    refine a_geti (pc := 247) (dk dt_X12_act 108 rfl) cls_12 fl_RX12_474 cf_85_57 ?_
    refine a_top (y := 0) (by simp [up, cpy]) ?_
    refine a_if_ne (pc := 250) (dk dt_X12_act 109 rfl) (tgt := 257) rfl ⟨fun c => absurd c (by decide), fun _ => ?_⟩
    refine a_iconst (pc := 253) (dk dt_X12_act 110 rfl) (ik rfl) ?_
    refine a_goto (pc := 254) (dk dt_X12_act 111 rfl) (tgt := 258) rfl ?_
    exact a_zret (pc := 258) (dk dt_X12_act 113 rfl) rfl rfl ⟨by decide, H⟩
  exact a_tsw [72, 87, 229, 229, 229, 229, 102, 125, 175, 188, 201, 214] (pc := 11) (dk dt_X12_act 7 rfl) (by decide) (dt := 229) rfl (by decide) ⟨⟨fun c => B0 (c), fun c => B1 (c), fun c => BD (Or.inr (Or.inl c)), fun c => BD (Or.inr (Or.inr (Or.inl c))), fun c => BD (Or.inr (Or.inr (Or.inr (Or.inl c)))), fun c => BD (Or.inr (Or.inr (Or.inr (Or.inr (c))))), fun c => B2 (c), fun c => B3 (c), fun c => B4 (c), fun c => B5 (c), fun c => B6 (c), fun c => B7 (c), trivial⟩, fun c => BD (Or.inl c)⟩
set_option maxHeartbeats 40000000 in
theorem U_X12_isSeen_85_0 {G : GG} {Φ : Int → Hp → Prop} {h : Hp} (H : Call G m_X12_sees [rv 85, iv 0, iv (h 85 10)] h (fun r1 h2 => ((r1 ≠ 0 → Φ 1 h2) ∧ (r1 = 0 → Call G m_X12_sees [rv 85, iv 1, iv (h2 85 10)] h2 (fun r3 h4 => ((r3 ≠ 0 → Φ 1 h4) ∧ (r3 = 0 → Call G m_X12_sees [rv 85, iv 2, iv (h4 85 10)] h4 (fun r5 h6 => ((r5 ≠ 0 → Φ 1 h6) ∧ (r5 = 0 → Call G m_X12_sees [rv 85, iv 3, iv (h6 85 10)] h6 (fun r7 h8 => ((r7 = 0 → Φ 0 h8) ∧ (r7 ≠ 0 → Φ 1 h8))))))))))))) : AT G m_X12_isSeen 0 [(0, rv 85)] [] h Φ := by
  refine a_aload_n (pc := 0) (dk dt_X12_isSeen 0 rfl) rfl ?_
  refine a_iconst (pc := 1) (dk dt_X12_isSeen 1 rfl) (ik rfl) ?_
  refine a_aload_n (pc := 2) (dk dt_X12_isSeen 2 rfl) rfl ?_
  refine a_geti (pc := 3) (dk dt_X12_isSeen 3 rfl) cls_12 fl_RX12_398 cf_85_10 ?_
  refine a_callVi (as := [iv 0, iv (h 85 10)]) (st := []) (pc := 6) (dk dt_X12_isSeen 4 rfl) cl_RX12_408 ⟨Nat.le_of_ble_eq_true rfl, Nat.le_of_ble_eq_true rfl⟩ ⟨Nat.le_of_ble_eq_true rfl, Nat.le_of_ble_eq_true rfl⟩ cls_12 rfl cc_85 rfl rfl rfl (Nat.le_of_ble_eq_true rfl) (Call.mono H fun r1 h2 H => ?_)
  refine a_if_ne (pc := 9) (dk dt_X12_isSeen 5 rfl) (tgt := 48) rfl ⟨fun c => ?_, fun c => ?_⟩
  · replace H := H.1 c
    refine a_iconst (pc := 48) (dk dt_X12_isSeen 24 rfl) (ik rfl) ?_
    refine a_goto (pc := 49) (dk dt_X12_isSeen 25 rfl) (tgt := 53) rfl ?_
    exact a_zret (pc := 53) (dk dt_X12_isSeen 27 rfl) rfl rfl ⟨by decide, H⟩
  · replace H := H.2 c
    refine a_aload_n (pc := 12) (dk dt_X12_isSeen 6 rfl) rfl ?_
    refine a_iconst (pc := 13) (dk dt_X12_isSeen 7 rfl) (ik rfl) ?_
    refine a_aload_n (pc := 14) (dk dt_X12_isSeen 8 rfl) rfl ?_
    refine a_geti (pc := 15) (dk dt_X12_isSeen 9 rfl) cls_12 fl_RX12_398 cf_85_10 ?_
    refine a_callVi (as := [iv 1, iv (h2 85 10)]) (st := []) (pc := 18) (dk dt_X12_isSeen 10 rfl) cl_RX12_408 ⟨Nat.le_of_ble_eq_true rfl, Nat.le_of_ble_eq_true rfl⟩ ⟨Nat.le_of_ble_eq_true rfl, Nat.le_of_ble_eq_true rfl⟩ cls_12 rfl cc_85 rfl rfl rfl (Nat.le_of_ble_eq_true rfl) (Call.mono H fun r3 h4 H => ?_)
    refine a_if_ne (pc := 21) (dk dt_X12_isSeen 11 rfl) (tgt := 48) rfl ⟨fun c => ?_, fun c => ?_⟩
    · replace H := H.1 c
      refine a_iconst (pc := 48) (dk dt_X12_isSeen 24 rfl) (ik rfl) ?_
      refine a_goto (pc := 49) (dk dt_X12_isSeen 25 rfl) (tgt := 53) rfl ?_
      exact a_zret (pc := 53) (dk dt_X12_isSeen 27 rfl) rfl rfl ⟨by decide, H⟩
    · replace H := H.2 c
      refine a_aload_n (pc := 24) (dk dt_X12_isSeen 12 rfl) rfl ?_
      refine a_iconst (pc := 25) (dk dt_X12_isSeen 13 rfl) (ik rfl) ?_
      refine a_aload_n (pc := 26) (dk dt_X12_isSeen 14 rfl) rfl ?_
      refine a_geti (pc := 27) (dk dt_X12_isSeen 15 rfl) cls_12 fl_RX12_398 cf_85_10 ?_
      refine a_callVi (as := [iv 2, iv (h4 85 10)]) (st := []) (pc := 30) (dk dt_X12_isSeen 16 rfl) cl_RX12_408 ⟨Nat.le_of_ble_eq_true rfl, Nat.le_of_ble_eq_true rfl⟩ ⟨Nat.le_of_ble_eq_true rfl, Nat.le_of_ble_eq_true rfl⟩ cls_12 rfl cc_85 rfl rfl rfl (Nat.le_of_ble_eq_true rfl) (Call.mono H fun r5 h6 H => ?_)
      refine a_if_ne (pc := 33) (dk dt_X12_isSeen 17 rfl) (tgt := 48) rfl ⟨fun c => ?_, fun c => ?_⟩
      · replace H := H.1 c
        refine a_iconst (pc := 48) (dk dt_X12_isSeen 24 rfl) (ik rfl) ?_
        refine a_goto (pc := 49) (dk dt_X12_isSeen 25 rfl) (tgt := 53) rfl ?_
        exact a_zret (pc := 53) (dk dt_X12_isSeen 27 rfl) rfl rfl ⟨by decide, H⟩
      · replace H := H.2 c
        refine a_aload_n (pc := 36) (dk dt_X12_isSeen 18 rfl) rfl ?_
        refine a_iconst (pc := 37) (dk dt_X12_isSeen 19 rfl) (ik rfl) ?_
        refine a_aload_n (pc := 38) (dk dt_X12_isSeen 20 rfl) rfl ?_
        refine a_geti (pc := 39) (dk dt_X12_isSeen 21 rfl) cls_12 fl_RX12_398 cf_85_10 ?_
        refine a_callVi (as := [iv 3, iv (h6 85 10)]) (st := []) (pc := 42) (dk dt_X12_isSeen 22 rfl) cl_RX12_408 ⟨Nat.le_of_ble_eq_true rfl, Nat.le_of_ble_eq_true rfl⟩ ⟨Nat.le_of_ble_eq_true rfl, Nat.le_of_ble_eq_true rfl⟩ cls_12 rfl cc_85 rfl rfl rfl (Nat.le_of_ble_eq_true rfl) (Call.mono H fun r7 h8 H => ?_)
        refine a_if_eq (pc := 45) (dk dt_X12_isSeen 23 rfl) (tgt := 52) rfl ⟨fun c => ?_, fun c => ?_⟩
        · replace H := H.1 c
          refine a_iconst (pc := 52) (dk dt_X12_isSeen 26 rfl) (ik rfl) ?_
          exact a_zret (pc := 53) (dk dt_X12_isSeen 27 rfl) rfl rfl ⟨by decide, H⟩
        · replace H := H.2 c
          refine a_iconst (pc := 48) (dk dt_X12_isSeen 24 rfl) (ik rfl) ?_
          refine a_goto (pc := 49) (dk dt_X12_isSeen 25 rfl) (tgt := 53) rfl ?_
          exact a_zret (pc := 53) (dk dt_X12_isSeen 27 rfl) rfl rfl ⟨by decide, H⟩
set_option maxHeartbeats 40000000 in
theorem U_X12_areApart_85_0 {G : GG} {Φ : Int → Hp → Prop} {h : Hp} {x1 : Int} {x2 : Int} (H : (0 ≤ x1 ∧ x1 < 12) ∧ (0 ≤ x2 ∧ x2 < 12) ∧ (((h 147 x1) ≠ (h 147 x2) → (0 ≤ x1 ∧ x1 < 12) ∧ (0 ≤ x2 ∧ x2 < 12) ∧ (((w32 ((h 149 x1) + (h 85 103))) ≤ (h 148 x2) → Φ 1 h) ∧ ((h 148 x2) < (w32 ((h 149 x1) + (h 85 103))) → (0 ≤ x2 ∧ x2 < 12) ∧ (0 ≤ x1 ∧ x1 < 12) ∧ (((h 148 x1) < (w32 ((h 149 x2) + (h 85 103))) → Φ 0 h) ∧ ((w32 ((h 149 x2) + (h 85 103))) ≤ (h 148 x1) → Φ 1 h))))) ∧ ((h 147 x1) = (h 147 x2) → (0 ≤ x1 ∧ x1 < 12) ∧ (0 ≤ x2 ∧ x2 < 12) ∧ (((w32 ((h 149 x1) + 0)) ≤ (h 148 x2) → Φ 1 h) ∧ ((h 148 x2) < (w32 ((h 149 x1) + 0)) → (0 ≤ x2 ∧ x2 < 12) ∧ (0 ≤ x1 ∧ x1 < 12) ∧ (((h 148 x1) < (w32 ((h 149 x2) + 0)) → Φ 0 h) ∧ ((w32 ((h 149 x2) + 0)) ≤ (h 148 x1) → Φ 1 h))))))) : AT G m_X12_areApart 0 [(0, rv 85), (1, iv x1), (2, iv x2)] [] h Φ := by
  refine a_aload_n (pc := 0) (dk dt_X12_areApart 0 rfl) rfl ?_
  refine a_getr (r := 146) (pc := 1) (dk dt_X12_areApart 1 rfl) cls_12 fl_RX12_271 cf_85_98 ?_
  refine a_iload_n (pc := 4) (dk dt_X12_areApart 2 rfl) rfl ?_
  refine a_iald (pc := 5) (dk dt_X12_areApart 3 rfl) ar_147 ⟨H.1, ?_⟩
  replace H := H.2
  refine a_aload_n (pc := 6) (dk dt_X12_areApart 4 rfl) rfl ?_
  refine a_getr (r := 146) (pc := 7) (dk dt_X12_areApart 5 rfl) cls_12 fl_RX12_271 cf_85_98 ?_
  refine a_iload_n (pc := 10) (dk dt_X12_areApart 6 rfl) rfl ?_
  refine a_iald (pc := 11) (dk dt_X12_areApart 7 rfl) ar_147 ⟨H.1, ?_⟩
  replace H := H.2
  refine a_icmp_ne (pc := 12) (dk dt_X12_areApart 8 rfl) (tgt := 19) rfl ⟨fun c => ?_, fun c => ?_⟩
  · replace H := H.1 c
    refine a_aload_n (pc := 19) (dk dt_X12_areApart 11 rfl) rfl ?_
    refine a_geti (pc := 20) (dk dt_X12_areApart 12 rfl) cls_12 fl_RX12_283 cf_85_103 ?_
    refine a_istore_n (pc := 23) (dk dt_X12_areApart 13 rfl) (by decide) rfl rfl ?_
    refine a_aload_n (pc := 24) (dk dt_X12_areApart 14 rfl) rfl ?_
    refine a_getr (r := 148) (pc := 25) (dk dt_X12_areApart 15 rfl) cls_12 fl_RX12_277 cf_85_100 ?_
    refine a_iload_n (pc := 28) (dk dt_X12_areApart 16 rfl) rfl ?_
    refine a_iald (pc := 29) (dk dt_X12_areApart 17 rfl) ar_149 ⟨H.1, ?_⟩
    replace H := H.2
    refine a_iload_n (pc := 30) (dk dt_X12_areApart 18 rfl) rfl ?_
    refine a_iadd (pc := 31) (dk dt_X12_areApart 19 rfl) ?_
    refine a_aload_n (pc := 32) (dk dt_X12_areApart 20 rfl) rfl ?_
    refine a_getr (r := 147) (pc := 33) (dk dt_X12_areApart 21 rfl) cls_12 fl_RX12_274 cf_85_99 ?_
    refine a_iload_n (pc := 36) (dk dt_X12_areApart 22 rfl) rfl ?_
    refine a_iald (pc := 37) (dk dt_X12_areApart 23 rfl) ar_148 ⟨H.1, ?_⟩
    replace H := H.2
    refine a_icmp_le (pc := 38) (dk dt_X12_areApart 24 rfl) (tgt := 58) rfl ⟨fun c => ?_, fun c => ?_⟩
    · replace H := H.1 c
      refine a_iconst (pc := 58) (dk dt_X12_areApart 36 rfl) (ik rfl) ?_
      refine a_goto (pc := 59) (dk dt_X12_areApart 37 rfl) (tgt := 63) rfl ?_
      exact a_zret (pc := 63) (dk dt_X12_areApart 39 rfl) rfl rfl ⟨by decide, H⟩
    · replace H := H.2 c
      refine a_aload_n (pc := 41) (dk dt_X12_areApart 25 rfl) rfl ?_
      refine a_getr (r := 148) (pc := 42) (dk dt_X12_areApart 26 rfl) cls_12 fl_RX12_277 cf_85_100 ?_
      refine a_iload_n (pc := 45) (dk dt_X12_areApart 27 rfl) rfl ?_
      refine a_iald (pc := 46) (dk dt_X12_areApart 28 rfl) ar_149 ⟨H.1, ?_⟩
      replace H := H.2
      refine a_iload_n (pc := 47) (dk dt_X12_areApart 29 rfl) rfl ?_
      refine a_iadd (pc := 48) (dk dt_X12_areApart 30 rfl) ?_
      refine a_aload_n (pc := 49) (dk dt_X12_areApart 31 rfl) rfl ?_
      refine a_getr (r := 147) (pc := 50) (dk dt_X12_areApart 32 rfl) cls_12 fl_RX12_274 cf_85_99 ?_
      refine a_iload_n (pc := 53) (dk dt_X12_areApart 33 rfl) rfl ?_
      refine a_iald (pc := 54) (dk dt_X12_areApart 34 rfl) ar_148 ⟨H.1, ?_⟩
      replace H := H.2
      refine a_icmp_gt (pc := 55) (dk dt_X12_areApart 35 rfl) (tgt := 62) rfl ⟨fun c => ?_, fun c => ?_⟩
      · replace H := H.1 c
        refine a_iconst (pc := 62) (dk dt_X12_areApart 38 rfl) (ik rfl) ?_
        exact a_zret (pc := 63) (dk dt_X12_areApart 39 rfl) rfl rfl ⟨by decide, H⟩
      · replace H := H.2 c
        refine a_iconst (pc := 58) (dk dt_X12_areApart 36 rfl) (ik rfl) ?_
        refine a_goto (pc := 59) (dk dt_X12_areApart 37 rfl) (tgt := 63) rfl ?_
        exact a_zret (pc := 63) (dk dt_X12_areApart 39 rfl) rfl rfl ⟨by decide, H⟩
  · replace H := H.2 c
    refine a_iconst (pc := 15) (dk dt_X12_areApart 9 rfl) (ik rfl) ?_
    refine a_goto (pc := 16) (dk dt_X12_areApart 10 rfl) (tgt := 23) rfl ?_
    refine a_istore_n (pc := 23) (dk dt_X12_areApart 13 rfl) (by decide) rfl rfl ?_
    refine a_aload_n (pc := 24) (dk dt_X12_areApart 14 rfl) rfl ?_
    refine a_getr (r := 148) (pc := 25) (dk dt_X12_areApart 15 rfl) cls_12 fl_RX12_277 cf_85_100 ?_
    refine a_iload_n (pc := 28) (dk dt_X12_areApart 16 rfl) rfl ?_
    refine a_iald (pc := 29) (dk dt_X12_areApart 17 rfl) ar_149 ⟨H.1, ?_⟩
    replace H := H.2
    refine a_iload_n (pc := 30) (dk dt_X12_areApart 18 rfl) rfl ?_
    refine a_iadd (pc := 31) (dk dt_X12_areApart 19 rfl) ?_
    refine a_aload_n (pc := 32) (dk dt_X12_areApart 20 rfl) rfl ?_
    refine a_getr (r := 147) (pc := 33) (dk dt_X12_areApart 21 rfl) cls_12 fl_RX12_274 cf_85_99 ?_
    refine a_iload_n (pc := 36) (dk dt_X12_areApart 22 rfl) rfl ?_
    refine a_iald (pc := 37) (dk dt_X12_areApart 23 rfl) ar_148 ⟨H.1, ?_⟩
    replace H := H.2
    refine a_icmp_le (pc := 38) (dk dt_X12_areApart 24 rfl) (tgt := 58) rfl ⟨fun c => ?_, fun c => ?_⟩
    · replace H := H.1 c
      refine a_iconst (pc := 58) (dk dt_X12_areApart 36 rfl) (ik rfl) ?_
      refine a_goto (pc := 59) (dk dt_X12_areApart 37 rfl) (tgt := 63) rfl ?_
      exact a_zret (pc := 63) (dk dt_X12_areApart 39 rfl) rfl rfl ⟨by decide, H⟩
    · replace H := H.2 c
      refine a_aload_n (pc := 41) (dk dt_X12_areApart 25 rfl) rfl ?_
      refine a_getr (r := 148) (pc := 42) (dk dt_X12_areApart 26 rfl) cls_12 fl_RX12_277 cf_85_100 ?_
      refine a_iload_n (pc := 45) (dk dt_X12_areApart 27 rfl) rfl ?_
      refine a_iald (pc := 46) (dk dt_X12_areApart 28 rfl) ar_149 ⟨H.1, ?_⟩
      replace H := H.2
      refine a_iload_n (pc := 47) (dk dt_X12_areApart 29 rfl) rfl ?_
      refine a_iadd (pc := 48) (dk dt_X12_areApart 30 rfl) ?_
      refine a_aload_n (pc := 49) (dk dt_X12_areApart 31 rfl) rfl ?_
      refine a_getr (r := 147) (pc := 50) (dk dt_X12_areApart 32 rfl) cls_12 fl_RX12_274 cf_85_99 ?_
      refine a_iload_n (pc := 53) (dk dt_X12_areApart 33 rfl) rfl ?_
      refine a_iald (pc := 54) (dk dt_X12_areApart 34 rfl) ar_148 ⟨H.1, ?_⟩
      replace H := H.2
      refine a_icmp_gt (pc := 55) (dk dt_X12_areApart 35 rfl) (tgt := 62) rfl ⟨fun c => ?_, fun c => ?_⟩
      · replace H := H.1 c
        refine a_iconst (pc := 62) (dk dt_X12_areApart 38 rfl) (ik rfl) ?_
        exact a_zret (pc := 63) (dk dt_X12_areApart 39 rfl) rfl rfl ⟨by decide, H⟩
      · replace H := H.2 c
        refine a_iconst (pc := 58) (dk dt_X12_areApart 36 rfl) (ik rfl) ?_
        refine a_goto (pc := 59) (dk dt_X12_areApart 37 rfl) (tgt := 63) rfl ?_
        exact a_zret (pc := 63) (dk dt_X12_areApart 39 rfl) rfl rfl ⟨by decide, H⟩
set_option maxHeartbeats 40000000 in
theorem U_X12_beside_0 {G : GG} {Φ : Int → Hp → Prop} {h : Hp} {x0 : Int} {x1 : Int} (H : (((x1 = 0) → (((w32 (x0.tdiv 24)) ≠ 0 → Φ (w32 (x0 - 24)) h) ∧ ((w32 (x0.tdiv 24)) = 0 → Φ (-1) h))) ∧ ((x1 = 1) → Φ (w32 ((w32 (24 * (w32 (x0.tdiv 24)))) + ((w32 ((w32 ((x0.tmod 24) + 24)) - 1)).tmod 24))) h) ∧ ((x1 = 2) → Φ (w32 ((w32 (24 * (w32 (x0.tdiv 24)))) + ((w32 ((x0.tmod 24) + 1)).tmod 24))) h) ∧ (((x1 < 0 ∨ 2 < x1)) → (((w32 (x0.tdiv 24)) ≠ 11 → Φ (w32 (x0 + 24)) h) ∧ ((w32 (x0.tdiv 24)) = 11 → Φ (-1) h))))) : AT G m_X12_beside 0 [(0, iv x0), (1, iv x1)] [] h Φ := by
  refine a_iload_n (pc := 0) (dk dt_X12_beside 0 rfl) rfl ?_
  refine a_bipush (pc := 1) (dk dt_X12_beside 1 rfl) (ik rfl) (bpk rfl) ?_
  refine a_irem (pc := 3) (dk dt_X12_beside 2 rfl) ⟨by decide, ?_⟩
  refine a_istore_n (pc := 4) (dk dt_X12_beside 3 rfl) (by decide) rfl rfl ?_
  refine a_iload_n (pc := 5) (dk dt_X12_beside 4 rfl) rfl ?_
  refine a_bipush (pc := 6) (dk dt_X12_beside 5 rfl) (ik rfl) (bpk rfl) ?_
  refine a_idiv (pc := 8) (dk dt_X12_beside 6 rfl) ⟨by decide, ?_⟩
  refine a_istore_n (pc := 9) (dk dt_X12_beside 7 rfl) (by decide) rfl rfl ?_
  refine a_iload_n (pc := 10) (dk dt_X12_beside 8 rfl) rfl ?_
  have B0 : (x1 = 0) → AT G m_X12_beside 36 [(0, iv x0), (1, iv x1), (2, iv (x0.tmod 24)), (3, iv (w32 (x0.tdiv 24)))] [] h Φ := by
    intro c
    replace H := H.1 c
    refine a_iload_n (pc := 36) (dk dt_X12_beside 10 rfl) rfl ?_
    refine a_if_ne (pc := 37) (dk dt_X12_beside 11 rfl) (tgt := 44) rfl ⟨fun c => ?_, fun c => ?_⟩
    · replace H := H.1 c
      refine a_iload_n (pc := 44) (dk dt_X12_beside 14 rfl) rfl ?_
      refine a_bipush (pc := 45) (dk dt_X12_beside 15 rfl) (ik rfl) (bpk rfl) ?_
      refine a_isub (pc := 47) (dk dt_X12_beside 16 rfl) ?_
      exact a_iret (pc := 48) (dk dt_X12_beside 17 rfl) rfl rfl H
    · replace H := H.2 c
      refine a_iconst (pc := 40) (dk dt_X12_beside 12 rfl) (ik rfl) ?_
      refine a_goto (pc := 41) (dk dt_X12_beside 13 rfl) (tgt := 48) rfl ?_
      exact a_iret (pc := 48) (dk dt_X12_beside 17 rfl) rfl rfl H
  have B1 : (x1 = 1) → AT G m_X12_beside 49 [(0, iv x0), (1, iv x1), (2, iv (x0.tmod 24)), (3, iv (w32 (x0.tdiv 24)))] [] h Φ := by
    intro c
    replace H := H.2.1 c
    refine a_bipush (pc := 49) (dk dt_X12_beside 18 rfl) (ik rfl) (bpk rfl) ?_
    refine a_iload_n (pc := 51) (dk dt_X12_beside 19 rfl) rfl ?_
    refine a_imul (pc := 52) (dk dt_X12_beside 20 rfl) ?_
    refine a_iload_n (pc := 53) (dk dt_X12_beside 21 rfl) rfl ?_
    refine a_bipush (pc := 54) (dk dt_X12_beside 22 rfl) (ik rfl) (bpk rfl) ?_
    refine a_iadd (pc := 56) (dk dt_X12_beside 23 rfl) ?_
    refine a_iconst (pc := 57) (dk dt_X12_beside 24 rfl) (ik rfl) ?_
    refine a_isub (pc := 58) (dk dt_X12_beside 25 rfl) ?_
    refine a_bipush (pc := 59) (dk dt_X12_beside 26 rfl) (ik rfl) (bpk rfl) ?_
    refine a_irem (pc := 61) (dk dt_X12_beside 27 rfl) ⟨by decide, ?_⟩
    refine a_iadd (pc := 62) (dk dt_X12_beside 28 rfl) ?_
    exact a_iret (pc := 63) (dk dt_X12_beside 29 rfl) rfl rfl H
  have B2 : (x1 = 2) → AT G m_X12_beside 64 [(0, iv x0), (1, iv x1), (2, iv (x0.tmod 24)), (3, iv (w32 (x0.tdiv 24)))] [] h Φ := by
    intro c
    replace H := H.2.2.1 c
    refine a_bipush (pc := 64) (dk dt_X12_beside 30 rfl) (ik rfl) (bpk rfl) ?_
    refine a_iload_n (pc := 66) (dk dt_X12_beside 31 rfl) rfl ?_
    refine a_imul (pc := 67) (dk dt_X12_beside 32 rfl) ?_
    refine a_iload_n (pc := 68) (dk dt_X12_beside 33 rfl) rfl ?_
    refine a_iconst (pc := 69) (dk dt_X12_beside 34 rfl) (ik rfl) ?_
    refine a_iadd (pc := 70) (dk dt_X12_beside 35 rfl) ?_
    refine a_bipush (pc := 71) (dk dt_X12_beside 36 rfl) (ik rfl) (bpk rfl) ?_
    refine a_irem (pc := 73) (dk dt_X12_beside 37 rfl) ⟨by decide, ?_⟩
    refine a_iadd (pc := 74) (dk dt_X12_beside 38 rfl) ?_
    exact a_iret (pc := 75) (dk dt_X12_beside 39 rfl) rfl rfl H
  have BD : ((x1 < 0 ∨ 2 < x1)) → AT G m_X12_beside 76 [(0, iv x0), (1, iv x1), (2, iv (x0.tmod 24)), (3, iv (w32 (x0.tdiv 24)))] [] h Φ := by
    intro c
    replace H := H.2.2.2 c
    refine a_iload_n (pc := 76) (dk dt_X12_beside 40 rfl) rfl ?_
    refine a_bipush (pc := 77) (dk dt_X12_beside 41 rfl) (ik rfl) (bpk rfl) ?_
    refine a_icmp_ne (pc := 79) (dk dt_X12_beside 42 rfl) (tgt := 86) rfl ⟨fun c => ?_, fun c => ?_⟩
    · replace H := H.1 c
      refine a_iload_n (pc := 86) (dk dt_X12_beside 45 rfl) rfl ?_
      refine a_bipush (pc := 87) (dk dt_X12_beside 46 rfl) (ik rfl) (bpk rfl) ?_
      refine a_iadd (pc := 89) (dk dt_X12_beside 47 rfl) ?_
      exact a_iret (pc := 90) (dk dt_X12_beside 48 rfl) rfl rfl H
    · replace H := H.2 c
      refine a_iconst (pc := 82) (dk dt_X12_beside 43 rfl) (ik rfl) ?_
      refine a_goto (pc := 83) (dk dt_X12_beside 44 rfl) (tgt := 90) rfl ?_
      exact a_iret (pc := 90) (dk dt_X12_beside 48 rfl) rfl rfl H
  exact a_tsw [36, 49, 64] (pc := 11) (dk dt_X12_beside 9 rfl) (by decide) (dt := 76) rfl (by decide) ⟨⟨fun c => B0 (c), fun c => B1 (c), fun c => B2 (c), trivial⟩, fun c => BD (c)⟩
set_option maxHeartbeats 40000000 in
theorem U_X12_here_85_0 {G : GG} {Φ : Int → Hp → Prop} {h : Hp} (H : (((h 85 4) ≤ (h 85 5) → Φ (-1) h) ∧ ((h 85 5) < (h 85 4) → (0 ≤ (h 85 5) ∧ (h 85 5) < 1600) ∧ Φ (h 87 (h 85 5)) h))) : AT G m_X12_here 0 [(0, rv 85)] [] h Φ := by
  refine a_aload_n (pc := 0) (dk dt_X12_here 0 rfl) rfl ?_
  refine a_geti (pc := 1) (dk dt_X12_here 1 rfl) cls_12 fl_RX12_309 cf_85_5 ?_
  refine a_aload_n (pc := 4) (dk dt_X12_here 2 rfl) rfl ?_
  refine a_geti (pc := 5) (dk dt_X12_here 3 rfl) cls_12 fl_RX12_306 cf_85_4 ?_
  refine a_icmp_ge (pc := 8) (dk dt_X12_here 4 rfl) (tgt := 23) rfl ⟨fun c => ?_, fun c => ?_⟩
  · replace H := H.1 c
    refine a_iconst (pc := 23) (dk dt_X12_here 11 rfl) (ik rfl) ?_
    exact a_iret (pc := 24) (dk dt_X12_here 12 rfl) rfl rfl H
  · replace H := H.2 c
    refine a_aload_n (pc := 11) (dk dt_X12_here 5 rfl) rfl ?_
    refine a_getr (r := 86) (pc := 12) (dk dt_X12_here 6 rfl) cls_12 fl_RX12_13 cf_85_1 ?_
    refine a_aload_n (pc := 15) (dk dt_X12_here 7 rfl) rfl ?_
    refine a_geti (pc := 16) (dk dt_X12_here 8 rfl) cls_12 fl_RX12_309 cf_85_5 ?_
    refine a_iald (pc := 19) (dk dt_X12_here 9 rfl) ar_87 ⟨H.1, ?_⟩
    replace H := H.2
    refine a_goto (pc := 20) (dk dt_X12_here 10 rfl) (tgt := 24) rfl ?_
    exact a_iret (pc := 24) (dk dt_X12_here 12 rfl) rfl rfl H
set_option maxHeartbeats 40000000 in
theorem U_X12_round_0 {G : GG} {Φ : Int → Hp → Prop} {h : Hp} {x0 : Int} (H : Φ (w32 ((w64 ((x0.tmod 3600) + 3600)).tmod 3600)) h) : AT G m_X12_round 0 [(0, jv x0)] [] h Φ := by
  refine a_lload_n (pc := 0) (dk dt_X12_round 0 rfl) rfl ?_
  refine a_ldc2 (n := 3600) (pc := 1) (dk dt_X12_round 1 rfl) (jk rfl) co_RX12_396 ?_
  refine a_lrem (pc := 4) (dk dt_X12_round 2 rfl) ⟨by decide, ?_⟩
  refine a_ldc2 (n := 3600) (pc := 5) (dk dt_X12_round 3 rfl) (jk rfl) co_RX12_396 ?_
  refine a_ladd (pc := 8) (dk dt_X12_round 4 rfl) ?_
  refine a_ldc2 (n := 3600) (pc := 9) (dk dt_X12_round 5 rfl) (jk rfl) co_RX12_396 ?_
  refine a_lrem (pc := 12) (dk dt_X12_round 6 rfl) ⟨by decide, ?_⟩
  refine a_l2i (pc := 13) (dk dt_X12_round 7 rfl) ?_
  exact a_iret (pc := 14) (dk dt_X12_round 8 rfl) rfl rfl H
set_option maxHeartbeats 40000000 in
theorem U_X12_wordOf_85_102_0 {G : GG} {Φ : Int → Hp → Prop} {h : Hp} (H : (((h 85 6) < 0 → Call G m_X12_wordEnd [rv 85] h (fun r1 h2 => AT G m_X12_wordOf 16 [(0, rv 85), (1, rv 102), (2, iv r1), (3, iv 0)] [] h2 Φ)) ∧ (0 ≤ (h 85 6) → Φ (-1) h))) : AT G m_X12_wordOf 0 [(0, rv 85), (1, rv 102)] [] h Φ := by
  refine a_aload_n (pc := 0) (dk dt_X12_wordOf 0 rfl) rfl ?_
  refine a_callVi (as := []) (st := []) (pc := 1) (dk dt_X12_wordOf 1 rfl) cl_RX12_315 ⟨Nat.le_of_ble_eq_true rfl, Nat.le_of_ble_eq_true rfl⟩ ⟨Nat.le_of_ble_eq_true rfl, Nat.le_of_ble_eq_true rfl⟩ cls_12 rfl cc_85 rfl rfl rfl (Nat.le_of_ble_eq_true rfl) (Call.of rfl (Nat.le_of_ble_eq_true rfl) rfl ?_)
  refine a_aload_n (pc := 0) (dk dt_X12_bad 0 rfl) rfl ?_
  refine a_geti (pc := 1) (dk dt_X12_bad 1 rfl) cls_12 fl_RX12_312 cf_85_6 ?_
  refine a_if_lt (pc := 4) (dk dt_X12_bad 2 rfl) (tgt := 11) rfl ⟨fun c => ?_, fun c => ?_⟩
  · replace H := H.1 c
    refine a_iconst (pc := 11) (dk dt_X12_bad 5 rfl) (ik rfl) ?_
    refine a_zret (pc := 12) (dk dt_X12_bad 6 rfl) rfl rfl ⟨by decide, ?_⟩
    show ATW _ _ _ _ _ _ _ _ _ _
    refine a_if_eq (pc := 4) (dk dt_X12_wordOf 2 rfl) (tgt := 9) rfl ⟨fun _ => ?_, fun c => absurd c (by decide)⟩
    refine a_aload_n (pc := 9) (dk dt_X12_wordOf 5 rfl) rfl ?_
    refine a_callVi (as := []) (st := []) (pc := 10) (dk dt_X12_wordOf 6 rfl) cl_RX12_340 ⟨Nat.le_of_ble_eq_true rfl, Nat.le_of_ble_eq_true rfl⟩ ⟨Nat.le_of_ble_eq_true rfl, Nat.le_of_ble_eq_true rfl⟩ cls_12 rfl cc_85 rfl rfl rfl (Nat.le_of_ble_eq_true rfl) (Call.mono H fun r1 h2 H => ?_)
    refine a_istore_n (pc := 13) (dk dt_X12_wordOf 7 rfl) (by decide) rfl rfl ?_
    refine a_iconst (pc := 14) (dk dt_X12_wordOf 8 rfl) (ik rfl) ?_
    refine a_istore_n (pc := 15) (dk dt_X12_wordOf 9 rfl) (by decide) rfl rfl ?_
    exact a_pick [0, 1, 2, 3] rfl H
  · replace H := H.2 c
    refine a_iconst (pc := 7) (dk dt_X12_bad 3 rfl) (ik rfl) ?_
    refine a_goto (pc := 8) (dk dt_X12_bad 4 rfl) (tgt := 12) rfl ?_
    refine a_zret (pc := 12) (dk dt_X12_bad 6 rfl) rfl rfl ⟨by decide, ?_⟩
    show ATW _ _ _ _ _ _ _ _ _ _
    refine a_if_eq (pc := 4) (dk dt_X12_wordOf 2 rfl) (tgt := 9) rfl ⟨fun c => absurd c (by decide), fun _ => ?_⟩
    refine a_iconst (pc := 7) (dk dt_X12_wordOf 3 rfl) (ik rfl) ?_
    exact a_iret (pc := 8) (dk dt_X12_wordOf 4 rfl) rfl rfl H
set_option maxHeartbeats 40000000 in
theorem U_X12_wordOf_85_102_16 {G : GG} {Φ : Int → Hp → Prop} {h : Hp} {x2 : Int} {x3 : Int} (H : ((1 ≤ x3 → ((0 ≤ (h 85 6) → Φ (-1) h) ∧ ((h 85 6) < 0 → Φ (-1) (up h 85 6 (h 85 5))))) ∧ (x3 < 1 → (0 ≤ x3 ∧ x3 < 1) ∧ (1000 ≤ (rf 102 (x3).toNat) ∧ (rf 102 (x3).toNat) < 1063) ∧ Call G m_J0_length_8abf5 [rv (rf 102 (x3).toNat)] h (fun r1 h2 => (((w32 (x2 - (h 85 5))) ≠ r1 → AT G m_X12_wordOf 47 [(0, rv 85), (1, rv 102), (2, iv x2), (3, iv x3), (4, iv 0), (5, iv 0)] [] h2 Φ) ∧ ((w32 (x2 - (h 85 5))) = r1 → AT G m_X12_wordOf 47 [(0, rv 85), (1, rv 102), (2, iv x2), (3, iv x3), (4, iv 1), (5, iv 0)] [] h2 Φ)))))) : AT G m_X12_wordOf 16 [(0, rv 85), (1, rv 102), (2, iv x2), (3, iv x3)] [] h Φ := by
  refine a_iload_n (pc := 16) (dk dt_X12_wordOf 10 rfl) rfl ?_
  refine a_aload_n (pc := 17) (dk dt_X12_wordOf 11 rfl) rfl ?_
  refine a_alen (pc := 18) (dk dt_X12_wordOf 12 rfl) ar_102 (by decide) ?_
  refine a_icmp_ge (pc := 19) (dk dt_X12_wordOf 13 rfl) (tgt := 117) rfl ⟨fun c => ?_, fun c => ?_⟩
  · replace H := H.1 c
    refine a_aload_n (pc := 117) (dk dt_X12_wordOf 65 rfl) rfl ?_
    refine a_aload_n (pc := 118) (dk dt_X12_wordOf 66 rfl) rfl ?_
    refine a_geti (pc := 119) (dk dt_X12_wordOf 67 rfl) cls_12 fl_RX12_309 cf_85_5 ?_
    refine a_callVv (as := [iv (h 85 5)]) (st := []) (pc := 122) (dk dt_X12_wordOf 68 rfl) cl_RX12_323 ⟨Nat.le_of_ble_eq_true rfl, Nat.le_of_ble_eq_true rfl⟩ ⟨Nat.le_of_ble_eq_true rfl, Nat.le_of_ble_eq_true rfl⟩ cls_12 rfl cc_85 rfl rfl rfl (Nat.le_of_ble_eq_true rfl) (Call.of rfl (Nat.le_of_ble_eq_true rfl) rfl ?_)
    refine a_aload_n (pc := 0) (dk dt_X12_fail 0 rfl) rfl ?_
    refine a_geti (pc := 1) (dk dt_X12_fail 1 rfl) cls_12 fl_RX12_312 cf_85_6 ?_
    refine a_if_ge (pc := 4) (dk dt_X12_fail 2 rfl) (tgt := 12) rfl ⟨fun c => ?_, fun c => ?_⟩
    · replace H := H.1 c
      refine a_vret (pc := 12) (dk dt_X12_fail 6 rfl) rfl rfl ?_
      show ATW _ _ _ _ _ _ _ _ _ _
      refine a_iconst (pc := 125) (dk dt_X12_wordOf 69 rfl) (ik rfl) ?_
      exact a_iret (pc := 126) (dk dt_X12_wordOf 70 rfl) rfl rfl H
    · replace H := H.2 c
      refine a_aload_n (pc := 7) (dk dt_X12_fail 3 rfl) rfl ?_
      refine a_iload_n (pc := 8) (dk dt_X12_fail 4 rfl) rfl ?_
      refine a_puti (pc := 9) (dk dt_X12_fail 5 rfl) cls_12 fl_RX12_312 cf_85_6 rfl rfl ?_
      refine a_vret (pc := 12) (dk dt_X12_fail 6 rfl) rfl rfl ?_
      show ATW _ _ _ _ _ _ _ _ _ _
      refine a_iconst (pc := 125) (dk dt_X12_wordOf 69 rfl) (ik rfl) ?_
      exact a_iret (pc := 126) (dk dt_X12_wordOf 70 rfl) rfl rfl H
  · replace H := H.2 c
    refine a_iload_n (pc := 22) (dk dt_X12_wordOf 14 rfl) rfl ?_
    refine a_aload_n (pc := 23) (dk dt_X12_wordOf 15 rfl) rfl ?_
    refine a_geti (pc := 24) (dk dt_X12_wordOf 16 rfl) cls_12 fl_RX12_309 cf_85_5 ?_
    refine a_isub (pc := 27) (dk dt_X12_wordOf 17 rfl) ?_
    refine a_aload_n (pc := 28) (dk dt_X12_wordOf 18 rfl) rfl ?_
    refine a_iload_n (pc := 29) (dk dt_X12_wordOf 19 rfl) rfl ?_
    refine a_aald (pc := 30) (dk dt_X12_wordOf 20 rfl) ar_102 (by decide) ⟨H.1, ?_⟩
    replace H := H.2
    have hS := H.1
    replace H := H.2
    refine a_callTi (as := []) (st := [iv (w32 (x2 - (h 85 5)))]) (pc := 31) (dk dt_X12_wordOf 21 rfl) cl_RX12_343 ⟨Nat.le_of_ble_eq_true rfl, Nat.le_of_ble_eq_true rfl⟩ ⟨Nat.le_of_ble_eq_true rfl, Nat.le_of_ble_eq_true rfl⟩ hS rfl rfl rfl rfl (Nat.le_of_ble_eq_true rfl) (Call.mono H fun r1 h2 H => ?_)
    refine a_icmp_ne (pc := 34) (dk dt_X12_wordOf 22 rfl) (tgt := 41) rfl ⟨fun c => ?_, fun c => ?_⟩
    · replace H := H.1 c
      refine a_iconst (pc := 41) (dk dt_X12_wordOf 25 rfl) (ik rfl) ?_
      refine a_istore (pc := 42) (dk dt_X12_wordOf 26 rfl) (by decide) rfl rfl ?_
      refine a_iconst (pc := 44) (dk dt_X12_wordOf 27 rfl) (ik rfl) ?_
      refine a_istore (pc := 45) (dk dt_X12_wordOf 28 rfl) (by decide) rfl rfl ?_
      exact a_pick [0, 1, 2, 3, 4, 5] rfl H
    · replace H := H.2 c
      refine a_iconst (pc := 37) (dk dt_X12_wordOf 23 rfl) (ik rfl) ?_
      refine a_goto (pc := 38) (dk dt_X12_wordOf 24 rfl) (tgt := 42) rfl ?_
      refine a_istore (pc := 42) (dk dt_X12_wordOf 26 rfl) (by decide) rfl rfl ?_
      refine a_iconst (pc := 44) (dk dt_X12_wordOf 27 rfl) (ik rfl) ?_
      refine a_istore (pc := 45) (dk dt_X12_wordOf 28 rfl) (by decide) rfl rfl ?_
      exact a_pick [0, 1, 2, 3, 4, 5] rfl H
set_option maxHeartbeats 40000000 in
theorem U_X12_wordOf_85_102_47 {G : GG} {Φ : Int → Hp → Prop} {h : Hp} {x2 : Int} {x3 : Int} {x4 : Int} {x5 : Int} (H : (0 ≤ x3 ∧ x3 < 1) ∧ (1000 ≤ (rf 102 (x3).toNat) ∧ (rf 102 (x3).toNat) < 1063) ∧ Call G m_J0_length_8abf5 [rv (rf 102 (x3).toNat)] h (fun r1 h2 => ((r1 ≤ x5 → ((x4 = 0 → AT G m_X12_wordOf 16 [(0, rv 85), (1, rv 102), (2, iv x2), (3, iv (w32 (x3 + 1)))] [] h2 Φ) ∧ (x4 ≠ 0 → Φ x3 (up h2 85 5 x2)))) ∧ (x5 < r1 → ((x4 = 0 → ((x4 = 0 → AT G m_X12_wordOf 16 [(0, rv 85), (1, rv 102), (2, iv x2), (3, iv (w32 (x3 + 1)))] [] h2 Φ) ∧ (x4 ≠ 0 → Φ x3 (up h2 85 5 x2)))) ∧ (x4 ≠ 0 → (0 ≤ (w32 ((h2 85 5) + x5)) ∧ (w32 ((h2 85 5) + x5)) < 1600) ∧ (0 ≤ x3 ∧ x3 < 1) ∧ (1000 ≤ (rf 102 (x3).toNat) ∧ (rf 102 (x3).toNat) < 1063) ∧ Call G m_J0_charAt_5068e [rv (rf 102 (x3).toNat), iv x5] h2 (fun r3 h4 => (((h2 87 (w32 ((h2 85 5) + x5))) ≠ r3 → AT G m_X12_wordOf 47 [(0, rv 85), (1, rv 102), (2, iv x2), (3, iv x3), (4, iv 0), (5, iv (w32 (x5 + 1)))] [] h4 Φ) ∧ ((h2 87 (w32 ((h2 85 5) + x5))) = r3 → AT G m_X12_wordOf 47 [(0, rv 85), (1, rv 102), (2, iv x2), (3, iv x3), (4, iv 1), (5, iv (w32 (x5 + 1)))] [] h4 Φ))))))))) : AT G m_X12_wordOf 47 [(0, rv 85), (1, rv 102), (2, iv x2), (3, iv x3), (4, iv x4), (5, iv x5)] [] h Φ := by
  refine a_iload (pc := 47) (dk dt_X12_wordOf 29 rfl) rfl ?_
  refine a_aload_n (pc := 49) (dk dt_X12_wordOf 30 rfl) rfl ?_
  refine a_iload_n (pc := 50) (dk dt_X12_wordOf 31 rfl) rfl ?_
  refine a_aald (pc := 51) (dk dt_X12_wordOf 32 rfl) ar_102 (by decide) ⟨H.1, ?_⟩
  replace H := H.2
  have hS := H.1
  replace H := H.2
  refine a_callTi (as := []) (st := [iv x5]) (pc := 52) (dk dt_X12_wordOf 33 rfl) cl_RX12_343 ⟨Nat.le_of_ble_eq_true rfl, Nat.le_of_ble_eq_true rfl⟩ ⟨Nat.le_of_ble_eq_true rfl, Nat.le_of_ble_eq_true rfl⟩ hS rfl rfl rfl rfl (Nat.le_of_ble_eq_true rfl) (Call.mono H fun r1 h2 H => ?_)
  refine a_icmp_ge (pc := 55) (dk dt_X12_wordOf 34 rfl) (tgt := 99) rfl ⟨fun c => ?_, fun c => ?_⟩
  · replace H := H.1 c
    refine a_iload (pc := 99) (dk dt_X12_wordOf 56 rfl) rfl ?_
    refine a_if_eq (pc := 101) (dk dt_X12_wordOf 57 rfl) (tgt := 111) rfl ⟨fun c => ?_, fun c => ?_⟩
    · replace H := H.1 c
      refine a_iinc (pc := 111) (dk dt_X12_wordOf 63 rfl) (by decide) rfl rfl rfl ?_
      refine a_goto (pc := 114) (dk dt_X12_wordOf 64 rfl) (tgt := 16) rfl ?_
      exact a_pick [0, 1, 2, 3] rfl H
    · replace H := H.2 c
      refine a_aload_n (pc := 104) (dk dt_X12_wordOf 58 rfl) rfl ?_
      refine a_iload_n (pc := 105) (dk dt_X12_wordOf 59 rfl) rfl ?_
      refine a_puti (pc := 106) (dk dt_X12_wordOf 60 rfl) cls_12 fl_RX12_309 cf_85_5 rfl rfl ?_
      refine a_iload_n (pc := 109) (dk dt_X12_wordOf 61 rfl) rfl ?_
      exact a_iret (pc := 110) (dk dt_X12_wordOf 62 rfl) rfl rfl H
  · replace H := H.2 c
    refine a_iload (pc := 58) (dk dt_X12_wordOf 35 rfl) rfl ?_
    refine a_if_eq (pc := 60) (dk dt_X12_wordOf 36 rfl) (tgt := 99) rfl ⟨fun c => ?_, fun c => ?_⟩
    · replace H := H.1 c
      refine a_iload (pc := 99) (dk dt_X12_wordOf 56 rfl) rfl ?_
      refine a_if_eq (pc := 101) (dk dt_X12_wordOf 57 rfl) (tgt := 111) rfl ⟨fun c => ?_, fun c => ?_⟩
      · replace H := H.1 c
        refine a_iinc (pc := 111) (dk dt_X12_wordOf 63 rfl) (by decide) rfl rfl rfl ?_
        refine a_goto (pc := 114) (dk dt_X12_wordOf 64 rfl) (tgt := 16) rfl ?_
        exact a_pick [0, 1, 2, 3] rfl H
      · replace H := H.2 c
        refine a_aload_n (pc := 104) (dk dt_X12_wordOf 58 rfl) rfl ?_
        refine a_iload_n (pc := 105) (dk dt_X12_wordOf 59 rfl) rfl ?_
        refine a_puti (pc := 106) (dk dt_X12_wordOf 60 rfl) cls_12 fl_RX12_309 cf_85_5 rfl rfl ?_
        refine a_iload_n (pc := 109) (dk dt_X12_wordOf 61 rfl) rfl ?_
        exact a_iret (pc := 110) (dk dt_X12_wordOf 62 rfl) rfl rfl H
    · replace H := H.2 c
      refine a_aload_n (pc := 63) (dk dt_X12_wordOf 37 rfl) rfl ?_
      refine a_getr (r := 86) (pc := 64) (dk dt_X12_wordOf 38 rfl) cls_12 fl_RX12_13 cf_85_1 ?_
      refine a_aload_n (pc := 67) (dk dt_X12_wordOf 39 rfl) rfl ?_
      refine a_geti (pc := 68) (dk dt_X12_wordOf 40 rfl) cls_12 fl_RX12_309 cf_85_5 ?_
      refine a_iload (pc := 71) (dk dt_X12_wordOf 41 rfl) rfl ?_
      refine a_iadd (pc := 73) (dk dt_X12_wordOf 42 rfl) ?_
      refine a_iald (pc := 74) (dk dt_X12_wordOf 43 rfl) ar_87 ⟨H.1, ?_⟩
      replace H := H.2
      refine a_aload_n (pc := 75) (dk dt_X12_wordOf 44 rfl) rfl ?_
      refine a_iload_n (pc := 76) (dk dt_X12_wordOf 45 rfl) rfl ?_
      refine a_aald (pc := 77) (dk dt_X12_wordOf 46 rfl) ar_102 (by decide) ⟨H.1, ?_⟩
      replace H := H.2
      refine a_iload (pc := 78) (dk dt_X12_wordOf 47 rfl) rfl ?_
      have hS := H.1
      replace H := H.2
      refine a_callTi (as := [iv x5]) (st := [iv (h2 87 (w32 ((h2 85 5) + x5)))]) (pc := 80) (dk dt_X12_wordOf 48 rfl) cl_RX12_346 ⟨Nat.le_of_ble_eq_true rfl, Nat.le_of_ble_eq_true rfl⟩ ⟨Nat.le_of_ble_eq_true rfl, Nat.le_of_ble_eq_true rfl⟩ hS rfl rfl rfl rfl (Nat.le_of_ble_eq_true rfl) (Call.mono H fun r3 h4 H => ?_)
      refine a_icmp_ne (pc := 83) (dk dt_X12_wordOf 49 rfl) (tgt := 90) rfl ⟨fun c => ?_, fun c => ?_⟩
      · replace H := H.1 c
        refine a_iconst (pc := 90) (dk dt_X12_wordOf 52 rfl) (ik rfl) ?_
        refine a_istore (pc := 91) (dk dt_X12_wordOf 53 rfl) (by decide) rfl rfl ?_
        refine a_iinc (pc := 93) (dk dt_X12_wordOf 54 rfl) (by decide) rfl rfl rfl ?_
        refine a_goto (pc := 96) (dk dt_X12_wordOf 55 rfl) (tgt := 47) rfl ?_
        exact a_pick [0, 1, 2, 3, 4, 5] rfl H
      · replace H := H.2 c
        refine a_iconst (pc := 86) (dk dt_X12_wordOf 50 rfl) (ik rfl) ?_
        refine a_goto (pc := 87) (dk dt_X12_wordOf 51 rfl) (tgt := 91) rfl ?_
        refine a_istore (pc := 91) (dk dt_X12_wordOf 53 rfl) (by decide) rfl rfl ?_
        refine a_iinc (pc := 93) (dk dt_X12_wordOf 54 rfl) (by decide) rfl rfl rfl ?_
        refine a_goto (pc := 96) (dk dt_X12_wordOf 55 rfl) (tgt := 47) rfl ?_
        exact a_pick [0, 1, 2, 3, 4, 5] rfl H
set_option maxHeartbeats 40000000 in
theorem U_X12_wordOf_85_99_0 {G : GG} {Φ : Int → Hp → Prop} {h : Hp} (H : (((h 85 6) < 0 → Call G m_X12_wordEnd [rv 85] h (fun r1 h2 => AT G m_X12_wordOf 16 [(0, rv 85), (1, rv 99), (2, iv r1), (3, iv 0)] [] h2 Φ)) ∧ (0 ≤ (h 85 6) → Φ (-1) h))) : AT G m_X12_wordOf 0 [(0, rv 85), (1, rv 99)] [] h Φ := by
  refine a_aload_n (pc := 0) (dk dt_X12_wordOf 0 rfl) rfl ?_
  refine a_callVi (as := []) (st := []) (pc := 1) (dk dt_X12_wordOf 1 rfl) cl_RX12_315 ⟨Nat.le_of_ble_eq_true rfl, Nat.le_of_ble_eq_true rfl⟩ ⟨Nat.le_of_ble_eq_true rfl, Nat.le_of_ble_eq_true rfl⟩ cls_12 rfl cc_85 rfl rfl rfl (Nat.le_of_ble_eq_true rfl) (Call.of rfl (Nat.le_of_ble_eq_true rfl) rfl ?_)
  refine a_aload_n (pc := 0) (dk dt_X12_bad 0 rfl) rfl ?_
  refine a_geti (pc := 1) (dk dt_X12_bad 1 rfl) cls_12 fl_RX12_312 cf_85_6 ?_
  refine a_if_lt (pc := 4) (dk dt_X12_bad 2 rfl) (tgt := 11) rfl ⟨fun c => ?_, fun c => ?_⟩
  · replace H := H.1 c
    refine a_iconst (pc := 11) (dk dt_X12_bad 5 rfl) (ik rfl) ?_
    refine a_zret (pc := 12) (dk dt_X12_bad 6 rfl) rfl rfl ⟨by decide, ?_⟩
    show ATW _ _ _ _ _ _ _ _ _ _
    refine a_if_eq (pc := 4) (dk dt_X12_wordOf 2 rfl) (tgt := 9) rfl ⟨fun _ => ?_, fun c => absurd c (by decide)⟩
    refine a_aload_n (pc := 9) (dk dt_X12_wordOf 5 rfl) rfl ?_
    refine a_callVi (as := []) (st := []) (pc := 10) (dk dt_X12_wordOf 6 rfl) cl_RX12_340 ⟨Nat.le_of_ble_eq_true rfl, Nat.le_of_ble_eq_true rfl⟩ ⟨Nat.le_of_ble_eq_true rfl, Nat.le_of_ble_eq_true rfl⟩ cls_12 rfl cc_85 rfl rfl rfl (Nat.le_of_ble_eq_true rfl) (Call.mono H fun r1 h2 H => ?_)
    refine a_istore_n (pc := 13) (dk dt_X12_wordOf 7 rfl) (by decide) rfl rfl ?_
    refine a_iconst (pc := 14) (dk dt_X12_wordOf 8 rfl) (ik rfl) ?_
    refine a_istore_n (pc := 15) (dk dt_X12_wordOf 9 rfl) (by decide) rfl rfl ?_
    exact a_pick [0, 1, 2, 3] rfl H
  · replace H := H.2 c
    refine a_iconst (pc := 7) (dk dt_X12_bad 3 rfl) (ik rfl) ?_
    refine a_goto (pc := 8) (dk dt_X12_bad 4 rfl) (tgt := 12) rfl ?_
    refine a_zret (pc := 12) (dk dt_X12_bad 6 rfl) rfl rfl ⟨by decide, ?_⟩
    show ATW _ _ _ _ _ _ _ _ _ _
    refine a_if_eq (pc := 4) (dk dt_X12_wordOf 2 rfl) (tgt := 9) rfl ⟨fun c => absurd c (by decide), fun _ => ?_⟩
    refine a_iconst (pc := 7) (dk dt_X12_wordOf 3 rfl) (ik rfl) ?_
    exact a_iret (pc := 8) (dk dt_X12_wordOf 4 rfl) rfl rfl H
set_option maxHeartbeats 40000000 in
theorem U_X12_wordOf_85_99_16 {G : GG} {Φ : Int → Hp → Prop} {h : Hp} {x2 : Int} {x3 : Int} (H : ((13 ≤ x3 → ((0 ≤ (h 85 6) → Φ (-1) h) ∧ ((h 85 6) < 0 → Φ (-1) (up h 85 6 (h 85 5))))) ∧ (x3 < 13 → (0 ≤ x3 ∧ x3 < 13) ∧ (1000 ≤ (rf 99 (x3).toNat) ∧ (rf 99 (x3).toNat) < 1063) ∧ Call G m_J0_length_8abf5 [rv (rf 99 (x3).toNat)] h (fun r1 h2 => (((w32 (x2 - (h 85 5))) ≠ r1 → AT G m_X12_wordOf 47 [(0, rv 85), (1, rv 99), (2, iv x2), (3, iv x3), (4, iv 0), (5, iv 0)] [] h2 Φ) ∧ ((w32 (x2 - (h 85 5))) = r1 → AT G m_X12_wordOf 47 [(0, rv 85), (1, rv 99), (2, iv x2), (3, iv x3), (4, iv 1), (5, iv 0)] [] h2 Φ)))))) : AT G m_X12_wordOf 16 [(0, rv 85), (1, rv 99), (2, iv x2), (3, iv x3)] [] h Φ := by
  refine a_iload_n (pc := 16) (dk dt_X12_wordOf 10 rfl) rfl ?_
  refine a_aload_n (pc := 17) (dk dt_X12_wordOf 11 rfl) rfl ?_
  refine a_alen (pc := 18) (dk dt_X12_wordOf 12 rfl) ar_99 (by decide) ?_
  refine a_icmp_ge (pc := 19) (dk dt_X12_wordOf 13 rfl) (tgt := 117) rfl ⟨fun c => ?_, fun c => ?_⟩
  · replace H := H.1 c
    refine a_aload_n (pc := 117) (dk dt_X12_wordOf 65 rfl) rfl ?_
    refine a_aload_n (pc := 118) (dk dt_X12_wordOf 66 rfl) rfl ?_
    refine a_geti (pc := 119) (dk dt_X12_wordOf 67 rfl) cls_12 fl_RX12_309 cf_85_5 ?_
    refine a_callVv (as := [iv (h 85 5)]) (st := []) (pc := 122) (dk dt_X12_wordOf 68 rfl) cl_RX12_323 ⟨Nat.le_of_ble_eq_true rfl, Nat.le_of_ble_eq_true rfl⟩ ⟨Nat.le_of_ble_eq_true rfl, Nat.le_of_ble_eq_true rfl⟩ cls_12 rfl cc_85 rfl rfl rfl (Nat.le_of_ble_eq_true rfl) (Call.of rfl (Nat.le_of_ble_eq_true rfl) rfl ?_)
    refine a_aload_n (pc := 0) (dk dt_X12_fail 0 rfl) rfl ?_
    refine a_geti (pc := 1) (dk dt_X12_fail 1 rfl) cls_12 fl_RX12_312 cf_85_6 ?_
    refine a_if_ge (pc := 4) (dk dt_X12_fail 2 rfl) (tgt := 12) rfl ⟨fun c => ?_, fun c => ?_⟩
    · replace H := H.1 c
      refine a_vret (pc := 12) (dk dt_X12_fail 6 rfl) rfl rfl ?_
      show ATW _ _ _ _ _ _ _ _ _ _
      refine a_iconst (pc := 125) (dk dt_X12_wordOf 69 rfl) (ik rfl) ?_
      exact a_iret (pc := 126) (dk dt_X12_wordOf 70 rfl) rfl rfl H
    · replace H := H.2 c
      refine a_aload_n (pc := 7) (dk dt_X12_fail 3 rfl) rfl ?_
      refine a_iload_n (pc := 8) (dk dt_X12_fail 4 rfl) rfl ?_
      refine a_puti (pc := 9) (dk dt_X12_fail 5 rfl) cls_12 fl_RX12_312 cf_85_6 rfl rfl ?_
      refine a_vret (pc := 12) (dk dt_X12_fail 6 rfl) rfl rfl ?_
      show ATW _ _ _ _ _ _ _ _ _ _
      refine a_iconst (pc := 125) (dk dt_X12_wordOf 69 rfl) (ik rfl) ?_
      exact a_iret (pc := 126) (dk dt_X12_wordOf 70 rfl) rfl rfl H
  · replace H := H.2 c
    refine a_iload_n (pc := 22) (dk dt_X12_wordOf 14 rfl) rfl ?_
    refine a_aload_n (pc := 23) (dk dt_X12_wordOf 15 rfl) rfl ?_
    refine a_geti (pc := 24) (dk dt_X12_wordOf 16 rfl) cls_12 fl_RX12_309 cf_85_5 ?_
    refine a_isub (pc := 27) (dk dt_X12_wordOf 17 rfl) ?_
    refine a_aload_n (pc := 28) (dk dt_X12_wordOf 18 rfl) rfl ?_
    refine a_iload_n (pc := 29) (dk dt_X12_wordOf 19 rfl) rfl ?_
    refine a_aald (pc := 30) (dk dt_X12_wordOf 20 rfl) ar_99 (by decide) ⟨H.1, ?_⟩
    replace H := H.2
    have hS := H.1
    replace H := H.2
    refine a_callTi (as := []) (st := [iv (w32 (x2 - (h 85 5)))]) (pc := 31) (dk dt_X12_wordOf 21 rfl) cl_RX12_343 ⟨Nat.le_of_ble_eq_true rfl, Nat.le_of_ble_eq_true rfl⟩ ⟨Nat.le_of_ble_eq_true rfl, Nat.le_of_ble_eq_true rfl⟩ hS rfl rfl rfl rfl (Nat.le_of_ble_eq_true rfl) (Call.mono H fun r1 h2 H => ?_)
    refine a_icmp_ne (pc := 34) (dk dt_X12_wordOf 22 rfl) (tgt := 41) rfl ⟨fun c => ?_, fun c => ?_⟩
    · replace H := H.1 c
      refine a_iconst (pc := 41) (dk dt_X12_wordOf 25 rfl) (ik rfl) ?_
      refine a_istore (pc := 42) (dk dt_X12_wordOf 26 rfl) (by decide) rfl rfl ?_
      refine a_iconst (pc := 44) (dk dt_X12_wordOf 27 rfl) (ik rfl) ?_
      refine a_istore (pc := 45) (dk dt_X12_wordOf 28 rfl) (by decide) rfl rfl ?_
      exact a_pick [0, 1, 2, 3, 4, 5] rfl H
    · replace H := H.2 c
      refine a_iconst (pc := 37) (dk dt_X12_wordOf 23 rfl) (ik rfl) ?_
      refine a_goto (pc := 38) (dk dt_X12_wordOf 24 rfl) (tgt := 42) rfl ?_
      refine a_istore (pc := 42) (dk dt_X12_wordOf 26 rfl) (by decide) rfl rfl ?_
      refine a_iconst (pc := 44) (dk dt_X12_wordOf 27 rfl) (ik rfl) ?_
      refine a_istore (pc := 45) (dk dt_X12_wordOf 28 rfl) (by decide) rfl rfl ?_
      exact a_pick [0, 1, 2, 3, 4, 5] rfl H
set_option maxHeartbeats 40000000 in
theorem U_X12_wordOf_85_99_47 {G : GG} {Φ : Int → Hp → Prop} {h : Hp} {x2 : Int} {x3 : Int} {x4 : Int} {x5 : Int} (H : (0 ≤ x3 ∧ x3 < 13) ∧ (1000 ≤ (rf 99 (x3).toNat) ∧ (rf 99 (x3).toNat) < 1063) ∧ Call G m_J0_length_8abf5 [rv (rf 99 (x3).toNat)] h (fun r1 h2 => ((r1 ≤ x5 → ((x4 = 0 → AT G m_X12_wordOf 16 [(0, rv 85), (1, rv 99), (2, iv x2), (3, iv (w32 (x3 + 1)))] [] h2 Φ) ∧ (x4 ≠ 0 → Φ x3 (up h2 85 5 x2)))) ∧ (x5 < r1 → ((x4 = 0 → ((x4 = 0 → AT G m_X12_wordOf 16 [(0, rv 85), (1, rv 99), (2, iv x2), (3, iv (w32 (x3 + 1)))] [] h2 Φ) ∧ (x4 ≠ 0 → Φ x3 (up h2 85 5 x2)))) ∧ (x4 ≠ 0 → (0 ≤ (w32 ((h2 85 5) + x5)) ∧ (w32 ((h2 85 5) + x5)) < 1600) ∧ (0 ≤ x3 ∧ x3 < 13) ∧ (1000 ≤ (rf 99 (x3).toNat) ∧ (rf 99 (x3).toNat) < 1063) ∧ Call G m_J0_charAt_5068e [rv (rf 99 (x3).toNat), iv x5] h2 (fun r3 h4 => (((h2 87 (w32 ((h2 85 5) + x5))) ≠ r3 → AT G m_X12_wordOf 47 [(0, rv 85), (1, rv 99), (2, iv x2), (3, iv x3), (4, iv 0), (5, iv (w32 (x5 + 1)))] [] h4 Φ) ∧ ((h2 87 (w32 ((h2 85 5) + x5))) = r3 → AT G m_X12_wordOf 47 [(0, rv 85), (1, rv 99), (2, iv x2), (3, iv x3), (4, iv 1), (5, iv (w32 (x5 + 1)))] [] h4 Φ))))))))) : AT G m_X12_wordOf 47 [(0, rv 85), (1, rv 99), (2, iv x2), (3, iv x3), (4, iv x4), (5, iv x5)] [] h Φ := by
  refine a_iload (pc := 47) (dk dt_X12_wordOf 29 rfl) rfl ?_
  refine a_aload_n (pc := 49) (dk dt_X12_wordOf 30 rfl) rfl ?_
  refine a_iload_n (pc := 50) (dk dt_X12_wordOf 31 rfl) rfl ?_
  refine a_aald (pc := 51) (dk dt_X12_wordOf 32 rfl) ar_99 (by decide) ⟨H.1, ?_⟩
  replace H := H.2
  have hS := H.1
  replace H := H.2
  refine a_callTi (as := []) (st := [iv x5]) (pc := 52) (dk dt_X12_wordOf 33 rfl) cl_RX12_343 ⟨Nat.le_of_ble_eq_true rfl, Nat.le_of_ble_eq_true rfl⟩ ⟨Nat.le_of_ble_eq_true rfl, Nat.le_of_ble_eq_true rfl⟩ hS rfl rfl rfl rfl (Nat.le_of_ble_eq_true rfl) (Call.mono H fun r1 h2 H => ?_)
  refine a_icmp_ge (pc := 55) (dk dt_X12_wordOf 34 rfl) (tgt := 99) rfl ⟨fun c => ?_, fun c => ?_⟩
  · replace H := H.1 c
    refine a_iload (pc := 99) (dk dt_X12_wordOf 56 rfl) rfl ?_
    refine a_if_eq (pc := 101) (dk dt_X12_wordOf 57 rfl) (tgt := 111) rfl ⟨fun c => ?_, fun c => ?_⟩
    · replace H := H.1 c
      refine a_iinc (pc := 111) (dk dt_X12_wordOf 63 rfl) (by decide) rfl rfl rfl ?_
      refine a_goto (pc := 114) (dk dt_X12_wordOf 64 rfl) (tgt := 16) rfl ?_
      exact a_pick [0, 1, 2, 3] rfl H
    · replace H := H.2 c
      refine a_aload_n (pc := 104) (dk dt_X12_wordOf 58 rfl) rfl ?_
      refine a_iload_n (pc := 105) (dk dt_X12_wordOf 59 rfl) rfl ?_
      refine a_puti (pc := 106) (dk dt_X12_wordOf 60 rfl) cls_12 fl_RX12_309 cf_85_5 rfl rfl ?_
      refine a_iload_n (pc := 109) (dk dt_X12_wordOf 61 rfl) rfl ?_
      exact a_iret (pc := 110) (dk dt_X12_wordOf 62 rfl) rfl rfl H
  · replace H := H.2 c
    refine a_iload (pc := 58) (dk dt_X12_wordOf 35 rfl) rfl ?_
    refine a_if_eq (pc := 60) (dk dt_X12_wordOf 36 rfl) (tgt := 99) rfl ⟨fun c => ?_, fun c => ?_⟩
    · replace H := H.1 c
      refine a_iload (pc := 99) (dk dt_X12_wordOf 56 rfl) rfl ?_
      refine a_if_eq (pc := 101) (dk dt_X12_wordOf 57 rfl) (tgt := 111) rfl ⟨fun c => ?_, fun c => ?_⟩
      · replace H := H.1 c
        refine a_iinc (pc := 111) (dk dt_X12_wordOf 63 rfl) (by decide) rfl rfl rfl ?_
        refine a_goto (pc := 114) (dk dt_X12_wordOf 64 rfl) (tgt := 16) rfl ?_
        exact a_pick [0, 1, 2, 3] rfl H
      · replace H := H.2 c
        refine a_aload_n (pc := 104) (dk dt_X12_wordOf 58 rfl) rfl ?_
        refine a_iload_n (pc := 105) (dk dt_X12_wordOf 59 rfl) rfl ?_
        refine a_puti (pc := 106) (dk dt_X12_wordOf 60 rfl) cls_12 fl_RX12_309 cf_85_5 rfl rfl ?_
        refine a_iload_n (pc := 109) (dk dt_X12_wordOf 61 rfl) rfl ?_
        exact a_iret (pc := 110) (dk dt_X12_wordOf 62 rfl) rfl rfl H
    · replace H := H.2 c
      refine a_aload_n (pc := 63) (dk dt_X12_wordOf 37 rfl) rfl ?_
      refine a_getr (r := 86) (pc := 64) (dk dt_X12_wordOf 38 rfl) cls_12 fl_RX12_13 cf_85_1 ?_
      refine a_aload_n (pc := 67) (dk dt_X12_wordOf 39 rfl) rfl ?_
      refine a_geti (pc := 68) (dk dt_X12_wordOf 40 rfl) cls_12 fl_RX12_309 cf_85_5 ?_
      refine a_iload (pc := 71) (dk dt_X12_wordOf 41 rfl) rfl ?_
      refine a_iadd (pc := 73) (dk dt_X12_wordOf 42 rfl) ?_
      refine a_iald (pc := 74) (dk dt_X12_wordOf 43 rfl) ar_87 ⟨H.1, ?_⟩
      replace H := H.2
      refine a_aload_n (pc := 75) (dk dt_X12_wordOf 44 rfl) rfl ?_
      refine a_iload_n (pc := 76) (dk dt_X12_wordOf 45 rfl) rfl ?_
      refine a_aald (pc := 77) (dk dt_X12_wordOf 46 rfl) ar_99 (by decide) ⟨H.1, ?_⟩
      replace H := H.2
      refine a_iload (pc := 78) (dk dt_X12_wordOf 47 rfl) rfl ?_
      have hS := H.1
      replace H := H.2
      refine a_callTi (as := [iv x5]) (st := [iv (h2 87 (w32 ((h2 85 5) + x5)))]) (pc := 80) (dk dt_X12_wordOf 48 rfl) cl_RX12_346 ⟨Nat.le_of_ble_eq_true rfl, Nat.le_of_ble_eq_true rfl⟩ ⟨Nat.le_of_ble_eq_true rfl, Nat.le_of_ble_eq_true rfl⟩ hS rfl rfl rfl rfl (Nat.le_of_ble_eq_true rfl) (Call.mono H fun r3 h4 H => ?_)
      refine a_icmp_ne (pc := 83) (dk dt_X12_wordOf 49 rfl) (tgt := 90) rfl ⟨fun c => ?_, fun c => ?_⟩
      · replace H := H.1 c
        refine a_iconst (pc := 90) (dk dt_X12_wordOf 52 rfl) (ik rfl) ?_
        refine a_istore (pc := 91) (dk dt_X12_wordOf 53 rfl) (by decide) rfl rfl ?_
        refine a_iinc (pc := 93) (dk dt_X12_wordOf 54 rfl) (by decide) rfl rfl rfl ?_
        refine a_goto (pc := 96) (dk dt_X12_wordOf 55 rfl) (tgt := 47) rfl ?_
        exact a_pick [0, 1, 2, 3, 4, 5] rfl H
      · replace H := H.2 c
        refine a_iconst (pc := 86) (dk dt_X12_wordOf 50 rfl) (ik rfl) ?_
        refine a_goto (pc := 87) (dk dt_X12_wordOf 51 rfl) (tgt := 91) rfl ?_
        refine a_istore (pc := 91) (dk dt_X12_wordOf 53 rfl) (by decide) rfl rfl ?_
        refine a_iinc (pc := 93) (dk dt_X12_wordOf 54 rfl) (by decide) rfl rfl rfl ?_
        refine a_goto (pc := 96) (dk dt_X12_wordOf 55 rfl) (tgt := 47) rfl ?_
        exact a_pick [0, 1, 2, 3, 4, 5] rfl H
set_option maxHeartbeats 40000000 in
theorem U_X12_wordOf_85_101_0 {G : GG} {Φ : Int → Hp → Prop} {h : Hp} (H : (((h 85 6) < 0 → Call G m_X12_wordEnd [rv 85] h (fun r1 h2 => AT G m_X12_wordOf 16 [(0, rv 85), (1, rv 101), (2, iv r1), (3, iv 0)] [] h2 Φ)) ∧ (0 ≤ (h 85 6) → Φ (-1) h))) : AT G m_X12_wordOf 0 [(0, rv 85), (1, rv 101)] [] h Φ := by
  refine a_aload_n (pc := 0) (dk dt_X12_wordOf 0 rfl) rfl ?_
  refine a_callVi (as := []) (st := []) (pc := 1) (dk dt_X12_wordOf 1 rfl) cl_RX12_315 ⟨Nat.le_of_ble_eq_true rfl, Nat.le_of_ble_eq_true rfl⟩ ⟨Nat.le_of_ble_eq_true rfl, Nat.le_of_ble_eq_true rfl⟩ cls_12 rfl cc_85 rfl rfl rfl (Nat.le_of_ble_eq_true rfl) (Call.of rfl (Nat.le_of_ble_eq_true rfl) rfl ?_)
  refine a_aload_n (pc := 0) (dk dt_X12_bad 0 rfl) rfl ?_
  refine a_geti (pc := 1) (dk dt_X12_bad 1 rfl) cls_12 fl_RX12_312 cf_85_6 ?_
  refine a_if_lt (pc := 4) (dk dt_X12_bad 2 rfl) (tgt := 11) rfl ⟨fun c => ?_, fun c => ?_⟩
  · replace H := H.1 c
    refine a_iconst (pc := 11) (dk dt_X12_bad 5 rfl) (ik rfl) ?_
    refine a_zret (pc := 12) (dk dt_X12_bad 6 rfl) rfl rfl ⟨by decide, ?_⟩
    show ATW _ _ _ _ _ _ _ _ _ _
    refine a_if_eq (pc := 4) (dk dt_X12_wordOf 2 rfl) (tgt := 9) rfl ⟨fun _ => ?_, fun c => absurd c (by decide)⟩
    refine a_aload_n (pc := 9) (dk dt_X12_wordOf 5 rfl) rfl ?_
    refine a_callVi (as := []) (st := []) (pc := 10) (dk dt_X12_wordOf 6 rfl) cl_RX12_340 ⟨Nat.le_of_ble_eq_true rfl, Nat.le_of_ble_eq_true rfl⟩ ⟨Nat.le_of_ble_eq_true rfl, Nat.le_of_ble_eq_true rfl⟩ cls_12 rfl cc_85 rfl rfl rfl (Nat.le_of_ble_eq_true rfl) (Call.mono H fun r1 h2 H => ?_)
    refine a_istore_n (pc := 13) (dk dt_X12_wordOf 7 rfl) (by decide) rfl rfl ?_
    refine a_iconst (pc := 14) (dk dt_X12_wordOf 8 rfl) (ik rfl) ?_
    refine a_istore_n (pc := 15) (dk dt_X12_wordOf 9 rfl) (by decide) rfl rfl ?_
    exact a_pick [0, 1, 2, 3] rfl H
  · replace H := H.2 c
    refine a_iconst (pc := 7) (dk dt_X12_bad 3 rfl) (ik rfl) ?_
    refine a_goto (pc := 8) (dk dt_X12_bad 4 rfl) (tgt := 12) rfl ?_
    refine a_zret (pc := 12) (dk dt_X12_bad 6 rfl) rfl rfl ⟨by decide, ?_⟩
    show ATW _ _ _ _ _ _ _ _ _ _
    refine a_if_eq (pc := 4) (dk dt_X12_wordOf 2 rfl) (tgt := 9) rfl ⟨fun c => absurd c (by decide), fun _ => ?_⟩
    refine a_iconst (pc := 7) (dk dt_X12_wordOf 3 rfl) (ik rfl) ?_
    exact a_iret (pc := 8) (dk dt_X12_wordOf 4 rfl) rfl rfl H
set_option maxHeartbeats 40000000 in
theorem U_X12_wordOf_85_101_16 {G : GG} {Φ : Int → Hp → Prop} {h : Hp} {x2 : Int} {x3 : Int} (H : ((8 ≤ x3 → ((0 ≤ (h 85 6) → Φ (-1) h) ∧ ((h 85 6) < 0 → Φ (-1) (up h 85 6 (h 85 5))))) ∧ (x3 < 8 → (0 ≤ x3 ∧ x3 < 8) ∧ (1000 ≤ (rf 101 (x3).toNat) ∧ (rf 101 (x3).toNat) < 1063) ∧ Call G m_J0_length_8abf5 [rv (rf 101 (x3).toNat)] h (fun r1 h2 => (((w32 (x2 - (h 85 5))) ≠ r1 → AT G m_X12_wordOf 47 [(0, rv 85), (1, rv 101), (2, iv x2), (3, iv x3), (4, iv 0), (5, iv 0)] [] h2 Φ) ∧ ((w32 (x2 - (h 85 5))) = r1 → AT G m_X12_wordOf 47 [(0, rv 85), (1, rv 101), (2, iv x2), (3, iv x3), (4, iv 1), (5, iv 0)] [] h2 Φ)))))) : AT G m_X12_wordOf 16 [(0, rv 85), (1, rv 101), (2, iv x2), (3, iv x3)] [] h Φ := by
  refine a_iload_n (pc := 16) (dk dt_X12_wordOf 10 rfl) rfl ?_
  refine a_aload_n (pc := 17) (dk dt_X12_wordOf 11 rfl) rfl ?_
  refine a_alen (pc := 18) (dk dt_X12_wordOf 12 rfl) ar_101 (by decide) ?_
  refine a_icmp_ge (pc := 19) (dk dt_X12_wordOf 13 rfl) (tgt := 117) rfl ⟨fun c => ?_, fun c => ?_⟩
  · replace H := H.1 c
    refine a_aload_n (pc := 117) (dk dt_X12_wordOf 65 rfl) rfl ?_
    refine a_aload_n (pc := 118) (dk dt_X12_wordOf 66 rfl) rfl ?_
    refine a_geti (pc := 119) (dk dt_X12_wordOf 67 rfl) cls_12 fl_RX12_309 cf_85_5 ?_
    refine a_callVv (as := [iv (h 85 5)]) (st := []) (pc := 122) (dk dt_X12_wordOf 68 rfl) cl_RX12_323 ⟨Nat.le_of_ble_eq_true rfl, Nat.le_of_ble_eq_true rfl⟩ ⟨Nat.le_of_ble_eq_true rfl, Nat.le_of_ble_eq_true rfl⟩ cls_12 rfl cc_85 rfl rfl rfl (Nat.le_of_ble_eq_true rfl) (Call.of rfl (Nat.le_of_ble_eq_true rfl) rfl ?_)
    refine a_aload_n (pc := 0) (dk dt_X12_fail 0 rfl) rfl ?_
    refine a_geti (pc := 1) (dk dt_X12_fail 1 rfl) cls_12 fl_RX12_312 cf_85_6 ?_
    refine a_if_ge (pc := 4) (dk dt_X12_fail 2 rfl) (tgt := 12) rfl ⟨fun c => ?_, fun c => ?_⟩
    · replace H := H.1 c
      refine a_vret (pc := 12) (dk dt_X12_fail 6 rfl) rfl rfl ?_
      show ATW _ _ _ _ _ _ _ _ _ _
      refine a_iconst (pc := 125) (dk dt_X12_wordOf 69 rfl) (ik rfl) ?_
      exact a_iret (pc := 126) (dk dt_X12_wordOf 70 rfl) rfl rfl H
    · replace H := H.2 c
      refine a_aload_n (pc := 7) (dk dt_X12_fail 3 rfl) rfl ?_
      refine a_iload_n (pc := 8) (dk dt_X12_fail 4 rfl) rfl ?_
      refine a_puti (pc := 9) (dk dt_X12_fail 5 rfl) cls_12 fl_RX12_312 cf_85_6 rfl rfl ?_
      refine a_vret (pc := 12) (dk dt_X12_fail 6 rfl) rfl rfl ?_
      show ATW _ _ _ _ _ _ _ _ _ _
      refine a_iconst (pc := 125) (dk dt_X12_wordOf 69 rfl) (ik rfl) ?_
      exact a_iret (pc := 126) (dk dt_X12_wordOf 70 rfl) rfl rfl H
  · replace H := H.2 c
    refine a_iload_n (pc := 22) (dk dt_X12_wordOf 14 rfl) rfl ?_
    refine a_aload_n (pc := 23) (dk dt_X12_wordOf 15 rfl) rfl ?_
    refine a_geti (pc := 24) (dk dt_X12_wordOf 16 rfl) cls_12 fl_RX12_309 cf_85_5 ?_
    refine a_isub (pc := 27) (dk dt_X12_wordOf 17 rfl) ?_
    refine a_aload_n (pc := 28) (dk dt_X12_wordOf 18 rfl) rfl ?_
    refine a_iload_n (pc := 29) (dk dt_X12_wordOf 19 rfl) rfl ?_
    refine a_aald (pc := 30) (dk dt_X12_wordOf 20 rfl) ar_101 (by decide) ⟨H.1, ?_⟩
    replace H := H.2
    have hS := H.1
    replace H := H.2
    refine a_callTi (as := []) (st := [iv (w32 (x2 - (h 85 5)))]) (pc := 31) (dk dt_X12_wordOf 21 rfl) cl_RX12_343 ⟨Nat.le_of_ble_eq_true rfl, Nat.le_of_ble_eq_true rfl⟩ ⟨Nat.le_of_ble_eq_true rfl, Nat.le_of_ble_eq_true rfl⟩ hS rfl rfl rfl rfl (Nat.le_of_ble_eq_true rfl) (Call.mono H fun r1 h2 H => ?_)
    refine a_icmp_ne (pc := 34) (dk dt_X12_wordOf 22 rfl) (tgt := 41) rfl ⟨fun c => ?_, fun c => ?_⟩
    · replace H := H.1 c
      refine a_iconst (pc := 41) (dk dt_X12_wordOf 25 rfl) (ik rfl) ?_
      refine a_istore (pc := 42) (dk dt_X12_wordOf 26 rfl) (by decide) rfl rfl ?_
      refine a_iconst (pc := 44) (dk dt_X12_wordOf 27 rfl) (ik rfl) ?_
      refine a_istore (pc := 45) (dk dt_X12_wordOf 28 rfl) (by decide) rfl rfl ?_
      exact a_pick [0, 1, 2, 3, 4, 5] rfl H
    · replace H := H.2 c
      refine a_iconst (pc := 37) (dk dt_X12_wordOf 23 rfl) (ik rfl) ?_
      refine a_goto (pc := 38) (dk dt_X12_wordOf 24 rfl) (tgt := 42) rfl ?_
      refine a_istore (pc := 42) (dk dt_X12_wordOf 26 rfl) (by decide) rfl rfl ?_
      refine a_iconst (pc := 44) (dk dt_X12_wordOf 27 rfl) (ik rfl) ?_
      refine a_istore (pc := 45) (dk dt_X12_wordOf 28 rfl) (by decide) rfl rfl ?_
      exact a_pick [0, 1, 2, 3, 4, 5] rfl H
set_option maxHeartbeats 40000000 in
theorem U_X12_wordOf_85_101_47 {G : GG} {Φ : Int → Hp → Prop} {h : Hp} {x2 : Int} {x3 : Int} {x4 : Int} {x5 : Int} (H : (0 ≤ x3 ∧ x3 < 8) ∧ (1000 ≤ (rf 101 (x3).toNat) ∧ (rf 101 (x3).toNat) < 1063) ∧ Call G m_J0_length_8abf5 [rv (rf 101 (x3).toNat)] h (fun r1 h2 => ((r1 ≤ x5 → ((x4 = 0 → AT G m_X12_wordOf 16 [(0, rv 85), (1, rv 101), (2, iv x2), (3, iv (w32 (x3 + 1)))] [] h2 Φ) ∧ (x4 ≠ 0 → Φ x3 (up h2 85 5 x2)))) ∧ (x5 < r1 → ((x4 = 0 → ((x4 = 0 → AT G m_X12_wordOf 16 [(0, rv 85), (1, rv 101), (2, iv x2), (3, iv (w32 (x3 + 1)))] [] h2 Φ) ∧ (x4 ≠ 0 → Φ x3 (up h2 85 5 x2)))) ∧ (x4 ≠ 0 → (0 ≤ (w32 ((h2 85 5) + x5)) ∧ (w32 ((h2 85 5) + x5)) < 1600) ∧ (0 ≤ x3 ∧ x3 < 8) ∧ (1000 ≤ (rf 101 (x3).toNat) ∧ (rf 101 (x3).toNat) < 1063) ∧ Call G m_J0_charAt_5068e [rv (rf 101 (x3).toNat), iv x5] h2 (fun r3 h4 => (((h2 87 (w32 ((h2 85 5) + x5))) ≠ r3 → AT G m_X12_wordOf 47 [(0, rv 85), (1, rv 101), (2, iv x2), (3, iv x3), (4, iv 0), (5, iv (w32 (x5 + 1)))] [] h4 Φ) ∧ ((h2 87 (w32 ((h2 85 5) + x5))) = r3 → AT G m_X12_wordOf 47 [(0, rv 85), (1, rv 101), (2, iv x2), (3, iv x3), (4, iv 1), (5, iv (w32 (x5 + 1)))] [] h4 Φ))))))))) : AT G m_X12_wordOf 47 [(0, rv 85), (1, rv 101), (2, iv x2), (3, iv x3), (4, iv x4), (5, iv x5)] [] h Φ := by
  refine a_iload (pc := 47) (dk dt_X12_wordOf 29 rfl) rfl ?_
  refine a_aload_n (pc := 49) (dk dt_X12_wordOf 30 rfl) rfl ?_
  refine a_iload_n (pc := 50) (dk dt_X12_wordOf 31 rfl) rfl ?_
  refine a_aald (pc := 51) (dk dt_X12_wordOf 32 rfl) ar_101 (by decide) ⟨H.1, ?_⟩
  replace H := H.2
  have hS := H.1
  replace H := H.2
  refine a_callTi (as := []) (st := [iv x5]) (pc := 52) (dk dt_X12_wordOf 33 rfl) cl_RX12_343 ⟨Nat.le_of_ble_eq_true rfl, Nat.le_of_ble_eq_true rfl⟩ ⟨Nat.le_of_ble_eq_true rfl, Nat.le_of_ble_eq_true rfl⟩ hS rfl rfl rfl rfl (Nat.le_of_ble_eq_true rfl) (Call.mono H fun r1 h2 H => ?_)
  refine a_icmp_ge (pc := 55) (dk dt_X12_wordOf 34 rfl) (tgt := 99) rfl ⟨fun c => ?_, fun c => ?_⟩
  · replace H := H.1 c
    refine a_iload (pc := 99) (dk dt_X12_wordOf 56 rfl) rfl ?_
    refine a_if_eq (pc := 101) (dk dt_X12_wordOf 57 rfl) (tgt := 111) rfl ⟨fun c => ?_, fun c => ?_⟩
    · replace H := H.1 c
      refine a_iinc (pc := 111) (dk dt_X12_wordOf 63 rfl) (by decide) rfl rfl rfl ?_
      refine a_goto (pc := 114) (dk dt_X12_wordOf 64 rfl) (tgt := 16) rfl ?_
      exact a_pick [0, 1, 2, 3] rfl H
    · replace H := H.2 c
      refine a_aload_n (pc := 104) (dk dt_X12_wordOf 58 rfl) rfl ?_
      refine a_iload_n (pc := 105) (dk dt_X12_wordOf 59 rfl) rfl ?_
      refine a_puti (pc := 106) (dk dt_X12_wordOf 60 rfl) cls_12 fl_RX12_309 cf_85_5 rfl rfl ?_
      refine a_iload_n (pc := 109) (dk dt_X12_wordOf 61 rfl) rfl ?_
      exact a_iret (pc := 110) (dk dt_X12_wordOf 62 rfl) rfl rfl H
  · replace H := H.2 c
    refine a_iload (pc := 58) (dk dt_X12_wordOf 35 rfl) rfl ?_
    refine a_if_eq (pc := 60) (dk dt_X12_wordOf 36 rfl) (tgt := 99) rfl ⟨fun c => ?_, fun c => ?_⟩
    · replace H := H.1 c
      refine a_iload (pc := 99) (dk dt_X12_wordOf 56 rfl) rfl ?_
      refine a_if_eq (pc := 101) (dk dt_X12_wordOf 57 rfl) (tgt := 111) rfl ⟨fun c => ?_, fun c => ?_⟩
      · replace H := H.1 c
        refine a_iinc (pc := 111) (dk dt_X12_wordOf 63 rfl) (by decide) rfl rfl rfl ?_
        refine a_goto (pc := 114) (dk dt_X12_wordOf 64 rfl) (tgt := 16) rfl ?_
        exact a_pick [0, 1, 2, 3] rfl H
      · replace H := H.2 c
        refine a_aload_n (pc := 104) (dk dt_X12_wordOf 58 rfl) rfl ?_
        refine a_iload_n (pc := 105) (dk dt_X12_wordOf 59 rfl) rfl ?_
        refine a_puti (pc := 106) (dk dt_X12_wordOf 60 rfl) cls_12 fl_RX12_309 cf_85_5 rfl rfl ?_
        refine a_iload_n (pc := 109) (dk dt_X12_wordOf 61 rfl) rfl ?_
        exact a_iret (pc := 110) (dk dt_X12_wordOf 62 rfl) rfl rfl H
    · replace H := H.2 c
      refine a_aload_n (pc := 63) (dk dt_X12_wordOf 37 rfl) rfl ?_
      refine a_getr (r := 86) (pc := 64) (dk dt_X12_wordOf 38 rfl) cls_12 fl_RX12_13 cf_85_1 ?_
      refine a_aload_n (pc := 67) (dk dt_X12_wordOf 39 rfl) rfl ?_
      refine a_geti (pc := 68) (dk dt_X12_wordOf 40 rfl) cls_12 fl_RX12_309 cf_85_5 ?_
      refine a_iload (pc := 71) (dk dt_X12_wordOf 41 rfl) rfl ?_
      refine a_iadd (pc := 73) (dk dt_X12_wordOf 42 rfl) ?_
      refine a_iald (pc := 74) (dk dt_X12_wordOf 43 rfl) ar_87 ⟨H.1, ?_⟩
      replace H := H.2
      refine a_aload_n (pc := 75) (dk dt_X12_wordOf 44 rfl) rfl ?_
      refine a_iload_n (pc := 76) (dk dt_X12_wordOf 45 rfl) rfl ?_
      refine a_aald (pc := 77) (dk dt_X12_wordOf 46 rfl) ar_101 (by decide) ⟨H.1, ?_⟩
      replace H := H.2
      refine a_iload (pc := 78) (dk dt_X12_wordOf 47 rfl) rfl ?_
      have hS := H.1
      replace H := H.2
      refine a_callTi (as := [iv x5]) (st := [iv (h2 87 (w32 ((h2 85 5) + x5)))]) (pc := 80) (dk dt_X12_wordOf 48 rfl) cl_RX12_346 ⟨Nat.le_of_ble_eq_true rfl, Nat.le_of_ble_eq_true rfl⟩ ⟨Nat.le_of_ble_eq_true rfl, Nat.le_of_ble_eq_true rfl⟩ hS rfl rfl rfl rfl (Nat.le_of_ble_eq_true rfl) (Call.mono H fun r3 h4 H => ?_)
      refine a_icmp_ne (pc := 83) (dk dt_X12_wordOf 49 rfl) (tgt := 90) rfl ⟨fun c => ?_, fun c => ?_⟩
      · replace H := H.1 c
        refine a_iconst (pc := 90) (dk dt_X12_wordOf 52 rfl) (ik rfl) ?_
        refine a_istore (pc := 91) (dk dt_X12_wordOf 53 rfl) (by decide) rfl rfl ?_
        refine a_iinc (pc := 93) (dk dt_X12_wordOf 54 rfl) (by decide) rfl rfl rfl ?_
        refine a_goto (pc := 96) (dk dt_X12_wordOf 55 rfl) (tgt := 47) rfl ?_
        exact a_pick [0, 1, 2, 3, 4, 5] rfl H
      · replace H := H.2 c
        refine a_iconst (pc := 86) (dk dt_X12_wordOf 50 rfl) (ik rfl) ?_
        refine a_goto (pc := 87) (dk dt_X12_wordOf 51 rfl) (tgt := 91) rfl ?_
        refine a_istore (pc := 91) (dk dt_X12_wordOf 53 rfl) (by decide) rfl rfl ?_
        refine a_iinc (pc := 93) (dk dt_X12_wordOf 54 rfl) (by decide) rfl rfl rfl ?_
        refine a_goto (pc := 96) (dk dt_X12_wordOf 55 rfl) (tgt := 47) rfl ?_
        exact a_pick [0, 1, 2, 3, 4, 5] rfl H
set_option maxHeartbeats 40000000 in
theorem U_X12_whole_85_0 {G : GG} {Φ : Int → Hp → Prop} {h : Hp} {x1 : Int} {x2 : Int} {x3 : Int} (H : (((h 85 6) < 0 → ((x1 = 0 → Call G m_X12_here [rv 85] h (fun r1 h2 => ((r1 < 48 → ((0 ≤ (h2 85 6) → AT G m_X12_whole 91 [(0, rv 85), (2, iv x2), (3, iv x3), (4, iv (h 85 5)), (5, iv 0), (6, iv (h 85 5)), (7, iv 0)] [] h2 Φ) ∧ ((h2 85 6) < 0 → AT G m_X12_whole 91 [(0, rv 85), (2, iv x2), (3, iv x3), (4, iv (h 85 5)), (5, iv 0), (6, iv (h 85 5)), (7, iv 0)] [] (up h2 85 6 (h2 85 5)) Φ))) ∧ (48 ≤ r1 → ((57 < r1 → ((0 ≤ (h2 85 6) → AT G m_X12_whole 91 [(0, rv 85), (2, iv x2), (3, iv x3), (4, iv (h 85 5)), (5, iv 0), (6, iv (h 85 5)), (7, iv 0)] [] h2 Φ) ∧ ((h2 85 6) < 0 → AT G m_X12_whole 91 [(0, rv 85), (2, iv x2), (3, iv x3), (4, iv (h 85 5)), (5, iv 0), (6, iv (h 85 5)), (7, iv 0)] [] (up h2 85 6 (h2 85 5)) Φ))) ∧ (r1 ≤ 57 → AT G m_X12_whole 91 [(0, rv 85), (2, iv x2), (3, iv x3), (4, iv (h 85 5)), (5, iv 0), (6, iv (h 85 5)), (7, iv 0)] [] h2 Φ)))))) ∧ (x1 ≠ 0 → Call G m_X12_here [rv 85] h (fun r3 h4 => ((r3 ≠ 45 → Call G m_X12_here [rv 85] h4 (fun r5 h6 => ((r5 < 48 → ((0 ≤ (h6 85 6) → AT G m_X12_whole 91 [(0, rv 85), (2, iv x2), (3, iv x3), (4, iv (h 85 5)), (5, iv 0), (6, iv (h4 85 5)), (7, iv 0)] [] h6 Φ) ∧ ((h6 85 6) < 0 → AT G m_X12_whole 91 [(0, rv 85), (2, iv x2), (3, iv x3), (4, iv (h 85 5)), (5, iv 0), (6, iv (h4 85 5)), (7, iv 0)] [] (up h6 85 6 (h6 85 5)) Φ))) ∧ (48 ≤ r5 → ((57 < r5 → ((0 ≤ (h6 85 6) → AT G m_X12_whole 91 [(0, rv 85), (2, iv x2), (3, iv x3), (4, iv (h 85 5)), (5, iv 0), (6, iv (h4 85 5)), (7, iv 0)] [] h6 Φ) ∧ ((h6 85 6) < 0 → AT G m_X12_whole 91 [(0, rv 85), (2, iv x2), (3, iv x3), (4, iv (h 85 5)), (5, iv 0), (6, iv (h4 85 5)), (7, iv 0)] [] (up h6 85 6 (h6 85 5)) Φ))) ∧ (r5 ≤ 57 → AT G m_X12_whole 91 [(0, rv 85), (2, iv x2), (3, iv x3), (4, iv (h 85 5)), (5, iv 0), (6, iv (h4 85 5)), (7, iv 0)] [] h6 Φ)))))) ∧ (r3 = 45 → Call G m_X12_here [rv 85] (up h4 85 5 (w32 ((h4 85 5) + 1))) (fun r7 h8 => ((r7 < 48 → ((0 ≤ (h8 85 6) → AT G m_X12_whole 91 [(0, rv 85), (2, iv x2), (3, iv x3), (4, iv (h 85 5)), (5, iv 1), (6, iv (w32 ((h4 85 5) + 1))), (7, iv 0)] [] h8 Φ) ∧ ((h8 85 6) < 0 → AT G m_X12_whole 91 [(0, rv 85), (2, iv x2), (3, iv x3), (4, iv (h 85 5)), (5, iv 1), (6, iv (w32 ((h4 85 5) + 1))), (7, iv 0)] [] (up h8 85 6 (h8 85 5)) Φ))) ∧ (48 ≤ r7 → ((57 < r7 → ((0 ≤ (h8 85 6) → AT G m_X12_whole 91 [(0, rv 85), (2, iv x2), (3, iv x3), (4, iv (h 85 5)), (5, iv 1), (6, iv (w32 ((h4 85 5) + 1))), (7, iv 0)] [] h8 Φ) ∧ ((h8 85 6) < 0 → AT G m_X12_whole 91 [(0, rv 85), (2, iv x2), (3, iv x3), (4, iv (h 85 5)), (5, iv 1), (6, iv (w32 ((h4 85 5) + 1))), (7, iv 0)] [] (up h8 85 6 (h8 85 5)) Φ))) ∧ (r7 ≤ 57 → Call G m_X12_here [rv 85] h8 (fun r9 h10 => ((r9 ≠ 48 → AT G m_X12_whole 91 [(0, rv 85), (2, iv x2), (3, iv x3), (4, iv (h 85 5)), (5, iv 1), (6, iv (w32 ((h4 85 5) + 1))), (7, iv 0)] [] h10 Φ) ∧ (r9 = 48 → ((0 ≤ (h10 85 6) → AT G m_X12_whole 91 [(0, rv 85), (2, iv x2), (3, iv x3), (4, iv (h 85 5)), (5, iv 1), (6, iv (w32 ((h4 85 5) + 1))), (7, iv 0)] [] h10 Φ) ∧ ((h10 85 6) < 0 → AT G m_X12_whole 91 [(0, rv 85), (2, iv x2), (3, iv x3), (4, iv (h 85 5)), (5, iv 1), (6, iv (w32 ((h4 85 5) + 1))), (7, iv 0)] [] (up h10 85 6 (h10 85 5)) Φ)))))))))))))))) ∧ (0 ≤ (h 85 6) → Φ 0 h))) : AT G m_X12_whole 0 [(0, rv 85), (1, iv x1), (2, iv x2), (3, iv x3)] [] h Φ := by
  refine a_aload_n (pc := 0) (dk dt_X12_whole 0 rfl) rfl ?_
  refine a_callVi (as := []) (st := []) (pc := 1) (dk dt_X12_whole 1 rfl) cl_RX12_315 ⟨Nat.le_of_ble_eq_true rfl, Nat.le_of_ble_eq_true rfl⟩ ⟨Nat.le_of_ble_eq_true rfl, Nat.le_of_ble_eq_true rfl⟩ cls_12 rfl cc_85 rfl rfl rfl (Nat.le_of_ble_eq_true rfl) (Call.of rfl (Nat.le_of_ble_eq_true rfl) rfl ?_)
  refine a_aload_n (pc := 0) (dk dt_X12_bad 0 rfl) rfl ?_
  refine a_geti (pc := 1) (dk dt_X12_bad 1 rfl) cls_12 fl_RX12_312 cf_85_6 ?_
  refine a_if_lt (pc := 4) (dk dt_X12_bad 2 rfl) (tgt := 11) rfl ⟨fun c => ?_, fun c => ?_⟩
  · replace H := H.1 c
    refine a_iconst (pc := 11) (dk dt_X12_bad 5 rfl) (ik rfl) ?_
    refine a_zret (pc := 12) (dk dt_X12_bad 6 rfl) rfl rfl ⟨by decide, ?_⟩
    show ATW _ _ _ _ _ _ _ _ _ _
    refine a_if_eq (pc := 4) (dk dt_X12_whole 2 rfl) (tgt := 9) rfl ⟨fun _ => ?_, fun c => absurd c (by decide)⟩
    refine a_aload_n (pc := 9) (dk dt_X12_whole 5 rfl) rfl ?_
    refine a_geti (pc := 10) (dk dt_X12_whole 6 rfl) cls_12 fl_RX12_309 cf_85_5 ?_
    refine a_istore (pc := 13) (dk dt_X12_whole 7 rfl) (by decide) rfl rfl ?_
    refine a_iload_n (pc := 15) (dk dt_X12_whole 8 rfl) rfl ?_
    refine a_if_eq (pc := 16) (dk dt_X12_whole 9 rfl) (tgt := 32) rfl ⟨fun c => ?_, fun c => ?_⟩
    · replace H := H.1 c
      refine a_iconst (pc := 32) (dk dt_X12_whole 16 rfl) (ik rfl) ?_
      refine a_istore (pc := 33) (dk dt_X12_whole 17 rfl) (by decide) rfl rfl ?_
      refine a_iload (pc := 35) (dk dt_X12_whole 18 rfl) rfl ?_
      refine a_if_eq (pc := 37) (dk dt_X12_whole 19 rfl) (tgt := 50) rfl ⟨fun _ => ?_, fun c => absurd c (by decide)⟩
      refine a_aload_n (pc := 50) (dk dt_X12_whole 26 rfl) rfl ?_
      refine a_geti (pc := 51) (dk dt_X12_whole 27 rfl) cls_12 fl_RX12_309 cf_85_5 ?_
      refine a_istore (pc := 54) (dk dt_X12_whole 28 rfl) (by decide) rfl rfl ?_
      refine a_iconst (pc := 56) (dk dt_X12_whole 29 rfl) (ik rfl) ?_
      refine a_istore (pc := 57) (dk dt_X12_whole 30 rfl) (by decide) rfl rfl ?_
      refine a_aload_n (pc := 59) (dk dt_X12_whole 31 rfl) rfl ?_
      refine a_callVi (as := []) (st := []) (pc := 60) (dk dt_X12_whole 32 rfl) cl_RX12_319 ⟨Nat.le_of_ble_eq_true rfl, Nat.le_of_ble_eq_true rfl⟩ ⟨Nat.le_of_ble_eq_true rfl, Nat.le_of_ble_eq_true rfl⟩ cls_12 rfl cc_85 rfl rfl rfl (Nat.le_of_ble_eq_true rfl) (Call.mono H fun r1 h2 H => ?_)
      refine a_callSi (as := [iv r1]) (st := []) (pc := 63) (dk dt_X12_whole 33 rfl) cl_RX12_326 ⟨Nat.le_of_ble_eq_true rfl, Nat.le_of_ble_eq_true rfl⟩ ⟨Nat.le_of_ble_eq_true rfl, Nat.le_of_ble_eq_true rfl⟩ rfl rfl rfl (Nat.le_of_ble_eq_true rfl) (Call.of rfl (Nat.le_of_ble_eq_true rfl) rfl ?_)
      refine a_iload_n (pc := 0) (dk dt_X12_isDigit 0 rfl) rfl ?_
      refine a_bipush (pc := 1) (dk dt_X12_isDigit 1 rfl) (ik rfl) (bpk rfl) ?_
      refine a_icmp_lt (pc := 3) (dk dt_X12_isDigit 2 rfl) (tgt := 16) rfl ⟨fun c => ?_, fun c => ?_⟩
      · replace H := H.1 c
        refine a_iconst (pc := 16) (dk dt_X12_isDigit 8 rfl) (ik rfl) ?_
        refine a_zret (pc := 17) (dk dt_X12_isDigit 9 rfl) rfl rfl ⟨by decide, ?_⟩
        show ATW _ _ _ _ _ _ _ _ _ _
        refine a_if_eq (pc := 66) (dk dt_X12_whole 34 rfl) (tgt := 83) rfl ⟨fun _ => ?_, fun c => absurd c (by decide)⟩
        refine a_aload_n (pc := 83) (dk dt_X12_whole 41 rfl) rfl ?_
        refine a_aload_n (pc := 84) (dk dt_X12_whole 42 rfl) rfl ?_
        refine a_geti (pc := 85) (dk dt_X12_whole 43 rfl) cls_12 fl_RX12_309 cf_85_5 ?_
        refine a_callVv (as := [iv (h2 85 5)]) (st := []) (pc := 88) (dk dt_X12_whole 44 rfl) cl_RX12_323 ⟨Nat.le_of_ble_eq_true rfl, Nat.le_of_ble_eq_true rfl⟩ ⟨Nat.le_of_ble_eq_true rfl, Nat.le_of_ble_eq_true rfl⟩ cls_12 rfl cc_85 rfl rfl rfl (Nat.le_of_ble_eq_true rfl) (Call.of rfl (Nat.le_of_ble_eq_true rfl) rfl ?_)
        refine a_aload_n (pc := 0) (dk dt_X12_fail 0 rfl) rfl ?_
        refine a_geti (pc := 1) (dk dt_X12_fail 1 rfl) cls_12 fl_RX12_312 cf_85_6 ?_
        refine a_if_ge (pc := 4) (dk dt_X12_fail 2 rfl) (tgt := 12) rfl ⟨fun c => ?_, fun c => ?_⟩
        · replace H := H.1 c
          refine a_vret (pc := 12) (dk dt_X12_fail 6 rfl) rfl rfl ?_
          show ATW _ _ _ _ _ _ _ _ _ _
          exact a_pick [0, 2, 3, 4, 5, 6, 7] rfl H
        · replace H := H.2 c
          refine a_aload_n (pc := 7) (dk dt_X12_fail 3 rfl) rfl ?_
          refine a_iload_n (pc := 8) (dk dt_X12_fail 4 rfl) rfl ?_
          refine a_puti (pc := 9) (dk dt_X12_fail 5 rfl) cls_12 fl_RX12_312 cf_85_6 rfl rfl ?_
          refine a_vret (pc := 12) (dk dt_X12_fail 6 rfl) rfl rfl ?_
          show ATW _ _ _ _ _ _ _ _ _ _
          exact a_pick [0, 2, 3, 4, 5, 6, 7] rfl H
      · replace H := H.2 c
        refine a_iload_n (pc := 6) (dk dt_X12_isDigit 3 rfl) rfl ?_
        refine a_bipush (pc := 7) (dk dt_X12_isDigit 4 rfl) (ik rfl) (bpk rfl) ?_
        refine a_icmp_gt (pc := 9) (dk dt_X12_isDigit 5 rfl) (tgt := 16) rfl ⟨fun c => ?_, fun c => ?_⟩
        · replace H := H.1 c
          refine a_iconst (pc := 16) (dk dt_X12_isDigit 8 rfl) (ik rfl) ?_
          refine a_zret (pc := 17) (dk dt_X12_isDigit 9 rfl) rfl rfl ⟨by decide, ?_⟩
          show ATW _ _ _ _ _ _ _ _ _ _
          refine a_if_eq (pc := 66) (dk dt_X12_whole 34 rfl) (tgt := 83) rfl ⟨fun _ => ?_, fun c => absurd c (by decide)⟩
          refine a_aload_n (pc := 83) (dk dt_X12_whole 41 rfl) rfl ?_
          refine a_aload_n (pc := 84) (dk dt_X12_whole 42 rfl) rfl ?_
          refine a_geti (pc := 85) (dk dt_X12_whole 43 rfl) cls_12 fl_RX12_309 cf_85_5 ?_
          refine a_callVv (as := [iv (h2 85 5)]) (st := []) (pc := 88) (dk dt_X12_whole 44 rfl) cl_RX12_323 ⟨Nat.le_of_ble_eq_true rfl, Nat.le_of_ble_eq_true rfl⟩ ⟨Nat.le_of_ble_eq_true rfl, Nat.le_of_ble_eq_true rfl⟩ cls_12 rfl cc_85 rfl rfl rfl (Nat.le_of_ble_eq_true rfl) (Call.of rfl (Nat.le_of_ble_eq_true rfl) rfl ?_)
          refine a_aload_n (pc := 0) (dk dt_X12_fail 0 rfl) rfl ?_
          refine a_geti (pc := 1) (dk dt_X12_fail 1 rfl) cls_12 fl_RX12_312 cf_85_6 ?_
          refine a_if_ge (pc := 4) (dk dt_X12_fail 2 rfl) (tgt := 12) rfl ⟨fun c => ?_, fun c => ?_⟩
          · replace H := H.1 c
            refine a_vret (pc := 12) (dk dt_X12_fail 6 rfl) rfl rfl ?_
            show ATW _ _ _ _ _ _ _ _ _ _
            exact a_pick [0, 2, 3, 4, 5, 6, 7] rfl H
          · replace H := H.2 c
            refine a_aload_n (pc := 7) (dk dt_X12_fail 3 rfl) rfl ?_
            refine a_iload_n (pc := 8) (dk dt_X12_fail 4 rfl) rfl ?_
            refine a_puti (pc := 9) (dk dt_X12_fail 5 rfl) cls_12 fl_RX12_312 cf_85_6 rfl rfl ?_
            refine a_vret (pc := 12) (dk dt_X12_fail 6 rfl) rfl rfl ?_
            show ATW _ _ _ _ _ _ _ _ _ _
            exact a_pick [0, 2, 3, 4, 5, 6, 7] rfl H
        · replace H := H.2 c
          refine a_iconst (pc := 12) (dk dt_X12_isDigit 6 rfl) (ik rfl) ?_
          refine a_goto (pc := 13) (dk dt_X12_isDigit 7 rfl) (tgt := 17) rfl ?_
          refine a_zret (pc := 17) (dk dt_X12_isDigit 9 rfl) rfl rfl ⟨by decide, ?_⟩
          show ATW _ _ _ _ _ _ _ _ _ _
          refine a_if_eq (pc := 66) (dk dt_X12_whole 34 rfl) (tgt := 83) rfl ⟨fun c => absurd c (by decide), fun _ => ?_⟩
          refine a_iload (pc := 69) (dk dt_X12_whole 35 rfl) rfl ?_
          refine a_if_eq (pc := 71) (dk dt_X12_whole 36 rfl) (tgt := 91) rfl ⟨fun _ => ?_, fun c => absurd c (by decide)⟩
          exact a_pick [0, 2, 3, 4, 5, 6, 7] rfl H
    · replace H := H.2 c
      refine a_aload_n (pc := 19) (dk dt_X12_whole 10 rfl) rfl ?_
      refine a_callVi (as := []) (st := []) (pc := 20) (dk dt_X12_whole 11 rfl) cl_RX12_319 ⟨Nat.le_of_ble_eq_true rfl, Nat.le_of_ble_eq_true rfl⟩ ⟨Nat.le_of_ble_eq_true rfl, Nat.le_of_ble_eq_true rfl⟩ cls_12 rfl cc_85 rfl rfl rfl (Nat.le_of_ble_eq_true rfl) (Call.mono H fun r3 h4 H => ?_)
      refine a_bipush (pc := 23) (dk dt_X12_whole 12 rfl) (ik rfl) (bpk rfl) ?_
      refine a_icmp_ne (pc := 25) (dk dt_X12_whole 13 rfl) (tgt := 32) rfl ⟨fun c => ?_, fun c => ?_⟩
      · replace H := H.1 c
        refine a_iconst (pc := 32) (dk dt_X12_whole 16 rfl) (ik rfl) ?_
        refine a_istore (pc := 33) (dk dt_X12_whole 17 rfl) (by decide) rfl rfl ?_
        refine a_iload (pc := 35) (dk dt_X12_whole 18 rfl) rfl ?_
        refine a_if_eq (pc := 37) (dk dt_X12_whole 19 rfl) (tgt := 50) rfl ⟨fun _ => ?_, fun c => absurd c (by decide)⟩
        refine a_aload_n (pc := 50) (dk dt_X12_whole 26 rfl) rfl ?_
        refine a_geti (pc := 51) (dk dt_X12_whole 27 rfl) cls_12 fl_RX12_309 cf_85_5 ?_
        refine a_istore (pc := 54) (dk dt_X12_whole 28 rfl) (by decide) rfl rfl ?_
        refine a_iconst (pc := 56) (dk dt_X12_whole 29 rfl) (ik rfl) ?_
        refine a_istore (pc := 57) (dk dt_X12_whole 30 rfl) (by decide) rfl rfl ?_
        refine a_aload_n (pc := 59) (dk dt_X12_whole 31 rfl) rfl ?_
        refine a_callVi (as := []) (st := []) (pc := 60) (dk dt_X12_whole 32 rfl) cl_RX12_319 ⟨Nat.le_of_ble_eq_true rfl, Nat.le_of_ble_eq_true rfl⟩ ⟨Nat.le_of_ble_eq_true rfl, Nat.le_of_ble_eq_true rfl⟩ cls_12 rfl cc_85 rfl rfl rfl (Nat.le_of_ble_eq_true rfl) (Call.mono H fun r5 h6 H => ?_)
        refine a_callSi (as := [iv r5]) (st := []) (pc := 63) (dk dt_X12_whole 33 rfl) cl_RX12_326 ⟨Nat.le_of_ble_eq_true rfl, Nat.le_of_ble_eq_true rfl⟩ ⟨Nat.le_of_ble_eq_true rfl, Nat.le_of_ble_eq_true rfl⟩ rfl rfl rfl (Nat.le_of_ble_eq_true rfl) (Call.of rfl (Nat.le_of_ble_eq_true rfl) rfl ?_)
        refine a_iload_n (pc := 0) (dk dt_X12_isDigit 0 rfl) rfl ?_
        refine a_bipush (pc := 1) (dk dt_X12_isDigit 1 rfl) (ik rfl) (bpk rfl) ?_
        refine a_icmp_lt (pc := 3) (dk dt_X12_isDigit 2 rfl) (tgt := 16) rfl ⟨fun c => ?_, fun c => ?_⟩
        · replace H := H.1 c
          refine a_iconst (pc := 16) (dk dt_X12_isDigit 8 rfl) (ik rfl) ?_
          refine a_zret (pc := 17) (dk dt_X12_isDigit 9 rfl) rfl rfl ⟨by decide, ?_⟩
          show ATW _ _ _ _ _ _ _ _ _ _
          refine a_if_eq (pc := 66) (dk dt_X12_whole 34 rfl) (tgt := 83) rfl ⟨fun _ => ?_, fun c => absurd c (by decide)⟩
          refine a_aload_n (pc := 83) (dk dt_X12_whole 41 rfl) rfl ?_
          refine a_aload_n (pc := 84) (dk dt_X12_whole 42 rfl) rfl ?_
          refine a_geti (pc := 85) (dk dt_X12_whole 43 rfl) cls_12 fl_RX12_309 cf_85_5 ?_
          refine a_callVv (as := [iv (h6 85 5)]) (st := []) (pc := 88) (dk dt_X12_whole 44 rfl) cl_RX12_323 ⟨Nat.le_of_ble_eq_true rfl, Nat.le_of_ble_eq_true rfl⟩ ⟨Nat.le_of_ble_eq_true rfl, Nat.le_of_ble_eq_true rfl⟩ cls_12 rfl cc_85 rfl rfl rfl (Nat.le_of_ble_eq_true rfl) (Call.of rfl (Nat.le_of_ble_eq_true rfl) rfl ?_)
          refine a_aload_n (pc := 0) (dk dt_X12_fail 0 rfl) rfl ?_
          refine a_geti (pc := 1) (dk dt_X12_fail 1 rfl) cls_12 fl_RX12_312 cf_85_6 ?_
          refine a_if_ge (pc := 4) (dk dt_X12_fail 2 rfl) (tgt := 12) rfl ⟨fun c => ?_, fun c => ?_⟩
          · replace H := H.1 c
            refine a_vret (pc := 12) (dk dt_X12_fail 6 rfl) rfl rfl ?_
            show ATW _ _ _ _ _ _ _ _ _ _
            exact a_pick [0, 2, 3, 4, 5, 6, 7] rfl H
          · replace H := H.2 c
            refine a_aload_n (pc := 7) (dk dt_X12_fail 3 rfl) rfl ?_
            refine a_iload_n (pc := 8) (dk dt_X12_fail 4 rfl) rfl ?_
            refine a_puti (pc := 9) (dk dt_X12_fail 5 rfl) cls_12 fl_RX12_312 cf_85_6 rfl rfl ?_
            refine a_vret (pc := 12) (dk dt_X12_fail 6 rfl) rfl rfl ?_
            show ATW _ _ _ _ _ _ _ _ _ _
            exact a_pick [0, 2, 3, 4, 5, 6, 7] rfl H
        · replace H := H.2 c
          refine a_iload_n (pc := 6) (dk dt_X12_isDigit 3 rfl) rfl ?_
          refine a_bipush (pc := 7) (dk dt_X12_isDigit 4 rfl) (ik rfl) (bpk rfl) ?_
          refine a_icmp_gt (pc := 9) (dk dt_X12_isDigit 5 rfl) (tgt := 16) rfl ⟨fun c => ?_, fun c => ?_⟩
          · replace H := H.1 c
            refine a_iconst (pc := 16) (dk dt_X12_isDigit 8 rfl) (ik rfl) ?_
            refine a_zret (pc := 17) (dk dt_X12_isDigit 9 rfl) rfl rfl ⟨by decide, ?_⟩
            show ATW _ _ _ _ _ _ _ _ _ _
            refine a_if_eq (pc := 66) (dk dt_X12_whole 34 rfl) (tgt := 83) rfl ⟨fun _ => ?_, fun c => absurd c (by decide)⟩
            refine a_aload_n (pc := 83) (dk dt_X12_whole 41 rfl) rfl ?_
            refine a_aload_n (pc := 84) (dk dt_X12_whole 42 rfl) rfl ?_
            refine a_geti (pc := 85) (dk dt_X12_whole 43 rfl) cls_12 fl_RX12_309 cf_85_5 ?_
            refine a_callVv (as := [iv (h6 85 5)]) (st := []) (pc := 88) (dk dt_X12_whole 44 rfl) cl_RX12_323 ⟨Nat.le_of_ble_eq_true rfl, Nat.le_of_ble_eq_true rfl⟩ ⟨Nat.le_of_ble_eq_true rfl, Nat.le_of_ble_eq_true rfl⟩ cls_12 rfl cc_85 rfl rfl rfl (Nat.le_of_ble_eq_true rfl) (Call.of rfl (Nat.le_of_ble_eq_true rfl) rfl ?_)
            refine a_aload_n (pc := 0) (dk dt_X12_fail 0 rfl) rfl ?_
            refine a_geti (pc := 1) (dk dt_X12_fail 1 rfl) cls_12 fl_RX12_312 cf_85_6 ?_
            refine a_if_ge (pc := 4) (dk dt_X12_fail 2 rfl) (tgt := 12) rfl ⟨fun c => ?_, fun c => ?_⟩
            · replace H := H.1 c
              refine a_vret (pc := 12) (dk dt_X12_fail 6 rfl) rfl rfl ?_
              show ATW _ _ _ _ _ _ _ _ _ _
              exact a_pick [0, 2, 3, 4, 5, 6, 7] rfl H
            · replace H := H.2 c
              refine a_aload_n (pc := 7) (dk dt_X12_fail 3 rfl) rfl ?_
              refine a_iload_n (pc := 8) (dk dt_X12_fail 4 rfl) rfl ?_
              refine a_puti (pc := 9) (dk dt_X12_fail 5 rfl) cls_12 fl_RX12_312 cf_85_6 rfl rfl ?_
              refine a_vret (pc := 12) (dk dt_X12_fail 6 rfl) rfl rfl ?_
              show ATW _ _ _ _ _ _ _ _ _ _
              exact a_pick [0, 2, 3, 4, 5, 6, 7] rfl H
          · replace H := H.2 c
            refine a_iconst (pc := 12) (dk dt_X12_isDigit 6 rfl) (ik rfl) ?_
            refine a_goto (pc := 13) (dk dt_X12_isDigit 7 rfl) (tgt := 17) rfl ?_
            refine a_zret (pc := 17) (dk dt_X12_isDigit 9 rfl) rfl rfl ⟨by decide, ?_⟩
            show ATW _ _ _ _ _ _ _ _ _ _
            refine a_if_eq (pc := 66) (dk dt_X12_whole 34 rfl) (tgt := 83) rfl ⟨fun c => absurd c (by decide), fun _ => ?_⟩
            refine a_iload (pc := 69) (dk dt_X12_whole 35 rfl) rfl ?_
            refine a_if_eq (pc := 71) (dk dt_X12_whole 36 rfl) (tgt := 91) rfl ⟨fun _ => ?_, fun c => absurd c (by decide)⟩
            exact a_pick [0, 2, 3, 4, 5, 6, 7] rfl H
      · replace H := H.2 c
        refine a_iconst (pc := 28) (dk dt_X12_whole 14 rfl) (ik rfl) ?_
        refine a_goto (pc := 29) (dk dt_X12_whole 15 rfl) (tgt := 33) rfl ?_
        refine a_istore (pc := 33) (dk dt_X12_whole 17 rfl) (by decide) rfl rfl ?_
        refine a_iload (pc := 35) (dk dt_X12_whole 18 rfl) rfl ?_
        refine a_if_eq (pc := 37) (dk dt_X12_whole 19 rfl) (tgt := 50) rfl ⟨fun c => absurd c (by decide), fun _ => ?_⟩
        refine a_aload_n (pc := 40) (dk dt_X12_whole 20 rfl) rfl ?_
        refine a_dup (pc := 41) (dk dt_X12_whole 21 rfl) rfl ?_
        refine a_geti (pc := 42) (dk dt_X12_whole 22 rfl) cls_12 fl_RX12_309 cf_85_5 ?_
        refine a_iconst (pc := 45) (dk dt_X12_whole 23 rfl) (ik rfl) ?_
        refine a_iadd (pc := 46) (dk dt_X12_whole 24 rfl) ?_
        refine a_puti (pc := 47) (dk dt_X12_whole 25 rfl) cls_12 fl_RX12_309 cf_85_5 rfl rfl ?_
        refine a_aload_n (pc := 50) (dk dt_X12_whole 26 rfl) rfl ?_
        refine a_geti (pc := 51) (dk dt_X12_whole 27 rfl) cls_12 fl_RX12_309 cf_85_5 ?_
        refine a_top (y := (w32 ((h4 85 5) + 1))) (by simp [up, cpy]) ?_
        refine a_istore (pc := 54) (dk dt_X12_whole 28 rfl) (by decide) rfl rfl ?_
        refine a_iconst (pc := 56) (dk dt_X12_whole 29 rfl) (ik rfl) ?_
        refine a_istore (pc := 57) (dk dt_X12_whole 30 rfl) (by decide) rfl rfl ?_
        refine a_aload_n (pc := 59) (dk dt_X12_whole 31 rfl) rfl ?_
        refine a_callVi (as := []) (st := []) (pc := 60) (dk dt_X12_whole 32 rfl) cl_RX12_319 ⟨Nat.le_of_ble_eq_true rfl, Nat.le_of_ble_eq_true rfl⟩ ⟨Nat.le_of_ble_eq_true rfl, Nat.le_of_ble_eq_true rfl⟩ cls_12 rfl cc_85 rfl rfl rfl (Nat.le_of_ble_eq_true rfl) (Call.mono H fun r7 h8 H => ?_)
        refine a_callSi (as := [iv r7]) (st := []) (pc := 63) (dk dt_X12_whole 33 rfl) cl_RX12_326 ⟨Nat.le_of_ble_eq_true rfl, Nat.le_of_ble_eq_true rfl⟩ ⟨Nat.le_of_ble_eq_true rfl, Nat.le_of_ble_eq_true rfl⟩ rfl rfl rfl (Nat.le_of_ble_eq_true rfl) (Call.of rfl (Nat.le_of_ble_eq_true rfl) rfl ?_)
        refine a_iload_n (pc := 0) (dk dt_X12_isDigit 0 rfl) rfl ?_
        refine a_bipush (pc := 1) (dk dt_X12_isDigit 1 rfl) (ik rfl) (bpk rfl) ?_
        refine a_icmp_lt (pc := 3) (dk dt_X12_isDigit 2 rfl) (tgt := 16) rfl ⟨fun c => ?_, fun c => ?_⟩
        · replace H := H.1 c
          refine a_iconst (pc := 16) (dk dt_X12_isDigit 8 rfl) (ik rfl) ?_
          refine a_zret (pc := 17) (dk dt_X12_isDigit 9 rfl) rfl rfl ⟨by decide, ?_⟩
          show ATW _ _ _ _ _ _ _ _ _ _
          refine a_if_eq (pc := 66) (dk dt_X12_whole 34 rfl) (tgt := 83) rfl ⟨fun _ => ?_, fun c => absurd c (by decide)⟩
          refine a_aload_n (pc := 83) (dk dt_X12_whole 41 rfl) rfl ?_
          refine a_aload_n (pc := 84) (dk dt_X12_whole 42 rfl) rfl ?_
          refine a_geti (pc := 85) (dk dt_X12_whole 43 rfl) cls_12 fl_RX12_309 cf_85_5 ?_
          refine a_callVv (as := [iv (h8 85 5)]) (st := []) (pc := 88) (dk dt_X12_whole 44 rfl) cl_RX12_323 ⟨Nat.le_of_ble_eq_true rfl, Nat.le_of_ble_eq_true rfl⟩ ⟨Nat.le_of_ble_eq_true rfl, Nat.le_of_ble_eq_true rfl⟩ cls_12 rfl cc_85 rfl rfl rfl (Nat.le_of_ble_eq_true rfl) (Call.of rfl (Nat.le_of_ble_eq_true rfl) rfl ?_)
          refine a_aload_n (pc := 0) (dk dt_X12_fail 0 rfl) rfl ?_
          refine a_geti (pc := 1) (dk dt_X12_fail 1 rfl) cls_12 fl_RX12_312 cf_85_6 ?_
          refine a_if_ge (pc := 4) (dk dt_X12_fail 2 rfl) (tgt := 12) rfl ⟨fun c => ?_, fun c => ?_⟩
          · replace H := H.1 c
            refine a_vret (pc := 12) (dk dt_X12_fail 6 rfl) rfl rfl ?_
            show ATW _ _ _ _ _ _ _ _ _ _
            exact a_pick [0, 2, 3, 4, 5, 6, 7] rfl H
          · replace H := H.2 c
            refine a_aload_n (pc := 7) (dk dt_X12_fail 3 rfl) rfl ?_
            refine a_iload_n (pc := 8) (dk dt_X12_fail 4 rfl) rfl ?_
            refine a_puti (pc := 9) (dk dt_X12_fail 5 rfl) cls_12 fl_RX12_312 cf_85_6 rfl rfl ?_
            refine a_vret (pc := 12) (dk dt_X12_fail 6 rfl) rfl rfl ?_
            show ATW _ _ _ _ _ _ _ _ _ _
            exact a_pick [0, 2, 3, 4, 5, 6, 7] rfl H
        · replace H := H.2 c
          refine a_iload_n (pc := 6) (dk dt_X12_isDigit 3 rfl) rfl ?_
          refine a_bipush (pc := 7) (dk dt_X12_isDigit 4 rfl) (ik rfl) (bpk rfl) ?_
          refine a_icmp_gt (pc := 9) (dk dt_X12_isDigit 5 rfl) (tgt := 16) rfl ⟨fun c => ?_, fun c => ?_⟩
          · replace H := H.1 c
            refine a_iconst (pc := 16) (dk dt_X12_isDigit 8 rfl) (ik rfl) ?_
            refine a_zret (pc := 17) (dk dt_X12_isDigit 9 rfl) rfl rfl ⟨by decide, ?_⟩
            show ATW _ _ _ _ _ _ _ _ _ _
            refine a_if_eq (pc := 66) (dk dt_X12_whole 34 rfl) (tgt := 83) rfl ⟨fun _ => ?_, fun c => absurd c (by decide)⟩
            refine a_aload_n (pc := 83) (dk dt_X12_whole 41 rfl) rfl ?_
            refine a_aload_n (pc := 84) (dk dt_X12_whole 42 rfl) rfl ?_
            refine a_geti (pc := 85) (dk dt_X12_whole 43 rfl) cls_12 fl_RX12_309 cf_85_5 ?_
            refine a_callVv (as := [iv (h8 85 5)]) (st := []) (pc := 88) (dk dt_X12_whole 44 rfl) cl_RX12_323 ⟨Nat.le_of_ble_eq_true rfl, Nat.le_of_ble_eq_true rfl⟩ ⟨Nat.le_of_ble_eq_true rfl, Nat.le_of_ble_eq_true rfl⟩ cls_12 rfl cc_85 rfl rfl rfl (Nat.le_of_ble_eq_true rfl) (Call.of rfl (Nat.le_of_ble_eq_true rfl) rfl ?_)
            refine a_aload_n (pc := 0) (dk dt_X12_fail 0 rfl) rfl ?_
            refine a_geti (pc := 1) (dk dt_X12_fail 1 rfl) cls_12 fl_RX12_312 cf_85_6 ?_
            refine a_if_ge (pc := 4) (dk dt_X12_fail 2 rfl) (tgt := 12) rfl ⟨fun c => ?_, fun c => ?_⟩
            · replace H := H.1 c
              refine a_vret (pc := 12) (dk dt_X12_fail 6 rfl) rfl rfl ?_
              show ATW _ _ _ _ _ _ _ _ _ _
              exact a_pick [0, 2, 3, 4, 5, 6, 7] rfl H
            · replace H := H.2 c
              refine a_aload_n (pc := 7) (dk dt_X12_fail 3 rfl) rfl ?_
              refine a_iload_n (pc := 8) (dk dt_X12_fail 4 rfl) rfl ?_
              refine a_puti (pc := 9) (dk dt_X12_fail 5 rfl) cls_12 fl_RX12_312 cf_85_6 rfl rfl ?_
              refine a_vret (pc := 12) (dk dt_X12_fail 6 rfl) rfl rfl ?_
              show ATW _ _ _ _ _ _ _ _ _ _
              exact a_pick [0, 2, 3, 4, 5, 6, 7] rfl H
          · replace H := H.2 c
            refine a_iconst (pc := 12) (dk dt_X12_isDigit 6 rfl) (ik rfl) ?_
            refine a_goto (pc := 13) (dk dt_X12_isDigit 7 rfl) (tgt := 17) rfl ?_
            refine a_zret (pc := 17) (dk dt_X12_isDigit 9 rfl) rfl rfl ⟨by decide, ?_⟩
            show ATW _ _ _ _ _ _ _ _ _ _
            refine a_if_eq (pc := 66) (dk dt_X12_whole 34 rfl) (tgt := 83) rfl ⟨fun c => absurd c (by decide), fun _ => ?_⟩
            refine a_iload (pc := 69) (dk dt_X12_whole 35 rfl) rfl ?_
            refine a_if_eq (pc := 71) (dk dt_X12_whole 36 rfl) (tgt := 91) rfl ⟨fun c => absurd c (by decide), fun _ => ?_⟩
            refine a_aload_n (pc := 74) (dk dt_X12_whole 37 rfl) rfl ?_
            refine a_callVi (as := []) (st := []) (pc := 75) (dk dt_X12_whole 38 rfl) cl_RX12_319 ⟨Nat.le_of_ble_eq_true rfl, Nat.le_of_ble_eq_true rfl⟩ ⟨Nat.le_of_ble_eq_true rfl, Nat.le_of_ble_eq_true rfl⟩ cls_12 rfl cc_85 rfl rfl rfl (Nat.le_of_ble_eq_true rfl) (Call.mono H fun r9 h10 H => ?_)
            refine a_bipush (pc := 78) (dk dt_X12_whole 39 rfl) (ik rfl) (bpk rfl) ?_
            refine a_icmp_ne (pc := 80) (dk dt_X12_whole 40 rfl) (tgt := 91) rfl ⟨fun c => ?_, fun c => ?_⟩
            · replace H := H.1 c
              exact a_pick [0, 2, 3, 4, 5, 6, 7] rfl H
            · replace H := H.2 c
              refine a_aload_n (pc := 83) (dk dt_X12_whole 41 rfl) rfl ?_
              refine a_aload_n (pc := 84) (dk dt_X12_whole 42 rfl) rfl ?_
              refine a_geti (pc := 85) (dk dt_X12_whole 43 rfl) cls_12 fl_RX12_309 cf_85_5 ?_
              refine a_callVv (as := [iv (h10 85 5)]) (st := []) (pc := 88) (dk dt_X12_whole 44 rfl) cl_RX12_323 ⟨Nat.le_of_ble_eq_true rfl, Nat.le_of_ble_eq_true rfl⟩ ⟨Nat.le_of_ble_eq_true rfl, Nat.le_of_ble_eq_true rfl⟩ cls_12 rfl cc_85 rfl rfl rfl (Nat.le_of_ble_eq_true rfl) (Call.of rfl (Nat.le_of_ble_eq_true rfl) rfl ?_)
              refine a_aload_n (pc := 0) (dk dt_X12_fail 0 rfl) rfl ?_
              refine a_geti (pc := 1) (dk dt_X12_fail 1 rfl) cls_12 fl_RX12_312 cf_85_6 ?_
              refine a_if_ge (pc := 4) (dk dt_X12_fail 2 rfl) (tgt := 12) rfl ⟨fun c => ?_, fun c => ?_⟩
              · replace H := H.1 c
                refine a_vret (pc := 12) (dk dt_X12_fail 6 rfl) rfl rfl ?_
                show ATW _ _ _ _ _ _ _ _ _ _
                exact a_pick [0, 2, 3, 4, 5, 6, 7] rfl H
              · replace H := H.2 c
                refine a_aload_n (pc := 7) (dk dt_X12_fail 3 rfl) rfl ?_
                refine a_iload_n (pc := 8) (dk dt_X12_fail 4 rfl) rfl ?_
                refine a_puti (pc := 9) (dk dt_X12_fail 5 rfl) cls_12 fl_RX12_312 cf_85_6 rfl rfl ?_
                refine a_vret (pc := 12) (dk dt_X12_fail 6 rfl) rfl rfl ?_
                show ATW _ _ _ _ _ _ _ _ _ _
                exact a_pick [0, 2, 3, 4, 5, 6, 7] rfl H
  · replace H := H.2 c
    refine a_iconst (pc := 7) (dk dt_X12_bad 3 rfl) (ik rfl) ?_
    refine a_goto (pc := 8) (dk dt_X12_bad 4 rfl) (tgt := 12) rfl ?_
    refine a_zret (pc := 12) (dk dt_X12_bad 6 rfl) rfl rfl ⟨by decide, ?_⟩
    show ATW _ _ _ _ _ _ _ _ _ _
    refine a_if_eq (pc := 4) (dk dt_X12_whole 2 rfl) (tgt := 9) rfl ⟨fun c => absurd c (by decide), fun _ => ?_⟩
    refine a_iconst (pc := 7) (dk dt_X12_whole 3 rfl) (ik rfl) ?_
    exact a_iret (pc := 8) (dk dt_X12_whole 4 rfl) rfl rfl H
set_option maxHeartbeats 40000000 in
theorem U_X12_whole_85_91 {G : GG} {Φ : Int → Hp → Prop} {h : Hp} {x2 : Int} {x3 : Int} {x4 : Int} {x5 : Int} {x6 : Int} {x7 : Int} (H : (((h 85 6) < 0 → Call G m_X12_here [rv 85] h (fun r1 h2 => ((r1 < 48 → ((x5 = 0 → (((h2 85 6) < 0 → ((x7 < x2 → ((0 ≤ (h2 85 6) → Φ x7 h2) ∧ ((h2 85 6) < 0 → Φ x7 (up h2 85 6 x4)))) ∧ (x2 ≤ x7 → ((x3 < x7 → ((0 ≤ (h2 85 6) → Φ x7 h2) ∧ ((h2 85 6) < 0 → Φ x7 (up h2 85 6 x4)))) ∧ (x7 ≤ x3 → Φ x7 h2))))) ∧ (0 ≤ (h2 85 6) → Φ x7 h2))) ∧ (x5 ≠ 0 → (((h2 85 6) < 0 → (((w32 (-x7)) < x2 → ((0 ≤ (h2 85 6) → Φ (w32 (-x7)) h2) ∧ ((h2 85 6) < 0 → Φ (w32 (-x7)) (up h2 85 6 x4)))) ∧ (x2 ≤ (w32 (-x7)) → ((x3 < (w32 (-x7)) → ((0 ≤ (h2 85 6) → Φ (w32 (-x7)) h2) ∧ ((h2 85 6) < 0 → Φ (w32 (-x7)) (up h2 85 6 x4)))) ∧ ((w32 (-x7)) ≤ x3 → Φ (w32 (-x7)) h2))))) ∧ (0 ≤ (h2 85 6) → Φ (w32 (-x7)) h2))))) ∧ (48 ≤ r1 → ((57 < r1 → ((x5 = 0 → (((h2 85 6) < 0 → ((x7 < x2 → ((0 ≤ (h2 85 6) → Φ x7 h2) ∧ ((h2 85 6) < 0 → Φ x7 (up h2 85 6 x4)))) ∧ (x2 ≤ x7 → ((x3 < x7 → ((0 ≤ (h2 85 6) → Φ x7 h2) ∧ ((h2 85 6) < 0 → Φ x7 (up h2 85 6 x4)))) ∧ (x7 ≤ x3 → Φ x7 h2))))) ∧ (0 ≤ (h2 85 6) → Φ x7 h2))) ∧ (x5 ≠ 0 → (((h2 85 6) < 0 → (((w32 (-x7)) < x2 → ((0 ≤ (h2 85 6) → Φ (w32 (-x7)) h2) ∧ ((h2 85 6) < 0 → Φ (w32 (-x7)) (up h2 85 6 x4)))) ∧ (x2 ≤ (w32 (-x7)) → ((x3 < (w32 (-x7)) → ((0 ≤ (h2 85 6) → Φ (w32 (-x7)) h2) ∧ ((h2 85 6) < 0 → Φ (w32 (-x7)) (up h2 85 6 x4)))) ∧ ((w32 (-x7)) ≤ x3 → Φ (w32 (-x7)) h2))))) ∧ (0 ≤ (h2 85 6) → Φ (w32 (-x7)) h2))))) ∧ (r1 ≤ 57 → (((w32 ((h2 85 5) - x6)) = 9 → ((0 ≤ (h2 85 6) → AT G m_X12_whole 91 [(0, rv 85), (2, iv x2), (3, iv x3), (4, iv x4), (5, iv x5), (6, iv x6), (7, iv x7)] [] h2 Φ) ∧ ((h2 85 6) < 0 → AT G m_X12_whole 91 [(0, rv 85), (2, iv x2), (3, iv x3), (4, iv x4), (5, iv x5), (6, iv x6), (7, iv x7)] [] (up h2 85 6 (h2 85 5)) Φ))) ∧ ((w32 ((h2 85 5) - x6)) ≠ 9 → (((h2 85 5) ≤ x6 → Call G m_X12_here [rv 85] h2 (fun r3 h4 => AT G m_X12_whole 91 [(0, rv 85), (2, iv x2), (3, iv x3), (4, iv x4), (5, iv x5), (6, iv x6), (7, iv (w32 ((w32 ((w32 (10 * x7)) + r3)) - 48)))] [] (up h4 85 5 (w32 ((h4 85 5) + 1))) Φ)) ∧ (x6 < (h2 85 5) → (0 ≤ x6 ∧ x6 < 1600) ∧ (((h2 87 x6) ≠ 48 → Call G m_X12_here [rv 85] h2 (fun r5 h6 => AT G m_X12_whole 91 [(0, rv 85), (2, iv x2), (3, iv x3), (4, iv x4), (5, iv x5), (6, iv x6), (7, iv (w32 ((w32 ((w32 (10 * x7)) + r5)) - 48)))] [] (up h6 85 5 (w32 ((h6 85 5) + 1))) Φ)) ∧ ((h2 87 x6) = 48 → ((0 ≤ (h2 85 6) → AT G m_X12_whole 91 [(0, rv 85), (2, iv x2), (3, iv x3), (4, iv x4), (5, iv x5), (6, iv x6), (7, iv x7)] [] h2 Φ) ∧ ((h2 85 6) < 0 → AT G m_X12_whole 91 [(0, rv 85), (2, iv x2), (3, iv x3), (4, iv x4), (5, iv x5), (6, iv x6), (7, iv x7)] [] (up h2 85 6 (h2 85 5)) Φ)))))))))))))) ∧ (0 ≤ (h 85 6) → ((x5 = 0 → (((h 85 6) < 0 → ((x7 < x2 → ((0 ≤ (h 85 6) → Φ x7 h) ∧ ((h 85 6) < 0 → Φ x7 (up h 85 6 x4)))) ∧ (x2 ≤ x7 → ((x3 < x7 → ((0 ≤ (h 85 6) → Φ x7 h) ∧ ((h 85 6) < 0 → Φ x7 (up h 85 6 x4)))) ∧ (x7 ≤ x3 → Φ x7 h))))) ∧ (0 ≤ (h 85 6) → Φ x7 h))) ∧ (x5 ≠ 0 → (((h 85 6) < 0 → (((w32 (-x7)) < x2 → ((0 ≤ (h 85 6) → Φ (w32 (-x7)) h) ∧ ((h 85 6) < 0 → Φ (w32 (-x7)) (up h 85 6 x4)))) ∧ (x2 ≤ (w32 (-x7)) → ((x3 < (w32 (-x7)) → ((0 ≤ (h 85 6) → Φ (w32 (-x7)) h) ∧ ((h 85 6) < 0 → Φ (w32 (-x7)) (up h 85 6 x4)))) ∧ ((w32 (-x7)) ≤ x3 → Φ (w32 (-x7)) h))))) ∧ (0 ≤ (h 85 6) → Φ (w32 (-x7)) h))))))) : AT G m_X12_whole 91 [(0, rv 85), (2, iv x2), (3, iv x3), (4, iv x4), (5, iv x5), (6, iv x6), (7, iv x7)] [] h Φ := by
  refine a_aload_n (pc := 91) (dk dt_X12_whole 45 rfl) rfl ?_
  refine a_callVi (as := []) (st := []) (pc := 92) (dk dt_X12_whole 46 rfl) cl_RX12_315 ⟨Nat.le_of_ble_eq_true rfl, Nat.le_of_ble_eq_true rfl⟩ ⟨Nat.le_of_ble_eq_true rfl, Nat.le_of_ble_eq_true rfl⟩ cls_12 rfl cc_85 rfl rfl rfl (Nat.le_of_ble_eq_true rfl) (Call.of rfl (Nat.le_of_ble_eq_true rfl) rfl ?_)
  refine a_aload_n (pc := 0) (dk dt_X12_bad 0 rfl) rfl ?_
  refine a_geti (pc := 1) (dk dt_X12_bad 1 rfl) cls_12 fl_RX12_312 cf_85_6 ?_
  refine a_if_lt (pc := 4) (dk dt_X12_bad 2 rfl) (tgt := 11) rfl ⟨fun c => ?_, fun c => ?_⟩
  · replace H := H.1 c
    refine a_iconst (pc := 11) (dk dt_X12_bad 5 rfl) (ik rfl) ?_
    refine a_zret (pc := 12) (dk dt_X12_bad 6 rfl) rfl rfl ⟨by decide, ?_⟩
    show ATW _ _ _ _ _ _ _ _ _ _
    refine a_if_ne (pc := 95) (dk dt_X12_whole 47 rfl) (tgt := 180) rfl ⟨fun c => absurd c (by decide), fun _ => ?_⟩
    refine a_aload_n (pc := 98) (dk dt_X12_whole 48 rfl) rfl ?_
    refine a_callVi (as := []) (st := []) (pc := 99) (dk dt_X12_whole 49 rfl) cl_RX12_319 ⟨Nat.le_of_ble_eq_true rfl, Nat.le_of_ble_eq_true rfl⟩ ⟨Nat.le_of_ble_eq_true rfl, Nat.le_of_ble_eq_true rfl⟩ cls_12 rfl cc_85 rfl rfl rfl (Nat.le_of_ble_eq_true rfl) (Call.mono H fun r1 h2 H => ?_)
    refine a_callSi (as := [iv r1]) (st := []) (pc := 102) (dk dt_X12_whole 50 rfl) cl_RX12_326 ⟨Nat.le_of_ble_eq_true rfl, Nat.le_of_ble_eq_true rfl⟩ ⟨Nat.le_of_ble_eq_true rfl, Nat.le_of_ble_eq_true rfl⟩ rfl rfl rfl (Nat.le_of_ble_eq_true rfl) (Call.of rfl (Nat.le_of_ble_eq_true rfl) rfl ?_)
    refine a_iload_n (pc := 0) (dk dt_X12_isDigit 0 rfl) rfl ?_
    refine a_bipush (pc := 1) (dk dt_X12_isDigit 1 rfl) (ik rfl) (bpk rfl) ?_
    refine a_icmp_lt (pc := 3) (dk dt_X12_isDigit 2 rfl) (tgt := 16) rfl ⟨fun c => ?_, fun c => ?_⟩
    · replace H := H.1 c
      refine a_iconst (pc := 16) (dk dt_X12_isDigit 8 rfl) (ik rfl) ?_
      refine a_zret (pc := 17) (dk dt_X12_isDigit 9 rfl) rfl rfl ⟨by decide, ?_⟩
      show ATW _ _ _ _ _ _ _ _ _ _
      refine a_if_eq (pc := 105) (dk dt_X12_whole 51 rfl) (tgt := 180) rfl ⟨fun _ => ?_, fun c => absurd c (by decide)⟩
      refine a_iload (pc := 180) (dk dt_X12_whole 89 rfl) rfl ?_
      refine a_if_eq (pc := 182) (dk dt_X12_whole 90 rfl) (tgt := 191) rfl ⟨fun c => ?_, fun c => ?_⟩
      · replace H := H.1 c
        refine a_iload (pc := 191) (dk dt_X12_whole 94 rfl) rfl ?_
        refine a_istore (pc := 193) (dk dt_X12_whole 95 rfl) (by decide) rfl rfl ?_
        refine a_aload_n (pc := 195) (dk dt_X12_whole 96 rfl) rfl ?_
        refine a_callVi (as := []) (st := []) (pc := 196) (dk dt_X12_whole 97 rfl) cl_RX12_315 ⟨Nat.le_of_ble_eq_true rfl, Nat.le_of_ble_eq_true rfl⟩ ⟨Nat.le_of_ble_eq_true rfl, Nat.le_of_ble_eq_true rfl⟩ cls_12 rfl cc_85 rfl rfl rfl (Nat.le_of_ble_eq_true rfl) (Call.of rfl (Nat.le_of_ble_eq_true rfl) rfl ?_)
        refine a_aload_n (pc := 0) (dk dt_X12_bad 0 rfl) rfl ?_
        refine a_geti (pc := 1) (dk dt_X12_bad 1 rfl) cls_12 fl_RX12_312 cf_85_6 ?_
        refine a_if_lt (pc := 4) (dk dt_X12_bad 2 rfl) (tgt := 11) rfl ⟨fun c => ?_, fun c => ?_⟩
        · replace H := H.1 c
          refine a_iconst (pc := 11) (dk dt_X12_bad 5 rfl) (ik rfl) ?_
          refine a_zret (pc := 12) (dk dt_X12_bad 6 rfl) rfl rfl ⟨by decide, ?_⟩
          show ATW _ _ _ _ _ _ _ _ _ _
          refine a_if_ne (pc := 199) (dk dt_X12_whole 98 rfl) (tgt := 218) rfl ⟨fun c => absurd c (by decide), fun _ => ?_⟩
          refine a_iload (pc := 202) (dk dt_X12_whole 99 rfl) rfl ?_
          refine a_iload_n (pc := 204) (dk dt_X12_whole 100 rfl) rfl ?_
          refine a_iload_n (pc := 205) (dk dt_X12_whole 101 rfl) rfl ?_
          refine a_callSi (as := [iv x7, iv x2, iv x3]) (st := []) (pc := 206) (dk dt_X12_whole 102 rfl) cl_RX12_302 ⟨Nat.le_of_ble_eq_true rfl, Nat.le_of_ble_eq_true rfl⟩ ⟨Nat.le_of_ble_eq_true rfl, Nat.le_of_ble_eq_true rfl⟩ rfl rfl rfl (Nat.le_of_ble_eq_true rfl) (Call.of rfl (Nat.le_of_ble_eq_true rfl) rfl ?_)
          refine a_iload_n (pc := 0) (dk dt_X12_is 0 rfl) rfl ?_
          refine a_iload_n (pc := 1) (dk dt_X12_is 1 rfl) rfl ?_
          refine a_icmp_lt (pc := 2) (dk dt_X12_is 2 rfl) (tgt := 14) rfl ⟨fun c => ?_, fun c => ?_⟩
          · replace H := H.1 c
            refine a_iconst (pc := 14) (dk dt_X12_is 8 rfl) (ik rfl) ?_
            refine a_zret (pc := 15) (dk dt_X12_is 9 rfl) rfl rfl ⟨by decide, ?_⟩
            show ATW _ _ _ _ _ _ _ _ _ _
            refine a_if_ne (pc := 209) (dk dt_X12_whole 103 rfl) (tgt := 218) rfl ⟨fun c => absurd c (by decide), fun _ => ?_⟩
            refine a_aload_n (pc := 212) (dk dt_X12_whole 104 rfl) rfl ?_
            refine a_iload (pc := 213) (dk dt_X12_whole 105 rfl) rfl ?_
            refine a_callVv (as := [iv x4]) (st := []) (pc := 215) (dk dt_X12_whole 106 rfl) cl_RX12_323 ⟨Nat.le_of_ble_eq_true rfl, Nat.le_of_ble_eq_true rfl⟩ ⟨Nat.le_of_ble_eq_true rfl, Nat.le_of_ble_eq_true rfl⟩ cls_12 rfl cc_85 rfl rfl rfl (Nat.le_of_ble_eq_true rfl) (Call.of rfl (Nat.le_of_ble_eq_true rfl) rfl ?_)
            refine a_aload_n (pc := 0) (dk dt_X12_fail 0 rfl) rfl ?_
            refine a_geti (pc := 1) (dk dt_X12_fail 1 rfl) cls_12 fl_RX12_312 cf_85_6 ?_
            refine a_if_ge (pc := 4) (dk dt_X12_fail 2 rfl) (tgt := 12) rfl ⟨fun c => ?_, fun c => ?_⟩
            · replace H := H.1 c
              refine a_vret (pc := 12) (dk dt_X12_fail 6 rfl) rfl rfl ?_
              show ATW _ _ _ _ _ _ _ _ _ _
              refine a_iload (pc := 218) (dk dt_X12_whole 107 rfl) rfl ?_
              exact a_iret (pc := 220) (dk dt_X12_whole 108 rfl) rfl rfl H
            · replace H := H.2 c
              refine a_aload_n (pc := 7) (dk dt_X12_fail 3 rfl) rfl ?_
              refine a_iload_n (pc := 8) (dk dt_X12_fail 4 rfl) rfl ?_
              refine a_puti (pc := 9) (dk dt_X12_fail 5 rfl) cls_12 fl_RX12_312 cf_85_6 rfl rfl ?_
              refine a_vret (pc := 12) (dk dt_X12_fail 6 rfl) rfl rfl ?_
              show ATW _ _ _ _ _ _ _ _ _ _
              refine a_iload (pc := 218) (dk dt_X12_whole 107 rfl) rfl ?_
              exact a_iret (pc := 220) (dk dt_X12_whole 108 rfl) rfl rfl H
          · replace H := H.2 c
            refine a_iload_n (pc := 5) (dk dt_X12_is 3 rfl) rfl ?_
            refine a_iload_n (pc := 6) (dk dt_X12_is 4 rfl) rfl ?_
            refine a_icmp_gt (pc := 7) (dk dt_X12_is 5 rfl) (tgt := 14) rfl ⟨fun c => ?_, fun c => ?_⟩
            · replace H := H.1 c
              refine a_iconst (pc := 14) (dk dt_X12_is 8 rfl) (ik rfl) ?_
              refine a_zret (pc := 15) (dk dt_X12_is 9 rfl) rfl rfl ⟨by decide, ?_⟩
              show ATW _ _ _ _ _ _ _ _ _ _
              refine a_if_ne (pc := 209) (dk dt_X12_whole 103 rfl) (tgt := 218) rfl ⟨fun c => absurd c (by decide), fun _ => ?_⟩
              refine a_aload_n (pc := 212) (dk dt_X12_whole 104 rfl) rfl ?_
              refine a_iload (pc := 213) (dk dt_X12_whole 105 rfl) rfl ?_
              refine a_callVv (as := [iv x4]) (st := []) (pc := 215) (dk dt_X12_whole 106 rfl) cl_RX12_323 ⟨Nat.le_of_ble_eq_true rfl, Nat.le_of_ble_eq_true rfl⟩ ⟨Nat.le_of_ble_eq_true rfl, Nat.le_of_ble_eq_true rfl⟩ cls_12 rfl cc_85 rfl rfl rfl (Nat.le_of_ble_eq_true rfl) (Call.of rfl (Nat.le_of_ble_eq_true rfl) rfl ?_)
              refine a_aload_n (pc := 0) (dk dt_X12_fail 0 rfl) rfl ?_
              refine a_geti (pc := 1) (dk dt_X12_fail 1 rfl) cls_12 fl_RX12_312 cf_85_6 ?_
              refine a_if_ge (pc := 4) (dk dt_X12_fail 2 rfl) (tgt := 12) rfl ⟨fun c => ?_, fun c => ?_⟩
              · replace H := H.1 c
                refine a_vret (pc := 12) (dk dt_X12_fail 6 rfl) rfl rfl ?_
                show ATW _ _ _ _ _ _ _ _ _ _
                refine a_iload (pc := 218) (dk dt_X12_whole 107 rfl) rfl ?_
                exact a_iret (pc := 220) (dk dt_X12_whole 108 rfl) rfl rfl H
              · replace H := H.2 c
                refine a_aload_n (pc := 7) (dk dt_X12_fail 3 rfl) rfl ?_
                refine a_iload_n (pc := 8) (dk dt_X12_fail 4 rfl) rfl ?_
                refine a_puti (pc := 9) (dk dt_X12_fail 5 rfl) cls_12 fl_RX12_312 cf_85_6 rfl rfl ?_
                refine a_vret (pc := 12) (dk dt_X12_fail 6 rfl) rfl rfl ?_
                show ATW _ _ _ _ _ _ _ _ _ _
                refine a_iload (pc := 218) (dk dt_X12_whole 107 rfl) rfl ?_
                exact a_iret (pc := 220) (dk dt_X12_whole 108 rfl) rfl rfl H
            · replace H := H.2 c
              refine a_iconst (pc := 10) (dk dt_X12_is 6 rfl) (ik rfl) ?_
              refine a_goto (pc := 11) (dk dt_X12_is 7 rfl) (tgt := 15) rfl ?_
              refine a_zret (pc := 15) (dk dt_X12_is 9 rfl) rfl rfl ⟨by decide, ?_⟩
              show ATW _ _ _ _ _ _ _ _ _ _
              refine a_if_ne (pc := 209) (dk dt_X12_whole 103 rfl) (tgt := 218) rfl ⟨fun _ => ?_, fun c => absurd c (by decide)⟩
              refine a_iload (pc := 218) (dk dt_X12_whole 107 rfl) rfl ?_
              exact a_iret (pc := 220) (dk dt_X12_whole 108 rfl) rfl rfl H
        · replace H := H.2 c
          refine a_iconst (pc := 7) (dk dt_X12_bad 3 rfl) (ik rfl) ?_
          refine a_goto (pc := 8) (dk dt_X12_bad 4 rfl) (tgt := 12) rfl ?_
          refine a_zret (pc := 12) (dk dt_X12_bad 6 rfl) rfl rfl ⟨by decide, ?_⟩
          show ATW _ _ _ _ _ _ _ _ _ _
          refine a_if_ne (pc := 199) (dk dt_X12_whole 98 rfl) (tgt := 218) rfl ⟨fun _ => ?_, fun c => absurd c (by decide)⟩
          refine a_iload (pc := 218) (dk dt_X12_whole 107 rfl) rfl ?_
          exact a_iret (pc := 220) (dk dt_X12_whole 108 rfl) rfl rfl H
      · replace H := H.2 c
        refine a_iload (pc := 185) (dk dt_X12_whole 91 rfl) rfl ?_
        refine a_ineg (pc := 187) (dk dt_X12_whole 92 rfl) ?_
        refine a_goto (pc := 188) (dk dt_X12_whole 93 rfl) (tgt := 193) rfl ?_
        refine a_istore (pc := 193) (dk dt_X12_whole 95 rfl) (by decide) rfl rfl ?_
        refine a_aload_n (pc := 195) (dk dt_X12_whole 96 rfl) rfl ?_
        refine a_callVi (as := []) (st := []) (pc := 196) (dk dt_X12_whole 97 rfl) cl_RX12_315 ⟨Nat.le_of_ble_eq_true rfl, Nat.le_of_ble_eq_true rfl⟩ ⟨Nat.le_of_ble_eq_true rfl, Nat.le_of_ble_eq_true rfl⟩ cls_12 rfl cc_85 rfl rfl rfl (Nat.le_of_ble_eq_true rfl) (Call.of rfl (Nat.le_of_ble_eq_true rfl) rfl ?_)
        refine a_aload_n (pc := 0) (dk dt_X12_bad 0 rfl) rfl ?_
        refine a_geti (pc := 1) (dk dt_X12_bad 1 rfl) cls_12 fl_RX12_312 cf_85_6 ?_
        refine a_if_lt (pc := 4) (dk dt_X12_bad 2 rfl) (tgt := 11) rfl ⟨fun c => ?_, fun c => ?_⟩
        · replace H := H.1 c
          refine a_iconst (pc := 11) (dk dt_X12_bad 5 rfl) (ik rfl) ?_
          refine a_zret (pc := 12) (dk dt_X12_bad 6 rfl) rfl rfl ⟨by decide, ?_⟩
          show ATW _ _ _ _ _ _ _ _ _ _
          refine a_if_ne (pc := 199) (dk dt_X12_whole 98 rfl) (tgt := 218) rfl ⟨fun c => absurd c (by decide), fun _ => ?_⟩
          refine a_iload (pc := 202) (dk dt_X12_whole 99 rfl) rfl ?_
          refine a_iload_n (pc := 204) (dk dt_X12_whole 100 rfl) rfl ?_
          refine a_iload_n (pc := 205) (dk dt_X12_whole 101 rfl) rfl ?_
          refine a_callSi (as := [iv (w32 (-x7)), iv x2, iv x3]) (st := []) (pc := 206) (dk dt_X12_whole 102 rfl) cl_RX12_302 ⟨Nat.le_of_ble_eq_true rfl, Nat.le_of_ble_eq_true rfl⟩ ⟨Nat.le_of_ble_eq_true rfl, Nat.le_of_ble_eq_true rfl⟩ rfl rfl rfl (Nat.le_of_ble_eq_true rfl) (Call.of rfl (Nat.le_of_ble_eq_true rfl) rfl ?_)
          refine a_iload_n (pc := 0) (dk dt_X12_is 0 rfl) rfl ?_
          refine a_iload_n (pc := 1) (dk dt_X12_is 1 rfl) rfl ?_
          refine a_icmp_lt (pc := 2) (dk dt_X12_is 2 rfl) (tgt := 14) rfl ⟨fun c => ?_, fun c => ?_⟩
          · replace H := H.1 c
            refine a_iconst (pc := 14) (dk dt_X12_is 8 rfl) (ik rfl) ?_
            refine a_zret (pc := 15) (dk dt_X12_is 9 rfl) rfl rfl ⟨by decide, ?_⟩
            show ATW _ _ _ _ _ _ _ _ _ _
            refine a_if_ne (pc := 209) (dk dt_X12_whole 103 rfl) (tgt := 218) rfl ⟨fun c => absurd c (by decide), fun _ => ?_⟩
            refine a_aload_n (pc := 212) (dk dt_X12_whole 104 rfl) rfl ?_
            refine a_iload (pc := 213) (dk dt_X12_whole 105 rfl) rfl ?_
            refine a_callVv (as := [iv x4]) (st := []) (pc := 215) (dk dt_X12_whole 106 rfl) cl_RX12_323 ⟨Nat.le_of_ble_eq_true rfl, Nat.le_of_ble_eq_true rfl⟩ ⟨Nat.le_of_ble_eq_true rfl, Nat.le_of_ble_eq_true rfl⟩ cls_12 rfl cc_85 rfl rfl rfl (Nat.le_of_ble_eq_true rfl) (Call.of rfl (Nat.le_of_ble_eq_true rfl) rfl ?_)
            refine a_aload_n (pc := 0) (dk dt_X12_fail 0 rfl) rfl ?_
            refine a_geti (pc := 1) (dk dt_X12_fail 1 rfl) cls_12 fl_RX12_312 cf_85_6 ?_
            refine a_if_ge (pc := 4) (dk dt_X12_fail 2 rfl) (tgt := 12) rfl ⟨fun c => ?_, fun c => ?_⟩
            · replace H := H.1 c
              refine a_vret (pc := 12) (dk dt_X12_fail 6 rfl) rfl rfl ?_
              show ATW _ _ _ _ _ _ _ _ _ _
              refine a_iload (pc := 218) (dk dt_X12_whole 107 rfl) rfl ?_
              exact a_iret (pc := 220) (dk dt_X12_whole 108 rfl) rfl rfl H
            · replace H := H.2 c
              refine a_aload_n (pc := 7) (dk dt_X12_fail 3 rfl) rfl ?_
              refine a_iload_n (pc := 8) (dk dt_X12_fail 4 rfl) rfl ?_
              refine a_puti (pc := 9) (dk dt_X12_fail 5 rfl) cls_12 fl_RX12_312 cf_85_6 rfl rfl ?_
              refine a_vret (pc := 12) (dk dt_X12_fail 6 rfl) rfl rfl ?_
              show ATW _ _ _ _ _ _ _ _ _ _
              refine a_iload (pc := 218) (dk dt_X12_whole 107 rfl) rfl ?_
              exact a_iret (pc := 220) (dk dt_X12_whole 108 rfl) rfl rfl H
          · replace H := H.2 c
            refine a_iload_n (pc := 5) (dk dt_X12_is 3 rfl) rfl ?_
            refine a_iload_n (pc := 6) (dk dt_X12_is 4 rfl) rfl ?_
            refine a_icmp_gt (pc := 7) (dk dt_X12_is 5 rfl) (tgt := 14) rfl ⟨fun c => ?_, fun c => ?_⟩
            · replace H := H.1 c
              refine a_iconst (pc := 14) (dk dt_X12_is 8 rfl) (ik rfl) ?_
              refine a_zret (pc := 15) (dk dt_X12_is 9 rfl) rfl rfl ⟨by decide, ?_⟩
              show ATW _ _ _ _ _ _ _ _ _ _
              refine a_if_ne (pc := 209) (dk dt_X12_whole 103 rfl) (tgt := 218) rfl ⟨fun c => absurd c (by decide), fun _ => ?_⟩
              refine a_aload_n (pc := 212) (dk dt_X12_whole 104 rfl) rfl ?_
              refine a_iload (pc := 213) (dk dt_X12_whole 105 rfl) rfl ?_
              refine a_callVv (as := [iv x4]) (st := []) (pc := 215) (dk dt_X12_whole 106 rfl) cl_RX12_323 ⟨Nat.le_of_ble_eq_true rfl, Nat.le_of_ble_eq_true rfl⟩ ⟨Nat.le_of_ble_eq_true rfl, Nat.le_of_ble_eq_true rfl⟩ cls_12 rfl cc_85 rfl rfl rfl (Nat.le_of_ble_eq_true rfl) (Call.of rfl (Nat.le_of_ble_eq_true rfl) rfl ?_)
              refine a_aload_n (pc := 0) (dk dt_X12_fail 0 rfl) rfl ?_
              refine a_geti (pc := 1) (dk dt_X12_fail 1 rfl) cls_12 fl_RX12_312 cf_85_6 ?_
              refine a_if_ge (pc := 4) (dk dt_X12_fail 2 rfl) (tgt := 12) rfl ⟨fun c => ?_, fun c => ?_⟩
              · replace H := H.1 c
                refine a_vret (pc := 12) (dk dt_X12_fail 6 rfl) rfl rfl ?_
                show ATW _ _ _ _ _ _ _ _ _ _
                refine a_iload (pc := 218) (dk dt_X12_whole 107 rfl) rfl ?_
                exact a_iret (pc := 220) (dk dt_X12_whole 108 rfl) rfl rfl H
              · replace H := H.2 c
                refine a_aload_n (pc := 7) (dk dt_X12_fail 3 rfl) rfl ?_
                refine a_iload_n (pc := 8) (dk dt_X12_fail 4 rfl) rfl ?_
                refine a_puti (pc := 9) (dk dt_X12_fail 5 rfl) cls_12 fl_RX12_312 cf_85_6 rfl rfl ?_
                refine a_vret (pc := 12) (dk dt_X12_fail 6 rfl) rfl rfl ?_
                show ATW _ _ _ _ _ _ _ _ _ _
                refine a_iload (pc := 218) (dk dt_X12_whole 107 rfl) rfl ?_
                exact a_iret (pc := 220) (dk dt_X12_whole 108 rfl) rfl rfl H
            · replace H := H.2 c
              refine a_iconst (pc := 10) (dk dt_X12_is 6 rfl) (ik rfl) ?_
              refine a_goto (pc := 11) (dk dt_X12_is 7 rfl) (tgt := 15) rfl ?_
              refine a_zret (pc := 15) (dk dt_X12_is 9 rfl) rfl rfl ⟨by decide, ?_⟩
              show ATW _ _ _ _ _ _ _ _ _ _
              refine a_if_ne (pc := 209) (dk dt_X12_whole 103 rfl) (tgt := 218) rfl ⟨fun _ => ?_, fun c => absurd c (by decide)⟩
              refine a_iload (pc := 218) (dk dt_X12_whole 107 rfl) rfl ?_
              exact a_iret (pc := 220) (dk dt_X12_whole 108 rfl) rfl rfl H
        · replace H := H.2 c
          refine a_iconst (pc := 7) (dk dt_X12_bad 3 rfl) (ik rfl) ?_
          refine a_goto (pc := 8) (dk dt_X12_bad 4 rfl) (tgt := 12) rfl ?_
          refine a_zret (pc := 12) (dk dt_X12_bad 6 rfl) rfl rfl ⟨by decide, ?_⟩
          show ATW _ _ _ _ _ _ _ _ _ _
          refine a_if_ne (pc := 199) (dk dt_X12_whole 98 rfl) (tgt := 218) rfl ⟨fun _ => ?_, fun c => absurd c (by decide)⟩
          refine a_iload (pc := 218) (dk dt_X12_whole 107 rfl) rfl ?_
          exact a_iret (pc := 220) (dk dt_X12_whole 108 rfl) rfl rfl H
    · replace H := H.2 c
      refine a_iload_n (pc := 6) (dk dt_X12_isDigit 3 rfl) rfl ?_
      refine a_bipush (pc := 7) (dk dt_X12_isDigit 4 rfl) (ik rfl) (bpk rfl) ?_
      refine a_icmp_gt (pc := 9) (dk dt_X12_isDigit 5 rfl) (tgt := 16) rfl ⟨fun c => ?_, fun c => ?_⟩
      · replace H := H.1 c
        refine a_iconst (pc := 16) (dk dt_X12_isDigit 8 rfl) (ik rfl) ?_
        refine a_zret (pc := 17) (dk dt_X12_isDigit 9 rfl) rfl rfl ⟨by decide, ?_⟩
        show ATW _ _ _ _ _ _ _ _ _ _
        refine a_if_eq (pc := 105) (dk dt_X12_whole 51 rfl) (tgt := 180) rfl ⟨fun _ => ?_, fun c => absurd c (by decide)⟩
        refine a_iload (pc := 180) (dk dt_X12_whole 89 rfl) rfl ?_
        refine a_if_eq (pc := 182) (dk dt_X12_whole 90 rfl) (tgt := 191) rfl ⟨fun c => ?_, fun c => ?_⟩
        · replace H := H.1 c
          refine a_iload (pc := 191) (dk dt_X12_whole 94 rfl) rfl ?_
          refine a_istore (pc := 193) (dk dt_X12_whole 95 rfl) (by decide) rfl rfl ?_
          refine a_aload_n (pc := 195) (dk dt_X12_whole 96 rfl) rfl ?_
          refine a_callVi (as := []) (st := []) (pc := 196) (dk dt_X12_whole 97 rfl) cl_RX12_315 ⟨Nat.le_of_ble_eq_true rfl, Nat.le_of_ble_eq_true rfl⟩ ⟨Nat.le_of_ble_eq_true rfl, Nat.le_of_ble_eq_true rfl⟩ cls_12 rfl cc_85 rfl rfl rfl (Nat.le_of_ble_eq_true rfl) (Call.of rfl (Nat.le_of_ble_eq_true rfl) rfl ?_)
          refine a_aload_n (pc := 0) (dk dt_X12_bad 0 rfl) rfl ?_
          refine a_geti (pc := 1) (dk dt_X12_bad 1 rfl) cls_12 fl_RX12_312 cf_85_6 ?_
          refine a_if_lt (pc := 4) (dk dt_X12_bad 2 rfl) (tgt := 11) rfl ⟨fun c => ?_, fun c => ?_⟩
          · replace H := H.1 c
            refine a_iconst (pc := 11) (dk dt_X12_bad 5 rfl) (ik rfl) ?_
            refine a_zret (pc := 12) (dk dt_X12_bad 6 rfl) rfl rfl ⟨by decide, ?_⟩
            show ATW _ _ _ _ _ _ _ _ _ _
            refine a_if_ne (pc := 199) (dk dt_X12_whole 98 rfl) (tgt := 218) rfl ⟨fun c => absurd c (by decide), fun _ => ?_⟩
            refine a_iload (pc := 202) (dk dt_X12_whole 99 rfl) rfl ?_
            refine a_iload_n (pc := 204) (dk dt_X12_whole 100 rfl) rfl ?_
            refine a_iload_n (pc := 205) (dk dt_X12_whole 101 rfl) rfl ?_
            refine a_callSi (as := [iv x7, iv x2, iv x3]) (st := []) (pc := 206) (dk dt_X12_whole 102 rfl) cl_RX12_302 ⟨Nat.le_of_ble_eq_true rfl, Nat.le_of_ble_eq_true rfl⟩ ⟨Nat.le_of_ble_eq_true rfl, Nat.le_of_ble_eq_true rfl⟩ rfl rfl rfl (Nat.le_of_ble_eq_true rfl) (Call.of rfl (Nat.le_of_ble_eq_true rfl) rfl ?_)
            refine a_iload_n (pc := 0) (dk dt_X12_is 0 rfl) rfl ?_
            refine a_iload_n (pc := 1) (dk dt_X12_is 1 rfl) rfl ?_
            refine a_icmp_lt (pc := 2) (dk dt_X12_is 2 rfl) (tgt := 14) rfl ⟨fun c => ?_, fun c => ?_⟩
            · replace H := H.1 c
              refine a_iconst (pc := 14) (dk dt_X12_is 8 rfl) (ik rfl) ?_
              refine a_zret (pc := 15) (dk dt_X12_is 9 rfl) rfl rfl ⟨by decide, ?_⟩
              show ATW _ _ _ _ _ _ _ _ _ _
              refine a_if_ne (pc := 209) (dk dt_X12_whole 103 rfl) (tgt := 218) rfl ⟨fun c => absurd c (by decide), fun _ => ?_⟩
              refine a_aload_n (pc := 212) (dk dt_X12_whole 104 rfl) rfl ?_
              refine a_iload (pc := 213) (dk dt_X12_whole 105 rfl) rfl ?_
              refine a_callVv (as := [iv x4]) (st := []) (pc := 215) (dk dt_X12_whole 106 rfl) cl_RX12_323 ⟨Nat.le_of_ble_eq_true rfl, Nat.le_of_ble_eq_true rfl⟩ ⟨Nat.le_of_ble_eq_true rfl, Nat.le_of_ble_eq_true rfl⟩ cls_12 rfl cc_85 rfl rfl rfl (Nat.le_of_ble_eq_true rfl) (Call.of rfl (Nat.le_of_ble_eq_true rfl) rfl ?_)
              refine a_aload_n (pc := 0) (dk dt_X12_fail 0 rfl) rfl ?_
              refine a_geti (pc := 1) (dk dt_X12_fail 1 rfl) cls_12 fl_RX12_312 cf_85_6 ?_
              refine a_if_ge (pc := 4) (dk dt_X12_fail 2 rfl) (tgt := 12) rfl ⟨fun c => ?_, fun c => ?_⟩
              · replace H := H.1 c
                refine a_vret (pc := 12) (dk dt_X12_fail 6 rfl) rfl rfl ?_
                show ATW _ _ _ _ _ _ _ _ _ _
                refine a_iload (pc := 218) (dk dt_X12_whole 107 rfl) rfl ?_
                exact a_iret (pc := 220) (dk dt_X12_whole 108 rfl) rfl rfl H
              · replace H := H.2 c
                refine a_aload_n (pc := 7) (dk dt_X12_fail 3 rfl) rfl ?_
                refine a_iload_n (pc := 8) (dk dt_X12_fail 4 rfl) rfl ?_
                refine a_puti (pc := 9) (dk dt_X12_fail 5 rfl) cls_12 fl_RX12_312 cf_85_6 rfl rfl ?_
                refine a_vret (pc := 12) (dk dt_X12_fail 6 rfl) rfl rfl ?_
                show ATW _ _ _ _ _ _ _ _ _ _
                refine a_iload (pc := 218) (dk dt_X12_whole 107 rfl) rfl ?_
                exact a_iret (pc := 220) (dk dt_X12_whole 108 rfl) rfl rfl H
            · replace H := H.2 c
              refine a_iload_n (pc := 5) (dk dt_X12_is 3 rfl) rfl ?_
              refine a_iload_n (pc := 6) (dk dt_X12_is 4 rfl) rfl ?_
              refine a_icmp_gt (pc := 7) (dk dt_X12_is 5 rfl) (tgt := 14) rfl ⟨fun c => ?_, fun c => ?_⟩
              · replace H := H.1 c
                refine a_iconst (pc := 14) (dk dt_X12_is 8 rfl) (ik rfl) ?_
                refine a_zret (pc := 15) (dk dt_X12_is 9 rfl) rfl rfl ⟨by decide, ?_⟩
                show ATW _ _ _ _ _ _ _ _ _ _
                refine a_if_ne (pc := 209) (dk dt_X12_whole 103 rfl) (tgt := 218) rfl ⟨fun c => absurd c (by decide), fun _ => ?_⟩
                refine a_aload_n (pc := 212) (dk dt_X12_whole 104 rfl) rfl ?_
                refine a_iload (pc := 213) (dk dt_X12_whole 105 rfl) rfl ?_
                refine a_callVv (as := [iv x4]) (st := []) (pc := 215) (dk dt_X12_whole 106 rfl) cl_RX12_323 ⟨Nat.le_of_ble_eq_true rfl, Nat.le_of_ble_eq_true rfl⟩ ⟨Nat.le_of_ble_eq_true rfl, Nat.le_of_ble_eq_true rfl⟩ cls_12 rfl cc_85 rfl rfl rfl (Nat.le_of_ble_eq_true rfl) (Call.of rfl (Nat.le_of_ble_eq_true rfl) rfl ?_)
                refine a_aload_n (pc := 0) (dk dt_X12_fail 0 rfl) rfl ?_
                refine a_geti (pc := 1) (dk dt_X12_fail 1 rfl) cls_12 fl_RX12_312 cf_85_6 ?_
                refine a_if_ge (pc := 4) (dk dt_X12_fail 2 rfl) (tgt := 12) rfl ⟨fun c => ?_, fun c => ?_⟩
                · replace H := H.1 c
                  refine a_vret (pc := 12) (dk dt_X12_fail 6 rfl) rfl rfl ?_
                  show ATW _ _ _ _ _ _ _ _ _ _
                  refine a_iload (pc := 218) (dk dt_X12_whole 107 rfl) rfl ?_
                  exact a_iret (pc := 220) (dk dt_X12_whole 108 rfl) rfl rfl H
                · replace H := H.2 c
                  refine a_aload_n (pc := 7) (dk dt_X12_fail 3 rfl) rfl ?_
                  refine a_iload_n (pc := 8) (dk dt_X12_fail 4 rfl) rfl ?_
                  refine a_puti (pc := 9) (dk dt_X12_fail 5 rfl) cls_12 fl_RX12_312 cf_85_6 rfl rfl ?_
                  refine a_vret (pc := 12) (dk dt_X12_fail 6 rfl) rfl rfl ?_
                  show ATW _ _ _ _ _ _ _ _ _ _
                  refine a_iload (pc := 218) (dk dt_X12_whole 107 rfl) rfl ?_
                  exact a_iret (pc := 220) (dk dt_X12_whole 108 rfl) rfl rfl H
              · replace H := H.2 c
                refine a_iconst (pc := 10) (dk dt_X12_is 6 rfl) (ik rfl) ?_
                refine a_goto (pc := 11) (dk dt_X12_is 7 rfl) (tgt := 15) rfl ?_
                refine a_zret (pc := 15) (dk dt_X12_is 9 rfl) rfl rfl ⟨by decide, ?_⟩
                show ATW _ _ _ _ _ _ _ _ _ _
                refine a_if_ne (pc := 209) (dk dt_X12_whole 103 rfl) (tgt := 218) rfl ⟨fun _ => ?_, fun c => absurd c (by decide)⟩
                refine a_iload (pc := 218) (dk dt_X12_whole 107 rfl) rfl ?_
                exact a_iret (pc := 220) (dk dt_X12_whole 108 rfl) rfl rfl H
          · replace H := H.2 c
            refine a_iconst (pc := 7) (dk dt_X12_bad 3 rfl) (ik rfl) ?_
            refine a_goto (pc := 8) (dk dt_X12_bad 4 rfl) (tgt := 12) rfl ?_
            refine a_zret (pc := 12) (dk dt_X12_bad 6 rfl) rfl rfl ⟨by decide, ?_⟩
            show ATW _ _ _ _ _ _ _ _ _ _
            refine a_if_ne (pc := 199) (dk dt_X12_whole 98 rfl) (tgt := 218) rfl ⟨fun _ => ?_, fun c => absurd c (by decide)⟩
            refine a_iload (pc := 218) (dk dt_X12_whole 107 rfl) rfl ?_
            exact a_iret (pc := 220) (dk dt_X12_whole 108 rfl) rfl rfl H
        · replace H := H.2 c
          refine a_iload (pc := 185) (dk dt_X12_whole 91 rfl) rfl ?_
          refine a_ineg (pc := 187) (dk dt_X12_whole 92 rfl) ?_
          refine a_goto (pc := 188) (dk dt_X12_whole 93 rfl) (tgt := 193) rfl ?_
          refine a_istore (pc := 193) (dk dt_X12_whole 95 rfl) (by decide) rfl rfl ?_
          refine a_aload_n (pc := 195) (dk dt_X12_whole 96 rfl) rfl ?_
          refine a_callVi (as := []) (st := []) (pc := 196) (dk dt_X12_whole 97 rfl) cl_RX12_315 ⟨Nat.le_of_ble_eq_true rfl, Nat.le_of_ble_eq_true rfl⟩ ⟨Nat.le_of_ble_eq_true rfl, Nat.le_of_ble_eq_true rfl⟩ cls_12 rfl cc_85 rfl rfl rfl (Nat.le_of_ble_eq_true rfl) (Call.of rfl (Nat.le_of_ble_eq_true rfl) rfl ?_)
          refine a_aload_n (pc := 0) (dk dt_X12_bad 0 rfl) rfl ?_
          refine a_geti (pc := 1) (dk dt_X12_bad 1 rfl) cls_12 fl_RX12_312 cf_85_6 ?_
          refine a_if_lt (pc := 4) (dk dt_X12_bad 2 rfl) (tgt := 11) rfl ⟨fun c => ?_, fun c => ?_⟩
          · replace H := H.1 c
            refine a_iconst (pc := 11) (dk dt_X12_bad 5 rfl) (ik rfl) ?_
            refine a_zret (pc := 12) (dk dt_X12_bad 6 rfl) rfl rfl ⟨by decide, ?_⟩
            show ATW _ _ _ _ _ _ _ _ _ _
            refine a_if_ne (pc := 199) (dk dt_X12_whole 98 rfl) (tgt := 218) rfl ⟨fun c => absurd c (by decide), fun _ => ?_⟩
            refine a_iload (pc := 202) (dk dt_X12_whole 99 rfl) rfl ?_
            refine a_iload_n (pc := 204) (dk dt_X12_whole 100 rfl) rfl ?_
            refine a_iload_n (pc := 205) (dk dt_X12_whole 101 rfl) rfl ?_
            refine a_callSi (as := [iv (w32 (-x7)), iv x2, iv x3]) (st := []) (pc := 206) (dk dt_X12_whole 102 rfl) cl_RX12_302 ⟨Nat.le_of_ble_eq_true rfl, Nat.le_of_ble_eq_true rfl⟩ ⟨Nat.le_of_ble_eq_true rfl, Nat.le_of_ble_eq_true rfl⟩ rfl rfl rfl (Nat.le_of_ble_eq_true rfl) (Call.of rfl (Nat.le_of_ble_eq_true rfl) rfl ?_)
            refine a_iload_n (pc := 0) (dk dt_X12_is 0 rfl) rfl ?_
            refine a_iload_n (pc := 1) (dk dt_X12_is 1 rfl) rfl ?_
            refine a_icmp_lt (pc := 2) (dk dt_X12_is 2 rfl) (tgt := 14) rfl ⟨fun c => ?_, fun c => ?_⟩
            · replace H := H.1 c
              refine a_iconst (pc := 14) (dk dt_X12_is 8 rfl) (ik rfl) ?_
              refine a_zret (pc := 15) (dk dt_X12_is 9 rfl) rfl rfl ⟨by decide, ?_⟩
              show ATW _ _ _ _ _ _ _ _ _ _
              refine a_if_ne (pc := 209) (dk dt_X12_whole 103 rfl) (tgt := 218) rfl ⟨fun c => absurd c (by decide), fun _ => ?_⟩
              refine a_aload_n (pc := 212) (dk dt_X12_whole 104 rfl) rfl ?_
              refine a_iload (pc := 213) (dk dt_X12_whole 105 rfl) rfl ?_
              refine a_callVv (as := [iv x4]) (st := []) (pc := 215) (dk dt_X12_whole 106 rfl) cl_RX12_323 ⟨Nat.le_of_ble_eq_true rfl, Nat.le_of_ble_eq_true rfl⟩ ⟨Nat.le_of_ble_eq_true rfl, Nat.le_of_ble_eq_true rfl⟩ cls_12 rfl cc_85 rfl rfl rfl (Nat.le_of_ble_eq_true rfl) (Call.of rfl (Nat.le_of_ble_eq_true rfl) rfl ?_)
              refine a_aload_n (pc := 0) (dk dt_X12_fail 0 rfl) rfl ?_
              refine a_geti (pc := 1) (dk dt_X12_fail 1 rfl) cls_12 fl_RX12_312 cf_85_6 ?_
              refine a_if_ge (pc := 4) (dk dt_X12_fail 2 rfl) (tgt := 12) rfl ⟨fun c => ?_, fun c => ?_⟩
              · replace H := H.1 c
                refine a_vret (pc := 12) (dk dt_X12_fail 6 rfl) rfl rfl ?_
                show ATW _ _ _ _ _ _ _ _ _ _
                refine a_iload (pc := 218) (dk dt_X12_whole 107 rfl) rfl ?_
                exact a_iret (pc := 220) (dk dt_X12_whole 108 rfl) rfl rfl H
              · replace H := H.2 c
                refine a_aload_n (pc := 7) (dk dt_X12_fail 3 rfl) rfl ?_
                refine a_iload_n (pc := 8) (dk dt_X12_fail 4 rfl) rfl ?_
                refine a_puti (pc := 9) (dk dt_X12_fail 5 rfl) cls_12 fl_RX12_312 cf_85_6 rfl rfl ?_
                refine a_vret (pc := 12) (dk dt_X12_fail 6 rfl) rfl rfl ?_
                show ATW _ _ _ _ _ _ _ _ _ _
                refine a_iload (pc := 218) (dk dt_X12_whole 107 rfl) rfl ?_
                exact a_iret (pc := 220) (dk dt_X12_whole 108 rfl) rfl rfl H
            · replace H := H.2 c
              refine a_iload_n (pc := 5) (dk dt_X12_is 3 rfl) rfl ?_
              refine a_iload_n (pc := 6) (dk dt_X12_is 4 rfl) rfl ?_
              refine a_icmp_gt (pc := 7) (dk dt_X12_is 5 rfl) (tgt := 14) rfl ⟨fun c => ?_, fun c => ?_⟩
              · replace H := H.1 c
                refine a_iconst (pc := 14) (dk dt_X12_is 8 rfl) (ik rfl) ?_
                refine a_zret (pc := 15) (dk dt_X12_is 9 rfl) rfl rfl ⟨by decide, ?_⟩
                show ATW _ _ _ _ _ _ _ _ _ _
                refine a_if_ne (pc := 209) (dk dt_X12_whole 103 rfl) (tgt := 218) rfl ⟨fun c => absurd c (by decide), fun _ => ?_⟩
                refine a_aload_n (pc := 212) (dk dt_X12_whole 104 rfl) rfl ?_
                refine a_iload (pc := 213) (dk dt_X12_whole 105 rfl) rfl ?_
                refine a_callVv (as := [iv x4]) (st := []) (pc := 215) (dk dt_X12_whole 106 rfl) cl_RX12_323 ⟨Nat.le_of_ble_eq_true rfl, Nat.le_of_ble_eq_true rfl⟩ ⟨Nat.le_of_ble_eq_true rfl, Nat.le_of_ble_eq_true rfl⟩ cls_12 rfl cc_85 rfl rfl rfl (Nat.le_of_ble_eq_true rfl) (Call.of rfl (Nat.le_of_ble_eq_true rfl) rfl ?_)
                refine a_aload_n (pc := 0) (dk dt_X12_fail 0 rfl) rfl ?_
                refine a_geti (pc := 1) (dk dt_X12_fail 1 rfl) cls_12 fl_RX12_312 cf_85_6 ?_
                refine a_if_ge (pc := 4) (dk dt_X12_fail 2 rfl) (tgt := 12) rfl ⟨fun c => ?_, fun c => ?_⟩
                · replace H := H.1 c
                  refine a_vret (pc := 12) (dk dt_X12_fail 6 rfl) rfl rfl ?_
                  show ATW _ _ _ _ _ _ _ _ _ _
                  refine a_iload (pc := 218) (dk dt_X12_whole 107 rfl) rfl ?_
                  exact a_iret (pc := 220) (dk dt_X12_whole 108 rfl) rfl rfl H
                · replace H := H.2 c
                  refine a_aload_n (pc := 7) (dk dt_X12_fail 3 rfl) rfl ?_
                  refine a_iload_n (pc := 8) (dk dt_X12_fail 4 rfl) rfl ?_
                  refine a_puti (pc := 9) (dk dt_X12_fail 5 rfl) cls_12 fl_RX12_312 cf_85_6 rfl rfl ?_
                  refine a_vret (pc := 12) (dk dt_X12_fail 6 rfl) rfl rfl ?_
                  show ATW _ _ _ _ _ _ _ _ _ _
                  refine a_iload (pc := 218) (dk dt_X12_whole 107 rfl) rfl ?_
                  exact a_iret (pc := 220) (dk dt_X12_whole 108 rfl) rfl rfl H
              · replace H := H.2 c
                refine a_iconst (pc := 10) (dk dt_X12_is 6 rfl) (ik rfl) ?_
                refine a_goto (pc := 11) (dk dt_X12_is 7 rfl) (tgt := 15) rfl ?_
                refine a_zret (pc := 15) (dk dt_X12_is 9 rfl) rfl rfl ⟨by decide, ?_⟩
                show ATW _ _ _ _ _ _ _ _ _ _
                refine a_if_ne (pc := 209) (dk dt_X12_whole 103 rfl) (tgt := 218) rfl ⟨fun _ => ?_, fun c => absurd c (by decide)⟩
                refine a_iload (pc := 218) (dk dt_X12_whole 107 rfl) rfl ?_
                exact a_iret (pc := 220) (dk dt_X12_whole 108 rfl) rfl rfl H
          · replace H := H.2 c
            refine a_iconst (pc := 7) (dk dt_X12_bad 3 rfl) (ik rfl) ?_
            refine a_goto (pc := 8) (dk dt_X12_bad 4 rfl) (tgt := 12) rfl ?_
            refine a_zret (pc := 12) (dk dt_X12_bad 6 rfl) rfl rfl ⟨by decide, ?_⟩
            show ATW _ _ _ _ _ _ _ _ _ _
            refine a_if_ne (pc := 199) (dk dt_X12_whole 98 rfl) (tgt := 218) rfl ⟨fun _ => ?_, fun c => absurd c (by decide)⟩
            refine a_iload (pc := 218) (dk dt_X12_whole 107 rfl) rfl ?_
            exact a_iret (pc := 220) (dk dt_X12_whole 108 rfl) rfl rfl H
      · replace H := H.2 c
        refine a_iconst (pc := 12) (dk dt_X12_isDigit 6 rfl) (ik rfl) ?_
        refine a_goto (pc := 13) (dk dt_X12_isDigit 7 rfl) (tgt := 17) rfl ?_
        refine a_zret (pc := 17) (dk dt_X12_isDigit 9 rfl) rfl rfl ⟨by decide, ?_⟩
        show ATW _ _ _ _ _ _ _ _ _ _
        refine a_if_eq (pc := 105) (dk dt_X12_whole 51 rfl) (tgt := 180) rfl ⟨fun c => absurd c (by decide), fun _ => ?_⟩
        refine a_aload_n (pc := 108) (dk dt_X12_whole 52 rfl) rfl ?_
        refine a_geti (pc := 109) (dk dt_X12_whole 53 rfl) cls_12 fl_RX12_309 cf_85_5 ?_
        refine a_iload (pc := 112) (dk dt_X12_whole 54 rfl) rfl ?_
        refine a_isub (pc := 114) (dk dt_X12_whole 55 rfl) ?_
        refine a_bipush (pc := 115) (dk dt_X12_whole 56 rfl) (ik rfl) (bpk rfl) ?_
        refine a_icmp_eq (pc := 117) (dk dt_X12_whole 57 rfl) (tgt := 141) rfl ⟨fun c => ?_, fun c => ?_⟩
        · replace H := H.1 c
          refine a_aload_n (pc := 141) (dk dt_X12_whole 68 rfl) rfl ?_
          refine a_aload_n (pc := 142) (dk dt_X12_whole 69 rfl) rfl ?_
          refine a_geti (pc := 143) (dk dt_X12_whole 70 rfl) cls_12 fl_RX12_309 cf_85_5 ?_
          refine a_callVv (as := [iv (h2 85 5)]) (st := []) (pc := 146) (dk dt_X12_whole 71 rfl) cl_RX12_323 ⟨Nat.le_of_ble_eq_true rfl, Nat.le_of_ble_eq_true rfl⟩ ⟨Nat.le_of_ble_eq_true rfl, Nat.le_of_ble_eq_true rfl⟩ cls_12 rfl cc_85 rfl rfl rfl (Nat.le_of_ble_eq_true rfl) (Call.of rfl (Nat.le_of_ble_eq_true rfl) rfl ?_)
          refine a_aload_n (pc := 0) (dk dt_X12_fail 0 rfl) rfl ?_
          refine a_geti (pc := 1) (dk dt_X12_fail 1 rfl) cls_12 fl_RX12_312 cf_85_6 ?_
          refine a_if_ge (pc := 4) (dk dt_X12_fail 2 rfl) (tgt := 12) rfl ⟨fun c => ?_, fun c => ?_⟩
          · replace H := H.1 c
            refine a_vret (pc := 12) (dk dt_X12_fail 6 rfl) rfl rfl ?_
            show ATW _ _ _ _ _ _ _ _ _ _
            refine a_goto (pc := 149) (dk dt_X12_whole 72 rfl) (tgt := 91) rfl ?_
            exact a_pick [0, 1, 2, 3, 4, 5, 6] rfl H
          · replace H := H.2 c
            refine a_aload_n (pc := 7) (dk dt_X12_fail 3 rfl) rfl ?_
            refine a_iload_n (pc := 8) (dk dt_X12_fail 4 rfl) rfl ?_
            refine a_puti (pc := 9) (dk dt_X12_fail 5 rfl) cls_12 fl_RX12_312 cf_85_6 rfl rfl ?_
            refine a_vret (pc := 12) (dk dt_X12_fail 6 rfl) rfl rfl ?_
            show ATW _ _ _ _ _ _ _ _ _ _
            refine a_goto (pc := 149) (dk dt_X12_whole 72 rfl) (tgt := 91) rfl ?_
            exact a_pick [0, 1, 2, 3, 4, 5, 6] rfl H
        · replace H := H.2 c
          refine a_aload_n (pc := 120) (dk dt_X12_whole 58 rfl) rfl ?_
          refine a_geti (pc := 121) (dk dt_X12_whole 59 rfl) cls_12 fl_RX12_309 cf_85_5 ?_
          refine a_iload (pc := 124) (dk dt_X12_whole 60 rfl) rfl ?_
          refine a_icmp_le (pc := 126) (dk dt_X12_whole 61 rfl) (tgt := 152) rfl ⟨fun c => ?_, fun c => ?_⟩
          · replace H := H.1 c
            refine a_bipush (pc := 152) (dk dt_X12_whole 73 rfl) (ik rfl) (bpk rfl) ?_
            refine a_iload (pc := 154) (dk dt_X12_whole 74 rfl) rfl ?_
            refine a_imul (pc := 156) (dk dt_X12_whole 75 rfl) ?_
            refine a_aload_n (pc := 157) (dk dt_X12_whole 76 rfl) rfl ?_
            refine a_callVi (as := []) (st := [iv (w32 (10 * x7))]) (pc := 158) (dk dt_X12_whole 77 rfl) cl_RX12_319 ⟨Nat.le_of_ble_eq_true rfl, Nat.le_of_ble_eq_true rfl⟩ ⟨Nat.le_of_ble_eq_true rfl, Nat.le_of_ble_eq_true rfl⟩ cls_12 rfl cc_85 rfl rfl rfl (Nat.le_of_ble_eq_true rfl) (Call.mono H fun r3 h4 H => ?_)
            refine a_iadd (pc := 161) (dk dt_X12_whole 78 rfl) ?_
            refine a_bipush (pc := 162) (dk dt_X12_whole 79 rfl) (ik rfl) (bpk rfl) ?_
            refine a_isub (pc := 164) (dk dt_X12_whole 80 rfl) ?_
            refine a_istore (pc := 165) (dk dt_X12_whole 81 rfl) (by decide) rfl rfl ?_
            refine a_aload_n (pc := 167) (dk dt_X12_whole 82 rfl) rfl ?_
            refine a_dup (pc := 168) (dk dt_X12_whole 83 rfl) rfl ?_
            refine a_geti (pc := 169) (dk dt_X12_whole 84 rfl) cls_12 fl_RX12_309 cf_85_5 ?_
            refine a_iconst (pc := 172) (dk dt_X12_whole 85 rfl) (ik rfl) ?_
            refine a_iadd (pc := 173) (dk dt_X12_whole 86 rfl) ?_
            refine a_puti (pc := 174) (dk dt_X12_whole 87 rfl) cls_12 fl_RX12_309 cf_85_5 rfl rfl ?_
            refine a_goto (pc := 177) (dk dt_X12_whole 88 rfl) (tgt := 91) rfl ?_
            exact a_pick [0, 1, 2, 3, 4, 5, 6] rfl H
          · replace H := H.2 c
            refine a_aload_n (pc := 129) (dk dt_X12_whole 62 rfl) rfl ?_
            refine a_getr (r := 86) (pc := 130) (dk dt_X12_whole 63 rfl) cls_12 fl_RX12_13 cf_85_1 ?_
            refine a_iload (pc := 133) (dk dt_X12_whole 64 rfl) rfl ?_
            refine a_iald (pc := 135) (dk dt_X12_whole 65 rfl) ar_87 ⟨H.1, ?_⟩
            replace H := H.2
            refine a_bipush (pc := 136) (dk dt_X12_whole 66 rfl) (ik rfl) (bpk rfl) ?_
            refine a_icmp_ne (pc := 138) (dk dt_X12_whole 67 rfl) (tgt := 152) rfl ⟨fun c => ?_, fun c => ?_⟩
            · replace H := H.1 c
              refine a_bipush (pc := 152) (dk dt_X12_whole 73 rfl) (ik rfl) (bpk rfl) ?_
              refine a_iload (pc := 154) (dk dt_X12_whole 74 rfl) rfl ?_
              refine a_imul (pc := 156) (dk dt_X12_whole 75 rfl) ?_
              refine a_aload_n (pc := 157) (dk dt_X12_whole 76 rfl) rfl ?_
              refine a_callVi (as := []) (st := [iv (w32 (10 * x7))]) (pc := 158) (dk dt_X12_whole 77 rfl) cl_RX12_319 ⟨Nat.le_of_ble_eq_true rfl, Nat.le_of_ble_eq_true rfl⟩ ⟨Nat.le_of_ble_eq_true rfl, Nat.le_of_ble_eq_true rfl⟩ cls_12 rfl cc_85 rfl rfl rfl (Nat.le_of_ble_eq_true rfl) (Call.mono H fun r5 h6 H => ?_)
              refine a_iadd (pc := 161) (dk dt_X12_whole 78 rfl) ?_
              refine a_bipush (pc := 162) (dk dt_X12_whole 79 rfl) (ik rfl) (bpk rfl) ?_
              refine a_isub (pc := 164) (dk dt_X12_whole 80 rfl) ?_
              refine a_istore (pc := 165) (dk dt_X12_whole 81 rfl) (by decide) rfl rfl ?_
              refine a_aload_n (pc := 167) (dk dt_X12_whole 82 rfl) rfl ?_
              refine a_dup (pc := 168) (dk dt_X12_whole 83 rfl) rfl ?_
              refine a_geti (pc := 169) (dk dt_X12_whole 84 rfl) cls_12 fl_RX12_309 cf_85_5 ?_
              refine a_iconst (pc := 172) (dk dt_X12_whole 85 rfl) (ik rfl) ?_
              refine a_iadd (pc := 173) (dk dt_X12_whole 86 rfl) ?_
              refine a_puti (pc := 174) (dk dt_X12_whole 87 rfl) cls_12 fl_RX12_309 cf_85_5 rfl rfl ?_
              refine a_goto (pc := 177) (dk dt_X12_whole 88 rfl) (tgt := 91) rfl ?_
              exact a_pick [0, 1, 2, 3, 4, 5, 6] rfl H
            · replace H := H.2 c
              refine a_aload_n (pc := 141) (dk dt_X12_whole 68 rfl) rfl ?_
              refine a_aload_n (pc := 142) (dk dt_X12_whole 69 rfl) rfl ?_
              refine a_geti (pc := 143) (dk dt_X12_whole 70 rfl) cls_12 fl_RX12_309 cf_85_5 ?_
              refine a_callVv (as := [iv (h2 85 5)]) (st := []) (pc := 146) (dk dt_X12_whole 71 rfl) cl_RX12_323 ⟨Nat.le_of_ble_eq_true rfl, Nat.le_of_ble_eq_true rfl⟩ ⟨Nat.le_of_ble_eq_true rfl, Nat.le_of_ble_eq_true rfl⟩ cls_12 rfl cc_85 rfl rfl rfl (Nat.le_of_ble_eq_true rfl) (Call.of rfl (Nat.le_of_ble_eq_true rfl) rfl ?_)
              refine a_aload_n (pc := 0) (dk dt_X12_fail 0 rfl) rfl ?_
              refine a_geti (pc := 1) (dk dt_X12_fail 1 rfl) cls_12 fl_RX12_312 cf_85_6 ?_
              refine a_if_ge (pc := 4) (dk dt_X12_fail 2 rfl) (tgt := 12) rfl ⟨fun c => ?_, fun c => ?_⟩
              · replace H := H.1 c
                refine a_vret (pc := 12) (dk dt_X12_fail 6 rfl) rfl rfl ?_
                show ATW _ _ _ _ _ _ _ _ _ _
                refine a_goto (pc := 149) (dk dt_X12_whole 72 rfl) (tgt := 91) rfl ?_
                exact a_pick [0, 1, 2, 3, 4, 5, 6] rfl H
              · replace H := H.2 c
                refine a_aload_n (pc := 7) (dk dt_X12_fail 3 rfl) rfl ?_
                refine a_iload_n (pc := 8) (dk dt_X12_fail 4 rfl) rfl ?_
                refine a_puti (pc := 9) (dk dt_X12_fail 5 rfl) cls_12 fl_RX12_312 cf_85_6 rfl rfl ?_
                refine a_vret (pc := 12) (dk dt_X12_fail 6 rfl) rfl rfl ?_
                show ATW _ _ _ _ _ _ _ _ _ _
                refine a_goto (pc := 149) (dk dt_X12_whole 72 rfl) (tgt := 91) rfl ?_
                exact a_pick [0, 1, 2, 3, 4, 5, 6] rfl H
  · replace H := H.2 c
    refine a_iconst (pc := 7) (dk dt_X12_bad 3 rfl) (ik rfl) ?_
    refine a_goto (pc := 8) (dk dt_X12_bad 4 rfl) (tgt := 12) rfl ?_
    refine a_zret (pc := 12) (dk dt_X12_bad 6 rfl) rfl rfl ⟨by decide, ?_⟩
    show ATW _ _ _ _ _ _ _ _ _ _
    refine a_if_ne (pc := 95) (dk dt_X12_whole 47 rfl) (tgt := 180) rfl ⟨fun _ => ?_, fun c => absurd c (by decide)⟩
    refine a_iload (pc := 180) (dk dt_X12_whole 89 rfl) rfl ?_
    refine a_if_eq (pc := 182) (dk dt_X12_whole 90 rfl) (tgt := 191) rfl ⟨fun c => ?_, fun c => ?_⟩
    · replace H := H.1 c
      refine a_iload (pc := 191) (dk dt_X12_whole 94 rfl) rfl ?_
      refine a_istore (pc := 193) (dk dt_X12_whole 95 rfl) (by decide) rfl rfl ?_
      refine a_aload_n (pc := 195) (dk dt_X12_whole 96 rfl) rfl ?_
      refine a_callVi (as := []) (st := []) (pc := 196) (dk dt_X12_whole 97 rfl) cl_RX12_315 ⟨Nat.le_of_ble_eq_true rfl, Nat.le_of_ble_eq_true rfl⟩ ⟨Nat.le_of_ble_eq_true rfl, Nat.le_of_ble_eq_true rfl⟩ cls_12 rfl cc_85 rfl rfl rfl (Nat.le_of_ble_eq_true rfl) (Call.of rfl (Nat.le_of_ble_eq_true rfl) rfl ?_)
      refine a_aload_n (pc := 0) (dk dt_X12_bad 0 rfl) rfl ?_
      refine a_geti (pc := 1) (dk dt_X12_bad 1 rfl) cls_12 fl_RX12_312 cf_85_6 ?_
      refine a_if_lt (pc := 4) (dk dt_X12_bad 2 rfl) (tgt := 11) rfl ⟨fun c => ?_, fun c => ?_⟩
      · replace H := H.1 c
        refine a_iconst (pc := 11) (dk dt_X12_bad 5 rfl) (ik rfl) ?_
        refine a_zret (pc := 12) (dk dt_X12_bad 6 rfl) rfl rfl ⟨by decide, ?_⟩
        show ATW _ _ _ _ _ _ _ _ _ _
        refine a_if_ne (pc := 199) (dk dt_X12_whole 98 rfl) (tgt := 218) rfl ⟨fun c => absurd c (by decide), fun _ => ?_⟩
        refine a_iload (pc := 202) (dk dt_X12_whole 99 rfl) rfl ?_
        refine a_iload_n (pc := 204) (dk dt_X12_whole 100 rfl) rfl ?_
        refine a_iload_n (pc := 205) (dk dt_X12_whole 101 rfl) rfl ?_
        refine a_callSi (as := [iv x7, iv x2, iv x3]) (st := []) (pc := 206) (dk dt_X12_whole 102 rfl) cl_RX12_302 ⟨Nat.le_of_ble_eq_true rfl, Nat.le_of_ble_eq_true rfl⟩ ⟨Nat.le_of_ble_eq_true rfl, Nat.le_of_ble_eq_true rfl⟩ rfl rfl rfl (Nat.le_of_ble_eq_true rfl) (Call.of rfl (Nat.le_of_ble_eq_true rfl) rfl ?_)
        refine a_iload_n (pc := 0) (dk dt_X12_is 0 rfl) rfl ?_
        refine a_iload_n (pc := 1) (dk dt_X12_is 1 rfl) rfl ?_
        refine a_icmp_lt (pc := 2) (dk dt_X12_is 2 rfl) (tgt := 14) rfl ⟨fun c => ?_, fun c => ?_⟩
        · replace H := H.1 c
          refine a_iconst (pc := 14) (dk dt_X12_is 8 rfl) (ik rfl) ?_
          refine a_zret (pc := 15) (dk dt_X12_is 9 rfl) rfl rfl ⟨by decide, ?_⟩
          show ATW _ _ _ _ _ _ _ _ _ _
          refine a_if_ne (pc := 209) (dk dt_X12_whole 103 rfl) (tgt := 218) rfl ⟨fun c => absurd c (by decide), fun _ => ?_⟩
          refine a_aload_n (pc := 212) (dk dt_X12_whole 104 rfl) rfl ?_
          refine a_iload (pc := 213) (dk dt_X12_whole 105 rfl) rfl ?_
          refine a_callVv (as := [iv x4]) (st := []) (pc := 215) (dk dt_X12_whole 106 rfl) cl_RX12_323 ⟨Nat.le_of_ble_eq_true rfl, Nat.le_of_ble_eq_true rfl⟩ ⟨Nat.le_of_ble_eq_true rfl, Nat.le_of_ble_eq_true rfl⟩ cls_12 rfl cc_85 rfl rfl rfl (Nat.le_of_ble_eq_true rfl) (Call.of rfl (Nat.le_of_ble_eq_true rfl) rfl ?_)
          refine a_aload_n (pc := 0) (dk dt_X12_fail 0 rfl) rfl ?_
          refine a_geti (pc := 1) (dk dt_X12_fail 1 rfl) cls_12 fl_RX12_312 cf_85_6 ?_
          refine a_if_ge (pc := 4) (dk dt_X12_fail 2 rfl) (tgt := 12) rfl ⟨fun c => ?_, fun c => ?_⟩
          · replace H := H.1 c
            refine a_vret (pc := 12) (dk dt_X12_fail 6 rfl) rfl rfl ?_
            show ATW _ _ _ _ _ _ _ _ _ _
            refine a_iload (pc := 218) (dk dt_X12_whole 107 rfl) rfl ?_
            exact a_iret (pc := 220) (dk dt_X12_whole 108 rfl) rfl rfl H
          · replace H := H.2 c
            refine a_aload_n (pc := 7) (dk dt_X12_fail 3 rfl) rfl ?_
            refine a_iload_n (pc := 8) (dk dt_X12_fail 4 rfl) rfl ?_
            refine a_puti (pc := 9) (dk dt_X12_fail 5 rfl) cls_12 fl_RX12_312 cf_85_6 rfl rfl ?_
            refine a_vret (pc := 12) (dk dt_X12_fail 6 rfl) rfl rfl ?_
            show ATW _ _ _ _ _ _ _ _ _ _
            refine a_iload (pc := 218) (dk dt_X12_whole 107 rfl) rfl ?_
            exact a_iret (pc := 220) (dk dt_X12_whole 108 rfl) rfl rfl H
        · replace H := H.2 c
          refine a_iload_n (pc := 5) (dk dt_X12_is 3 rfl) rfl ?_
          refine a_iload_n (pc := 6) (dk dt_X12_is 4 rfl) rfl ?_
          refine a_icmp_gt (pc := 7) (dk dt_X12_is 5 rfl) (tgt := 14) rfl ⟨fun c => ?_, fun c => ?_⟩
          · replace H := H.1 c
            refine a_iconst (pc := 14) (dk dt_X12_is 8 rfl) (ik rfl) ?_
            refine a_zret (pc := 15) (dk dt_X12_is 9 rfl) rfl rfl ⟨by decide, ?_⟩
            show ATW _ _ _ _ _ _ _ _ _ _
            refine a_if_ne (pc := 209) (dk dt_X12_whole 103 rfl) (tgt := 218) rfl ⟨fun c => absurd c (by decide), fun _ => ?_⟩
            refine a_aload_n (pc := 212) (dk dt_X12_whole 104 rfl) rfl ?_
            refine a_iload (pc := 213) (dk dt_X12_whole 105 rfl) rfl ?_
            refine a_callVv (as := [iv x4]) (st := []) (pc := 215) (dk dt_X12_whole 106 rfl) cl_RX12_323 ⟨Nat.le_of_ble_eq_true rfl, Nat.le_of_ble_eq_true rfl⟩ ⟨Nat.le_of_ble_eq_true rfl, Nat.le_of_ble_eq_true rfl⟩ cls_12 rfl cc_85 rfl rfl rfl (Nat.le_of_ble_eq_true rfl) (Call.of rfl (Nat.le_of_ble_eq_true rfl) rfl ?_)
            refine a_aload_n (pc := 0) (dk dt_X12_fail 0 rfl) rfl ?_
            refine a_geti (pc := 1) (dk dt_X12_fail 1 rfl) cls_12 fl_RX12_312 cf_85_6 ?_
            refine a_if_ge (pc := 4) (dk dt_X12_fail 2 rfl) (tgt := 12) rfl ⟨fun c => ?_, fun c => ?_⟩
            · replace H := H.1 c
              refine a_vret (pc := 12) (dk dt_X12_fail 6 rfl) rfl rfl ?_
              show ATW _ _ _ _ _ _ _ _ _ _
              refine a_iload (pc := 218) (dk dt_X12_whole 107 rfl) rfl ?_
              exact a_iret (pc := 220) (dk dt_X12_whole 108 rfl) rfl rfl H
            · replace H := H.2 c
              refine a_aload_n (pc := 7) (dk dt_X12_fail 3 rfl) rfl ?_
              refine a_iload_n (pc := 8) (dk dt_X12_fail 4 rfl) rfl ?_
              refine a_puti (pc := 9) (dk dt_X12_fail 5 rfl) cls_12 fl_RX12_312 cf_85_6 rfl rfl ?_
              refine a_vret (pc := 12) (dk dt_X12_fail 6 rfl) rfl rfl ?_
              show ATW _ _ _ _ _ _ _ _ _ _
              refine a_iload (pc := 218) (dk dt_X12_whole 107 rfl) rfl ?_
              exact a_iret (pc := 220) (dk dt_X12_whole 108 rfl) rfl rfl H
          · replace H := H.2 c
            refine a_iconst (pc := 10) (dk dt_X12_is 6 rfl) (ik rfl) ?_
            refine a_goto (pc := 11) (dk dt_X12_is 7 rfl) (tgt := 15) rfl ?_
            refine a_zret (pc := 15) (dk dt_X12_is 9 rfl) rfl rfl ⟨by decide, ?_⟩
            show ATW _ _ _ _ _ _ _ _ _ _
            refine a_if_ne (pc := 209) (dk dt_X12_whole 103 rfl) (tgt := 218) rfl ⟨fun _ => ?_, fun c => absurd c (by decide)⟩
            refine a_iload (pc := 218) (dk dt_X12_whole 107 rfl) rfl ?_
            exact a_iret (pc := 220) (dk dt_X12_whole 108 rfl) rfl rfl H
      · replace H := H.2 c
        refine a_iconst (pc := 7) (dk dt_X12_bad 3 rfl) (ik rfl) ?_
        refine a_goto (pc := 8) (dk dt_X12_bad 4 rfl) (tgt := 12) rfl ?_
        refine a_zret (pc := 12) (dk dt_X12_bad 6 rfl) rfl rfl ⟨by decide, ?_⟩
        show ATW _ _ _ _ _ _ _ _ _ _
        refine a_if_ne (pc := 199) (dk dt_X12_whole 98 rfl) (tgt := 218) rfl ⟨fun _ => ?_, fun c => absurd c (by decide)⟩
        refine a_iload (pc := 218) (dk dt_X12_whole 107 rfl) rfl ?_
        exact a_iret (pc := 220) (dk dt_X12_whole 108 rfl) rfl rfl H
    · replace H := H.2 c
      refine a_iload (pc := 185) (dk dt_X12_whole 91 rfl) rfl ?_
      refine a_ineg (pc := 187) (dk dt_X12_whole 92 rfl) ?_
      refine a_goto (pc := 188) (dk dt_X12_whole 93 rfl) (tgt := 193) rfl ?_
      refine a_istore (pc := 193) (dk dt_X12_whole 95 rfl) (by decide) rfl rfl ?_
      refine a_aload_n (pc := 195) (dk dt_X12_whole 96 rfl) rfl ?_
      refine a_callVi (as := []) (st := []) (pc := 196) (dk dt_X12_whole 97 rfl) cl_RX12_315 ⟨Nat.le_of_ble_eq_true rfl, Nat.le_of_ble_eq_true rfl⟩ ⟨Nat.le_of_ble_eq_true rfl, Nat.le_of_ble_eq_true rfl⟩ cls_12 rfl cc_85 rfl rfl rfl (Nat.le_of_ble_eq_true rfl) (Call.of rfl (Nat.le_of_ble_eq_true rfl) rfl ?_)
      refine a_aload_n (pc := 0) (dk dt_X12_bad 0 rfl) rfl ?_
      refine a_geti (pc := 1) (dk dt_X12_bad 1 rfl) cls_12 fl_RX12_312 cf_85_6 ?_
      refine a_if_lt (pc := 4) (dk dt_X12_bad 2 rfl) (tgt := 11) rfl ⟨fun c => ?_, fun c => ?_⟩
      · replace H := H.1 c
        refine a_iconst (pc := 11) (dk dt_X12_bad 5 rfl) (ik rfl) ?_
        refine a_zret (pc := 12) (dk dt_X12_bad 6 rfl) rfl rfl ⟨by decide, ?_⟩
        show ATW _ _ _ _ _ _ _ _ _ _
        refine a_if_ne (pc := 199) (dk dt_X12_whole 98 rfl) (tgt := 218) rfl ⟨fun c => absurd c (by decide), fun _ => ?_⟩
        refine a_iload (pc := 202) (dk dt_X12_whole 99 rfl) rfl ?_
        refine a_iload_n (pc := 204) (dk dt_X12_whole 100 rfl) rfl ?_
        refine a_iload_n (pc := 205) (dk dt_X12_whole 101 rfl) rfl ?_
        refine a_callSi (as := [iv (w32 (-x7)), iv x2, iv x3]) (st := []) (pc := 206) (dk dt_X12_whole 102 rfl) cl_RX12_302 ⟨Nat.le_of_ble_eq_true rfl, Nat.le_of_ble_eq_true rfl⟩ ⟨Nat.le_of_ble_eq_true rfl, Nat.le_of_ble_eq_true rfl⟩ rfl rfl rfl (Nat.le_of_ble_eq_true rfl) (Call.of rfl (Nat.le_of_ble_eq_true rfl) rfl ?_)
        refine a_iload_n (pc := 0) (dk dt_X12_is 0 rfl) rfl ?_
        refine a_iload_n (pc := 1) (dk dt_X12_is 1 rfl) rfl ?_
        refine a_icmp_lt (pc := 2) (dk dt_X12_is 2 rfl) (tgt := 14) rfl ⟨fun c => ?_, fun c => ?_⟩
        · replace H := H.1 c
          refine a_iconst (pc := 14) (dk dt_X12_is 8 rfl) (ik rfl) ?_
          refine a_zret (pc := 15) (dk dt_X12_is 9 rfl) rfl rfl ⟨by decide, ?_⟩
          show ATW _ _ _ _ _ _ _ _ _ _
          refine a_if_ne (pc := 209) (dk dt_X12_whole 103 rfl) (tgt := 218) rfl ⟨fun c => absurd c (by decide), fun _ => ?_⟩
          refine a_aload_n (pc := 212) (dk dt_X12_whole 104 rfl) rfl ?_
          refine a_iload (pc := 213) (dk dt_X12_whole 105 rfl) rfl ?_
          refine a_callVv (as := [iv x4]) (st := []) (pc := 215) (dk dt_X12_whole 106 rfl) cl_RX12_323 ⟨Nat.le_of_ble_eq_true rfl, Nat.le_of_ble_eq_true rfl⟩ ⟨Nat.le_of_ble_eq_true rfl, Nat.le_of_ble_eq_true rfl⟩ cls_12 rfl cc_85 rfl rfl rfl (Nat.le_of_ble_eq_true rfl) (Call.of rfl (Nat.le_of_ble_eq_true rfl) rfl ?_)
          refine a_aload_n (pc := 0) (dk dt_X12_fail 0 rfl) rfl ?_
          refine a_geti (pc := 1) (dk dt_X12_fail 1 rfl) cls_12 fl_RX12_312 cf_85_6 ?_
          refine a_if_ge (pc := 4) (dk dt_X12_fail 2 rfl) (tgt := 12) rfl ⟨fun c => ?_, fun c => ?_⟩
          · replace H := H.1 c
            refine a_vret (pc := 12) (dk dt_X12_fail 6 rfl) rfl rfl ?_
            show ATW _ _ _ _ _ _ _ _ _ _
            refine a_iload (pc := 218) (dk dt_X12_whole 107 rfl) rfl ?_
            exact a_iret (pc := 220) (dk dt_X12_whole 108 rfl) rfl rfl H
          · replace H := H.2 c
            refine a_aload_n (pc := 7) (dk dt_X12_fail 3 rfl) rfl ?_
            refine a_iload_n (pc := 8) (dk dt_X12_fail 4 rfl) rfl ?_
            refine a_puti (pc := 9) (dk dt_X12_fail 5 rfl) cls_12 fl_RX12_312 cf_85_6 rfl rfl ?_
            refine a_vret (pc := 12) (dk dt_X12_fail 6 rfl) rfl rfl ?_
            show ATW _ _ _ _ _ _ _ _ _ _
            refine a_iload (pc := 218) (dk dt_X12_whole 107 rfl) rfl ?_
            exact a_iret (pc := 220) (dk dt_X12_whole 108 rfl) rfl rfl H
        · replace H := H.2 c
          refine a_iload_n (pc := 5) (dk dt_X12_is 3 rfl) rfl ?_
          refine a_iload_n (pc := 6) (dk dt_X12_is 4 rfl) rfl ?_
          refine a_icmp_gt (pc := 7) (dk dt_X12_is 5 rfl) (tgt := 14) rfl ⟨fun c => ?_, fun c => ?_⟩
          · replace H := H.1 c
            refine a_iconst (pc := 14) (dk dt_X12_is 8 rfl) (ik rfl) ?_
            refine a_zret (pc := 15) (dk dt_X12_is 9 rfl) rfl rfl ⟨by decide, ?_⟩
            show ATW _ _ _ _ _ _ _ _ _ _
            refine a_if_ne (pc := 209) (dk dt_X12_whole 103 rfl) (tgt := 218) rfl ⟨fun c => absurd c (by decide), fun _ => ?_⟩
            refine a_aload_n (pc := 212) (dk dt_X12_whole 104 rfl) rfl ?_
            refine a_iload (pc := 213) (dk dt_X12_whole 105 rfl) rfl ?_
            refine a_callVv (as := [iv x4]) (st := []) (pc := 215) (dk dt_X12_whole 106 rfl) cl_RX12_323 ⟨Nat.le_of_ble_eq_true rfl, Nat.le_of_ble_eq_true rfl⟩ ⟨Nat.le_of_ble_eq_true rfl, Nat.le_of_ble_eq_true rfl⟩ cls_12 rfl cc_85 rfl rfl rfl (Nat.le_of_ble_eq_true rfl) (Call.of rfl (Nat.le_of_ble_eq_true rfl) rfl ?_)
            refine a_aload_n (pc := 0) (dk dt_X12_fail 0 rfl) rfl ?_
            refine a_geti (pc := 1) (dk dt_X12_fail 1 rfl) cls_12 fl_RX12_312 cf_85_6 ?_
            refine a_if_ge (pc := 4) (dk dt_X12_fail 2 rfl) (tgt := 12) rfl ⟨fun c => ?_, fun c => ?_⟩
            · replace H := H.1 c
              refine a_vret (pc := 12) (dk dt_X12_fail 6 rfl) rfl rfl ?_
              show ATW _ _ _ _ _ _ _ _ _ _
              refine a_iload (pc := 218) (dk dt_X12_whole 107 rfl) rfl ?_
              exact a_iret (pc := 220) (dk dt_X12_whole 108 rfl) rfl rfl H
            · replace H := H.2 c
              refine a_aload_n (pc := 7) (dk dt_X12_fail 3 rfl) rfl ?_
              refine a_iload_n (pc := 8) (dk dt_X12_fail 4 rfl) rfl ?_
              refine a_puti (pc := 9) (dk dt_X12_fail 5 rfl) cls_12 fl_RX12_312 cf_85_6 rfl rfl ?_
              refine a_vret (pc := 12) (dk dt_X12_fail 6 rfl) rfl rfl ?_
              show ATW _ _ _ _ _ _ _ _ _ _
              refine a_iload (pc := 218) (dk dt_X12_whole 107 rfl) rfl ?_
              exact a_iret (pc := 220) (dk dt_X12_whole 108 rfl) rfl rfl H
          · replace H := H.2 c
            refine a_iconst (pc := 10) (dk dt_X12_is 6 rfl) (ik rfl) ?_
            refine a_goto (pc := 11) (dk dt_X12_is 7 rfl) (tgt := 15) rfl ?_
            refine a_zret (pc := 15) (dk dt_X12_is 9 rfl) rfl rfl ⟨by decide, ?_⟩
            show ATW _ _ _ _ _ _ _ _ _ _
            refine a_if_ne (pc := 209) (dk dt_X12_whole 103 rfl) (tgt := 218) rfl ⟨fun _ => ?_, fun c => absurd c (by decide)⟩
            refine a_iload (pc := 218) (dk dt_X12_whole 107 rfl) rfl ?_
            exact a_iret (pc := 220) (dk dt_X12_whole 108 rfl) rfl rfl H
      · replace H := H.2 c
        refine a_iconst (pc := 7) (dk dt_X12_bad 3 rfl) (ik rfl) ?_
        refine a_goto (pc := 8) (dk dt_X12_bad 4 rfl) (tgt := 12) rfl ?_
        refine a_zret (pc := 12) (dk dt_X12_bad 6 rfl) rfl rfl ⟨by decide, ?_⟩
        show ATW _ _ _ _ _ _ _ _ _ _
        refine a_if_ne (pc := 199) (dk dt_X12_whole 98 rfl) (tgt := 218) rfl ⟨fun _ => ?_, fun c => absurd c (by decide)⟩
        refine a_iload (pc := 218) (dk dt_X12_whole 107 rfl) rfl ?_
        exact a_iret (pc := 220) (dk dt_X12_whole 108 rfl) rfl rfl H
set_option maxHeartbeats 40000000 in
theorem U_X12_wordOf_85_100_0 {G : GG} {Φ : Int → Hp → Prop} {h : Hp} (H : (((h 85 6) < 0 → Call G m_X12_wordEnd [rv 85] h (fun r1 h2 => AT G m_X12_wordOf 16 [(0, rv 85), (1, rv 100), (2, iv r1), (3, iv 0)] [] h2 Φ)) ∧ (0 ≤ (h 85 6) → Φ (-1) h))) : AT G m_X12_wordOf 0 [(0, rv 85), (1, rv 100)] [] h Φ := by
  refine a_aload_n (pc := 0) (dk dt_X12_wordOf 0 rfl) rfl ?_
  refine a_callVi (as := []) (st := []) (pc := 1) (dk dt_X12_wordOf 1 rfl) cl_RX12_315 ⟨Nat.le_of_ble_eq_true rfl, Nat.le_of_ble_eq_true rfl⟩ ⟨Nat.le_of_ble_eq_true rfl, Nat.le_of_ble_eq_true rfl⟩ cls_12 rfl cc_85 rfl rfl rfl (Nat.le_of_ble_eq_true rfl) (Call.of rfl (Nat.le_of_ble_eq_true rfl) rfl ?_)
  refine a_aload_n (pc := 0) (dk dt_X12_bad 0 rfl) rfl ?_
  refine a_geti (pc := 1) (dk dt_X12_bad 1 rfl) cls_12 fl_RX12_312 cf_85_6 ?_
  refine a_if_lt (pc := 4) (dk dt_X12_bad 2 rfl) (tgt := 11) rfl ⟨fun c => ?_, fun c => ?_⟩
  · replace H := H.1 c
    refine a_iconst (pc := 11) (dk dt_X12_bad 5 rfl) (ik rfl) ?_
    refine a_zret (pc := 12) (dk dt_X12_bad 6 rfl) rfl rfl ⟨by decide, ?_⟩
    show ATW _ _ _ _ _ _ _ _ _ _
    refine a_if_eq (pc := 4) (dk dt_X12_wordOf 2 rfl) (tgt := 9) rfl ⟨fun _ => ?_, fun c => absurd c (by decide)⟩
    refine a_aload_n (pc := 9) (dk dt_X12_wordOf 5 rfl) rfl ?_
    refine a_callVi (as := []) (st := []) (pc := 10) (dk dt_X12_wordOf 6 rfl) cl_RX12_340 ⟨Nat.le_of_ble_eq_true rfl, Nat.le_of_ble_eq_true rfl⟩ ⟨Nat.le_of_ble_eq_true rfl, Nat.le_of_ble_eq_true rfl⟩ cls_12 rfl cc_85 rfl rfl rfl (Nat.le_of_ble_eq_true rfl) (Call.mono H fun r1 h2 H => ?_)
    refine a_istore_n (pc := 13) (dk dt_X12_wordOf 7 rfl) (by decide) rfl rfl ?_
    refine a_iconst (pc := 14) (dk dt_X12_wordOf 8 rfl) (ik rfl) ?_
    refine a_istore_n (pc := 15) (dk dt_X12_wordOf 9 rfl) (by decide) rfl rfl ?_
    exact a_pick [0, 1, 2, 3] rfl H
  · replace H := H.2 c
    refine a_iconst (pc := 7) (dk dt_X12_bad 3 rfl) (ik rfl) ?_
    refine a_goto (pc := 8) (dk dt_X12_bad 4 rfl) (tgt := 12) rfl ?_
    refine a_zret (pc := 12) (dk dt_X12_bad 6 rfl) rfl rfl ⟨by decide, ?_⟩
    show ATW _ _ _ _ _ _ _ _ _ _
    refine a_if_eq (pc := 4) (dk dt_X12_wordOf 2 rfl) (tgt := 9) rfl ⟨fun c => absurd c (by decide), fun _ => ?_⟩
    refine a_iconst (pc := 7) (dk dt_X12_wordOf 3 rfl) (ik rfl) ?_
    exact a_iret (pc := 8) (dk dt_X12_wordOf 4 rfl) rfl rfl H
set_option maxHeartbeats 40000000 in
theorem U_X12_wordOf_85_100_16 {G : GG} {Φ : Int → Hp → Prop} {h : Hp} {x2 : Int} {x3 : Int} (H : ((17 ≤ x3 → ((0 ≤ (h 85 6) → Φ (-1) h) ∧ ((h 85 6) < 0 → Φ (-1) (up h 85 6 (h 85 5))))) ∧ (x3 < 17 → (0 ≤ x3 ∧ x3 < 17) ∧ (1000 ≤ (rf 100 (x3).toNat) ∧ (rf 100 (x3).toNat) < 1063) ∧ Call G m_J0_length_8abf5 [rv (rf 100 (x3).toNat)] h (fun r1 h2 => (((w32 (x2 - (h 85 5))) ≠ r1 → AT G m_X12_wordOf 47 [(0, rv 85), (1, rv 100), (2, iv x2), (3, iv x3), (4, iv 0), (5, iv 0)] [] h2 Φ) ∧ ((w32 (x2 - (h 85 5))) = r1 → AT G m_X12_wordOf 47 [(0, rv 85), (1, rv 100), (2, iv x2), (3, iv x3), (4, iv 1), (5, iv 0)] [] h2 Φ)))))) : AT G m_X12_wordOf 16 [(0, rv 85), (1, rv 100), (2, iv x2), (3, iv x3)] [] h Φ := by
  refine a_iload_n (pc := 16) (dk dt_X12_wordOf 10 rfl) rfl ?_
  refine a_aload_n (pc := 17) (dk dt_X12_wordOf 11 rfl) rfl ?_
  refine a_alen (pc := 18) (dk dt_X12_wordOf 12 rfl) ar_100 (by decide) ?_
  refine a_icmp_ge (pc := 19) (dk dt_X12_wordOf 13 rfl) (tgt := 117) rfl ⟨fun c => ?_, fun c => ?_⟩
  · replace H := H.1 c
    refine a_aload_n (pc := 117) (dk dt_X12_wordOf 65 rfl) rfl ?_
    refine a_aload_n (pc := 118) (dk dt_X12_wordOf 66 rfl) rfl ?_
    refine a_geti (pc := 119) (dk dt_X12_wordOf 67 rfl) cls_12 fl_RX12_309 cf_85_5 ?_
    refine a_callVv (as := [iv (h 85 5)]) (st := []) (pc := 122) (dk dt_X12_wordOf 68 rfl) cl_RX12_323 ⟨Nat.le_of_ble_eq_true rfl, Nat.le_of_ble_eq_true rfl⟩ ⟨Nat.le_of_ble_eq_true rfl, Nat.le_of_ble_eq_true rfl⟩ cls_12 rfl cc_85 rfl rfl rfl (Nat.le_of_ble_eq_true rfl) (Call.of rfl (Nat.le_of_ble_eq_true rfl) rfl ?_)
    refine a_aload_n (pc := 0) (dk dt_X12_fail 0 rfl) rfl ?_
    refine a_geti (pc := 1) (dk dt_X12_fail 1 rfl) cls_12 fl_RX12_312 cf_85_6 ?_
    refine a_if_ge (pc := 4) (dk dt_X12_fail 2 rfl) (tgt := 12) rfl ⟨fun c => ?_, fun c => ?_⟩
    · replace H := H.1 c
      refine a_vret (pc := 12) (dk dt_X12_fail 6 rfl) rfl rfl ?_
      show ATW _ _ _ _ _ _ _ _ _ _
      refine a_iconst (pc := 125) (dk dt_X12_wordOf 69 rfl) (ik rfl) ?_
      exact a_iret (pc := 126) (dk dt_X12_wordOf 70 rfl) rfl rfl H
    · replace H := H.2 c
      refine a_aload_n (pc := 7) (dk dt_X12_fail 3 rfl) rfl ?_
      refine a_iload_n (pc := 8) (dk dt_X12_fail 4 rfl) rfl ?_
      refine a_puti (pc := 9) (dk dt_X12_fail 5 rfl) cls_12 fl_RX12_312 cf_85_6 rfl rfl ?_
      refine a_vret (pc := 12) (dk dt_X12_fail 6 rfl) rfl rfl ?_
      show ATW _ _ _ _ _ _ _ _ _ _
      refine a_iconst (pc := 125) (dk dt_X12_wordOf 69 rfl) (ik rfl) ?_
      exact a_iret (pc := 126) (dk dt_X12_wordOf 70 rfl) rfl rfl H
  · replace H := H.2 c
    refine a_iload_n (pc := 22) (dk dt_X12_wordOf 14 rfl) rfl ?_
    refine a_aload_n (pc := 23) (dk dt_X12_wordOf 15 rfl) rfl ?_
    refine a_geti (pc := 24) (dk dt_X12_wordOf 16 rfl) cls_12 fl_RX12_309 cf_85_5 ?_
    refine a_isub (pc := 27) (dk dt_X12_wordOf 17 rfl) ?_
    refine a_aload_n (pc := 28) (dk dt_X12_wordOf 18 rfl) rfl ?_
    refine a_iload_n (pc := 29) (dk dt_X12_wordOf 19 rfl) rfl ?_
    refine a_aald (pc := 30) (dk dt_X12_wordOf 20 rfl) ar_100 (by decide) ⟨H.1, ?_⟩
    replace H := H.2
    have hS := H.1
    replace H := H.2
    refine a_callTi (as := []) (st := [iv (w32 (x2 - (h 85 5)))]) (pc := 31) (dk dt_X12_wordOf 21 rfl) cl_RX12_343 ⟨Nat.le_of_ble_eq_true rfl, Nat.le_of_ble_eq_true rfl⟩ ⟨Nat.le_of_ble_eq_true rfl, Nat.le_of_ble_eq_true rfl⟩ hS rfl rfl rfl rfl (Nat.le_of_ble_eq_true rfl) (Call.mono H fun r1 h2 H => ?_)
    refine a_icmp_ne (pc := 34) (dk dt_X12_wordOf 22 rfl) (tgt := 41) rfl ⟨fun c => ?_, fun c => ?_⟩
    · replace H := H.1 c
      refine a_iconst (pc := 41) (dk dt_X12_wordOf 25 rfl) (ik rfl) ?_
      refine a_istore (pc := 42) (dk dt_X12_wordOf 26 rfl) (by decide) rfl rfl ?_
      refine a_iconst (pc := 44) (dk dt_X12_wordOf 27 rfl) (ik rfl) ?_
      refine a_istore (pc := 45) (dk dt_X12_wordOf 28 rfl) (by decide) rfl rfl ?_
      exact a_pick [0, 1, 2, 3, 4, 5] rfl H
    · replace H := H.2 c
      refine a_iconst (pc := 37) (dk dt_X12_wordOf 23 rfl) (ik rfl) ?_
      refine a_goto (pc := 38) (dk dt_X12_wordOf 24 rfl) (tgt := 42) rfl ?_
      refine a_istore (pc := 42) (dk dt_X12_wordOf 26 rfl) (by decide) rfl rfl ?_
      refine a_iconst (pc := 44) (dk dt_X12_wordOf 27 rfl) (ik rfl) ?_
      refine a_istore (pc := 45) (dk dt_X12_wordOf 28 rfl) (by decide) rfl rfl ?_
      exact a_pick [0, 1, 2, 3, 4, 5] rfl H
set_option maxHeartbeats 40000000 in
theorem U_X12_wordOf_85_100_47 {G : GG} {Φ : Int → Hp → Prop} {h : Hp} {x2 : Int} {x3 : Int} {x4 : Int} {x5 : Int} (H : (0 ≤ x3 ∧ x3 < 17) ∧ (1000 ≤ (rf 100 (x3).toNat) ∧ (rf 100 (x3).toNat) < 1063) ∧ Call G m_J0_length_8abf5 [rv (rf 100 (x3).toNat)] h (fun r1 h2 => ((r1 ≤ x5 → ((x4 = 0 → AT G m_X12_wordOf 16 [(0, rv 85), (1, rv 100), (2, iv x2), (3, iv (w32 (x3 + 1)))] [] h2 Φ) ∧ (x4 ≠ 0 → Φ x3 (up h2 85 5 x2)))) ∧ (x5 < r1 → ((x4 = 0 → ((x4 = 0 → AT G m_X12_wordOf 16 [(0, rv 85), (1, rv 100), (2, iv x2), (3, iv (w32 (x3 + 1)))] [] h2 Φ) ∧ (x4 ≠ 0 → Φ x3 (up h2 85 5 x2)))) ∧ (x4 ≠ 0 → (0 ≤ (w32 ((h2 85 5) + x5)) ∧ (w32 ((h2 85 5) + x5)) < 1600) ∧ (0 ≤ x3 ∧ x3 < 17) ∧ (1000 ≤ (rf 100 (x3).toNat) ∧ (rf 100 (x3).toNat) < 1063) ∧ Call G m_J0_charAt_5068e [rv (rf 100 (x3).toNat), iv x5] h2 (fun r3 h4 => (((h2 87 (w32 ((h2 85 5) + x5))) ≠ r3 → AT G m_X12_wordOf 47 [(0, rv 85), (1, rv 100), (2, iv x2), (3, iv x3), (4, iv 0), (5, iv (w32 (x5 + 1)))] [] h4 Φ) ∧ ((h2 87 (w32 ((h2 85 5) + x5))) = r3 → AT G m_X12_wordOf 47 [(0, rv 85), (1, rv 100), (2, iv x2), (3, iv x3), (4, iv 1), (5, iv (w32 (x5 + 1)))] [] h4 Φ))))))))) : AT G m_X12_wordOf 47 [(0, rv 85), (1, rv 100), (2, iv x2), (3, iv x3), (4, iv x4), (5, iv x5)] [] h Φ := by
  refine a_iload (pc := 47) (dk dt_X12_wordOf 29 rfl) rfl ?_
  refine a_aload_n (pc := 49) (dk dt_X12_wordOf 30 rfl) rfl ?_
  refine a_iload_n (pc := 50) (dk dt_X12_wordOf 31 rfl) rfl ?_
  refine a_aald (pc := 51) (dk dt_X12_wordOf 32 rfl) ar_100 (by decide) ⟨H.1, ?_⟩
  replace H := H.2
  have hS := H.1
  replace H := H.2
  refine a_callTi (as := []) (st := [iv x5]) (pc := 52) (dk dt_X12_wordOf 33 rfl) cl_RX12_343 ⟨Nat.le_of_ble_eq_true rfl, Nat.le_of_ble_eq_true rfl⟩ ⟨Nat.le_of_ble_eq_true rfl, Nat.le_of_ble_eq_true rfl⟩ hS rfl rfl rfl rfl (Nat.le_of_ble_eq_true rfl) (Call.mono H fun r1 h2 H => ?_)
  refine a_icmp_ge (pc := 55) (dk dt_X12_wordOf 34 rfl) (tgt := 99) rfl ⟨fun c => ?_, fun c => ?_⟩
  · replace H := H.1 c
    refine a_iload (pc := 99) (dk dt_X12_wordOf 56 rfl) rfl ?_
    refine a_if_eq (pc := 101) (dk dt_X12_wordOf 57 rfl) (tgt := 111) rfl ⟨fun c => ?_, fun c => ?_⟩
    · replace H := H.1 c
      refine a_iinc (pc := 111) (dk dt_X12_wordOf 63 rfl) (by decide) rfl rfl rfl ?_
      refine a_goto (pc := 114) (dk dt_X12_wordOf 64 rfl) (tgt := 16) rfl ?_
      exact a_pick [0, 1, 2, 3] rfl H
    · replace H := H.2 c
      refine a_aload_n (pc := 104) (dk dt_X12_wordOf 58 rfl) rfl ?_
      refine a_iload_n (pc := 105) (dk dt_X12_wordOf 59 rfl) rfl ?_
      refine a_puti (pc := 106) (dk dt_X12_wordOf 60 rfl) cls_12 fl_RX12_309 cf_85_5 rfl rfl ?_
      refine a_iload_n (pc := 109) (dk dt_X12_wordOf 61 rfl) rfl ?_
      exact a_iret (pc := 110) (dk dt_X12_wordOf 62 rfl) rfl rfl H
  · replace H := H.2 c
    refine a_iload (pc := 58) (dk dt_X12_wordOf 35 rfl) rfl ?_
    refine a_if_eq (pc := 60) (dk dt_X12_wordOf 36 rfl) (tgt := 99) rfl ⟨fun c => ?_, fun c => ?_⟩
    · replace H := H.1 c
      refine a_iload (pc := 99) (dk dt_X12_wordOf 56 rfl) rfl ?_
      refine a_if_eq (pc := 101) (dk dt_X12_wordOf 57 rfl) (tgt := 111) rfl ⟨fun c => ?_, fun c => ?_⟩
      · replace H := H.1 c
        refine a_iinc (pc := 111) (dk dt_X12_wordOf 63 rfl) (by decide) rfl rfl rfl ?_
        refine a_goto (pc := 114) (dk dt_X12_wordOf 64 rfl) (tgt := 16) rfl ?_
        exact a_pick [0, 1, 2, 3] rfl H
      · replace H := H.2 c
        refine a_aload_n (pc := 104) (dk dt_X12_wordOf 58 rfl) rfl ?_
        refine a_iload_n (pc := 105) (dk dt_X12_wordOf 59 rfl) rfl ?_
        refine a_puti (pc := 106) (dk dt_X12_wordOf 60 rfl) cls_12 fl_RX12_309 cf_85_5 rfl rfl ?_
        refine a_iload_n (pc := 109) (dk dt_X12_wordOf 61 rfl) rfl ?_
        exact a_iret (pc := 110) (dk dt_X12_wordOf 62 rfl) rfl rfl H
    · replace H := H.2 c
      refine a_aload_n (pc := 63) (dk dt_X12_wordOf 37 rfl) rfl ?_
      refine a_getr (r := 86) (pc := 64) (dk dt_X12_wordOf 38 rfl) cls_12 fl_RX12_13 cf_85_1 ?_
      refine a_aload_n (pc := 67) (dk dt_X12_wordOf 39 rfl) rfl ?_
      refine a_geti (pc := 68) (dk dt_X12_wordOf 40 rfl) cls_12 fl_RX12_309 cf_85_5 ?_
      refine a_iload (pc := 71) (dk dt_X12_wordOf 41 rfl) rfl ?_
      refine a_iadd (pc := 73) (dk dt_X12_wordOf 42 rfl) ?_
      refine a_iald (pc := 74) (dk dt_X12_wordOf 43 rfl) ar_87 ⟨H.1, ?_⟩
      replace H := H.2
      refine a_aload_n (pc := 75) (dk dt_X12_wordOf 44 rfl) rfl ?_
      refine a_iload_n (pc := 76) (dk dt_X12_wordOf 45 rfl) rfl ?_
      refine a_aald (pc := 77) (dk dt_X12_wordOf 46 rfl) ar_100 (by decide) ⟨H.1, ?_⟩
      replace H := H.2
      refine a_iload (pc := 78) (dk dt_X12_wordOf 47 rfl) rfl ?_
      have hS := H.1
      replace H := H.2
      refine a_callTi (as := [iv x5]) (st := [iv (h2 87 (w32 ((h2 85 5) + x5)))]) (pc := 80) (dk dt_X12_wordOf 48 rfl) cl_RX12_346 ⟨Nat.le_of_ble_eq_true rfl, Nat.le_of_ble_eq_true rfl⟩ ⟨Nat.le_of_ble_eq_true rfl, Nat.le_of_ble_eq_true rfl⟩ hS rfl rfl rfl rfl (Nat.le_of_ble_eq_true rfl) (Call.mono H fun r3 h4 H => ?_)
      refine a_icmp_ne (pc := 83) (dk dt_X12_wordOf 49 rfl) (tgt := 90) rfl ⟨fun c => ?_, fun c => ?_⟩
      · replace H := H.1 c
        refine a_iconst (pc := 90) (dk dt_X12_wordOf 52 rfl) (ik rfl) ?_
        refine a_istore (pc := 91) (dk dt_X12_wordOf 53 rfl) (by decide) rfl rfl ?_
        refine a_iinc (pc := 93) (dk dt_X12_wordOf 54 rfl) (by decide) rfl rfl rfl ?_
        refine a_goto (pc := 96) (dk dt_X12_wordOf 55 rfl) (tgt := 47) rfl ?_
        exact a_pick [0, 1, 2, 3, 4, 5] rfl H
      · replace H := H.2 c
        refine a_iconst (pc := 86) (dk dt_X12_wordOf 50 rfl) (ik rfl) ?_
        refine a_goto (pc := 87) (dk dt_X12_wordOf 51 rfl) (tgt := 91) rfl ?_
        refine a_istore (pc := 91) (dk dt_X12_wordOf 53 rfl) (by decide) rfl rfl ?_
        refine a_iinc (pc := 93) (dk dt_X12_wordOf 54 rfl) (by decide) rfl rfl rfl ?_
        refine a_goto (pc := 96) (dk dt_X12_wordOf 55 rfl) (tgt := 47) rfl ?_
        exact a_pick [0, 1, 2, 3, 4, 5] rfl H
set_option maxHeartbeats 40000000 in
theorem U_X12_sort_85_0 {G : GG} {Φ : Int → Hp → Prop} {h : Hp} {x1 : Int} (H : (0 ≤ (w32 (9 * x1)) ∧ (w32 (9 * x1)) < 450) ∧ Φ (w32 ((w32 ((h 133 (w32 (9 * x1))) - 10)).tdiv 4)) h) : AT G m_X12_sort 0 [(0, rv 85), (1, iv x1)] [] h Φ := by
  refine a_aload_n (pc := 0) (dk dt_X12_sort 0 rfl) rfl ?_
  refine a_getr (r := 132) (pc := 1) (dk dt_X12_sort 1 rfl) cls_12 fl_RX12_227 cf_85_68 ?_
  refine a_bipush (pc := 4) (dk dt_X12_sort 2 rfl) (ik rfl) (bpk rfl) ?_
  refine a_iload_n (pc := 6) (dk dt_X12_sort 3 rfl) rfl ?_
  refine a_imul (pc := 7) (dk dt_X12_sort 4 rfl) ?_
  refine a_iald (pc := 8) (dk dt_X12_sort 5 rfl) ar_133 ⟨H.1, ?_⟩
  replace H := H.2
  refine a_bipush (pc := 9) (dk dt_X12_sort 6 rfl) (ik rfl) (bpk rfl) ?_
  refine a_isub (pc := 11) (dk dt_X12_sort 7 rfl) ?_
  refine a_iconst (pc := 12) (dk dt_X12_sort 8 rfl) (ik rfl) ?_
  refine a_idiv (pc := 13) (dk dt_X12_sort 9 rfl) ⟨by decide, ?_⟩
  exact a_iret (pc := 14) (dk dt_X12_sort 10 rfl) rfl rfl H
set_option maxHeartbeats 40000000 in
theorem U_X12_drop_85_0 {G : GG} {Φ : Int → Hp → Prop} {h : Hp} {x1 : Int} (H : AT G m_X12_drop 12 [(0, rv 85), (2, iv x1)] [] (up h 85 72 (w32 ((h 85 72) - 1))) Φ) : AT G m_X12_drop 0 [(0, rv 85), (1, iv x1)] [] h Φ := by
  refine a_aload_n (pc := 0) (dk dt_X12_drop 0 rfl) rfl ?_
  refine a_dup (pc := 1) (dk dt_X12_drop 1 rfl) rfl ?_
  refine a_geti (pc := 2) (dk dt_X12_drop 2 rfl) cls_12 fl_RX12_501 cf_85_72 ?_
  refine a_iconst (pc := 5) (dk dt_X12_drop 3 rfl) (ik rfl) ?_
  refine a_isub (pc := 6) (dk dt_X12_drop 4 rfl) ?_
  refine a_puti (pc := 7) (dk dt_X12_drop 5 rfl) cls_12 fl_RX12_501 cf_85_72 rfl rfl ?_
  refine a_iload_n (pc := 10) (dk dt_X12_drop 6 rfl) rfl ?_
  refine a_istore_n (pc := 11) (dk dt_X12_drop 7 rfl) (by decide) rfl rfl ?_
  exact a_pick [0, 2] rfl H
set_option maxHeartbeats 40000000 in
theorem U_X12_drop_85_12 {G : GG} {Φ : Int → Hp → Prop} {h : Hp} {x2 : Int} (H : (((h 85 72) ≤ x2 → Φ 0 h) ∧ (x2 < (h 85 72) → (0 ≤ (w32 (x2 + 1)) ∧ (w32 (x2 + 1)) < 50) ∧ (0 ≤ x2 ∧ x2 < 50) ∧ AT G m_X12_drop 36 [(0, rv 85), (2, iv x2), (3, iv 0)] [] (up h 134 x2 (h 134 (w32 (x2 + 1)))) Φ))) : AT G m_X12_drop 12 [(0, rv 85), (2, iv x2)] [] h Φ := by
  refine a_iload_n (pc := 12) (dk dt_X12_drop 8 rfl) rfl ?_
  refine a_aload_n (pc := 13) (dk dt_X12_drop 9 rfl) rfl ?_
  refine a_geti (pc := 14) (dk dt_X12_drop 10 rfl) cls_12 fl_RX12_501 cf_85_72 ?_
  refine a_icmp_ge (pc := 17) (dk dt_X12_drop 11 rfl) (tgt := 79) rfl ⟨fun c => ?_, fun c => ?_⟩
  · replace H := H.1 c
    exact a_vret (pc := 79) (dk dt_X12_drop 49 rfl) rfl rfl H
  · replace H := H.2 c
    refine a_aload_n (pc := 20) (dk dt_X12_drop 12 rfl) rfl ?_
    refine a_getr (r := 133) (pc := 21) (dk dt_X12_drop 13 rfl) cls_12 fl_RX12_229 cf_85_69 ?_
    refine a_iload_n (pc := 24) (dk dt_X12_drop 14 rfl) rfl ?_
    refine a_aload_n (pc := 25) (dk dt_X12_drop 15 rfl) rfl ?_
    refine a_getr (r := 133) (pc := 26) (dk dt_X12_drop 16 rfl) cls_12 fl_RX12_229 cf_85_69 ?_
    refine a_iload_n (pc := 29) (dk dt_X12_drop 17 rfl) rfl ?_
    refine a_iconst (pc := 30) (dk dt_X12_drop 18 rfl) (ik rfl) ?_
    refine a_iadd (pc := 31) (dk dt_X12_drop 19 rfl) ?_
    refine a_iald (pc := 32) (dk dt_X12_drop 20 rfl) ar_134 ⟨H.1, ?_⟩
    replace H := H.2
    refine a_iast (pc := 33) (dk dt_X12_drop 21 rfl) ar_134 ⟨H.1, ?_⟩
    replace H := H.2
    refine a_iconst (pc := 34) (dk dt_X12_drop 22 rfl) (ik rfl) ?_
    refine a_istore_n (pc := 35) (dk dt_X12_drop 23 rfl) (by decide) rfl rfl ?_
    exact a_pick [0, 1, 2] rfl H
set_option maxHeartbeats 40000000 in
theorem U_X12_drop_85_36 {G : GG} {Φ : Int → Hp → Prop} {h : Hp} {x2 : Int} {x3 : Int} (H : ((9 ≤ x3 → AT G m_X12_drop 12 [(0, rv 85), (2, iv (w32 (x2 + 1)))] [] h Φ) ∧ (x3 < 9 → (0 ≤ (w32 ((w32 ((w32 (9 * x2)) + 9)) + x3)) ∧ (w32 ((w32 ((w32 (9 * x2)) + 9)) + x3)) < 450) ∧ (0 ≤ (w32 ((w32 (9 * x2)) + x3)) ∧ (w32 ((w32 (9 * x2)) + x3)) < 450) ∧ AT G m_X12_drop 36 [(0, rv 85), (2, iv x2), (3, iv (w32 (x3 + 1)))] [] (up h 133 (w32 ((w32 (9 * x2)) + x3)) (h 133 (w32 ((w32 ((w32 (9 * x2)) + 9)) + x3)))) Φ))) : AT G m_X12_drop 36 [(0, rv 85), (2, iv x2), (3, iv x3)] [] h Φ := by
  refine a_iload_n (pc := 36) (dk dt_X12_drop 24 rfl) rfl ?_
  refine a_bipush (pc := 37) (dk dt_X12_drop 25 rfl) (ik rfl) (bpk rfl) ?_
  refine a_icmp_ge (pc := 39) (dk dt_X12_drop 26 rfl) (tgt := 73) rfl ⟨fun c => ?_, fun c => ?_⟩
  · replace H := H.1 c
    refine a_iinc (pc := 73) (dk dt_X12_drop 47 rfl) (by decide) rfl rfl rfl ?_
    refine a_goto (pc := 76) (dk dt_X12_drop 48 rfl) (tgt := 12) rfl ?_
    exact a_pick [0, 1] rfl H
  · replace H := H.2 c
    refine a_aload_n (pc := 42) (dk dt_X12_drop 27 rfl) rfl ?_
    refine a_getr (r := 132) (pc := 43) (dk dt_X12_drop 28 rfl) cls_12 fl_RX12_227 cf_85_68 ?_
    refine a_bipush (pc := 46) (dk dt_X12_drop 29 rfl) (ik rfl) (bpk rfl) ?_
    refine a_iload_n (pc := 48) (dk dt_X12_drop 30 rfl) rfl ?_
    refine a_imul (pc := 49) (dk dt_X12_drop 31 rfl) ?_
    refine a_iload_n (pc := 50) (dk dt_X12_drop 32 rfl) rfl ?_
    refine a_iadd (pc := 51) (dk dt_X12_drop 33 rfl) ?_
    refine a_aload_n (pc := 52) (dk dt_X12_drop 34 rfl) rfl ?_
    refine a_getr (r := 132) (pc := 53) (dk dt_X12_drop 35 rfl) cls_12 fl_RX12_227 cf_85_68 ?_
    refine a_bipush (pc := 56) (dk dt_X12_drop 36 rfl) (ik rfl) (bpk rfl) ?_
    refine a_iload_n (pc := 58) (dk dt_X12_drop 37 rfl) rfl ?_
    refine a_imul (pc := 59) (dk dt_X12_drop 38 rfl) ?_
    refine a_bipush (pc := 60) (dk dt_X12_drop 39 rfl) (ik rfl) (bpk rfl) ?_
    refine a_iadd (pc := 62) (dk dt_X12_drop 40 rfl) ?_
    refine a_iload_n (pc := 63) (dk dt_X12_drop 41 rfl) rfl ?_
    refine a_iadd (pc := 64) (dk dt_X12_drop 42 rfl) ?_
    refine a_iald (pc := 65) (dk dt_X12_drop 43 rfl) ar_133 ⟨H.1, ?_⟩
    replace H := H.2
    refine a_iast (pc := 66) (dk dt_X12_drop 44 rfl) ar_133 ⟨H.1, ?_⟩
    replace H := H.2
    refine a_iinc (pc := 67) (dk dt_X12_drop 45 rfl) (by decide) rfl rfl rfl ?_
    refine a_goto (pc := 70) (dk dt_X12_drop 46 rfl) (tgt := 36) rfl ?_
    exact a_pick [0, 1, 2] rfl H
set_option maxHeartbeats 40000000 in
theorem U_X12_holds_85_0 {G : GG} {Φ : Int → Hp → Prop} {h : Hp} {x1 : Int} (H : (0 ≤ x1 ∧ x1 < 260) ∧ Call G m_X12_valueOf [rv 85, iv (h 106 x1)] h (fun r1 h2 => (0 ≤ x1 ∧ x1 < 260) ∧ (((h2 107 x1) ≠ 61 → (0 ≤ x1 ∧ x1 < 260) ∧ (((h2 107 x1) ≠ 60 → (0 ≤ x1 ∧ x1 < 260) ∧ ((r1 ≤ (h2 108 x1) → Φ 0 h2) ∧ ((h2 108 x1) < r1 → Φ 1 h2))) ∧ ((h2 107 x1) = 60 → (0 ≤ x1 ∧ x1 < 260) ∧ (((h2 108 x1) ≤ r1 → Φ 0 h2) ∧ (r1 < (h2 108 x1) → Φ 1 h2))))) ∧ ((h2 107 x1) = 61 → (0 ≤ x1 ∧ x1 < 260) ∧ ((r1 ≠ (h2 108 x1) → Φ 0 h2) ∧ (r1 = (h2 108 x1) → Φ 1 h2)))))) : AT G m_X12_holds 0 [(0, rv 85), (1, iv x1)] [] h Φ := by
  refine a_aload_n (pc := 0) (dk dt_X12_holds 0 rfl) rfl ?_
  refine a_aload_n (pc := 1) (dk dt_X12_holds 1 rfl) rfl ?_
  refine a_getr (r := 105) (pc := 2) (dk dt_X12_holds 2 rfl) cls_12 fl_RX12_147 cf_85_39 ?_
  refine a_iload_n (pc := 5) (dk dt_X12_holds 3 rfl) rfl ?_
  refine a_iald (pc := 6) (dk dt_X12_holds 4 rfl) ar_106 ⟨H.1, ?_⟩
  replace H := H.2
  refine a_callVi (as := [iv (h 106 x1)]) (st := []) (pc := 7) (dk dt_X12_holds 5 rfl) cl_RX12_478 ⟨Nat.le_of_ble_eq_true rfl, Nat.le_of_ble_eq_true rfl⟩ ⟨Nat.le_of_ble_eq_true rfl, Nat.le_of_ble_eq_true rfl⟩ cls_12 rfl cc_85 rfl rfl rfl (Nat.le_of_ble_eq_true rfl) (Call.mono H fun r1 h2 H => ?_)
  refine a_istore_n (pc := 10) (dk dt_X12_holds 6 rfl) (by decide) rfl rfl ?_
  refine a_aload_n (pc := 11) (dk dt_X12_holds 7 rfl) rfl ?_
  refine a_getr (r := 106) (pc := 12) (dk dt_X12_holds 8 rfl) cls_12 fl_RX12_150 cf_85_40 ?_
  refine a_iload_n (pc := 15) (dk dt_X12_holds 9 rfl) rfl ?_
  refine a_iald (pc := 16) (dk dt_X12_holds 10 rfl) ar_107 ⟨H.1, ?_⟩
  replace H := H.2
  refine a_bipush (pc := 17) (dk dt_X12_holds 11 rfl) (ik rfl) (bpk rfl) ?_
  refine a_icmp_ne (pc := 19) (dk dt_X12_holds 12 rfl) (tgt := 40) rfl ⟨fun c => ?_, fun c => ?_⟩
  · replace H := H.1 c
    refine a_aload_n (pc := 40) (dk dt_X12_holds 23 rfl) rfl ?_
    refine a_getr (r := 106) (pc := 41) (dk dt_X12_holds 24 rfl) cls_12 fl_RX12_150 cf_85_40 ?_
    refine a_iload_n (pc := 44) (dk dt_X12_holds 25 rfl) rfl ?_
    refine a_iald (pc := 45) (dk dt_X12_holds 26 rfl) ar_107 ⟨H.1, ?_⟩
    replace H := H.2
    refine a_bipush (pc := 46) (dk dt_X12_holds 27 rfl) (ik rfl) (bpk rfl) ?_
    refine a_icmp_ne (pc := 48) (dk dt_X12_holds 28 rfl) (tgt := 69) rfl ⟨fun c => ?_, fun c => ?_⟩
    · replace H := H.1 c
      refine a_iload_n (pc := 69) (dk dt_X12_holds 39 rfl) rfl ?_
      refine a_aload_n (pc := 70) (dk dt_X12_holds 40 rfl) rfl ?_
      refine a_getr (r := 107) (pc := 71) (dk dt_X12_holds 41 rfl) cls_12 fl_RX12_153 cf_85_41 ?_
      refine a_iload_n (pc := 74) (dk dt_X12_holds 42 rfl) rfl ?_
      refine a_iald (pc := 75) (dk dt_X12_holds 43 rfl) ar_108 ⟨H.1, ?_⟩
      replace H := H.2
      refine a_icmp_le (pc := 76) (dk dt_X12_holds 44 rfl) (tgt := 83) rfl ⟨fun c => ?_, fun c => ?_⟩
      · replace H := H.1 c
        refine a_iconst (pc := 83) (dk dt_X12_holds 47 rfl) (ik rfl) ?_
        exact a_zret (pc := 84) (dk dt_X12_holds 48 rfl) rfl rfl ⟨by decide, H⟩
      · replace H := H.2 c
        refine a_iconst (pc := 79) (dk dt_X12_holds 45 rfl) (ik rfl) ?_
        refine a_goto (pc := 80) (dk dt_X12_holds 46 rfl) (tgt := 84) rfl ?_
        exact a_zret (pc := 84) (dk dt_X12_holds 48 rfl) rfl rfl ⟨by decide, H⟩
    · replace H := H.2 c
      refine a_iload_n (pc := 51) (dk dt_X12_holds 29 rfl) rfl ?_
      refine a_aload_n (pc := 52) (dk dt_X12_holds 30 rfl) rfl ?_
      refine a_getr (r := 107) (pc := 53) (dk dt_X12_holds 31 rfl) cls_12 fl_RX12_153 cf_85_41 ?_
      refine a_iload_n (pc := 56) (dk dt_X12_holds 32 rfl) rfl ?_
      refine a_iald (pc := 57) (dk dt_X12_holds 33 rfl) ar_108 ⟨H.1, ?_⟩
      replace H := H.2
      refine a_icmp_ge (pc := 58) (dk dt_X12_holds 34 rfl) (tgt := 65) rfl ⟨fun c => ?_, fun c => ?_⟩
      · replace H := H.1 c
        refine a_iconst (pc := 65) (dk dt_X12_holds 37 rfl) (ik rfl) ?_
        refine a_goto (pc := 66) (dk dt_X12_holds 38 rfl) (tgt := 84) rfl ?_
        exact a_zret (pc := 84) (dk dt_X12_holds 48 rfl) rfl rfl ⟨by decide, H⟩
      · replace H := H.2 c
        refine a_iconst (pc := 61) (dk dt_X12_holds 35 rfl) (ik rfl) ?_
        refine a_goto (pc := 62) (dk dt_X12_holds 36 rfl) (tgt := 84) rfl ?_
        exact a_zret (pc := 84) (dk dt_X12_holds 48 rfl) rfl rfl ⟨by decide, H⟩
  · replace H := H.2 c
    refine a_iload_n (pc := 22) (dk dt_X12_holds 13 rfl) rfl ?_
    refine a_aload_n (pc := 23) (dk dt_X12_holds 14 rfl) rfl ?_
    refine a_getr (r := 107) (pc := 24) (dk dt_X12_holds 15 rfl) cls_12 fl_RX12_153 cf_85_41 ?_
    refine a_iload_n (pc := 27) (dk dt_X12_holds 16 rfl) rfl ?_
    refine a_iald (pc := 28) (dk dt_X12_holds 17 rfl) ar_108 ⟨H.1, ?_⟩
    replace H := H.2
    refine a_icmp_ne (pc := 29) (dk dt_X12_holds 18 rfl) (tgt := 36) rfl ⟨fun c => ?_, fun c => ?_⟩
    · replace H := H.1 c
      refine a_iconst (pc := 36) (dk dt_X12_holds 21 rfl) (ik rfl) ?_
      refine a_goto (pc := 37) (dk dt_X12_holds 22 rfl) (tgt := 84) rfl ?_
      exact a_zret (pc := 84) (dk dt_X12_holds 48 rfl) rfl rfl ⟨by decide, H⟩
    · replace H := H.2 c
      refine a_iconst (pc := 32) (dk dt_X12_holds 19 rfl) (ik rfl) ?_
      refine a_goto (pc := 33) (dk dt_X12_holds 20 rfl) (tgt := 84) rfl ?_
      exact a_zret (pc := 84) (dk dt_X12_holds 48 rfl) rfl rfl ⟨by decide, H⟩
set_option maxHeartbeats 40000000 in
theorem U_X12_goTo_85_0 {G : GG} {Φ : Int → Hp → Prop} {h : Hp} {x1 : Int} (H : AT G m_X12_goTo 7 [(0, rv 85), (1, iv x1), (2, iv 0)] [] (up h 85 23 x1) Φ) : AT G m_X12_goTo 0 [(0, rv 85), (1, iv x1)] [] h Φ := by
  refine a_aload_n (pc := 0) (dk dt_X12_goTo 0 rfl) rfl ?_
  refine a_iload_n (pc := 1) (dk dt_X12_goTo 1 rfl) rfl ?_
  refine a_puti (pc := 2) (dk dt_X12_goTo 2 rfl) cls_12 fl_RX12_465 cf_85_23 rfl rfl ?_
  refine a_iconst (pc := 5) (dk dt_X12_goTo 3 rfl) (ik rfl) ?_
  refine a_istore_n (pc := 6) (dk dt_X12_goTo 4 rfl) (by decide) rfl rfl ?_
  exact a_pick [0, 1, 2] rfl H
set_option maxHeartbeats 40000000 in
theorem U_X12_goTo_85_7 {G : GG} {Φ : Int → Hp → Prop} {h : Hp} {x1 : Int} {x2 : Int} (H : ((8 ≤ x2 → Φ 0 h) ∧ (x2 < 8 → (0 ≤ x1 ∧ x1 < 4) ∧ (((band (bshr (h 124 x1) x2) 1) ≠ 1 → (0 ≤ x2 ∧ x2 < 8) ∧ (0 ≤ x1 ∧ x1 < 4) ∧ (((band (bshr (h 125 x1) x2) 1) ≠ 0 → AT G m_X12_goTo 7 [(0, rv 85), (1, iv x1), (2, iv (w32 (x2 + 1)))] [] (up h 95 x2 0) Φ) ∧ ((band (bshr (h 125 x1) x2) 1) = 0 → (0 ≤ x2 ∧ x2 < 8) ∧ AT G m_X12_goTo 7 [(0, rv 85), (1, iv x1), (2, iv (w32 (x2 + 1)))] [] (up (up h 95 x2 0) 116 x2 (-1)) Φ))) ∧ ((band (bshr (h 124 x1) x2) 1) = 1 → (0 ≤ x2 ∧ x2 < 8) ∧ (0 ≤ x1 ∧ x1 < 4) ∧ (((band (bshr (h 125 x1) x2) 1) ≠ 0 → AT G m_X12_goTo 7 [(0, rv 85), (1, iv x1), (2, iv (w32 (x2 + 1)))] [] (up h 95 x2 1) Φ) ∧ ((band (bshr (h 125 x1) x2) 1) = 0 → (0 ≤ x2 ∧ x2 < 8) ∧ AT G m_X12_goTo 7 [(0, rv 85), (1, iv x1), (2, iv (w32 (x2 + 1)))] [] (up (up h 95 x2 1) 116 x2 (-1)) Φ))))))) : AT G m_X12_goTo 7 [(0, rv 85), (1, iv x1), (2, iv x2)] [] h Φ := by
  refine a_iload_n (pc := 7) (dk dt_X12_goTo 5 rfl) rfl ?_
  refine a_bipush (pc := 8) (dk dt_X12_goTo 6 rfl) (ik rfl) (bpk rfl) ?_
  refine a_icmp_ge (pc := 10) (dk dt_X12_goTo 7 rfl) (tgt := 64) rfl ⟨fun c => ?_, fun c => ?_⟩
  · replace H := H.1 c
    exact a_vret (pc := 64) (dk dt_X12_goTo 41 rfl) rfl rfl H
  · replace H := H.2 c
    refine a_aload_n (pc := 13) (dk dt_X12_goTo 8 rfl) rfl ?_
    refine a_getr (r := 94) (pc := 14) (dk dt_X12_goTo 9 rfl) cls_12 fl_RX12_50 cf_85_26 ?_
    refine a_iload_n (pc := 17) (dk dt_X12_goTo 10 rfl) rfl ?_
    refine a_aload_n (pc := 18) (dk dt_X12_goTo 11 rfl) rfl ?_
    refine a_getr (r := 123) (pc := 19) (dk dt_X12_goTo 12 rfl) cls_12 fl_RX12_201 cf_85_58 ?_
    refine a_iload_n (pc := 22) (dk dt_X12_goTo 13 rfl) rfl ?_
    refine a_iald (pc := 23) (dk dt_X12_goTo 14 rfl) ar_124 ⟨H.1, ?_⟩
    replace H := H.2
    refine a_iload_n (pc := 24) (dk dt_X12_goTo 15 rfl) rfl ?_
    refine a_ishr (pc := 25) (dk dt_X12_goTo 16 rfl) ?_
    refine a_iconst (pc := 26) (dk dt_X12_goTo 17 rfl) (ik rfl) ?_
    refine a_iand (pc := 27) (dk dt_X12_goTo 18 rfl) ?_
    refine a_iconst (pc := 28) (dk dt_X12_goTo 19 rfl) (ik rfl) ?_
    refine a_icmp_ne (pc := 29) (dk dt_X12_goTo 20 rfl) (tgt := 36) rfl ⟨fun c => ?_, fun c => ?_⟩
    · replace H := H.1 c
      refine a_iconst (pc := 36) (dk dt_X12_goTo 23 rfl) (ik rfl) ?_
      refine a_zast (pc := 37) (dk dt_X12_goTo 24 rfl) ar_95 ⟨H.1, by decide, ?_⟩
      replace H := H.2
      refine a_aload_n (pc := 38) (dk dt_X12_goTo 25 rfl) rfl ?_
      refine a_getr (r := 124) (pc := 39) (dk dt_X12_goTo 26 rfl) cls_12 fl_RX12_204 cf_85_59 ?_
      refine a_iload_n (pc := 42) (dk dt_X12_goTo 27 rfl) rfl ?_
      refine a_iald (pc := 43) (dk dt_X12_goTo 28 rfl) ar_125 ⟨H.1, ?_⟩
      replace H := H.2
      refine a_top (y := (h 125 x1)) (by simp [up, cpy]) ?_
      refine a_iload_n (pc := 44) (dk dt_X12_goTo 29 rfl) rfl ?_
      refine a_ishr (pc := 45) (dk dt_X12_goTo 30 rfl) ?_
      refine a_iconst (pc := 46) (dk dt_X12_goTo 31 rfl) (ik rfl) ?_
      refine a_iand (pc := 47) (dk dt_X12_goTo 32 rfl) ?_
      refine a_if_ne (pc := 48) (dk dt_X12_goTo 33 rfl) (tgt := 58) rfl ⟨fun c => ?_, fun c => ?_⟩
      · replace H := H.1 c
        refine a_iinc (pc := 58) (dk dt_X12_goTo 39 rfl) (by decide) rfl rfl rfl ?_
        refine a_goto (pc := 61) (dk dt_X12_goTo 40 rfl) (tgt := 7) rfl ?_
        exact a_pick [0, 1, 2] rfl H
      · replace H := H.2 c
        refine a_aload_n (pc := 51) (dk dt_X12_goTo 34 rfl) rfl ?_
        refine a_getr (r := 115) (pc := 52) (dk dt_X12_goTo 35 rfl) cls_12 fl_RX12_177 cf_85_49 ?_
        refine a_iload_n (pc := 55) (dk dt_X12_goTo 36 rfl) rfl ?_
        refine a_iconst (pc := 56) (dk dt_X12_goTo 37 rfl) (ik rfl) ?_
        refine a_iast (pc := 57) (dk dt_X12_goTo 38 rfl) ar_116 ⟨H.1, ?_⟩
        replace H := H.2
        refine a_iinc (pc := 58) (dk dt_X12_goTo 39 rfl) (by decide) rfl rfl rfl ?_
        refine a_goto (pc := 61) (dk dt_X12_goTo 40 rfl) (tgt := 7) rfl ?_
        exact a_pick [0, 1, 2] rfl H
    · replace H := H.2 c
      refine a_iconst (pc := 32) (dk dt_X12_goTo 21 rfl) (ik rfl) ?_
      refine a_goto (pc := 33) (dk dt_X12_goTo 22 rfl) (tgt := 37) rfl ?_
      refine a_zast (pc := 37) (dk dt_X12_goTo 24 rfl) ar_95 ⟨H.1, by decide, ?_⟩
      replace H := H.2
      refine a_aload_n (pc := 38) (dk dt_X12_goTo 25 rfl) rfl ?_
      refine a_getr (r := 124) (pc := 39) (dk dt_X12_goTo 26 rfl) cls_12 fl_RX12_204 cf_85_59 ?_
      refine a_iload_n (pc := 42) (dk dt_X12_goTo 27 rfl) rfl ?_
      refine a_iald (pc := 43) (dk dt_X12_goTo 28 rfl) ar_125 ⟨H.1, ?_⟩
      replace H := H.2
      refine a_top (y := (h 125 x1)) (by simp [up, cpy]) ?_
      refine a_iload_n (pc := 44) (dk dt_X12_goTo 29 rfl) rfl ?_
      refine a_ishr (pc := 45) (dk dt_X12_goTo 30 rfl) ?_
      refine a_iconst (pc := 46) (dk dt_X12_goTo 31 rfl) (ik rfl) ?_
      refine a_iand (pc := 47) (dk dt_X12_goTo 32 rfl) ?_
      refine a_if_ne (pc := 48) (dk dt_X12_goTo 33 rfl) (tgt := 58) rfl ⟨fun c => ?_, fun c => ?_⟩
      · replace H := H.1 c
        refine a_iinc (pc := 58) (dk dt_X12_goTo 39 rfl) (by decide) rfl rfl rfl ?_
        refine a_goto (pc := 61) (dk dt_X12_goTo 40 rfl) (tgt := 7) rfl ?_
        exact a_pick [0, 1, 2] rfl H
      · replace H := H.2 c
        refine a_aload_n (pc := 51) (dk dt_X12_goTo 34 rfl) rfl ?_
        refine a_getr (r := 115) (pc := 52) (dk dt_X12_goTo 35 rfl) cls_12 fl_RX12_177 cf_85_49 ?_
        refine a_iload_n (pc := 55) (dk dt_X12_goTo 36 rfl) rfl ?_
        refine a_iconst (pc := 56) (dk dt_X12_goTo 37 rfl) (ik rfl) ?_
        refine a_iast (pc := 57) (dk dt_X12_goTo 38 rfl) ar_116 ⟨H.1, ?_⟩
        replace H := H.2
        refine a_iinc (pc := 58) (dk dt_X12_goTo 39 rfl) (by decide) rfl rfl rfl ?_
        refine a_goto (pc := 61) (dk dt_X12_goTo 40 rfl) (tgt := 7) rfl ?_
        exact a_pick [0, 1, 2] rfl H
set_option maxHeartbeats 40000000 in
theorem U_X12_sunNow_85_0 {G : GG} {Φ : Int → Hp → Prop} {h : Hp} (H : Call G m_X12_isShadow [rv 85] h (fun r1 h2 => ((r1 = 0 → Φ (h2 85 20) h2) ∧ (r1 ≠ 0 → Φ 0 h2)))) : AT G m_X12_sunNow 0 [(0, rv 85)] [] h Φ := by
  refine a_aload_n (pc := 0) (dk dt_X12_sunNow 0 rfl) rfl ?_
  refine a_callVi (as := []) (st := []) (pc := 1) (dk dt_X12_sunNow 1 rfl) cl_RX12_418 ⟨Nat.le_of_ble_eq_true rfl, Nat.le_of_ble_eq_true rfl⟩ ⟨Nat.le_of_ble_eq_true rfl, Nat.le_of_ble_eq_true rfl⟩ cls_12 rfl cc_85 rfl rfl rfl (Nat.le_of_ble_eq_true rfl) (Call.mono H fun r1 h2 H => ?_)
  refine a_if_eq (pc := 4) (dk dt_X12_sunNow 2 rfl) (tgt := 11) rfl ⟨fun c => ?_, fun c => ?_⟩
  · replace H := H.1 c
    refine a_aload_n (pc := 11) (dk dt_X12_sunNow 5 rfl) rfl ?_
    refine a_geti (pc := 12) (dk dt_X12_sunNow 6 rfl) cls_12 fl_RX12_41 cf_85_20 ?_
    exact a_iret (pc := 15) (dk dt_X12_sunNow 7 rfl) rfl rfl H
  · replace H := H.2 c
    refine a_iconst (pc := 7) (dk dt_X12_sunNow 3 rfl) (ik rfl) ?_
    refine a_goto (pc := 8) (dk dt_X12_sunNow 4 rfl) (tgt := 15) rfl ?_
    exact a_iret (pc := 15) (dk dt_X12_sunNow 7 rfl) rfl rfl H
set_option maxHeartbeats 40000000 in
theorem U_X12_encoded_0 {G : GG} {Φ : Int → Hp → Prop} {h : Hp} {x0 : Int} (H : AT G m_X12_encoded 6 [(0, iv x0), (1, iv 0), (2, iv 0), (3, iv 3)] [] h Φ) : AT G m_X12_encoded 0 [(0, iv x0)] [] h Φ := by
  refine a_iconst (pc := 0) (dk dt_X12_encoded 0 rfl) (ik rfl) ?_
  refine a_istore_n (pc := 1) (dk dt_X12_encoded 1 rfl) (by decide) rfl rfl ?_
  refine a_iconst (pc := 2) (dk dt_X12_encoded 2 rfl) (ik rfl) ?_
  refine a_istore_n (pc := 3) (dk dt_X12_encoded 3 rfl) (by decide) rfl rfl ?_
  refine a_iconst (pc := 4) (dk dt_X12_encoded 4 rfl) (ik rfl) ?_
  refine a_istore_n (pc := 5) (dk dt_X12_encoded 5 rfl) (by decide) rfl rfl ?_
  exact a_pick [0, 1, 2, 3] rfl H
set_option maxHeartbeats 40000000 in
theorem U_X12_encoded_6 {G : GG} {Φ : Int → Hp → Prop} {h : Hp} {x0 : Int} {x1 : Int} {x2 : Int} {x3 : Int} (H : ((12 < x3 → Call G m_X12_places [iv x1] h (fun r1 h2 => AT G m_X12_encoded 53 [(1, iv x1), (3, iv r1), (4, iv 1)] [] h2 Φ)) ∧ (x3 ≤ 12 → ((x3 = 4 → AT G m_X12_encoded 6 [(0, iv x0), (1, iv x1), (2, iv x2), (3, iv (w32 (x3 + 1)))] [] h Φ) ∧ (x3 ≠ 4 → ((x3 ≠ 8 → AT G m_X12_encoded 6 [(0, iv x0), (1, iv (bor x1 (bshl (band (bshr x0 x2) 1) x3))), (2, iv (w32 (x2 + 1))), (3, iv (w32 (x3 + 1)))] [] h Φ) ∧ (x3 = 8 → AT G m_X12_encoded 6 [(0, iv x0), (1, iv x1), (2, iv x2), (3, iv (w32 (x3 + 1)))] [] h Φ))))))) : AT G m_X12_encoded 6 [(0, iv x0), (1, iv x1), (2, iv x2), (3, iv x3)] [] h Φ := by
  refine a_iload_n (pc := 6) (dk dt_X12_encoded 6 rfl) rfl ?_
  refine a_bipush (pc := 7) (dk dt_X12_encoded 7 rfl) (ik rfl) (bpk rfl) ?_
  refine a_icmp_gt (pc := 9) (dk dt_X12_encoded 8 rfl) (tgt := 45) rfl ⟨fun c => ?_, fun c => ?_⟩
  · replace H := H.1 c
    refine a_iload_n (pc := 45) (dk dt_X12_encoded 29 rfl) rfl ?_
    refine a_callSi (as := [iv x1]) (st := []) (pc := 46) (dk dt_X12_encoded 30 rfl) cl_RX12_429 ⟨Nat.le_of_ble_eq_true rfl, Nat.le_of_ble_eq_true rfl⟩ ⟨Nat.le_of_ble_eq_true rfl, Nat.le_of_ble_eq_true rfl⟩ rfl rfl rfl (Nat.le_of_ble_eq_true rfl) (Call.mono H fun r1 h2 H => ?_)
    refine a_istore_n (pc := 49) (dk dt_X12_encoded 31 rfl) (by decide) rfl rfl ?_
    refine a_iconst (pc := 50) (dk dt_X12_encoded 32 rfl) (ik rfl) ?_
    refine a_istore (pc := 51) (dk dt_X12_encoded 33 rfl) (by decide) rfl rfl ?_
    exact a_pick [1, 3, 4] rfl H
  · replace H := H.2 c
    refine a_iload_n (pc := 12) (dk dt_X12_encoded 9 rfl) rfl ?_
    refine a_iconst (pc := 13) (dk dt_X12_encoded 10 rfl) (ik rfl) ?_
    refine a_icmp_eq (pc := 14) (dk dt_X12_encoded 11 rfl) (tgt := 39) rfl ⟨fun c => ?_, fun c => ?_⟩
    · replace H := H.1 c
      refine a_iinc (pc := 39) (dk dt_X12_encoded 27 rfl) (by decide) rfl rfl rfl ?_
      refine a_goto (pc := 42) (dk dt_X12_encoded 28 rfl) (tgt := 6) rfl ?_
      exact a_pick [0, 1, 2, 3] rfl H
    · replace H := H.2 c
      refine a_iload_n (pc := 17) (dk dt_X12_encoded 12 rfl) rfl ?_
      refine a_bipush (pc := 18) (dk dt_X12_encoded 13 rfl) (ik rfl) (bpk rfl) ?_
      refine a_icmp_ne (pc := 20) (dk dt_X12_encoded 14 rfl) (tgt := 26) rfl ⟨fun c => ?_, fun c => ?_⟩
      · replace H := H.1 c
        refine a_iload_n (pc := 26) (dk dt_X12_encoded 16 rfl) rfl ?_
        refine a_iload_n (pc := 27) (dk dt_X12_encoded 17 rfl) rfl ?_
        refine a_iload_n (pc := 28) (dk dt_X12_encoded 18 rfl) rfl ?_
        refine a_ishr (pc := 29) (dk dt_X12_encoded 19 rfl) ?_
        refine a_iconst (pc := 30) (dk dt_X12_encoded 20 rfl) (ik rfl) ?_
        refine a_iand (pc := 31) (dk dt_X12_encoded 21 rfl) ?_
        refine a_iload_n (pc := 32) (dk dt_X12_encoded 22 rfl) rfl ?_
        refine a_ishl (pc := 33) (dk dt_X12_encoded 23 rfl) ?_
        refine a_ior (pc := 34) (dk dt_X12_encoded 24 rfl) ?_
        refine a_istore_n (pc := 35) (dk dt_X12_encoded 25 rfl) (by decide) rfl rfl ?_
        refine a_iinc (pc := 36) (dk dt_X12_encoded 26 rfl) (by decide) rfl rfl rfl ?_
        refine a_iinc (pc := 39) (dk dt_X12_encoded 27 rfl) (by decide) rfl rfl rfl ?_
        refine a_goto (pc := 42) (dk dt_X12_encoded 28 rfl) (tgt := 6) rfl ?_
        exact a_pick [0, 1, 2, 3] rfl H
      · replace H := H.2 c
        refine a_goto (pc := 23) (dk dt_X12_encoded 15 rfl) (tgt := 39) rfl ?_
        refine a_iinc (pc := 39) (dk dt_X12_encoded 27 rfl) (by decide) rfl rfl rfl ?_
        refine a_goto (pc := 42) (dk dt_X12_encoded 28 rfl) (tgt := 6) rfl ?_
        exact a_pick [0, 1, 2, 3] rfl H
set_option maxHeartbeats 40000000 in
theorem U_X12_encoded_53 {G : GG} {Φ : Int → Hp → Prop} {h : Hp} {x1 : Int} {x3 : Int} {x4 : Int} (H : ((9 ≤ x4 → Call G m_X12_odd [iv x1] h (fun r1 h2 => Φ (bor x1 r1) h2)) ∧ (x4 < 9 → (((band x3 x4) = 0 → AT G m_X12_encoded 53 [(1, iv (bor x1 0)), (3, iv x3), (4, iv (w32 (x4 * 2)))] [] h Φ) ∧ ((band x3 x4) ≠ 0 → AT G m_X12_encoded 53 [(1, iv (bor x1 (bshl 1 x4))), (3, iv x3), (4, iv (w32 (x4 * 2)))] [] h Φ))))) : AT G m_X12_encoded 53 [(1, iv x1), (3, iv x3), (4, iv x4)] [] h Φ := by
  refine a_iload (pc := 53) (dk dt_X12_encoded 34 rfl) rfl ?_
  refine a_bipush (pc := 55) (dk dt_X12_encoded 35 rfl) (ik rfl) (bpk rfl) ?_
  refine a_icmp_ge (pc := 57) (dk dt_X12_encoded 36 rfl) (tgt := 87) rfl ⟨fun c => ?_, fun c => ?_⟩
  · replace H := H.1 c
    refine a_iload_n (pc := 87) (dk dt_X12_encoded 54 rfl) rfl ?_
    refine a_iload_n (pc := 88) (dk dt_X12_encoded 55 rfl) rfl ?_
    refine a_callSi (as := [iv x1]) (st := [iv x1]) (pc := 89) (dk dt_X12_encoded 56 rfl) cl_RX12_432 ⟨Nat.le_of_ble_eq_true rfl, Nat.le_of_ble_eq_true rfl⟩ ⟨Nat.le_of_ble_eq_true rfl, Nat.le_of_ble_eq_true rfl⟩ rfl rfl rfl (Nat.le_of_ble_eq_true rfl) (Call.mono H fun r1 h2 H => ?_)
    refine a_ior (pc := 92) (dk dt_X12_encoded 57 rfl) ?_
    exact a_iret (pc := 93) (dk dt_X12_encoded 58 rfl) rfl rfl H
  · replace H := H.2 c
    refine a_iload_n (pc := 60) (dk dt_X12_encoded 37 rfl) rfl ?_
    refine a_iload_n (pc := 61) (dk dt_X12_encoded 38 rfl) rfl ?_
    refine a_iload (pc := 62) (dk dt_X12_encoded 39 rfl) rfl ?_
    refine a_iand (pc := 64) (dk dt_X12_encoded 40 rfl) ?_
    refine a_if_eq (pc := 65) (dk dt_X12_encoded 41 rfl) (tgt := 75) rfl ⟨fun c => ?_, fun c => ?_⟩
    · replace H := H.1 c
      refine a_iconst (pc := 75) (dk dt_X12_encoded 46 rfl) (ik rfl) ?_
      refine a_ior (pc := 76) (dk dt_X12_encoded 47 rfl) ?_
      refine a_istore_n (pc := 77) (dk dt_X12_encoded 48 rfl) (by decide) rfl rfl ?_
      refine a_iload (pc := 78) (dk dt_X12_encoded 49 rfl) rfl ?_
      refine a_iconst (pc := 80) (dk dt_X12_encoded 50 rfl) (ik rfl) ?_
      refine a_imul (pc := 81) (dk dt_X12_encoded 51 rfl) ?_
      refine a_istore (pc := 82) (dk dt_X12_encoded 52 rfl) (by decide) rfl rfl ?_
      refine a_goto (pc := 84) (dk dt_X12_encoded 53 rfl) (tgt := 53) rfl ?_
      exact a_pick [0, 1, 2] rfl H
    · replace H := H.2 c
      refine a_iconst (pc := 68) (dk dt_X12_encoded 42 rfl) (ik rfl) ?_
      refine a_iload (pc := 69) (dk dt_X12_encoded 43 rfl) rfl ?_
      refine a_ishl (pc := 71) (dk dt_X12_encoded 44 rfl) ?_
      refine a_goto (pc := 72) (dk dt_X12_encoded 45 rfl) (tgt := 76) rfl ?_
      refine a_ior (pc := 76) (dk dt_X12_encoded 47 rfl) ?_
      refine a_istore_n (pc := 77) (dk dt_X12_encoded 48 rfl) (by decide) rfl rfl ?_
      refine a_iload (pc := 78) (dk dt_X12_encoded 49 rfl) rfl ?_
      refine a_iconst (pc := 80) (dk dt_X12_encoded 50 rfl) (ik rfl) ?_
      refine a_imul (pc := 81) (dk dt_X12_encoded 51 rfl) ?_
      refine a_istore (pc := 82) (dk dt_X12_encoded 52 rfl) (by decide) rfl rfl ?_
      refine a_goto (pc := 84) (dk dt_X12_encoded 53 rfl) (tgt := 53) rfl ?_
      exact a_pick [0, 1, 2] rfl H
set_option maxHeartbeats 40000000 in
theorem U_X12_odd_0 {G : GG} {Φ : Int → Hp → Prop} {h : Hp} {x0 : Int} (H : AT G m_X12_odd 4 [(0, iv x0), (1, iv 0), (2, iv 0)] [] h Φ) : AT G m_X12_odd 0 [(0, iv x0)] [] h Φ := by
  refine a_iconst (pc := 0) (dk dt_X12_odd 0 rfl) (ik rfl) ?_
  refine a_istore_n (pc := 1) (dk dt_X12_odd 1 rfl) (by decide) rfl rfl ?_
  refine a_iconst (pc := 2) (dk dt_X12_odd 2 rfl) (ik rfl) ?_
  refine a_istore_n (pc := 3) (dk dt_X12_odd 3 rfl) (by decide) rfl rfl ?_
  exact a_pick [0, 1, 2] rfl H
set_option maxHeartbeats 40000000 in
theorem U_X12_odd_4 {G : GG} {Φ : Int → Hp → Prop} {h : Hp} {x0 : Int} {x1 : Int} {x2 : Int} (H : ((12 < x2 → Φ x1 h) ∧ (x2 ≤ 12 → AT G m_X12_odd 4 [(0, iv x0), (1, iv (bxor x1 (band (bshr x0 x2) 1))), (2, iv (w32 (x2 + 1)))] [] h Φ))) : AT G m_X12_odd 4 [(0, iv x0), (1, iv x1), (2, iv x2)] [] h Φ := by
  refine a_iload_n (pc := 4) (dk dt_X12_odd 4 rfl) rfl ?_
  refine a_bipush (pc := 5) (dk dt_X12_odd 5 rfl) (ik rfl) (bpk rfl) ?_
  refine a_icmp_gt (pc := 7) (dk dt_X12_odd 6 rfl) (tgt := 24) rfl ⟨fun c => ?_, fun c => ?_⟩
  · replace H := H.1 c
    refine a_iload_n (pc := 24) (dk dt_X12_odd 17 rfl) rfl ?_
    exact a_iret (pc := 25) (dk dt_X12_odd 18 rfl) rfl rfl H
  · replace H := H.2 c
    refine a_iload_n (pc := 10) (dk dt_X12_odd 7 rfl) rfl ?_
    refine a_iload_n (pc := 11) (dk dt_X12_odd 8 rfl) rfl ?_
    refine a_iload_n (pc := 12) (dk dt_X12_odd 9 rfl) rfl ?_
    refine a_ishr (pc := 13) (dk dt_X12_odd 10 rfl) ?_
    refine a_iconst (pc := 14) (dk dt_X12_odd 11 rfl) (ik rfl) ?_
    refine a_iand (pc := 15) (dk dt_X12_odd 12 rfl) ?_
    refine a_ixor (pc := 16) (dk dt_X12_odd 13 rfl) ?_
    refine a_istore_n (pc := 17) (dk dt_X12_odd 14 rfl) (by decide) rfl rfl ?_
    refine a_iinc (pc := 18) (dk dt_X12_odd 15 rfl) (by decide) rfl rfl rfl ?_
    refine a_goto (pc := 21) (dk dt_X12_odd 16 rfl) (tgt := 4) rfl ?_
    exact a_pick [0, 1, 2] rfl H
set_option maxHeartbeats 40000000 in
theorem U_X12_places_0 {G : GG} {Φ : Int → Hp → Prop} {h : Hp} {x0 : Int} (H : AT G m_X12_places 4 [(0, iv x0), (1, iv 0), (2, iv 1)] [] h Φ) : AT G m_X12_places 0 [(0, iv x0)] [] h Φ := by
  refine a_iconst (pc := 0) (dk dt_X12_places 0 rfl) (ik rfl) ?_
  refine a_istore_n (pc := 1) (dk dt_X12_places 1 rfl) (by decide) rfl rfl ?_
  refine a_iconst (pc := 2) (dk dt_X12_places 2 rfl) (ik rfl) ?_
  refine a_istore_n (pc := 3) (dk dt_X12_places 3 rfl) (by decide) rfl rfl ?_
  exact a_pick [0, 1, 2] rfl H
set_option maxHeartbeats 40000000 in
theorem U_X12_places_4 {G : GG} {Φ : Int → Hp → Prop} {h : Hp} {x0 : Int} {x1 : Int} {x2 : Int} (H : ((12 < x2 → Φ x1 h) ∧ (x2 ≤ 12 → (((band (bshr x0 x2) 1) ≠ 1 → AT G m_X12_places 4 [(0, iv x0), (1, iv (bxor x1 0)), (2, iv (w32 (x2 + 1)))] [] h Φ) ∧ ((band (bshr x0 x2) 1) = 1 → AT G m_X12_places 4 [(0, iv x0), (1, iv (bxor x1 x2)), (2, iv (w32 (x2 + 1)))] [] h Φ))))) : AT G m_X12_places 4 [(0, iv x0), (1, iv x1), (2, iv x2)] [] h Φ := by
  refine a_iload_n (pc := 4) (dk dt_X12_places 4 rfl) rfl ?_
  refine a_bipush (pc := 5) (dk dt_X12_places 5 rfl) (ik rfl) (bpk rfl) ?_
  refine a_icmp_gt (pc := 7) (dk dt_X12_places 6 rfl) (tgt := 33) rfl ⟨fun c => ?_, fun c => ?_⟩
  · replace H := H.1 c
    refine a_iload_n (pc := 33) (dk dt_X12_places 22 rfl) rfl ?_
    exact a_iret (pc := 34) (dk dt_X12_places 23 rfl) rfl rfl H
  · replace H := H.2 c
    refine a_iload_n (pc := 10) (dk dt_X12_places 7 rfl) rfl ?_
    refine a_iload_n (pc := 11) (dk dt_X12_places 8 rfl) rfl ?_
    refine a_iload_n (pc := 12) (dk dt_X12_places 9 rfl) rfl ?_
    refine a_ishr (pc := 13) (dk dt_X12_places 10 rfl) ?_
    refine a_iconst (pc := 14) (dk dt_X12_places 11 rfl) (ik rfl) ?_
    refine a_iand (pc := 15) (dk dt_X12_places 12 rfl) ?_
    refine a_iconst (pc := 16) (dk dt_X12_places 13 rfl) (ik rfl) ?_
    refine a_icmp_ne (pc := 17) (dk dt_X12_places 14 rfl) (tgt := 24) rfl ⟨fun c => ?_, fun c => ?_⟩
    · replace H := H.1 c
      refine a_iconst (pc := 24) (dk dt_X12_places 17 rfl) (ik rfl) ?_
      refine a_ixor (pc := 25) (dk dt_X12_places 18 rfl) ?_
      refine a_istore_n (pc := 26) (dk dt_X12_places 19 rfl) (by decide) rfl rfl ?_
      refine a_iinc (pc := 27) (dk dt_X12_places 20 rfl) (by decide) rfl rfl rfl ?_
      refine a_goto (pc := 30) (dk dt_X12_places 21 rfl) (tgt := 4) rfl ?_
      exact a_pick [0, 1, 2] rfl H
    · replace H := H.2 c
      refine a_iload_n (pc := 20) (dk dt_X12_places 15 rfl) rfl ?_
      refine a_goto (pc := 21) (dk dt_X12_places 16 rfl) (tgt := 25) rfl ?_
      refine a_ixor (pc := 25) (dk dt_X12_places 18 rfl) ?_
      refine a_istore_n (pc := 26) (dk dt_X12_places 19 rfl) (by decide) rfl rfl ?_
      refine a_iinc (pc := 27) (dk dt_X12_places 20 rfl) (by decide) rfl rfl rfl ?_
      refine a_goto (pc := 30) (dk dt_X12_places 21 rfl) (tgt := 4) rfl ?_
      exact a_pick [0, 1, 2] rfl H
set_option maxHeartbeats 40000000 in
theorem U_X12_plain_0 {G : GG} {Φ : Int → Hp → Prop} {h : Hp} {x0 : Int} (H : AT G m_X12_plain 6 [(0, iv x0), (1, iv 0), (2, iv 0), (3, iv 3)] [] h Φ) : AT G m_X12_plain 0 [(0, iv x0)] [] h Φ := by
  refine a_iconst (pc := 0) (dk dt_X12_plain 0 rfl) (ik rfl) ?_
  refine a_istore_n (pc := 1) (dk dt_X12_plain 1 rfl) (by decide) rfl rfl ?_
  refine a_iconst (pc := 2) (dk dt_X12_plain 2 rfl) (ik rfl) ?_
  refine a_istore_n (pc := 3) (dk dt_X12_plain 3 rfl) (by decide) rfl rfl ?_
  refine a_iconst (pc := 4) (dk dt_X12_plain 4 rfl) (ik rfl) ?_
  refine a_istore_n (pc := 5) (dk dt_X12_plain 5 rfl) (by decide) rfl rfl ?_
  exact a_pick [0, 1, 2, 3] rfl H
set_option maxHeartbeats 40000000 in
theorem U_X12_plain_6 {G : GG} {Φ : Int → Hp → Prop} {h : Hp} {x0 : Int} {x1 : Int} {x2 : Int} {x3 : Int} (H : ((12 < x3 → Φ x1 h) ∧ (x3 ≤ 12 → ((x3 = 4 → AT G m_X12_plain 6 [(0, iv x0), (1, iv x1), (2, iv x2), (3, iv (w32 (x3 + 1)))] [] h Φ) ∧ (x3 ≠ 4 → ((x3 ≠ 8 → AT G m_X12_plain 6 [(0, iv x0), (1, iv (bor x1 (bshl (band (bshr x0 x3) 1) x2))), (2, iv (w32 (x2 + 1))), (3, iv (w32 (x3 + 1)))] [] h Φ) ∧ (x3 = 8 → AT G m_X12_plain 6 [(0, iv x0), (1, iv x1), (2, iv x2), (3, iv (w32 (x3 + 1)))] [] h Φ))))))) : AT G m_X12_plain 6 [(0, iv x0), (1, iv x1), (2, iv x2), (3, iv x3)] [] h Φ := by
  refine a_iload_n (pc := 6) (dk dt_X12_plain 6 rfl) rfl ?_
  refine a_bipush (pc := 7) (dk dt_X12_plain 7 rfl) (ik rfl) (bpk rfl) ?_
  refine a_icmp_gt (pc := 9) (dk dt_X12_plain 8 rfl) (tgt := 45) rfl ⟨fun c => ?_, fun c => ?_⟩
  · replace H := H.1 c
    refine a_iload_n (pc := 45) (dk dt_X12_plain 29 rfl) rfl ?_
    exact a_iret (pc := 46) (dk dt_X12_plain 30 rfl) rfl rfl H
  · replace H := H.2 c
    refine a_iload_n (pc := 12) (dk dt_X12_plain 9 rfl) rfl ?_
    refine a_iconst (pc := 13) (dk dt_X12_plain 10 rfl) (ik rfl) ?_
    refine a_icmp_eq (pc := 14) (dk dt_X12_plain 11 rfl) (tgt := 39) rfl ⟨fun c => ?_, fun c => ?_⟩
    · replace H := H.1 c
      refine a_iinc (pc := 39) (dk dt_X12_plain 27 rfl) (by decide) rfl rfl rfl ?_
      refine a_goto (pc := 42) (dk dt_X12_plain 28 rfl) (tgt := 6) rfl ?_
      exact a_pick [0, 1, 2, 3] rfl H
    · replace H := H.2 c
      refine a_iload_n (pc := 17) (dk dt_X12_plain 12 rfl) rfl ?_
      refine a_bipush (pc := 18) (dk dt_X12_plain 13 rfl) (ik rfl) (bpk rfl) ?_
      refine a_icmp_ne (pc := 20) (dk dt_X12_plain 14 rfl) (tgt := 26) rfl ⟨fun c => ?_, fun c => ?_⟩
      · replace H := H.1 c
        refine a_iload_n (pc := 26) (dk dt_X12_plain 16 rfl) rfl ?_
        refine a_iload_n (pc := 27) (dk dt_X12_plain 17 rfl) rfl ?_
        refine a_iload_n (pc := 28) (dk dt_X12_plain 18 rfl) rfl ?_
        refine a_ishr (pc := 29) (dk dt_X12_plain 19 rfl) ?_
        refine a_iconst (pc := 30) (dk dt_X12_plain 20 rfl) (ik rfl) ?_
        refine a_iand (pc := 31) (dk dt_X12_plain 21 rfl) ?_
        refine a_iload_n (pc := 32) (dk dt_X12_plain 22 rfl) rfl ?_
        refine a_ishl (pc := 33) (dk dt_X12_plain 23 rfl) ?_
        refine a_ior (pc := 34) (dk dt_X12_plain 24 rfl) ?_
        refine a_istore_n (pc := 35) (dk dt_X12_plain 25 rfl) (by decide) rfl rfl ?_
        refine a_iinc (pc := 36) (dk dt_X12_plain 26 rfl) (by decide) rfl rfl rfl ?_
        refine a_iinc (pc := 39) (dk dt_X12_plain 27 rfl) (by decide) rfl rfl rfl ?_
        refine a_goto (pc := 42) (dk dt_X12_plain 28 rfl) (tgt := 6) rfl ?_
        exact a_pick [0, 1, 2, 3] rfl H
      · replace H := H.2 c
        refine a_goto (pc := 23) (dk dt_X12_plain 15 rfl) (tgt := 39) rfl ?_
        refine a_iinc (pc := 39) (dk dt_X12_plain 27 rfl) (by decide) rfl rfl rfl ?_
        refine a_goto (pc := 42) (dk dt_X12_plain 28 rfl) (tgt := 6) rfl ?_
        exact a_pick [0, 1, 2, 3] rfl H
set_option maxHeartbeats 40000000 in
theorem U_X12_wordEnd_85_0 {G : GG} {Φ : Int → Hp → Prop} {h : Hp} (H : (((h 85 4) ≤ (h 85 5) → Φ (h 85 5) h) ∧ ((h 85 5) < (h 85 4) → (0 ≤ (h 85 5) ∧ (h 85 5) < 1600) ∧ (((h 87 (h 85 5)) < 97 → Φ (h 85 5) h) ∧ (97 ≤ (h 87 (h 85 5)) → ((122 < (h 87 (h 85 5)) → Φ (h 85 5) h) ∧ ((h 87 (h 85 5)) ≤ 122 → AT G m_X12_wordEnd 25 [(0, rv 85), (1, iv (h 85 5))] [] h Φ))))))) : AT G m_X12_wordEnd 0 [(0, rv 85)] [] h Φ := by
  refine a_aload_n (pc := 0) (dk dt_X12_wordEnd 0 rfl) rfl ?_
  refine a_geti (pc := 1) (dk dt_X12_wordEnd 1 rfl) cls_12 fl_RX12_309 cf_85_5 ?_
  refine a_istore_n (pc := 4) (dk dt_X12_wordEnd 2 rfl) (by decide) rfl rfl ?_
  refine a_iload_n (pc := 5) (dk dt_X12_wordEnd 3 rfl) rfl ?_
  refine a_aload_n (pc := 6) (dk dt_X12_wordEnd 4 rfl) rfl ?_
  refine a_geti (pc := 7) (dk dt_X12_wordEnd 5 rfl) cls_12 fl_RX12_306 cf_85_4 ?_
  refine a_icmp_ge (pc := 10) (dk dt_X12_wordEnd 6 rfl) (tgt := 63) rfl ⟨fun c => ?_, fun c => ?_⟩
  · replace H := H.1 c
    refine a_iload_n (pc := 63) (dk dt_X12_wordEnd 31 rfl) rfl ?_
    exact a_iret (pc := 64) (dk dt_X12_wordEnd 32 rfl) rfl rfl H
  · replace H := H.2 c
    refine a_aload_n (pc := 13) (dk dt_X12_wordEnd 7 rfl) rfl ?_
    refine a_getr (r := 86) (pc := 14) (dk dt_X12_wordEnd 8 rfl) cls_12 fl_RX12_13 cf_85_1 ?_
    refine a_iload_n (pc := 17) (dk dt_X12_wordEnd 9 rfl) rfl ?_
    refine a_iald (pc := 18) (dk dt_X12_wordEnd 10 rfl) ar_87 ⟨H.1, ?_⟩
    replace H := H.2
    refine a_callSi (as := [iv (h 87 (h 85 5))]) (st := []) (pc := 19) (dk dt_X12_wordEnd 11 rfl) cl_RX12_337 ⟨Nat.le_of_ble_eq_true rfl, Nat.le_of_ble_eq_true rfl⟩ ⟨Nat.le_of_ble_eq_true rfl, Nat.le_of_ble_eq_true rfl⟩ rfl rfl rfl (Nat.le_of_ble_eq_true rfl) (Call.of rfl (Nat.le_of_ble_eq_true rfl) rfl ?_)
    refine a_iload_n (pc := 0) (dk dt_X12_isSmall 0 rfl) rfl ?_
    refine a_bipush (pc := 1) (dk dt_X12_isSmall 1 rfl) (ik rfl) (bpk rfl) ?_
    refine a_icmp_lt (pc := 3) (dk dt_X12_isSmall 2 rfl) (tgt := 16) rfl ⟨fun c => ?_, fun c => ?_⟩
    · replace H := H.1 c
      refine a_iconst (pc := 16) (dk dt_X12_isSmall 8 rfl) (ik rfl) ?_
      refine a_zret (pc := 17) (dk dt_X12_isSmall 9 rfl) rfl rfl ⟨by decide, ?_⟩
      show ATW _ _ _ _ _ _ _ _ _ _
      refine a_if_eq (pc := 22) (dk dt_X12_wordEnd 12 rfl) (tgt := 63) rfl ⟨fun _ => ?_, fun c => absurd c (by decide)⟩
      refine a_iload_n (pc := 63) (dk dt_X12_wordEnd 31 rfl) rfl ?_
      exact a_iret (pc := 64) (dk dt_X12_wordEnd 32 rfl) rfl rfl H
    · replace H := H.2 c
      refine a_iload_n (pc := 6) (dk dt_X12_isSmall 3 rfl) rfl ?_
      refine a_bipush (pc := 7) (dk dt_X12_isSmall 4 rfl) (ik rfl) (bpk rfl) ?_
      refine a_icmp_gt (pc := 9) (dk dt_X12_isSmall 5 rfl) (tgt := 16) rfl ⟨fun c => ?_, fun c => ?_⟩
      · replace H := H.1 c
        refine a_iconst (pc := 16) (dk dt_X12_isSmall 8 rfl) (ik rfl) ?_
        refine a_zret (pc := 17) (dk dt_X12_isSmall 9 rfl) rfl rfl ⟨by decide, ?_⟩
        show ATW _ _ _ _ _ _ _ _ _ _
        refine a_if_eq (pc := 22) (dk dt_X12_wordEnd 12 rfl) (tgt := 63) rfl ⟨fun _ => ?_, fun c => absurd c (by decide)⟩
        refine a_iload_n (pc := 63) (dk dt_X12_wordEnd 31 rfl) rfl ?_
        exact a_iret (pc := 64) (dk dt_X12_wordEnd 32 rfl) rfl rfl H
      · replace H := H.2 c
        refine a_iconst (pc := 12) (dk dt_X12_isSmall 6 rfl) (ik rfl) ?_
        refine a_goto (pc := 13) (dk dt_X12_isSmall 7 rfl) (tgt := 17) rfl ?_
        refine a_zret (pc := 17) (dk dt_X12_isSmall 9 rfl) rfl rfl ⟨by decide, ?_⟩
        show ATW _ _ _ _ _ _ _ _ _ _
        refine a_if_eq (pc := 22) (dk dt_X12_wordEnd 12 rfl) (tgt := 63) rfl ⟨fun c => absurd c (by decide), fun _ => ?_⟩
        exact a_pick [0, 1] rfl H
set_option maxHeartbeats 40000000 in
theorem U_X12_wordEnd_85_25 {G : GG} {Φ : Int → Hp → Prop} {h : Hp} {x1 : Int} (H : (((h 85 4) ≤ x1 → Φ x1 h) ∧ (x1 < (h 85 4) → (0 ≤ x1 ∧ x1 < 1600) ∧ (((h 87 x1) < 97 → (0 ≤ x1 ∧ x1 < 1600) ∧ (((h 87 x1) < 48 → Φ x1 h) ∧ (48 ≤ (h 87 x1) → ((57 < (h 87 x1) → Φ x1 h) ∧ ((h 87 x1) ≤ 57 → AT G m_X12_wordEnd 25 [(0, rv 85), (1, iv (w32 (x1 + 1)))] [] h Φ))))) ∧ (97 ≤ (h 87 x1) → ((122 < (h 87 x1) → (0 ≤ x1 ∧ x1 < 1600) ∧ (((h 87 x1) < 48 → Φ x1 h) ∧ (48 ≤ (h 87 x1) → ((57 < (h 87 x1) → Φ x1 h) ∧ ((h 87 x1) ≤ 57 → AT G m_X12_wordEnd 25 [(0, rv 85), (1, iv (w32 (x1 + 1)))] [] h Φ))))) ∧ ((h 87 x1) ≤ 122 → AT G m_X12_wordEnd 25 [(0, rv 85), (1, iv (w32 (x1 + 1)))] [] h Φ))))))) : AT G m_X12_wordEnd 25 [(0, rv 85), (1, iv x1)] [] h Φ := by
  refine a_iload_n (pc := 25) (dk dt_X12_wordEnd 13 rfl) rfl ?_
  refine a_aload_n (pc := 26) (dk dt_X12_wordEnd 14 rfl) rfl ?_
  refine a_geti (pc := 27) (dk dt_X12_wordEnd 15 rfl) cls_12 fl_RX12_306 cf_85_4 ?_
  refine a_icmp_ge (pc := 30) (dk dt_X12_wordEnd 16 rfl) (tgt := 63) rfl ⟨fun c => ?_, fun c => ?_⟩
  · replace H := H.1 c
    refine a_iload_n (pc := 63) (dk dt_X12_wordEnd 31 rfl) rfl ?_
    exact a_iret (pc := 64) (dk dt_X12_wordEnd 32 rfl) rfl rfl H
  · replace H := H.2 c
    refine a_aload_n (pc := 33) (dk dt_X12_wordEnd 17 rfl) rfl ?_
    refine a_getr (r := 86) (pc := 34) (dk dt_X12_wordEnd 18 rfl) cls_12 fl_RX12_13 cf_85_1 ?_
    refine a_iload_n (pc := 37) (dk dt_X12_wordEnd 19 rfl) rfl ?_
    refine a_iald (pc := 38) (dk dt_X12_wordEnd 20 rfl) ar_87 ⟨H.1, ?_⟩
    replace H := H.2
    refine a_callSi (as := [iv (h 87 x1)]) (st := []) (pc := 39) (dk dt_X12_wordEnd 21 rfl) cl_RX12_337 ⟨Nat.le_of_ble_eq_true rfl, Nat.le_of_ble_eq_true rfl⟩ ⟨Nat.le_of_ble_eq_true rfl, Nat.le_of_ble_eq_true rfl⟩ rfl rfl rfl (Nat.le_of_ble_eq_true rfl) (Call.of rfl (Nat.le_of_ble_eq_true rfl) rfl ?_)
    refine a_iload_n (pc := 0) (dk dt_X12_isSmall 0 rfl) rfl ?_
    refine a_bipush (pc := 1) (dk dt_X12_isSmall 1 rfl) (ik rfl) (bpk rfl) ?_
    refine a_icmp_lt (pc := 3) (dk dt_X12_isSmall 2 rfl) (tgt := 16) rfl ⟨fun c => ?_, fun c => ?_⟩
    · replace H := H.1 c
      refine a_iconst (pc := 16) (dk dt_X12_isSmall 8 rfl) (ik rfl) ?_
      refine a_zret (pc := 17) (dk dt_X12_isSmall 9 rfl) rfl rfl ⟨by decide, ?_⟩
      show ATW _ _ _ _ _ _ _ _ _ _
      refine a_if_ne (pc := 42) (dk dt_X12_wordEnd 22 rfl) (tgt := 57) rfl ⟨fun c => absurd c (by decide), fun _ => ?_⟩
      refine a_aload_n (pc := 45) (dk dt_X12_wordEnd 23 rfl) rfl ?_
      refine a_getr (r := 86) (pc := 46) (dk dt_X12_wordEnd 24 rfl) cls_12 fl_RX12_13 cf_85_1 ?_
      refine a_iload_n (pc := 49) (dk dt_X12_wordEnd 25 rfl) rfl ?_
      refine a_iald (pc := 50) (dk dt_X12_wordEnd 26 rfl) ar_87 ⟨H.1, ?_⟩
      replace H := H.2
      refine a_callSi (as := [iv (h 87 x1)]) (st := []) (pc := 51) (dk dt_X12_wordEnd 27 rfl) cl_RX12_326 ⟨Nat.le_of_ble_eq_true rfl, Nat.le_of_ble_eq_true rfl⟩ ⟨Nat.le_of_ble_eq_true rfl, Nat.le_of_ble_eq_true rfl⟩ rfl rfl rfl (Nat.le_of_ble_eq_true rfl) (Call.of rfl (Nat.le_of_ble_eq_true rfl) rfl ?_)
      refine a_iload_n (pc := 0) (dk dt_X12_isDigit 0 rfl) rfl ?_
      refine a_bipush (pc := 1) (dk dt_X12_isDigit 1 rfl) (ik rfl) (bpk rfl) ?_
      refine a_icmp_lt (pc := 3) (dk dt_X12_isDigit 2 rfl) (tgt := 16) rfl ⟨fun c => ?_, fun c => ?_⟩
      · replace H := H.1 c
        refine a_iconst (pc := 16) (dk dt_X12_isDigit 8 rfl) (ik rfl) ?_
        refine a_zret (pc := 17) (dk dt_X12_isDigit 9 rfl) rfl rfl ⟨by decide, ?_⟩
        show ATW _ _ _ _ _ _ _ _ _ _
        refine a_if_eq (pc := 54) (dk dt_X12_wordEnd 28 rfl) (tgt := 63) rfl ⟨fun _ => ?_, fun c => absurd c (by decide)⟩
        refine a_iload_n (pc := 63) (dk dt_X12_wordEnd 31 rfl) rfl ?_
        exact a_iret (pc := 64) (dk dt_X12_wordEnd 32 rfl) rfl rfl H
      · replace H := H.2 c
        refine a_iload_n (pc := 6) (dk dt_X12_isDigit 3 rfl) rfl ?_
        refine a_bipush (pc := 7) (dk dt_X12_isDigit 4 rfl) (ik rfl) (bpk rfl) ?_
        refine a_icmp_gt (pc := 9) (dk dt_X12_isDigit 5 rfl) (tgt := 16) rfl ⟨fun c => ?_, fun c => ?_⟩
        · replace H := H.1 c
          refine a_iconst (pc := 16) (dk dt_X12_isDigit 8 rfl) (ik rfl) ?_
          refine a_zret (pc := 17) (dk dt_X12_isDigit 9 rfl) rfl rfl ⟨by decide, ?_⟩
          show ATW _ _ _ _ _ _ _ _ _ _
          refine a_if_eq (pc := 54) (dk dt_X12_wordEnd 28 rfl) (tgt := 63) rfl ⟨fun _ => ?_, fun c => absurd c (by decide)⟩
          refine a_iload_n (pc := 63) (dk dt_X12_wordEnd 31 rfl) rfl ?_
          exact a_iret (pc := 64) (dk dt_X12_wordEnd 32 rfl) rfl rfl H
        · replace H := H.2 c
          refine a_iconst (pc := 12) (dk dt_X12_isDigit 6 rfl) (ik rfl) ?_
          refine a_goto (pc := 13) (dk dt_X12_isDigit 7 rfl) (tgt := 17) rfl ?_
          refine a_zret (pc := 17) (dk dt_X12_isDigit 9 rfl) rfl rfl ⟨by decide, ?_⟩
          show ATW _ _ _ _ _ _ _ _ _ _
          refine a_if_eq (pc := 54) (dk dt_X12_wordEnd 28 rfl) (tgt := 63) rfl ⟨fun c => absurd c (by decide), fun _ => ?_⟩
          refine a_iinc (pc := 57) (dk dt_X12_wordEnd 29 rfl) (by decide) rfl rfl rfl ?_
          refine a_goto (pc := 60) (dk dt_X12_wordEnd 30 rfl) (tgt := 25) rfl ?_
          exact a_pick [0, 1] rfl H
    · replace H := H.2 c
      refine a_iload_n (pc := 6) (dk dt_X12_isSmall 3 rfl) rfl ?_
      refine a_bipush (pc := 7) (dk dt_X12_isSmall 4 rfl) (ik rfl) (bpk rfl) ?_
      refine a_icmp_gt (pc := 9) (dk dt_X12_isSmall 5 rfl) (tgt := 16) rfl ⟨fun c => ?_, fun c => ?_⟩
      · replace H := H.1 c
        refine a_iconst (pc := 16) (dk dt_X12_isSmall 8 rfl) (ik rfl) ?_
        refine a_zret (pc := 17) (dk dt_X12_isSmall 9 rfl) rfl rfl ⟨by decide, ?_⟩
        show ATW _ _ _ _ _ _ _ _ _ _
        refine a_if_ne (pc := 42) (dk dt_X12_wordEnd 22 rfl) (tgt := 57) rfl ⟨fun c => absurd c (by decide), fun _ => ?_⟩
        refine a_aload_n (pc := 45) (dk dt_X12_wordEnd 23 rfl) rfl ?_
        refine a_getr (r := 86) (pc := 46) (dk dt_X12_wordEnd 24 rfl) cls_12 fl_RX12_13 cf_85_1 ?_
        refine a_iload_n (pc := 49) (dk dt_X12_wordEnd 25 rfl) rfl ?_
        refine a_iald (pc := 50) (dk dt_X12_wordEnd 26 rfl) ar_87 ⟨H.1, ?_⟩
        replace H := H.2
        refine a_callSi (as := [iv (h 87 x1)]) (st := []) (pc := 51) (dk dt_X12_wordEnd 27 rfl) cl_RX12_326 ⟨Nat.le_of_ble_eq_true rfl, Nat.le_of_ble_eq_true rfl⟩ ⟨Nat.le_of_ble_eq_true rfl, Nat.le_of_ble_eq_true rfl⟩ rfl rfl rfl (Nat.le_of_ble_eq_true rfl) (Call.of rfl (Nat.le_of_ble_eq_true rfl) rfl ?_)
        refine a_iload_n (pc := 0) (dk dt_X12_isDigit 0 rfl) rfl ?_
        refine a_bipush (pc := 1) (dk dt_X12_isDigit 1 rfl) (ik rfl) (bpk rfl) ?_
        refine a_icmp_lt (pc := 3) (dk dt_X12_isDigit 2 rfl) (tgt := 16) rfl ⟨fun c => ?_, fun c => ?_⟩
        · replace H := H.1 c
          refine a_iconst (pc := 16) (dk dt_X12_isDigit 8 rfl) (ik rfl) ?_
          refine a_zret (pc := 17) (dk dt_X12_isDigit 9 rfl) rfl rfl ⟨by decide, ?_⟩
          show ATW _ _ _ _ _ _ _ _ _ _
          refine a_if_eq (pc := 54) (dk dt_X12_wordEnd 28 rfl) (tgt := 63) rfl ⟨fun _ => ?_, fun c => absurd c (by decide)⟩
          refine a_iload_n (pc := 63) (dk dt_X12_wordEnd 31 rfl) rfl ?_
          exact a_iret (pc := 64) (dk dt_X12_wordEnd 32 rfl) rfl rfl H
        · replace H := H.2 c
          refine a_iload_n (pc := 6) (dk dt_X12_isDigit 3 rfl) rfl ?_
          refine a_bipush (pc := 7) (dk dt_X12_isDigit 4 rfl) (ik rfl) (bpk rfl) ?_
          refine a_icmp_gt (pc := 9) (dk dt_X12_isDigit 5 rfl) (tgt := 16) rfl ⟨fun c => ?_, fun c => ?_⟩
          · replace H := H.1 c
            refine a_iconst (pc := 16) (dk dt_X12_isDigit 8 rfl) (ik rfl) ?_
            refine a_zret (pc := 17) (dk dt_X12_isDigit 9 rfl) rfl rfl ⟨by decide, ?_⟩
            show ATW _ _ _ _ _ _ _ _ _ _
            refine a_if_eq (pc := 54) (dk dt_X12_wordEnd 28 rfl) (tgt := 63) rfl ⟨fun _ => ?_, fun c => absurd c (by decide)⟩
            refine a_iload_n (pc := 63) (dk dt_X12_wordEnd 31 rfl) rfl ?_
            exact a_iret (pc := 64) (dk dt_X12_wordEnd 32 rfl) rfl rfl H
          · replace H := H.2 c
            refine a_iconst (pc := 12) (dk dt_X12_isDigit 6 rfl) (ik rfl) ?_
            refine a_goto (pc := 13) (dk dt_X12_isDigit 7 rfl) (tgt := 17) rfl ?_
            refine a_zret (pc := 17) (dk dt_X12_isDigit 9 rfl) rfl rfl ⟨by decide, ?_⟩
            show ATW _ _ _ _ _ _ _ _ _ _
            refine a_if_eq (pc := 54) (dk dt_X12_wordEnd 28 rfl) (tgt := 63) rfl ⟨fun c => absurd c (by decide), fun _ => ?_⟩
            refine a_iinc (pc := 57) (dk dt_X12_wordEnd 29 rfl) (by decide) rfl rfl rfl ?_
            refine a_goto (pc := 60) (dk dt_X12_wordEnd 30 rfl) (tgt := 25) rfl ?_
            exact a_pick [0, 1] rfl H
      · replace H := H.2 c
        refine a_iconst (pc := 12) (dk dt_X12_isSmall 6 rfl) (ik rfl) ?_
        refine a_goto (pc := 13) (dk dt_X12_isSmall 7 rfl) (tgt := 17) rfl ?_
        refine a_zret (pc := 17) (dk dt_X12_isSmall 9 rfl) rfl rfl ⟨by decide, ?_⟩
        show ATW _ _ _ _ _ _ _ _ _ _
        refine a_if_ne (pc := 42) (dk dt_X12_wordEnd 22 rfl) (tgt := 57) rfl ⟨fun _ => ?_, fun c => absurd c (by decide)⟩
        refine a_iinc (pc := 57) (dk dt_X12_wordEnd 29 rfl) (by decide) rfl rfl rfl ?_
        refine a_goto (pc := 60) (dk dt_X12_wordEnd 30 rfl) (tgt := 25) rfl ?_
        exact a_pick [0, 1] rfl H
set_option maxHeartbeats 40000000 in
theorem U_X12_emit_85_0 {G : GG} {Φ : Int → Hp → Prop} {h : Hp} {x1 : Int} (H : AT G m_X12_emit 8 [(0, rv 85), (1, iv x1), (2, iv (w32 ((x1.tmod 4) + 1))), (3, iv 0)] [] h Φ) : AT G m_X12_emit 0 [(0, rv 85), (1, iv x1)] [] h Φ := by
  refine a_iload_n (pc := 0) (dk dt_X12_emit 0 rfl) rfl ?_
  refine a_iconst (pc := 1) (dk dt_X12_emit 1 rfl) (ik rfl) ?_
  refine a_irem (pc := 2) (dk dt_X12_emit 2 rfl) ⟨by decide, ?_⟩
  refine a_iconst (pc := 3) (dk dt_X12_emit 3 rfl) (ik rfl) ?_
  refine a_iadd (pc := 4) (dk dt_X12_emit 4 rfl) ?_
  refine a_istore_n (pc := 5) (dk dt_X12_emit 5 rfl) (by decide) rfl rfl ?_
  refine a_iconst (pc := 6) (dk dt_X12_emit 6 rfl) (ik rfl) ?_
  refine a_istore_n (pc := 7) (dk dt_X12_emit 7 rfl) (by decide) rfl rfl ?_
  exact a_pick [0, 1, 2, 3] rfl H
set_option maxHeartbeats 40000000 in
theorem U_X12_emit_85_8 {G : GG} {Φ : Int → Hp → Prop} {h : Hp} {x1 : Int} {x2 : Int} {x3 : Int} (H : ((x2 ≤ x3 → (((h 85 57) = 0 → (0 ≤ x1 ∧ x1 < 16) ∧ (0 ≤ x1 ∧ x1 < 16) ∧ (0 ≤ x1 ∧ x1 < 16) ∧ AT G m_X12_emit 125 [(0, rv 85), (1, iv x1), (3, iv (w32 (5 + x2)))] [] (up (up (up (up (up (up h 137 0 (w32 (10 + x1))) 137 1 (h 135 x1)) 137 2 (band (bshr (h 85 10) 8) 255)) 137 3 (band (h 85 10) 255)) 137 4 x2) 135 x1 (band (w32 ((h 135 x1) + 1)) 255)) Φ) ∧ ((h 85 57) ≠ 0 → Φ 0 h))) ∧ (x3 < x2 → Call G m_X12_valueOf [rv 85, iv (w32 (9 + x3))] h (fun r1 h2 => (0 ≤ (w32 (5 + x3)) ∧ (w32 (5 + x3)) < 9) ∧ AT G m_X12_emit 8 [(0, rv 85), (1, iv x1), (2, iv x2), (3, iv (w32 (x3 + 1)))] [] (up h2 137 (w32 (5 + x3)) r1) Φ)))) : AT G m_X12_emit 8 [(0, rv 85), (1, iv x1), (2, iv x2), (3, iv x3)] [] h Φ := by
  refine a_iload_n (pc := 8) (dk dt_X12_emit 8 rfl) rfl ?_
  refine a_iload_n (pc := 9) (dk dt_X12_emit 9 rfl) rfl ?_
  refine a_icmp_ge (pc := 10) (dk dt_X12_emit 10 rfl) (tgt := 35) rfl ⟨fun c => ?_, fun c => ?_⟩
  · replace H := H.1 c
    refine a_aload_n (pc := 35) (dk dt_X12_emit 24 rfl) rfl ?_
    refine a_geti (pc := 36) (dk dt_X12_emit 25 rfl) cls_12 fl_RX12_474 cf_85_57 ?_
    refine a_if_eq (pc := 39) (dk dt_X12_emit 26 rfl) (tgt := 43) rfl ⟨fun c => ?_, fun c => ?_⟩
    · replace H := H.1 c
      refine a_aload_n (pc := 43) (dk dt_X12_emit 28 rfl) rfl ?_
      refine a_getr (r := 136) (pc := 44) (dk dt_X12_emit 29 rfl) cls_12 fl_RX12_238 cf_85_75 ?_
      refine a_iconst (pc := 47) (dk dt_X12_emit 30 rfl) (ik rfl) ?_
      refine a_bipush (pc := 48) (dk dt_X12_emit 31 rfl) (ik rfl) (bpk rfl) ?_
      refine a_iload_n (pc := 50) (dk dt_X12_emit 32 rfl) rfl ?_
      refine a_iadd (pc := 51) (dk dt_X12_emit 33 rfl) ?_
      refine a_iast (pc := 52) (dk dt_X12_emit 34 rfl) ar_137 ⟨⟨by decide, by decide⟩, ?_⟩
      refine a_aload_n (pc := 53) (dk dt_X12_emit 35 rfl) rfl ?_
      refine a_getr (r := 136) (pc := 54) (dk dt_X12_emit 36 rfl) cls_12 fl_RX12_238 cf_85_75 ?_
      refine a_iconst (pc := 57) (dk dt_X12_emit 37 rfl) (ik rfl) ?_
      refine a_aload_n (pc := 58) (dk dt_X12_emit 38 rfl) rfl ?_
      refine a_getr (r := 134) (pc := 59) (dk dt_X12_emit 39 rfl) cls_12 fl_RX12_232 cf_85_70 ?_
      refine a_iload_n (pc := 62) (dk dt_X12_emit 40 rfl) rfl ?_
      refine a_iald (pc := 63) (dk dt_X12_emit 41 rfl) ar_135 ⟨H.1, ?_⟩
      replace H := H.2
      refine a_top (y := (h 135 x1)) (by simp [up, cpy]) ?_
      refine a_iast (pc := 64) (dk dt_X12_emit 42 rfl) ar_137 ⟨⟨by decide, by decide⟩, ?_⟩
      refine a_aload_n (pc := 65) (dk dt_X12_emit 43 rfl) rfl ?_
      refine a_getr (r := 136) (pc := 66) (dk dt_X12_emit 44 rfl) cls_12 fl_RX12_238 cf_85_75 ?_
      refine a_iconst (pc := 69) (dk dt_X12_emit 45 rfl) (ik rfl) ?_
      refine a_aload_n (pc := 70) (dk dt_X12_emit 46 rfl) rfl ?_
      refine a_geti (pc := 71) (dk dt_X12_emit 47 rfl) cls_12 fl_RX12_398 cf_85_10 ?_
      refine a_top (y := (h 85 10)) (by simp [up, cpy]) ?_
      refine a_bipush (pc := 74) (dk dt_X12_emit 48 rfl) (ik rfl) (bpk rfl) ?_
      refine a_ishr (pc := 76) (dk dt_X12_emit 49 rfl) ?_
      refine a_sipush (pc := 77) (dk dt_X12_emit 50 rfl) (ik rfl) (spk rfl) ?_
      refine a_iand (pc := 80) (dk dt_X12_emit 51 rfl) ?_
      refine a_iast (pc := 81) (dk dt_X12_emit 52 rfl) ar_137 ⟨⟨by decide, by decide⟩, ?_⟩
      refine a_aload_n (pc := 82) (dk dt_X12_emit 53 rfl) rfl ?_
      refine a_getr (r := 136) (pc := 83) (dk dt_X12_emit 54 rfl) cls_12 fl_RX12_238 cf_85_75 ?_
      refine a_iconst (pc := 86) (dk dt_X12_emit 55 rfl) (ik rfl) ?_
      refine a_aload_n (pc := 87) (dk dt_X12_emit 56 rfl) rfl ?_
      refine a_geti (pc := 88) (dk dt_X12_emit 57 rfl) cls_12 fl_RX12_398 cf_85_10 ?_
      refine a_top (y := (h 85 10)) (by simp [up, cpy]) ?_
      refine a_sipush (pc := 91) (dk dt_X12_emit 58 rfl) (ik rfl) (spk rfl) ?_
      refine a_iand (pc := 94) (dk dt_X12_emit 59 rfl) ?_
      refine a_iast (pc := 95) (dk dt_X12_emit 60 rfl) ar_137 ⟨⟨by decide, by decide⟩, ?_⟩
      refine a_aload_n (pc := 96) (dk dt_X12_emit 61 rfl) rfl ?_
      refine a_getr (r := 136) (pc := 97) (dk dt_X12_emit 62 rfl) cls_12 fl_RX12_238 cf_85_75 ?_
      refine a_iconst (pc := 100) (dk dt_X12_emit 63 rfl) (ik rfl) ?_
      refine a_iload_n (pc := 101) (dk dt_X12_emit 64 rfl) rfl ?_
      refine a_iast (pc := 102) (dk dt_X12_emit 65 rfl) ar_137 ⟨⟨by decide, by decide⟩, ?_⟩
      refine a_aload_n (pc := 103) (dk dt_X12_emit 66 rfl) rfl ?_
      refine a_getr (r := 134) (pc := 104) (dk dt_X12_emit 67 rfl) cls_12 fl_RX12_232 cf_85_70 ?_
      refine a_iload_n (pc := 107) (dk dt_X12_emit 68 rfl) rfl ?_
      refine a_aload_n (pc := 108) (dk dt_X12_emit 69 rfl) rfl ?_
      refine a_getr (r := 134) (pc := 109) (dk dt_X12_emit 70 rfl) cls_12 fl_RX12_232 cf_85_70 ?_
      refine a_iload_n (pc := 112) (dk dt_X12_emit 71 rfl) rfl ?_
      refine a_iald (pc := 113) (dk dt_X12_emit 72 rfl) ar_135 ⟨H.1, ?_⟩
      replace H := H.2
      refine a_top (y := (h 135 x1)) (by simp [up, cpy]) ?_
      refine a_iconst (pc := 114) (dk dt_X12_emit 73 rfl) (ik rfl) ?_
      refine a_iadd (pc := 115) (dk dt_X12_emit 74 rfl) ?_
      refine a_sipush (pc := 116) (dk dt_X12_emit 75 rfl) (ik rfl) (spk rfl) ?_
      refine a_iand (pc := 119) (dk dt_X12_emit 76 rfl) ?_
      refine a_iast (pc := 120) (dk dt_X12_emit 77 rfl) ar_135 ⟨H.1, ?_⟩
      replace H := H.2
      refine a_iconst (pc := 121) (dk dt_X12_emit 78 rfl) (ik rfl) ?_
      refine a_iload_n (pc := 122) (dk dt_X12_emit 79 rfl) rfl ?_
      refine a_iadd (pc := 123) (dk dt_X12_emit 80 rfl) ?_
      refine a_istore_n (pc := 124) (dk dt_X12_emit 81 rfl) (by decide) rfl rfl ?_
      exact a_pick [0, 1, 3] rfl H
    · replace H := H.2 c
      exact a_vret (pc := 42) (dk dt_X12_emit 27 rfl) rfl rfl H
  · replace H := H.2 c
    refine a_aload_n (pc := 13) (dk dt_X12_emit 11 rfl) rfl ?_
    refine a_getr (r := 136) (pc := 14) (dk dt_X12_emit 12 rfl) cls_12 fl_RX12_238 cf_85_75 ?_
    refine a_iconst (pc := 17) (dk dt_X12_emit 13 rfl) (ik rfl) ?_
    refine a_iload_n (pc := 18) (dk dt_X12_emit 14 rfl) rfl ?_
    refine a_iadd (pc := 19) (dk dt_X12_emit 15 rfl) ?_
    refine a_aload_n (pc := 20) (dk dt_X12_emit 16 rfl) rfl ?_
    refine a_bipush (pc := 21) (dk dt_X12_emit 17 rfl) (ik rfl) (bpk rfl) ?_
    refine a_iload_n (pc := 23) (dk dt_X12_emit 18 rfl) rfl ?_
    refine a_iadd (pc := 24) (dk dt_X12_emit 19 rfl) ?_
    refine a_callVi (as := [iv (w32 (9 + x3))]) (st := [iv (w32 (5 + x3)), rv 137]) (pc := 25) (dk dt_X12_emit 20 rfl) cl_RX12_478 ⟨Nat.le_of_ble_eq_true rfl, Nat.le_of_ble_eq_true rfl⟩ ⟨Nat.le_of_ble_eq_true rfl, Nat.le_of_ble_eq_true rfl⟩ cls_12 rfl cc_85 rfl rfl rfl (Nat.le_of_ble_eq_true rfl) (Call.mono H fun r1 h2 H => ?_)
    refine a_iast (pc := 28) (dk dt_X12_emit 21 rfl) ar_137 ⟨H.1, ?_⟩
    replace H := H.2
    refine a_iinc (pc := 29) (dk dt_X12_emit 22 rfl) (by decide) rfl rfl rfl ?_
    refine a_goto (pc := 32) (dk dt_X12_emit 23 rfl) (tgt := 8) rfl ?_
    exact a_pick [0, 1, 2, 3] rfl H
set_option maxHeartbeats 40000000 in
theorem U_X12_emit_85_125 {G : GG} {Φ : Int → Hp → Prop} {h : Hp} {x1 : Int} {x3 : Int} (H : Call G m_X12_recorded [rv 85] h (fun r1 h2 => (((w32 (r1 + x3)) ≤ 300 → (0 ≤ (h2 85 72) ∧ (h2 85 72) < 50) ∧ AT G m_X12_emit 227 [(0, rv 85), (3, iv x3), (4, iv 0)] [] (up h2 134 (h2 85 72) x3) Φ) ∧ (300 < (w32 (r1 + x3)) → AT G m_X12_emit 143 [(0, rv 85), (1, iv x1), (3, iv x3), (4, iv 0), (5, iv 1)] [] h2 Φ)))) : AT G m_X12_emit 125 [(0, rv 85), (1, iv x1), (3, iv x3)] [] h Φ := by
  refine a_aload_n (pc := 125) (dk dt_X12_emit 82 rfl) rfl ?_
  refine a_callVi (as := []) (st := []) (pc := 126) (dk dt_X12_emit 83 rfl) cl_RX12_468 ⟨Nat.le_of_ble_eq_true rfl, Nat.le_of_ble_eq_true rfl⟩ ⟨Nat.le_of_ble_eq_true rfl, Nat.le_of_ble_eq_true rfl⟩ cls_12 rfl cc_85 rfl rfl rfl (Nat.le_of_ble_eq_true rfl) (Call.mono H fun r1 h2 H => ?_)
  refine a_iload_n (pc := 129) (dk dt_X12_emit 84 rfl) rfl ?_
  refine a_iadd (pc := 130) (dk dt_X12_emit 85 rfl) ?_
  refine a_sipush (pc := 131) (dk dt_X12_emit 86 rfl) (ik rfl) (spk rfl) ?_
  refine a_icmp_le (pc := 134) (dk dt_X12_emit 87 rfl) (tgt := 214) rfl ⟨fun c => ?_, fun c => ?_⟩
  · replace H := H.1 c
    refine a_aload_n (pc := 214) (dk dt_X12_emit 127 rfl) rfl ?_
    refine a_getr (r := 133) (pc := 215) (dk dt_X12_emit 128 rfl) cls_12 fl_RX12_229 cf_85_69 ?_
    refine a_aload_n (pc := 218) (dk dt_X12_emit 129 rfl) rfl ?_
    refine a_geti (pc := 219) (dk dt_X12_emit 130 rfl) cls_12 fl_RX12_501 cf_85_72 ?_
    refine a_iload_n (pc := 222) (dk dt_X12_emit 131 rfl) rfl ?_
    refine a_iast (pc := 223) (dk dt_X12_emit 132 rfl) ar_134 ⟨H.1, ?_⟩
    replace H := H.2
    refine a_iconst (pc := 224) (dk dt_X12_emit 133 rfl) (ik rfl) ?_
    refine a_istore (pc := 225) (dk dt_X12_emit 134 rfl) (by decide) rfl rfl ?_
    exact a_pick [0, 2, 3] rfl H
  · replace H := H.2 c
    refine a_iconst (pc := 137) (dk dt_X12_emit 88 rfl) (ik rfl) ?_
    refine a_istore (pc := 138) (dk dt_X12_emit 89 rfl) (by decide) rfl rfl ?_
    refine a_iconst (pc := 140) (dk dt_X12_emit 90 rfl) (ik rfl) ?_
    refine a_istore (pc := 141) (dk dt_X12_emit 91 rfl) (by decide) rfl rfl ?_
    exact a_pick [0, 1, 2, 3, 4] rfl H
set_option maxHeartbeats 40000000 in
theorem U_X12_emit_85_227 {G : GG} {Φ : Int → Hp → Prop} {h : Hp} {x3 : Int} {x4 : Int} (H : ((x3 ≤ x4 → Φ 0 (up h 85 72 (w32 ((h 85 72) + 1)))) ∧ (x4 < x3 → (0 ≤ x4 ∧ x4 < 9) ∧ (0 ≤ (w32 ((w32 (9 * (h 85 72))) + x4)) ∧ (w32 ((w32 (9 * (h 85 72))) + x4)) < 450) ∧ AT G m_X12_emit 227 [(0, rv 85), (3, iv x3), (4, iv (w32 (x4 + 1)))] [] (up h 133 (w32 ((w32 (9 * (h 85 72))) + x4)) (h 137 x4)) Φ))) : AT G m_X12_emit 227 [(0, rv 85), (3, iv x3), (4, iv x4)] [] h Φ := by
  refine a_iload (pc := 227) (dk dt_X12_emit 135 rfl) rfl ?_
  refine a_iload_n (pc := 229) (dk dt_X12_emit 136 rfl) rfl ?_
  refine a_icmp_ge (pc := 230) (dk dt_X12_emit 137 rfl) (tgt := 261) rfl ⟨fun c => ?_, fun c => ?_⟩
  · replace H := H.1 c
    refine a_aload_n (pc := 261) (dk dt_X12_emit 153 rfl) rfl ?_
    refine a_dup (pc := 262) (dk dt_X12_emit 154 rfl) rfl ?_
    refine a_geti (pc := 263) (dk dt_X12_emit 155 rfl) cls_12 fl_RX12_501 cf_85_72 ?_
    refine a_iconst (pc := 266) (dk dt_X12_emit 156 rfl) (ik rfl) ?_
    refine a_iadd (pc := 267) (dk dt_X12_emit 157 rfl) ?_
    refine a_puti (pc := 268) (dk dt_X12_emit 158 rfl) cls_12 fl_RX12_501 cf_85_72 rfl rfl ?_
    exact a_vret (pc := 271) (dk dt_X12_emit 159 rfl) rfl rfl H
  · replace H := H.2 c
    refine a_aload_n (pc := 233) (dk dt_X12_emit 138 rfl) rfl ?_
    refine a_getr (r := 132) (pc := 234) (dk dt_X12_emit 139 rfl) cls_12 fl_RX12_227 cf_85_68 ?_
    refine a_bipush (pc := 237) (dk dt_X12_emit 140 rfl) (ik rfl) (bpk rfl) ?_
    refine a_aload_n (pc := 239) (dk dt_X12_emit 141 rfl) rfl ?_
    refine a_geti (pc := 240) (dk dt_X12_emit 142 rfl) cls_12 fl_RX12_501 cf_85_72 ?_
    refine a_imul (pc := 243) (dk dt_X12_emit 143 rfl) ?_
    refine a_iload (pc := 244) (dk dt_X12_emit 144 rfl) rfl ?_
    refine a_iadd (pc := 246) (dk dt_X12_emit 145 rfl) ?_
    refine a_aload_n (pc := 247) (dk dt_X12_emit 146 rfl) rfl ?_
    refine a_getr (r := 136) (pc := 248) (dk dt_X12_emit 147 rfl) cls_12 fl_RX12_238 cf_85_75 ?_
    refine a_iload (pc := 251) (dk dt_X12_emit 148 rfl) rfl ?_
    refine a_iald (pc := 253) (dk dt_X12_emit 149 rfl) ar_137 ⟨H.1, ?_⟩
    replace H := H.2
    refine a_iast (pc := 254) (dk dt_X12_emit 150 rfl) ar_133 ⟨H.1, ?_⟩
    replace H := H.2
    refine a_iinc (pc := 255) (dk dt_X12_emit 151 rfl) (by decide) rfl rfl rfl ?_
    refine a_goto (pc := 258) (dk dt_X12_emit 152 rfl) (tgt := 227) rfl ?_
    exact a_pick [0, 1, 2] rfl H
set_option maxHeartbeats 40000000 in
theorem U_X12_emit_85_143 {G : GG} {Φ : Int → Hp → Prop} {h : Hp} {x1 : Int} {x3 : Int} {x4 : Int} {x5 : Int} (H : (((h 85 72) ≤ x5 → Call G m_X12_sort [rv 85, iv x4] (up h 85 22 (w32 ((h 85 22) + 1))) (fun r1 h2 => (((w32 (x1.tdiv 4)) ≤ r1 → Call G m_X12_drop [rv 85, iv x4] h2 (fun _ h4 => AT G m_X12_emit 125 [(0, rv 85), (1, iv x1), (3, iv x3)] [] h4 Φ)) ∧ (r1 < (w32 (x1.tdiv 4)) → Φ 0 h2)))) ∧ (x5 < (h 85 72) → Call G m_X12_sort [rv 85, iv x5] h (fun r5 h6 => Call G m_X12_sort [rv 85, iv x4] h6 (fun r7 h8 => ((r5 ≤ r7 → AT G m_X12_emit 143 [(0, rv 85), (1, iv x1), (3, iv x3), (4, iv x4), (5, iv (w32 (x5 + 1)))] [] h8 Φ) ∧ (r7 < r5 → AT G m_X12_emit 143 [(0, rv 85), (1, iv x1), (3, iv x3), (4, iv x5), (5, iv (w32 (x5 + 1)))] [] h8 Φ))))))) : AT G m_X12_emit 143 [(0, rv 85), (1, iv x1), (3, iv x3), (4, iv x4), (5, iv x5)] [] h Φ := by
  refine a_iload (pc := 143) (dk dt_X12_emit 92 rfl) rfl ?_
  refine a_aload_n (pc := 145) (dk dt_X12_emit 93 rfl) rfl ?_
  refine a_geti (pc := 146) (dk dt_X12_emit 94 rfl) cls_12 fl_RX12_501 cf_85_72 ?_
  refine a_icmp_ge (pc := 149) (dk dt_X12_emit 95 rfl) (tgt := 182) rfl ⟨fun c => ?_, fun c => ?_⟩
  · replace H := H.1 c
    refine a_aload_n (pc := 182) (dk dt_X12_emit 109 rfl) rfl ?_
    refine a_dup (pc := 183) (dk dt_X12_emit 110 rfl) rfl ?_
    refine a_geti (pc := 184) (dk dt_X12_emit 111 rfl) cls_12 fl_RX12_426 cf_85_22 ?_
    refine a_iconst (pc := 187) (dk dt_X12_emit 112 rfl) (ik rfl) ?_
    refine a_iadd (pc := 188) (dk dt_X12_emit 113 rfl) ?_
    refine a_puti (pc := 189) (dk dt_X12_emit 114 rfl) cls_12 fl_RX12_426 cf_85_22 rfl rfl ?_
    refine a_aload_n (pc := 192) (dk dt_X12_emit 115 rfl) rfl ?_
    refine a_iload (pc := 193) (dk dt_X12_emit 116 rfl) rfl ?_
    refine a_callVi (as := [iv x4]) (st := []) (pc := 195) (dk dt_X12_emit 117 rfl) cl_RX12_504 ⟨Nat.le_of_ble_eq_true rfl, Nat.le_of_ble_eq_true rfl⟩ ⟨Nat.le_of_ble_eq_true rfl, Nat.le_of_ble_eq_true rfl⟩ cls_12 rfl cc_85 rfl rfl rfl (Nat.le_of_ble_eq_true rfl) (Call.mono H fun r1 h2 H => ?_)
    refine a_iload_n (pc := 198) (dk dt_X12_emit 118 rfl) rfl ?_
    refine a_iconst (pc := 199) (dk dt_X12_emit 119 rfl) (ik rfl) ?_
    refine a_idiv (pc := 200) (dk dt_X12_emit 120 rfl) ⟨by decide, ?_⟩
    refine a_icmp_ge (pc := 201) (dk dt_X12_emit 121 rfl) (tgt := 205) rfl ⟨fun c => ?_, fun c => ?_⟩
    · replace H := H.1 c
      refine a_aload_n (pc := 205) (dk dt_X12_emit 123 rfl) rfl ?_
      refine a_iload (pc := 206) (dk dt_X12_emit 124 rfl) rfl ?_
      refine a_callVv (as := [iv x4]) (st := []) (pc := 208) (dk dt_X12_emit 125 rfl) cl_RX12_507 ⟨Nat.le_of_ble_eq_true rfl, Nat.le_of_ble_eq_true rfl⟩ ⟨Nat.le_of_ble_eq_true rfl, Nat.le_of_ble_eq_true rfl⟩ cls_12 rfl cc_85 rfl rfl rfl (Nat.le_of_ble_eq_true rfl) (Call.mono H fun _ h4 H => ?_)
      refine a_goto (pc := 211) (dk dt_X12_emit 126 rfl) (tgt := 125) rfl ?_
      exact a_pick [0, 1, 2] rfl H
    · replace H := H.2 c
      exact a_vret (pc := 204) (dk dt_X12_emit 122 rfl) rfl rfl H
  · replace H := H.2 c
    refine a_aload_n (pc := 152) (dk dt_X12_emit 96 rfl) rfl ?_
    refine a_iload (pc := 153) (dk dt_X12_emit 97 rfl) rfl ?_
    refine a_callVi (as := [iv x5]) (st := []) (pc := 155) (dk dt_X12_emit 98 rfl) cl_RX12_504 ⟨Nat.le_of_ble_eq_true rfl, Nat.le_of_ble_eq_true rfl⟩ ⟨Nat.le_of_ble_eq_true rfl, Nat.le_of_ble_eq_true rfl⟩ cls_12 rfl cc_85 rfl rfl rfl (Nat.le_of_ble_eq_true rfl) (Call.mono H fun r5 h6 H => ?_)
    refine a_aload_n (pc := 158) (dk dt_X12_emit 99 rfl) rfl ?_
    refine a_iload (pc := 159) (dk dt_X12_emit 100 rfl) rfl ?_
    refine a_callVi (as := [iv x4]) (st := [iv r5]) (pc := 161) (dk dt_X12_emit 101 rfl) cl_RX12_504 ⟨Nat.le_of_ble_eq_true rfl, Nat.le_of_ble_eq_true rfl⟩ ⟨Nat.le_of_ble_eq_true rfl, Nat.le_of_ble_eq_true rfl⟩ cls_12 rfl cc_85 rfl rfl rfl (Nat.le_of_ble_eq_true rfl) (Call.mono H fun r7 h8 H => ?_)
    refine a_icmp_le (pc := 164) (dk dt_X12_emit 102 rfl) (tgt := 172) rfl ⟨fun c => ?_, fun c => ?_⟩
    · replace H := H.1 c
      refine a_iload (pc := 172) (dk dt_X12_emit 105 rfl) rfl ?_
      refine a_istore (pc := 174) (dk dt_X12_emit 106 rfl) (by decide) rfl rfl ?_
      refine a_iinc (pc := 176) (dk dt_X12_emit 107 rfl) (by decide) rfl rfl rfl ?_
      refine a_goto (pc := 179) (dk dt_X12_emit 108 rfl) (tgt := 143) rfl ?_
      exact a_pick [0, 1, 2, 3, 4] rfl H
    · replace H := H.2 c
      refine a_iload (pc := 167) (dk dt_X12_emit 103 rfl) rfl ?_
      refine a_goto (pc := 169) (dk dt_X12_emit 104 rfl) (tgt := 174) rfl ?_
      refine a_istore (pc := 174) (dk dt_X12_emit 106 rfl) (by decide) rfl rfl ?_
      refine a_iinc (pc := 176) (dk dt_X12_emit 107 rfl) (by decide) rfl rfl rfl ?_
      refine a_goto (pc := 179) (dk dt_X12_emit 108 rfl) (tgt := 143) rfl ?_
      exact a_pick [0, 1, 2, 3, 4] rfl H
set_option maxHeartbeats 40000000 in
theorem U_X12_valueOf_85_0 {G : GG} {Φ : Int → Hp → Prop} {h : Hp} {x1 : Int} (H : (((x1 = 0) → Φ (h 85 19) h) ∧ ((x1 = 1) → Call G m_X12_sunNow [rv 85] h (fun r1 h2 => Φ r1 h2)) ∧ ((x1 = 2) → Φ (h 85 21) h) ∧ ((x1 = 3) → Φ (h 85 23) h) ∧ ((x1 = 4) → Call G m_X12_recorded [rv 85] h (fun r3 h4 => Φ r3 h4)) ∧ ((x1 = 5) → Φ (h 85 29) h) ∧ ((x1 = 6) → Φ (h 85 22) h) ∧ ((x1 = 7) → (h 85 11) ≠ 0 ∧ Φ (w32 ((h 85 10).tdiv (h 85 11))) h) ∧ ((x1 = 8) → Call G m_X12_isSeen [rv 85] h (fun r5 h6 => ((r5 = 0 → Φ 0 h6) ∧ (r5 ≠ 0 → Φ 1 h6)))) ∧ (((x1 < 0 ∨ 8 < x1)) → Call G m_X12_read [rv 85, iv (w32 (x1 - 9))] h (fun r7 h8 => (((h8 85 57) ≠ 0 → Φ r7 (up h8 85 57 1)) ∧ ((h8 85 57) = 0 → ((r7 ≠ (-1) → Φ r7 (up h8 85 57 0)) ∧ (r7 = (-1) → Φ r7 (up h8 85 57 1))))))))) : AT G m_X12_valueOf 0 [(0, rv 85), (1, iv x1)] [] h Φ := by
  refine a_iload_n (pc := 0) (dk dt_X12_valueOf 0 rfl) rfl ?_
  have B0 : (x1 = 0) → AT G m_X12_valueOf 52 [(0, rv 85), (1, iv x1)] [] h Φ := by
    intro c
    replace H := H.1 c
    refine a_aload_n (pc := 52) (dk dt_X12_valueOf 2 rfl) rfl ?_
    refine a_geti (pc := 53) (dk dt_X12_valueOf 3 rfl) cls_12 fl_RX12_38 cf_85_19 ?_
    exact a_iret (pc := 56) (dk dt_X12_valueOf 4 rfl) rfl rfl H
  have B1 : (x1 = 1) → AT G m_X12_valueOf 57 [(0, rv 85), (1, iv x1)] [] h Φ := by
    intro c
    replace H := H.2.1 c
    refine a_aload_n (pc := 57) (dk dt_X12_valueOf 5 rfl) rfl ?_
    refine a_callVi (as := []) (st := []) (pc := 58) (dk dt_X12_valueOf 6 rfl) cl_RX12_421 ⟨Nat.le_of_ble_eq_true rfl, Nat.le_of_ble_eq_true rfl⟩ ⟨Nat.le_of_ble_eq_true rfl, Nat.le_of_ble_eq_true rfl⟩ cls_12 rfl cc_85 rfl rfl rfl (Nat.le_of_ble_eq_true rfl) (Call.mono H fun r1 h2 H => ?_)
    exact a_iret (pc := 61) (dk dt_X12_valueOf 7 rfl) rfl rfl H
  have B2 : (x1 = 2) → AT G m_X12_valueOf 62 [(0, rv 85), (1, iv x1)] [] h Φ := by
    intro c
    replace H := H.2.2.1 c
    refine a_aload_n (pc := 62) (dk dt_X12_valueOf 8 rfl) rfl ?_
    refine a_geti (pc := 63) (dk dt_X12_valueOf 9 rfl) cls_12 fl_RX12_424 cf_85_21 ?_
    exact a_iret (pc := 66) (dk dt_X12_valueOf 10 rfl) rfl rfl H
  have B3 : (x1 = 3) → AT G m_X12_valueOf 67 [(0, rv 85), (1, iv x1)] [] h Φ := by
    intro c
    replace H := H.2.2.2.1 c
    refine a_aload_n (pc := 67) (dk dt_X12_valueOf 11 rfl) rfl ?_
    refine a_geti (pc := 68) (dk dt_X12_valueOf 12 rfl) cls_12 fl_RX12_465 cf_85_23 ?_
    exact a_iret (pc := 71) (dk dt_X12_valueOf 13 rfl) rfl rfl H
  have B4 : (x1 = 4) → AT G m_X12_valueOf 72 [(0, rv 85), (1, iv x1)] [] h Φ := by
    intro c
    replace H := H.2.2.2.2.1 c
    refine a_aload_n (pc := 72) (dk dt_X12_valueOf 14 rfl) rfl ?_
    refine a_callVi (as := []) (st := []) (pc := 73) (dk dt_X12_valueOf 15 rfl) cl_RX12_468 ⟨Nat.le_of_ble_eq_true rfl, Nat.le_of_ble_eq_true rfl⟩ ⟨Nat.le_of_ble_eq_true rfl, Nat.le_of_ble_eq_true rfl⟩ cls_12 rfl cc_85 rfl rfl rfl (Nat.le_of_ble_eq_true rfl) (Call.mono H fun r3 h4 H => ?_)
    exact a_iret (pc := 76) (dk dt_X12_valueOf 16 rfl) rfl rfl H
  have B5 : (x1 = 5) → AT G m_X12_valueOf 77 [(0, rv 85), (1, iv x1)] [] h Φ := by
    intro c
    replace H := H.2.2.2.2.2.1 c
    refine a_aload_n (pc := 77) (dk dt_X12_valueOf 17 rfl) rfl ?_
    refine a_geti (pc := 78) (dk dt_X12_valueOf 18 rfl) cls_12 fl_RX12_447 cf_85_29 ?_
    exact a_iret (pc := 81) (dk dt_X12_valueOf 19 rfl) rfl rfl H
  have B6 : (x1 = 6) → AT G m_X12_valueOf 82 [(0, rv 85), (1, iv x1)] [] h Φ := by
    intro c
    replace H := H.2.2.2.2.2.2.1 c
    refine a_aload_n (pc := 82) (dk dt_X12_valueOf 20 rfl) rfl ?_
    refine a_geti (pc := 83) (dk dt_X12_valueOf 21 rfl) cls_12 fl_RX12_426 cf_85_22 ?_
    exact a_iret (pc := 86) (dk dt_X12_valueOf 22 rfl) rfl rfl H
  have B7 : (x1 = 7) → AT G m_X12_valueOf 87 [(0, rv 85), (1, iv x1)] [] h Φ := by
    intro c
    replace H := H.2.2.2.2.2.2.2.1 c
    refine a_aload_n (pc := 87) (dk dt_X12_valueOf 23 rfl) rfl ?_
    refine a_geti (pc := 88) (dk dt_X12_valueOf 24 rfl) cls_12 fl_RX12_398 cf_85_10 ?_
    refine a_aload_n (pc := 91) (dk dt_X12_valueOf 25 rfl) rfl ?_
    refine a_geti (pc := 92) (dk dt_X12_valueOf 26 rfl) cls_12 fl_RX12_22 cf_85_11 ?_
    refine a_idiv (pc := 95) (dk dt_X12_valueOf 27 rfl) ⟨H.1, ?_⟩
    replace H := H.2
    exact a_iret (pc := 96) (dk dt_X12_valueOf 28 rfl) rfl rfl H
  have B8 : (x1 = 8) → AT G m_X12_valueOf 97 [(0, rv 85), (1, iv x1)] [] h Φ := by
    intro c
    replace H := H.2.2.2.2.2.2.2.2.1 c
    refine a_aload_n (pc := 97) (dk dt_X12_valueOf 29 rfl) rfl ?_
    refine a_callVi (as := []) (st := []) (pc := 98) (dk dt_X12_valueOf 30 rfl) cl_RX12_471 ⟨Nat.le_of_ble_eq_true rfl, Nat.le_of_ble_eq_true rfl⟩ ⟨Nat.le_of_ble_eq_true rfl, Nat.le_of_ble_eq_true rfl⟩ cls_12 rfl cc_85 rfl rfl rfl (Nat.le_of_ble_eq_true rfl) (Call.mono H fun r5 h6 H => ?_)
    refine a_if_eq (pc := 101) (dk dt_X12_valueOf 31 rfl) (tgt := 108) rfl ⟨fun c => ?_, fun c => ?_⟩
    · replace H := H.1 c
      refine a_iconst (pc := 108) (dk dt_X12_valueOf 34 rfl) (ik rfl) ?_
      exact a_iret (pc := 109) (dk dt_X12_valueOf 35 rfl) rfl rfl H
    · replace H := H.2 c
      refine a_iconst (pc := 104) (dk dt_X12_valueOf 32 rfl) (ik rfl) ?_
      refine a_goto (pc := 105) (dk dt_X12_valueOf 33 rfl) (tgt := 109) rfl ?_
      exact a_iret (pc := 109) (dk dt_X12_valueOf 35 rfl) rfl rfl H
  have BD : ((x1 < 0 ∨ 8 < x1)) → AT G m_X12_valueOf 110 [(0, rv 85), (1, iv x1)] [] h Φ := by
    intro c
    replace H := H.2.2.2.2.2.2.2.2.2 c
    refine a_aload_n (pc := 110) (dk dt_X12_valueOf 36 rfl) rfl ?_
    refine a_iload_n (pc := 111) (dk dt_X12_valueOf 37 rfl) rfl ?_
    refine a_bipush (pc := 112) (dk dt_X12_valueOf 38 rfl) (ik rfl) (bpk rfl) ?_
    refine a_isub (pc := 114) (dk dt_X12_valueOf 39 rfl) ?_
    refine a_callVi (as := [iv (w32 (x1 - 9))]) (st := []) (pc := 115) (dk dt_X12_valueOf 40 rfl) cl_RX12_438 ⟨Nat.le_of_ble_eq_true rfl, Nat.le_of_ble_eq_true rfl⟩ ⟨Nat.le_of_ble_eq_true rfl, Nat.le_of_ble_eq_true rfl⟩ cls_12 rfl cc_85 rfl rfl rfl (Nat.le_of_ble_eq_true rfl) (Call.mono H fun r7 h8 H => ?_)
    refine a_istore_n (pc := 118) (dk dt_X12_valueOf 41 rfl) (by decide) rfl rfl ?_
    refine a_aload_n (pc := 119) (dk dt_X12_valueOf 42 rfl) rfl ?_
    refine a_aload_n (pc := 120) (dk dt_X12_valueOf 43 rfl) rfl ?_
    refine a_geti (pc := 121) (dk dt_X12_valueOf 44 rfl) cls_12 fl_RX12_474 cf_85_57 ?_
    refine a_if_ne (pc := 124) (dk dt_X12_valueOf 45 rfl) (tgt := 132) rfl ⟨fun c => ?_, fun c => ?_⟩
    · replace H := H.1 c
      refine a_iconst (pc := 132) (dk dt_X12_valueOf 49 rfl) (ik rfl) ?_
      refine a_goto (pc := 133) (dk dt_X12_valueOf 50 rfl) (tgt := 137) rfl ?_
      refine a_putz (pc := 137) (dk dt_X12_valueOf 52 rfl) cls_12 fl_RX12_474 cf_85_57 rfl rfl ⟨by decide, ?_⟩
      refine a_iload_n (pc := 140) (dk dt_X12_valueOf 53 rfl) rfl ?_
      exact a_iret (pc := 141) (dk dt_X12_valueOf 54 rfl) rfl rfl H
    · replace H := H.2 c
      refine a_iload_n (pc := 127) (dk dt_X12_valueOf 46 rfl) rfl ?_
      refine a_iconst (pc := 128) (dk dt_X12_valueOf 47 rfl) (ik rfl) ?_
      refine a_icmp_ne (pc := 129) (dk dt_X12_valueOf 48 rfl) (tgt := 136) rfl ⟨fun c => ?_, fun c => ?_⟩
      · replace H := H.1 c
        refine a_iconst (pc := 136) (dk dt_X12_valueOf 51 rfl) (ik rfl) ?_
        refine a_putz (pc := 137) (dk dt_X12_valueOf 52 rfl) cls_12 fl_RX12_474 cf_85_57 rfl rfl ⟨by decide, ?_⟩
        refine a_iload_n (pc := 140) (dk dt_X12_valueOf 53 rfl) rfl ?_
        exact a_iret (pc := 141) (dk dt_X12_valueOf 54 rfl) rfl rfl H
      · replace H := H.2 c
        refine a_iconst (pc := 132) (dk dt_X12_valueOf 49 rfl) (ik rfl) ?_
        refine a_goto (pc := 133) (dk dt_X12_valueOf 50 rfl) (tgt := 137) rfl ?_
        refine a_putz (pc := 137) (dk dt_X12_valueOf 52 rfl) cls_12 fl_RX12_474 cf_85_57 rfl rfl ⟨by decide, ?_⟩
        refine a_iload_n (pc := 140) (dk dt_X12_valueOf 53 rfl) rfl ?_
        exact a_iret (pc := 141) (dk dt_X12_valueOf 54 rfl) rfl rfl H
  exact a_tsw [52, 57, 62, 67, 72, 77, 82, 87, 97] (pc := 1) (dk dt_X12_valueOf 1 rfl) (by decide) (dt := 110) rfl (by decide) ⟨⟨fun c => B0 (c), fun c => B1 (c), fun c => B2 (c), fun c => B3 (c), fun c => B4 (c), fun c => B5 (c), fun c => B6 (c), fun c => B7 (c), fun c => B8 (c), trivial⟩, fun c => BD (c)⟩
