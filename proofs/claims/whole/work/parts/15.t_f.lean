set_option maxHeartbeats 40000000 in
theorem T_X12_acknowledge_85_0 {G : GG} {Φ : Int → Hp → Prop} {h : Hp} {x1 : Int} (H : (((h 85 88) ≠ 0 → (((band (w32 (x1 - (h 143 0))) 255) ≤ (h 85 88) → AT G m_X12_acknowledge 32 [(0, rv 85), (2, iv (band (w32 (x1 - (h 143 0))) 255)), (3, iv (band (w32 (x1 - (h 143 0))) 255))] [] h Φ) ∧ ((h 85 88) < (band (w32 (x1 - (h 143 0))) 255) → Φ 0 h))) ∧ ((h 85 88) = 0 → Φ 0 h))) : AT G m_X12_acknowledge 0 [(0, rv 85), (1, iv x1)] [] h Φ := by
  have D := dt_X12_acknowledge
  refine a_aload_n (pc := 0) (dk D 0 rfl) rfl ?_
  refine a_geti (pc := 1) (dk D 1 rfl) cls_12 fl_RX12_578 cf_85_88 ?_
  refine a_if_ne (pc := 4) (dk D 2 rfl) (tgt := 8) rfl ⟨fun c => ?_, fun c => ?_⟩
  · replace H := H.1 c
    refine a_iload_n (pc := 8) (dk D 4 rfl) rfl ?_
    refine a_aload_n (pc := 9) (dk D 5 rfl) rfl ?_
    refine a_getr (r := 142) (pc := 10) (dk D 6 rfl) cls_12 fl_RX12_259 cf_85_94 ?_
    refine a_iconst (pc := 13) (dk D 7 rfl) (ik rfl) ?_
    refine a_iald (pc := 14) (dk D 8 rfl) ar_143 ⟨⟨by decide, by decide⟩, ?_⟩
    refine a_isub (pc := 15) (dk D 9 rfl) ?_
    refine a_sipush (pc := 16) (dk D 10 rfl) (ik rfl) (spk rfl) ?_
    refine a_iand (pc := 19) (dk D 11 rfl) ?_
    refine a_istore_n (pc := 20) (dk D 12 rfl) (by decide) rfl rfl ?_
    refine a_iload_n (pc := 21) (dk D 13 rfl) rfl ?_
    refine a_aload_n (pc := 22) (dk D 14 rfl) rfl ?_
    refine a_geti (pc := 23) (dk D 15 rfl) cls_12 fl_RX12_578 cf_85_88 ?_
    refine a_icmp_le (pc := 26) (dk D 16 rfl) (tgt := 30) rfl ⟨fun c => ?_, fun c => ?_⟩
    · replace H := H.1 c
      refine a_iload_n (pc := 30) (dk D 18 rfl) rfl ?_
      refine a_istore_n (pc := 31) (dk D 19 rfl) (by decide) rfl rfl ?_
      exact a_pick [0, 2, 3] rfl H
    · replace H := H.2 c
      exact a_vret (pc := 29) (dk D 17 rfl) rfl rfl H
  · replace H := H.2 c
    exact a_vret (pc := 7) (dk D 3 rfl) rfl rfl H
set_option maxHeartbeats 40000000 in
theorem T_X12_acknowledge_85_32 {G : GG} {Φ : Int → Hp → Prop} {h : Hp} {x2 : Int} {x3 : Int} (H : (((h 85 88) ≤ x3 → Call G m_J9_max_7cf53 [iv 0, iv (w32 ((h 85 89) - x2))] (up h 85 88 (w32 ((h 85 88) - x2))) (fun r1 h2 => Φ 0 (up h2 85 89 r1))) ∧ (x3 < (h 85 88) → Call G m_X12_copyLine [rv 85, iv (w32 (249 + x3)), iv (w32 ((w32 (249 + x3)) - x2))] h (fun _ h4 => (0 ≤ x3 ∧ x3 < 9) ∧ (0 ≤ (w32 (x3 - x2)) ∧ (w32 (x3 - x2)) < 9) ∧ (0 ≤ x3 ∧ x3 < 9) ∧ (0 ≤ (w32 (x3 - x2)) ∧ (w32 (x3 - x2)) < 9) ∧ (0 ≤ x3 ∧ x3 < 9) ∧ (0 ≤ (w32 (x3 - x2)) ∧ (w32 (x3 - x2)) < 9) ∧ (0 ≤ x3 ∧ x3 < 9) ∧ (0 ≤ (w32 (x3 - x2)) ∧ (w32 (x3 - x2)) < 9) ∧ AT G m_X12_acknowledge 32 [(0, rv 85), (2, iv x2), (3, iv (w32 (x3 + 1)))] [] (up (up (up (up h4 143 (w32 (x3 - x2)) (h4 143 x3)) 144 (w32 (x3 - x2)) (h4 144 x3)) 145 (w32 (x3 - x2)) (h4 145 x3)) 146 (w32 (x3 - x2)) (h4 146 x3)) Φ)))) : AT G m_X12_acknowledge 32 [(0, rv 85), (2, iv x2), (3, iv x3)] [] h Φ := by
  have D := dt_X12_acknowledge
  refine a_iload_n (pc := 32) (dk D 20 rfl) rfl ?_
  refine a_aload_n (pc := 33) (dk D 21 rfl) rfl ?_
  refine a_geti (pc := 34) (dk D 22 rfl) cls_12 fl_RX12_578 cf_85_88 ?_
  refine a_icmp_ge (pc := 37) (dk D 23 rfl) (tgt := 118) rfl ⟨fun c => ?_, fun c => ?_⟩
  · replace H := H.1 c
    refine a_aload_n (pc := 118) (dk D 76 rfl) rfl ?_
    refine a_dup (pc := 119) (dk D 77 rfl) rfl ?_
    refine a_geti (pc := 120) (dk D 78 rfl) cls_12 fl_RX12_578 cf_85_88 ?_
    refine a_iload_n (pc := 123) (dk D 79 rfl) rfl ?_
    refine a_isub (pc := 124) (dk D 80 rfl) ?_
    refine a_puti (pc := 125) (dk D 81 rfl) cls_12 fl_RX12_578 cf_85_88 rfl rfl ?_
    refine a_aload_n (pc := 128) (dk D 82 rfl) rfl ?_
    refine a_iconst (pc := 129) (dk D 83 rfl) (ik rfl) ?_
    refine a_aload_n (pc := 130) (dk D 84 rfl) rfl ?_
    refine a_geti (pc := 131) (dk D 85 rfl) cls_12 fl_RX12_569 cf_85_89 ?_
    refine a_top (y := (h 85 89)) (by simp [up, cpy]) ?_
    refine a_iload_n (pc := 134) (dk D 86 rfl) rfl ?_
    refine a_isub (pc := 135) (dk D 87 rfl) ?_
    refine a_callSi (as := [iv 0, iv (w32 ((h 85 89) - x2))]) (st := [rv 85]) (pc := 136) (dk D 88 rfl) cl_RX12_581 ⟨Nat.le_of_ble_eq_true rfl, Nat.le_of_ble_eq_true rfl⟩ ⟨Nat.le_of_ble_eq_true rfl, Nat.le_of_ble_eq_true rfl⟩ rfl rfl rfl (Nat.le_of_ble_eq_true rfl) (Call.mono H fun r1 h2 H => ?_)
    refine a_puti (pc := 139) (dk D 89 rfl) cls_12 fl_RX12_569 cf_85_89 rfl rfl ?_
    exact a_vret (pc := 142) (dk D 90 rfl) rfl rfl H
  · replace H := H.2 c
    refine a_aload_n (pc := 40) (dk D 24 rfl) rfl ?_
    refine a_sipush (pc := 41) (dk D 25 rfl) (ik rfl) (spk rfl) ?_
    refine a_iload_n (pc := 44) (dk D 26 rfl) rfl ?_
    refine a_iadd (pc := 45) (dk D 27 rfl) ?_
    refine a_sipush (pc := 46) (dk D 28 rfl) (ik rfl) (spk rfl) ?_
    refine a_iload_n (pc := 49) (dk D 29 rfl) rfl ?_
    refine a_iadd (pc := 50) (dk D 30 rfl) ?_
    refine a_iload_n (pc := 51) (dk D 31 rfl) rfl ?_
    refine a_isub (pc := 52) (dk D 32 rfl) ?_
    refine a_callVv (as := [iv (w32 (249 + x3)), iv (w32 ((w32 (249 + x3)) - x2))]) (st := []) (pc := 53) (dk D 33 rfl) cl_RX12_498 ⟨Nat.le_of_ble_eq_true rfl, Nat.le_of_ble_eq_true rfl⟩ ⟨Nat.le_of_ble_eq_true rfl, Nat.le_of_ble_eq_true rfl⟩ cls_12 rfl cc_85 rfl rfl rfl (Nat.le_of_ble_eq_true rfl) (Call.mono H fun _ h4 H => ?_)
    refine a_aload_n (pc := 56) (dk D 34 rfl) rfl ?_
    refine a_getr (r := 142) (pc := 57) (dk D 35 rfl) cls_12 fl_RX12_259 cf_85_94 ?_
    refine a_iload_n (pc := 60) (dk D 36 rfl) rfl ?_
    refine a_iload_n (pc := 61) (dk D 37 rfl) rfl ?_
    refine a_isub (pc := 62) (dk D 38 rfl) ?_
    refine a_aload_n (pc := 63) (dk D 39 rfl) rfl ?_
    refine a_getr (r := 142) (pc := 64) (dk D 40 rfl) cls_12 fl_RX12_259 cf_85_94 ?_
    refine a_iload_n (pc := 67) (dk D 41 rfl) rfl ?_
    refine a_iald (pc := 68) (dk D 42 rfl) ar_143 ⟨H.1, ?_⟩
    replace H := H.2
    refine a_iast (pc := 69) (dk D 43 rfl) ar_143 ⟨H.1, ?_⟩
    replace H := H.2
    refine a_aload_n (pc := 70) (dk D 44 rfl) rfl ?_
    refine a_getr (r := 143) (pc := 71) (dk D 45 rfl) cls_12 fl_RX12_262 cf_85_95 ?_
    refine a_iload_n (pc := 74) (dk D 46 rfl) rfl ?_
    refine a_iload_n (pc := 75) (dk D 47 rfl) rfl ?_
    refine a_isub (pc := 76) (dk D 48 rfl) ?_
    refine a_aload_n (pc := 77) (dk D 49 rfl) rfl ?_
    refine a_getr (r := 143) (pc := 78) (dk D 50 rfl) cls_12 fl_RX12_262 cf_85_95 ?_
    refine a_iload_n (pc := 81) (dk D 51 rfl) rfl ?_
    refine a_iald (pc := 82) (dk D 52 rfl) ar_144 ⟨H.1, ?_⟩
    replace H := H.2
    refine a_top (y := (h4 144 x3)) (by simp [up, cpy]) ?_
    refine a_iast (pc := 83) (dk D 53 rfl) ar_144 ⟨H.1, ?_⟩
    replace H := H.2
    refine a_aload_n (pc := 84) (dk D 54 rfl) rfl ?_
    refine a_getr (r := 144) (pc := 85) (dk D 55 rfl) cls_12 fl_RX12_265 cf_85_96 ?_
    refine a_iload_n (pc := 88) (dk D 56 rfl) rfl ?_
    refine a_iload_n (pc := 89) (dk D 57 rfl) rfl ?_
    refine a_isub (pc := 90) (dk D 58 rfl) ?_
    refine a_aload_n (pc := 91) (dk D 59 rfl) rfl ?_
    refine a_getr (r := 144) (pc := 92) (dk D 60 rfl) cls_12 fl_RX12_265 cf_85_96 ?_
    refine a_iload_n (pc := 95) (dk D 61 rfl) rfl ?_
    refine a_iald (pc := 96) (dk D 62 rfl) ar_145 ⟨H.1, ?_⟩
    replace H := H.2
    refine a_top (y := (h4 145 x3)) (by simp [up, cpy]) ?_
    refine a_iast (pc := 97) (dk D 63 rfl) ar_145 ⟨H.1, ?_⟩
    replace H := H.2
    refine a_aload_n (pc := 98) (dk D 64 rfl) rfl ?_
    refine a_getr (r := 145) (pc := 99) (dk D 65 rfl) cls_12 fl_RX12_268 cf_85_97 ?_
    refine a_iload_n (pc := 102) (dk D 66 rfl) rfl ?_
    refine a_iload_n (pc := 103) (dk D 67 rfl) rfl ?_
    refine a_isub (pc := 104) (dk D 68 rfl) ?_
    refine a_aload_n (pc := 105) (dk D 69 rfl) rfl ?_
    refine a_getr (r := 145) (pc := 106) (dk D 70 rfl) cls_12 fl_RX12_268 cf_85_97 ?_
    refine a_iload_n (pc := 109) (dk D 71 rfl) rfl ?_
    refine a_iald (pc := 110) (dk D 72 rfl) ar_146 ⟨H.1, ?_⟩
    replace H := H.2
    refine a_top (y := (h4 146 x3)) (by simp [up, cpy]) ?_
    refine a_iast (pc := 111) (dk D 73 rfl) ar_146 ⟨H.1, ?_⟩
    replace H := H.2
    refine a_iinc (pc := 112) (dk D 74 rfl) (by decide) rfl rfl rfl ?_
    refine a_goto (pc := 115) (dk D 75 rfl) (tgt := 32) rfl ?_
    exact a_pick [0, 1, 2] rfl H
set_option maxHeartbeats 40000000 in
theorem T_X12_pieces_85_0 {G : GG} {Φ : Int → Hp → Prop} {h : Hp} {x1 : Int} (H : AT G m_X12_pieces 4 [(0, rv 85), (2, iv 0), (3, iv x1)] [] h Φ) : AT G m_X12_pieces 0 [(0, rv 85), (1, iv x1)] [] h Φ := by
  have D := dt_X12_pieces
  refine a_iconst (pc := 0) (dk D 0 rfl) (ik rfl) ?_
  refine a_istore_n (pc := 1) (dk D 1 rfl) (by decide) rfl rfl ?_
  refine a_iload_n (pc := 2) (dk D 2 rfl) rfl ?_
  refine a_istore_n (pc := 3) (dk D 3 rfl) (by decide) rfl rfl ?_
  exact a_pick [0, 2, 3] rfl H
set_option maxHeartbeats 40000000 in
theorem T_X12_pieces_85_4 {G : GG} {Φ : Int → Hp → Prop} {h : Hp} {x2 : Int} {x3 : Int} (H : ((18 ≤ x3 → Φ x2 h) ∧ (x3 < 18 → (0 ≤ (w32 (4 + x3)) ∧ (w32 (4 + x3)) < 24) ∧ (((h 85 85) ≠ 0 → (((h 85 85) ≠ 4 → (((h 85 85) ≠ 4 → ((4 ≤ (h 85 85) → (0 ≤ (h 85 85) ∧ (h 85 85) < 9) ∧ (((h 85 86) ≤ (w32 ((h 85 85) + 1)) → ((60 ≤ (h 85 87) → AT G m_X12_pieces 4 [(0, rv 85), (2, iv (w32 (x2 + 1))), (3, iv (w32 (x3 + 1)))] [] (up (up (up (up h 85 86 (h 85 86)) 140 (h 85 85) (h 139 (w32 (4 + x3)))) 85 85 (w32 ((h 85 85) + 1))) 85 85 0) Φ) ∧ ((h 85 87) < 60 → (0 ≤ (h 85 87) ∧ (h 85 87) < 60) ∧ AT G m_X12_pieces 168 [(0, rv 85), (2, iv (w32 (x2 + 1))), (3, iv (w32 (x3 + 1))), (5, iv 0)] [] (up (up (up (up h 85 86 (h 85 86)) 140 (h 85 85) (h 139 (w32 (4 + x3)))) 85 85 (w32 ((h 85 85) + 1))) 142 (h 85 87) (w32 ((h 85 85) + 1))) Φ))) ∧ ((w32 ((h 85 85) + 1)) < (h 85 86) → AT G m_X12_pieces 4 [(0, rv 85), (2, iv x2), (3, iv (w32 (x3 + 1)))] [] (up (up (up h 85 86 (h 85 86)) 140 (h 85 85) (h 139 (w32 (4 + x3)))) 85 85 (w32 ((h 85 85) + 1))) Φ))) ∧ ((h 85 85) < 4 → (0 ≤ (h 85 85) ∧ (h 85 85) < 9) ∧ ((9 ≤ (w32 ((h 85 85) + 1)) → ((60 ≤ (h 85 87) → AT G m_X12_pieces 4 [(0, rv 85), (2, iv (w32 (x2 + 1))), (3, iv (w32 (x3 + 1)))] [] (up (up (up (up h 85 86 9) 140 (h 85 85) (h 139 (w32 (4 + x3)))) 85 85 (w32 ((h 85 85) + 1))) 85 85 0) Φ) ∧ ((h 85 87) < 60 → (0 ≤ (h 85 87) ∧ (h 85 87) < 60) ∧ AT G m_X12_pieces 168 [(0, rv 85), (2, iv (w32 (x2 + 1))), (3, iv (w32 (x3 + 1))), (5, iv 0)] [] (up (up (up (up h 85 86 9) 140 (h 85 85) (h 139 (w32 (4 + x3)))) 85 85 (w32 ((h 85 85) + 1))) 142 (h 85 87) (w32 ((h 85 85) + 1))) Φ))) ∧ ((w32 ((h 85 85) + 1)) < 9 → AT G m_X12_pieces 4 [(0, rv 85), (2, iv x2), (3, iv (w32 (x3 + 1)))] [] (up (up (up h 85 86 9) 140 (h 85 85) (h 139 (w32 (4 + x3)))) 85 85 (w32 ((h 85 85) + 1))) Φ))))) ∧ ((h 85 85) = 4 → (0 ≤ (h 85 85) ∧ (h 85 85) < 9) ∧ (((w32 (5 + (h 139 (w32 (4 + x3))))) ≤ (w32 ((h 85 85) + 1)) → ((60 ≤ (h 85 87) → AT G m_X12_pieces 4 [(0, rv 85), (2, iv (w32 (x2 + 1))), (3, iv (w32 (x3 + 1)))] [] (up (up (up (up h 85 86 (w32 (5 + (h 139 (w32 (4 + x3)))))) 140 (h 85 85) (h 139 (w32 (4 + x3)))) 85 85 (w32 ((h 85 85) + 1))) 85 85 0) Φ) ∧ ((h 85 87) < 60 → (0 ≤ (h 85 87) ∧ (h 85 87) < 60) ∧ AT G m_X12_pieces 168 [(0, rv 85), (2, iv (w32 (x2 + 1))), (3, iv (w32 (x3 + 1))), (5, iv 0)] [] (up (up (up (up h 85 86 (w32 (5 + (h 139 (w32 (4 + x3)))))) 140 (h 85 85) (h 139 (w32 (4 + x3)))) 85 85 (w32 ((h 85 85) + 1))) 142 (h 85 87) (w32 ((h 85 85) + 1))) Φ))) ∧ ((w32 ((h 85 85) + 1)) < (w32 (5 + (h 139 (w32 (4 + x3))))) → AT G m_X12_pieces 4 [(0, rv 85), (2, iv x2), (3, iv (w32 (x3 + 1)))] [] (up (up (up h 85 86 (w32 (5 + (h 139 (w32 (4 + x3)))))) 140 (h 85 85) (h 139 (w32 (4 + x3)))) 85 85 (w32 ((h 85 85) + 1))) Φ))))) ∧ ((h 85 85) = 4 → Call G m_X12_is [iv (h 139 (w32 (4 + x3))), iv 1, iv 4] h (fun r1 h2 => ((r1 ≠ 0 → (((h2 85 85) ≠ 4 → ((4 ≤ (h2 85 85) → (0 ≤ (h2 85 85) ∧ (h2 85 85) < 9) ∧ (((h2 85 86) ≤ (w32 ((h2 85 85) + 1)) → ((60 ≤ (h2 85 87) → AT G m_X12_pieces 4 [(0, rv 85), (2, iv (w32 (x2 + 1))), (3, iv (w32 (x3 + 1)))] [] (up (up (up (up h2 85 86 (h2 85 86)) 140 (h2 85 85) (h 139 (w32 (4 + x3)))) 85 85 (w32 ((h2 85 85) + 1))) 85 85 0) Φ) ∧ ((h2 85 87) < 60 → (0 ≤ (h2 85 87) ∧ (h2 85 87) < 60) ∧ AT G m_X12_pieces 168 [(0, rv 85), (2, iv (w32 (x2 + 1))), (3, iv (w32 (x3 + 1))), (5, iv 0)] [] (up (up (up (up h2 85 86 (h2 85 86)) 140 (h2 85 85) (h 139 (w32 (4 + x3)))) 85 85 (w32 ((h2 85 85) + 1))) 142 (h2 85 87) (w32 ((h2 85 85) + 1))) Φ))) ∧ ((w32 ((h2 85 85) + 1)) < (h2 85 86) → AT G m_X12_pieces 4 [(0, rv 85), (2, iv x2), (3, iv (w32 (x3 + 1)))] [] (up (up (up h2 85 86 (h2 85 86)) 140 (h2 85 85) (h 139 (w32 (4 + x3)))) 85 85 (w32 ((h2 85 85) + 1))) Φ))) ∧ ((h2 85 85) < 4 → (0 ≤ (h2 85 85) ∧ (h2 85 85) < 9) ∧ ((9 ≤ (w32 ((h2 85 85) + 1)) → ((60 ≤ (h2 85 87) → AT G m_X12_pieces 4 [(0, rv 85), (2, iv (w32 (x2 + 1))), (3, iv (w32 (x3 + 1)))] [] (up (up (up (up h2 85 86 9) 140 (h2 85 85) (h 139 (w32 (4 + x3)))) 85 85 (w32 ((h2 85 85) + 1))) 85 85 0) Φ) ∧ ((h2 85 87) < 60 → (0 ≤ (h2 85 87) ∧ (h2 85 87) < 60) ∧ AT G m_X12_pieces 168 [(0, rv 85), (2, iv (w32 (x2 + 1))), (3, iv (w32 (x3 + 1))), (5, iv 0)] [] (up (up (up (up h2 85 86 9) 140 (h2 85 85) (h 139 (w32 (4 + x3)))) 85 85 (w32 ((h2 85 85) + 1))) 142 (h2 85 87) (w32 ((h2 85 85) + 1))) Φ))) ∧ ((w32 ((h2 85 85) + 1)) < 9 → AT G m_X12_pieces 4 [(0, rv 85), (2, iv x2), (3, iv (w32 (x3 + 1)))] [] (up (up (up h2 85 86 9) 140 (h2 85 85) (h 139 (w32 (4 + x3)))) 85 85 (w32 ((h2 85 85) + 1))) Φ))))) ∧ ((h2 85 85) = 4 → (0 ≤ (h2 85 85) ∧ (h2 85 85) < 9) ∧ (((w32 (5 + (h 139 (w32 (4 + x3))))) ≤ (w32 ((h2 85 85) + 1)) → ((60 ≤ (h2 85 87) → AT G m_X12_pieces 4 [(0, rv 85), (2, iv (w32 (x2 + 1))), (3, iv (w32 (x3 + 1)))] [] (up (up (up (up h2 85 86 (w32 (5 + (h 139 (w32 (4 + x3)))))) 140 (h2 85 85) (h 139 (w32 (4 + x3)))) 85 85 (w32 ((h2 85 85) + 1))) 85 85 0) Φ) ∧ ((h2 85 87) < 60 → (0 ≤ (h2 85 87) ∧ (h2 85 87) < 60) ∧ AT G m_X12_pieces 168 [(0, rv 85), (2, iv (w32 (x2 + 1))), (3, iv (w32 (x3 + 1))), (5, iv 0)] [] (up (up (up (up h2 85 86 (w32 (5 + (h 139 (w32 (4 + x3)))))) 140 (h2 85 85) (h 139 (w32 (4 + x3)))) 85 85 (w32 ((h2 85 85) + 1))) 142 (h2 85 87) (w32 ((h2 85 85) + 1))) Φ))) ∧ ((w32 ((h2 85 85) + 1)) < (w32 (5 + (h 139 (w32 (4 + x3))))) → AT G m_X12_pieces 4 [(0, rv 85), (2, iv x2), (3, iv (w32 (x3 + 1)))] [] (up (up (up h2 85 86 (w32 (5 + (h 139 (w32 (4 + x3)))))) 140 (h2 85 85) (h 139 (w32 (4 + x3)))) 85 85 (w32 ((h2 85 85) + 1))) Φ))))) ∧ (r1 = 0 → Φ x2 (up h2 85 85 0))))))) ∧ ((h 85 85) = 0 → Call G m_X12_is [iv (h 139 (w32 (4 + x3))), iv 10, iv 25] h (fun r3 h4 => ((r3 ≠ 0 → (((h4 85 85) ≠ 4 → (((h4 85 85) ≠ 4 → ((4 ≤ (h4 85 85) → (0 ≤ (h4 85 85) ∧ (h4 85 85) < 9) ∧ (((h4 85 86) ≤ (w32 ((h4 85 85) + 1)) → ((60 ≤ (h4 85 87) → AT G m_X12_pieces 4 [(0, rv 85), (2, iv (w32 (x2 + 1))), (3, iv (w32 (x3 + 1)))] [] (up (up (up (up h4 85 86 (h4 85 86)) 140 (h4 85 85) (h 139 (w32 (4 + x3)))) 85 85 (w32 ((h4 85 85) + 1))) 85 85 0) Φ) ∧ ((h4 85 87) < 60 → (0 ≤ (h4 85 87) ∧ (h4 85 87) < 60) ∧ AT G m_X12_pieces 168 [(0, rv 85), (2, iv (w32 (x2 + 1))), (3, iv (w32 (x3 + 1))), (5, iv 0)] [] (up (up (up (up h4 85 86 (h4 85 86)) 140 (h4 85 85) (h 139 (w32 (4 + x3)))) 85 85 (w32 ((h4 85 85) + 1))) 142 (h4 85 87) (w32 ((h4 85 85) + 1))) Φ))) ∧ ((w32 ((h4 85 85) + 1)) < (h4 85 86) → AT G m_X12_pieces 4 [(0, rv 85), (2, iv x2), (3, iv (w32 (x3 + 1)))] [] (up (up (up h4 85 86 (h4 85 86)) 140 (h4 85 85) (h 139 (w32 (4 + x3)))) 85 85 (w32 ((h4 85 85) + 1))) Φ))) ∧ ((h4 85 85) < 4 → (0 ≤ (h4 85 85) ∧ (h4 85 85) < 9) ∧ ((9 ≤ (w32 ((h4 85 85) + 1)) → ((60 ≤ (h4 85 87) → AT G m_X12_pieces 4 [(0, rv 85), (2, iv (w32 (x2 + 1))), (3, iv (w32 (x3 + 1)))] [] (up (up (up (up h4 85 86 9) 140 (h4 85 85) (h 139 (w32 (4 + x3)))) 85 85 (w32 ((h4 85 85) + 1))) 85 85 0) Φ) ∧ ((h4 85 87) < 60 → (0 ≤ (h4 85 87) ∧ (h4 85 87) < 60) ∧ AT G m_X12_pieces 168 [(0, rv 85), (2, iv (w32 (x2 + 1))), (3, iv (w32 (x3 + 1))), (5, iv 0)] [] (up (up (up (up h4 85 86 9) 140 (h4 85 85) (h 139 (w32 (4 + x3)))) 85 85 (w32 ((h4 85 85) + 1))) 142 (h4 85 87) (w32 ((h4 85 85) + 1))) Φ))) ∧ ((w32 ((h4 85 85) + 1)) < 9 → AT G m_X12_pieces 4 [(0, rv 85), (2, iv x2), (3, iv (w32 (x3 + 1)))] [] (up (up (up h4 85 86 9) 140 (h4 85 85) (h 139 (w32 (4 + x3)))) 85 85 (w32 ((h4 85 85) + 1))) Φ))))) ∧ ((h4 85 85) = 4 → (0 ≤ (h4 85 85) ∧ (h4 85 85) < 9) ∧ (((w32 (5 + (h 139 (w32 (4 + x3))))) ≤ (w32 ((h4 85 85) + 1)) → ((60 ≤ (h4 85 87) → AT G m_X12_pieces 4 [(0, rv 85), (2, iv (w32 (x2 + 1))), (3, iv (w32 (x3 + 1)))] [] (up (up (up (up h4 85 86 (w32 (5 + (h 139 (w32 (4 + x3)))))) 140 (h4 85 85) (h 139 (w32 (4 + x3)))) 85 85 (w32 ((h4 85 85) + 1))) 85 85 0) Φ) ∧ ((h4 85 87) < 60 → (0 ≤ (h4 85 87) ∧ (h4 85 87) < 60) ∧ AT G m_X12_pieces 168 [(0, rv 85), (2, iv (w32 (x2 + 1))), (3, iv (w32 (x3 + 1))), (5, iv 0)] [] (up (up (up (up h4 85 86 (w32 (5 + (h 139 (w32 (4 + x3)))))) 140 (h4 85 85) (h 139 (w32 (4 + x3)))) 85 85 (w32 ((h4 85 85) + 1))) 142 (h4 85 87) (w32 ((h4 85 85) + 1))) Φ))) ∧ ((w32 ((h4 85 85) + 1)) < (w32 (5 + (h 139 (w32 (4 + x3))))) → AT G m_X12_pieces 4 [(0, rv 85), (2, iv x2), (3, iv (w32 (x3 + 1)))] [] (up (up (up h4 85 86 (w32 (5 + (h 139 (w32 (4 + x3)))))) 140 (h4 85 85) (h 139 (w32 (4 + x3)))) 85 85 (w32 ((h4 85 85) + 1))) Φ))))) ∧ ((h4 85 85) = 4 → Call G m_X12_is [iv (h 139 (w32 (4 + x3))), iv 1, iv 4] h4 (fun r5 h6 => ((r5 ≠ 0 → (((h6 85 85) ≠ 4 → ((4 ≤ (h6 85 85) → (0 ≤ (h6 85 85) ∧ (h6 85 85) < 9) ∧ (((h6 85 86) ≤ (w32 ((h6 85 85) + 1)) → ((60 ≤ (h6 85 87) → AT G m_X12_pieces 4 [(0, rv 85), (2, iv (w32 (x2 + 1))), (3, iv (w32 (x3 + 1)))] [] (up (up (up (up h6 85 86 (h6 85 86)) 140 (h6 85 85) (h 139 (w32 (4 + x3)))) 85 85 (w32 ((h6 85 85) + 1))) 85 85 0) Φ) ∧ ((h6 85 87) < 60 → (0 ≤ (h6 85 87) ∧ (h6 85 87) < 60) ∧ AT G m_X12_pieces 168 [(0, rv 85), (2, iv (w32 (x2 + 1))), (3, iv (w32 (x3 + 1))), (5, iv 0)] [] (up (up (up (up h6 85 86 (h6 85 86)) 140 (h6 85 85) (h 139 (w32 (4 + x3)))) 85 85 (w32 ((h6 85 85) + 1))) 142 (h6 85 87) (w32 ((h6 85 85) + 1))) Φ))) ∧ ((w32 ((h6 85 85) + 1)) < (h6 85 86) → AT G m_X12_pieces 4 [(0, rv 85), (2, iv x2), (3, iv (w32 (x3 + 1)))] [] (up (up (up h6 85 86 (h6 85 86)) 140 (h6 85 85) (h 139 (w32 (4 + x3)))) 85 85 (w32 ((h6 85 85) + 1))) Φ))) ∧ ((h6 85 85) < 4 → (0 ≤ (h6 85 85) ∧ (h6 85 85) < 9) ∧ ((9 ≤ (w32 ((h6 85 85) + 1)) → ((60 ≤ (h6 85 87) → AT G m_X12_pieces 4 [(0, rv 85), (2, iv (w32 (x2 + 1))), (3, iv (w32 (x3 + 1)))] [] (up (up (up (up h6 85 86 9) 140 (h6 85 85) (h 139 (w32 (4 + x3)))) 85 85 (w32 ((h6 85 85) + 1))) 85 85 0) Φ) ∧ ((h6 85 87) < 60 → (0 ≤ (h6 85 87) ∧ (h6 85 87) < 60) ∧ AT G m_X12_pieces 168 [(0, rv 85), (2, iv (w32 (x2 + 1))), (3, iv (w32 (x3 + 1))), (5, iv 0)] [] (up (up (up (up h6 85 86 9) 140 (h6 85 85) (h 139 (w32 (4 + x3)))) 85 85 (w32 ((h6 85 85) + 1))) 142 (h6 85 87) (w32 ((h6 85 85) + 1))) Φ))) ∧ ((w32 ((h6 85 85) + 1)) < 9 → AT G m_X12_pieces 4 [(0, rv 85), (2, iv x2), (3, iv (w32 (x3 + 1)))] [] (up (up (up h6 85 86 9) 140 (h6 85 85) (h 139 (w32 (4 + x3)))) 85 85 (w32 ((h6 85 85) + 1))) Φ))))) ∧ ((h6 85 85) = 4 → (0 ≤ (h6 85 85) ∧ (h6 85 85) < 9) ∧ (((w32 (5 + (h 139 (w32 (4 + x3))))) ≤ (w32 ((h6 85 85) + 1)) → ((60 ≤ (h6 85 87) → AT G m_X12_pieces 4 [(0, rv 85), (2, iv (w32 (x2 + 1))), (3, iv (w32 (x3 + 1)))] [] (up (up (up (up h6 85 86 (w32 (5 + (h 139 (w32 (4 + x3)))))) 140 (h6 85 85) (h 139 (w32 (4 + x3)))) 85 85 (w32 ((h6 85 85) + 1))) 85 85 0) Φ) ∧ ((h6 85 87) < 60 → (0 ≤ (h6 85 87) ∧ (h6 85 87) < 60) ∧ AT G m_X12_pieces 168 [(0, rv 85), (2, iv (w32 (x2 + 1))), (3, iv (w32 (x3 + 1))), (5, iv 0)] [] (up (up (up (up h6 85 86 (w32 (5 + (h 139 (w32 (4 + x3)))))) 140 (h6 85 85) (h 139 (w32 (4 + x3)))) 85 85 (w32 ((h6 85 85) + 1))) 142 (h6 85 87) (w32 ((h6 85 85) + 1))) Φ))) ∧ ((w32 ((h6 85 85) + 1)) < (w32 (5 + (h 139 (w32 (4 + x3))))) → AT G m_X12_pieces 4 [(0, rv 85), (2, iv x2), (3, iv (w32 (x3 + 1)))] [] (up (up (up h6 85 86 (w32 (5 + (h 139 (w32 (4 + x3)))))) 140 (h6 85 85) (h 139 (w32 (4 + x3)))) 85 85 (w32 ((h6 85 85) + 1))) Φ))))) ∧ (r5 = 0 → Φ x2 (up h6 85 85 0))))))) ∧ (r3 = 0 → Φ x2 h4)))))))) : AT G m_X12_pieces 4 [(0, rv 85), (2, iv x2), (3, iv x3)] [] h Φ := by
  have D := dt_X12_pieces
  refine a_iload_n (pc := 4) (dk D 4 rfl) rfl ?_
  refine a_bipush (pc := 5) (dk D 5 rfl) (ik rfl) (bpk rfl) ?_
  refine a_icmp_ge (pc := 7) (dk D 6 rfl) (tgt := 223) rfl ⟨fun c => ?_, fun c => ?_⟩
  · replace H := H.1 c
    refine a_iload_n (pc := 223) (dk D 118 rfl) rfl ?_
    exact a_iret (pc := 224) (dk D 119 rfl) rfl rfl H
  · replace H := H.2 c
    refine a_aload_n (pc := 10) (dk D 7 rfl) rfl ?_
    refine a_getr (r := 138) (pc := 11) (dk D 8 rfl) cls_12 fl_RX12_244 cf_85_77 ?_
    refine a_iconst (pc := 14) (dk D 9 rfl) (ik rfl) ?_
    refine a_iload_n (pc := 15) (dk D 10 rfl) rfl ?_
    refine a_iadd (pc := 16) (dk D 11 rfl) ?_
    refine a_iald (pc := 17) (dk D 12 rfl) ar_139 ⟨H.1, ?_⟩
    replace H := H.2
    refine a_istore (pc := 18) (dk D 13 rfl) (by decide) rfl rfl ?_
    refine a_aload_n (pc := 20) (dk D 14 rfl) rfl ?_
    refine a_geti (pc := 21) (dk D 15 rfl) cls_12 fl_RX12_560 cf_85_85 ?_
    refine a_if_ne (pc := 24) (dk D 16 rfl) (tgt := 41) rfl ⟨fun c => ?_, fun c => ?_⟩
    · replace H := H.1 c
      refine a_aload_n (pc := 41) (dk D 24 rfl) rfl ?_
      refine a_geti (pc := 42) (dk D 25 rfl) cls_12 fl_RX12_560 cf_85_85 ?_
      refine a_iconst (pc := 45) (dk D 26 rfl) (ik rfl) ?_
      refine a_icmp_ne (pc := 46) (dk D 27 rfl) (tgt := 66) rfl ⟨fun c => ?_, fun c => ?_⟩
      · replace H := H.1 c
        refine a_aload_n (pc := 66) (dk D 38 rfl) rfl ?_
        refine a_aload_n (pc := 67) (dk D 39 rfl) rfl ?_
        refine a_geti (pc := 68) (dk D 40 rfl) cls_12 fl_RX12_560 cf_85_85 ?_
        refine a_iconst (pc := 71) (dk D 41 rfl) (ik rfl) ?_
        refine a_icmp_ne (pc := 72) (dk D 42 rfl) (tgt := 82) rfl ⟨fun c => ?_, fun c => ?_⟩
        · replace H := H.1 c
          refine a_aload_n (pc := 82) (dk D 47 rfl) rfl ?_
          refine a_geti (pc := 83) (dk D 48 rfl) cls_12 fl_RX12_560 cf_85_85 ?_
          refine a_iconst (pc := 86) (dk D 49 rfl) (ik rfl) ?_
          refine a_icmp_ge (pc := 87) (dk D 50 rfl) (tgt := 95) rfl ⟨fun c => ?_, fun c => ?_⟩
          · replace H := H.1 c
            refine a_aload_n (pc := 95) (dk D 53 rfl) rfl ?_
            refine a_geti (pc := 96) (dk D 54 rfl) cls_12 fl_RX12_572 cf_85_86 ?_
            refine a_puti (pc := 99) (dk D 55 rfl) cls_12 fl_RX12_572 cf_85_86 rfl rfl ?_
            refine a_aload_n (pc := 102) (dk D 56 rfl) rfl ?_
            refine a_getr (r := 139) (pc := 103) (dk D 57 rfl) cls_12 fl_RX12_250 cf_85_91 ?_
            refine a_aload_n (pc := 106) (dk D 58 rfl) rfl ?_
            refine a_geti (pc := 107) (dk D 59 rfl) cls_12 fl_RX12_560 cf_85_85 ?_
            refine a_top (y := (h 85 85)) (by simp [up, cpy]) ?_
            refine a_iload (pc := 110) (dk D 60 rfl) rfl ?_
            refine a_iast (pc := 112) (dk D 61 rfl) ar_140 ⟨H.1, ?_⟩
            replace H := H.2
            refine a_aload_n (pc := 113) (dk D 62 rfl) rfl ?_
            refine a_dup (pc := 114) (dk D 63 rfl) rfl ?_
            refine a_geti (pc := 115) (dk D 64 rfl) cls_12 fl_RX12_560 cf_85_85 ?_
            refine a_top (y := (h 85 85)) (by simp [up, cpy]) ?_
            refine a_iconst (pc := 118) (dk D 65 rfl) (ik rfl) ?_
            refine a_iadd (pc := 119) (dk D 66 rfl) ?_
            refine a_puti (pc := 120) (dk D 67 rfl) cls_12 fl_RX12_560 cf_85_85 rfl rfl ?_
            refine a_iinc (pc := 123) (dk D 68 rfl) (by decide) rfl rfl rfl ?_
            refine a_aload_n (pc := 126) (dk D 69 rfl) rfl ?_
            refine a_geti (pc := 127) (dk D 70 rfl) cls_12 fl_RX12_560 cf_85_85 ?_
            refine a_top (y := (w32 ((h 85 85) + 1))) (by simp [up, cpy]) ?_
            refine a_aload_n (pc := 130) (dk D 71 rfl) rfl ?_
            refine a_geti (pc := 131) (dk D 72 rfl) cls_12 fl_RX12_572 cf_85_86 ?_
            refine a_top (y := (h 85 86)) (by simp [up, cpy]) ?_
            refine a_icmp_ge (pc := 134) (dk D 73 rfl) (tgt := 140) rfl ⟨fun c => ?_, fun c => ?_⟩
            · replace H := H.1 c
              refine a_iinc (pc := 140) (dk D 75 rfl) (by decide) rfl rfl rfl ?_
              refine a_aload_n (pc := 143) (dk D 76 rfl) rfl ?_
              refine a_geti (pc := 144) (dk D 77 rfl) cls_12 fl_RX12_575 cf_85_87 ?_
              refine a_top (y := (h 85 87)) (by simp [up, cpy]) ?_
              refine a_bipush (pc := 147) (dk D 78 rfl) (ik rfl) (bpk rfl) ?_
              refine a_icmp_ge (pc := 149) (dk D 79 rfl) (tgt := 215) rfl ⟨fun c => ?_, fun c => ?_⟩
              · replace H := H.1 c
                refine a_aload_n (pc := 215) (dk D 114 rfl) rfl ?_
                refine a_iconst (pc := 216) (dk D 115 rfl) (ik rfl) ?_
                refine a_puti (pc := 217) (dk D 116 rfl) cls_12 fl_RX12_560 cf_85_85 rfl rfl ?_
                refine a_goto (pc := 220) (dk D 117 rfl) (tgt := 4) rfl ?_
                exact a_pick [0, 1, 2] rfl H
              · replace H := H.2 c
                refine a_aload_n (pc := 152) (dk D 80 rfl) rfl ?_
                refine a_getr (r := 141) (pc := 153) (dk D 81 rfl) cls_12 fl_RX12_256 cf_85_93 ?_
                refine a_aload_n (pc := 156) (dk D 82 rfl) rfl ?_
                refine a_geti (pc := 157) (dk D 83 rfl) cls_12 fl_RX12_575 cf_85_87 ?_
                refine a_top (y := (h 85 87)) (by simp [up, cpy]) ?_
                refine a_aload_n (pc := 160) (dk D 84 rfl) rfl ?_
                refine a_geti (pc := 161) (dk D 85 rfl) cls_12 fl_RX12_560 cf_85_85 ?_
                refine a_top (y := (w32 ((h 85 85) + 1))) (by simp [up, cpy]) ?_
                refine a_iast (pc := 164) (dk D 86 rfl) ar_142 ⟨H.1, ?_⟩
                replace H := H.2
                refine a_iconst (pc := 165) (dk D 87 rfl) (ik rfl) ?_
                refine a_istore (pc := 166) (dk D 88 rfl) (by decide) rfl rfl ?_
                exact a_pick [0, 1, 2, 4] rfl H
            · replace H := H.2 c
              refine a_goto (pc := 137) (dk D 74 rfl) (tgt := 4) rfl ?_
              exact a_pick [0, 1, 2] rfl H
          · replace H := H.2 c
            refine a_bipush (pc := 90) (dk D 51 rfl) (ik rfl) (bpk rfl) ?_
            refine a_goto (pc := 92) (dk D 52 rfl) (tgt := 99) rfl ?_
            refine a_puti (pc := 99) (dk D 55 rfl) cls_12 fl_RX12_572 cf_85_86 rfl rfl ?_
            refine a_aload_n (pc := 102) (dk D 56 rfl) rfl ?_
            refine a_getr (r := 139) (pc := 103) (dk D 57 rfl) cls_12 fl_RX12_250 cf_85_91 ?_
            refine a_aload_n (pc := 106) (dk D 58 rfl) rfl ?_
            refine a_geti (pc := 107) (dk D 59 rfl) cls_12 fl_RX12_560 cf_85_85 ?_
            refine a_top (y := (h 85 85)) (by simp [up, cpy]) ?_
            refine a_iload (pc := 110) (dk D 60 rfl) rfl ?_
            refine a_iast (pc := 112) (dk D 61 rfl) ar_140 ⟨H.1, ?_⟩
            replace H := H.2
            refine a_aload_n (pc := 113) (dk D 62 rfl) rfl ?_
            refine a_dup (pc := 114) (dk D 63 rfl) rfl ?_
            refine a_geti (pc := 115) (dk D 64 rfl) cls_12 fl_RX12_560 cf_85_85 ?_
            refine a_top (y := (h 85 85)) (by simp [up, cpy]) ?_
            refine a_iconst (pc := 118) (dk D 65 rfl) (ik rfl) ?_
            refine a_iadd (pc := 119) (dk D 66 rfl) ?_
            refine a_puti (pc := 120) (dk D 67 rfl) cls_12 fl_RX12_560 cf_85_85 rfl rfl ?_
            refine a_iinc (pc := 123) (dk D 68 rfl) (by decide) rfl rfl rfl ?_
            refine a_aload_n (pc := 126) (dk D 69 rfl) rfl ?_
            refine a_geti (pc := 127) (dk D 70 rfl) cls_12 fl_RX12_560 cf_85_85 ?_
            refine a_top (y := (w32 ((h 85 85) + 1))) (by simp [up, cpy]) ?_
            refine a_aload_n (pc := 130) (dk D 71 rfl) rfl ?_
            refine a_geti (pc := 131) (dk D 72 rfl) cls_12 fl_RX12_572 cf_85_86 ?_
            refine a_top (y := 9) (by simp [up, cpy]) ?_
            refine a_icmp_ge (pc := 134) (dk D 73 rfl) (tgt := 140) rfl ⟨fun c => ?_, fun c => ?_⟩
            · replace H := H.1 c
              refine a_iinc (pc := 140) (dk D 75 rfl) (by decide) rfl rfl rfl ?_
              refine a_aload_n (pc := 143) (dk D 76 rfl) rfl ?_
              refine a_geti (pc := 144) (dk D 77 rfl) cls_12 fl_RX12_575 cf_85_87 ?_
              refine a_top (y := (h 85 87)) (by simp [up, cpy]) ?_
              refine a_bipush (pc := 147) (dk D 78 rfl) (ik rfl) (bpk rfl) ?_
              refine a_icmp_ge (pc := 149) (dk D 79 rfl) (tgt := 215) rfl ⟨fun c => ?_, fun c => ?_⟩
              · replace H := H.1 c
                refine a_aload_n (pc := 215) (dk D 114 rfl) rfl ?_
                refine a_iconst (pc := 216) (dk D 115 rfl) (ik rfl) ?_
                refine a_puti (pc := 217) (dk D 116 rfl) cls_12 fl_RX12_560 cf_85_85 rfl rfl ?_
                refine a_goto (pc := 220) (dk D 117 rfl) (tgt := 4) rfl ?_
                exact a_pick [0, 1, 2] rfl H
              · replace H := H.2 c
                refine a_aload_n (pc := 152) (dk D 80 rfl) rfl ?_
                refine a_getr (r := 141) (pc := 153) (dk D 81 rfl) cls_12 fl_RX12_256 cf_85_93 ?_
                refine a_aload_n (pc := 156) (dk D 82 rfl) rfl ?_
                refine a_geti (pc := 157) (dk D 83 rfl) cls_12 fl_RX12_575 cf_85_87 ?_
                refine a_top (y := (h 85 87)) (by simp [up, cpy]) ?_
                refine a_aload_n (pc := 160) (dk D 84 rfl) rfl ?_
                refine a_geti (pc := 161) (dk D 85 rfl) cls_12 fl_RX12_560 cf_85_85 ?_
                refine a_top (y := (w32 ((h 85 85) + 1))) (by simp [up, cpy]) ?_
                refine a_iast (pc := 164) (dk D 86 rfl) ar_142 ⟨H.1, ?_⟩
                replace H := H.2
                refine a_iconst (pc := 165) (dk D 87 rfl) (ik rfl) ?_
                refine a_istore (pc := 166) (dk D 88 rfl) (by decide) rfl rfl ?_
                exact a_pick [0, 1, 2, 4] rfl H
            · replace H := H.2 c
              refine a_goto (pc := 137) (dk D 74 rfl) (tgt := 4) rfl ?_
              exact a_pick [0, 1, 2] rfl H
        · replace H := H.2 c
          refine a_iconst (pc := 75) (dk D 43 rfl) (ik rfl) ?_
          refine a_iload (pc := 76) (dk D 44 rfl) rfl ?_
          refine a_iadd (pc := 78) (dk D 45 rfl) ?_
          refine a_goto (pc := 79) (dk D 46 rfl) (tgt := 99) rfl ?_
          refine a_puti (pc := 99) (dk D 55 rfl) cls_12 fl_RX12_572 cf_85_86 rfl rfl ?_
          refine a_aload_n (pc := 102) (dk D 56 rfl) rfl ?_
          refine a_getr (r := 139) (pc := 103) (dk D 57 rfl) cls_12 fl_RX12_250 cf_85_91 ?_
          refine a_aload_n (pc := 106) (dk D 58 rfl) rfl ?_
          refine a_geti (pc := 107) (dk D 59 rfl) cls_12 fl_RX12_560 cf_85_85 ?_
          refine a_top (y := (h 85 85)) (by simp [up, cpy]) ?_
          refine a_iload (pc := 110) (dk D 60 rfl) rfl ?_
          refine a_iast (pc := 112) (dk D 61 rfl) ar_140 ⟨H.1, ?_⟩
          replace H := H.2
          refine a_aload_n (pc := 113) (dk D 62 rfl) rfl ?_
          refine a_dup (pc := 114) (dk D 63 rfl) rfl ?_
          refine a_geti (pc := 115) (dk D 64 rfl) cls_12 fl_RX12_560 cf_85_85 ?_
          refine a_top (y := (h 85 85)) (by simp [up, cpy]) ?_
          refine a_iconst (pc := 118) (dk D 65 rfl) (ik rfl) ?_
          refine a_iadd (pc := 119) (dk D 66 rfl) ?_
          refine a_puti (pc := 120) (dk D 67 rfl) cls_12 fl_RX12_560 cf_85_85 rfl rfl ?_
          refine a_iinc (pc := 123) (dk D 68 rfl) (by decide) rfl rfl rfl ?_
          refine a_aload_n (pc := 126) (dk D 69 rfl) rfl ?_
          refine a_geti (pc := 127) (dk D 70 rfl) cls_12 fl_RX12_560 cf_85_85 ?_
          refine a_top (y := (w32 ((h 85 85) + 1))) (by simp [up, cpy]) ?_
          refine a_aload_n (pc := 130) (dk D 71 rfl) rfl ?_
          refine a_geti (pc := 131) (dk D 72 rfl) cls_12 fl_RX12_572 cf_85_86 ?_
          refine a_top (y := (w32 (5 + (h 139 (w32 (4 + x3)))))) (by simp [up, cpy]) ?_
          refine a_icmp_ge (pc := 134) (dk D 73 rfl) (tgt := 140) rfl ⟨fun c => ?_, fun c => ?_⟩
          · replace H := H.1 c
            refine a_iinc (pc := 140) (dk D 75 rfl) (by decide) rfl rfl rfl ?_
            refine a_aload_n (pc := 143) (dk D 76 rfl) rfl ?_
            refine a_geti (pc := 144) (dk D 77 rfl) cls_12 fl_RX12_575 cf_85_87 ?_
            refine a_top (y := (h 85 87)) (by simp [up, cpy]) ?_
            refine a_bipush (pc := 147) (dk D 78 rfl) (ik rfl) (bpk rfl) ?_
            refine a_icmp_ge (pc := 149) (dk D 79 rfl) (tgt := 215) rfl ⟨fun c => ?_, fun c => ?_⟩
            · replace H := H.1 c
              refine a_aload_n (pc := 215) (dk D 114 rfl) rfl ?_
              refine a_iconst (pc := 216) (dk D 115 rfl) (ik rfl) ?_
              refine a_puti (pc := 217) (dk D 116 rfl) cls_12 fl_RX12_560 cf_85_85 rfl rfl ?_
              refine a_goto (pc := 220) (dk D 117 rfl) (tgt := 4) rfl ?_
              exact a_pick [0, 1, 2] rfl H
            · replace H := H.2 c
              refine a_aload_n (pc := 152) (dk D 80 rfl) rfl ?_
              refine a_getr (r := 141) (pc := 153) (dk D 81 rfl) cls_12 fl_RX12_256 cf_85_93 ?_
              refine a_aload_n (pc := 156) (dk D 82 rfl) rfl ?_
              refine a_geti (pc := 157) (dk D 83 rfl) cls_12 fl_RX12_575 cf_85_87 ?_
              refine a_top (y := (h 85 87)) (by simp [up, cpy]) ?_
              refine a_aload_n (pc := 160) (dk D 84 rfl) rfl ?_
              refine a_geti (pc := 161) (dk D 85 rfl) cls_12 fl_RX12_560 cf_85_85 ?_
              refine a_top (y := (w32 ((h 85 85) + 1))) (by simp [up, cpy]) ?_
              refine a_iast (pc := 164) (dk D 86 rfl) ar_142 ⟨H.1, ?_⟩
              replace H := H.2
              refine a_iconst (pc := 165) (dk D 87 rfl) (ik rfl) ?_
              refine a_istore (pc := 166) (dk D 88 rfl) (by decide) rfl rfl ?_
              exact a_pick [0, 1, 2, 4] rfl H
          · replace H := H.2 c
            refine a_goto (pc := 137) (dk D 74 rfl) (tgt := 4) rfl ?_
            exact a_pick [0, 1, 2] rfl H
      · replace H := H.2 c
        refine a_iload (pc := 49) (dk D 28 rfl) rfl ?_
        refine a_iconst (pc := 51) (dk D 29 rfl) (ik rfl) ?_
        refine a_iconst (pc := 52) (dk D 30 rfl) (ik rfl) ?_
        refine a_callSi (as := [iv (h 139 (w32 (4 + x3))), iv 1, iv 4]) (st := []) (pc := 53) (dk D 31 rfl) cl_RX12_302 ⟨Nat.le_of_ble_eq_true rfl, Nat.le_of_ble_eq_true rfl⟩ ⟨Nat.le_of_ble_eq_true rfl, Nat.le_of_ble_eq_true rfl⟩ rfl rfl rfl (Nat.le_of_ble_eq_true rfl) (Call.mono H fun r1 h2 H => ?_)
        refine a_if_ne (pc := 56) (dk D 32 rfl) (tgt := 66) rfl ⟨fun c => ?_, fun c => ?_⟩
        · replace H := H.1 c
          refine a_aload_n (pc := 66) (dk D 38 rfl) rfl ?_
          refine a_aload_n (pc := 67) (dk D 39 rfl) rfl ?_
          refine a_geti (pc := 68) (dk D 40 rfl) cls_12 fl_RX12_560 cf_85_85 ?_
          refine a_iconst (pc := 71) (dk D 41 rfl) (ik rfl) ?_
          refine a_icmp_ne (pc := 72) (dk D 42 rfl) (tgt := 82) rfl ⟨fun c => ?_, fun c => ?_⟩
          · replace H := H.1 c
            refine a_aload_n (pc := 82) (dk D 47 rfl) rfl ?_
            refine a_geti (pc := 83) (dk D 48 rfl) cls_12 fl_RX12_560 cf_85_85 ?_
            refine a_iconst (pc := 86) (dk D 49 rfl) (ik rfl) ?_
            refine a_icmp_ge (pc := 87) (dk D 50 rfl) (tgt := 95) rfl ⟨fun c => ?_, fun c => ?_⟩
            · replace H := H.1 c
              refine a_aload_n (pc := 95) (dk D 53 rfl) rfl ?_
              refine a_geti (pc := 96) (dk D 54 rfl) cls_12 fl_RX12_572 cf_85_86 ?_
              refine a_puti (pc := 99) (dk D 55 rfl) cls_12 fl_RX12_572 cf_85_86 rfl rfl ?_
              refine a_aload_n (pc := 102) (dk D 56 rfl) rfl ?_
              refine a_getr (r := 139) (pc := 103) (dk D 57 rfl) cls_12 fl_RX12_250 cf_85_91 ?_
              refine a_aload_n (pc := 106) (dk D 58 rfl) rfl ?_
              refine a_geti (pc := 107) (dk D 59 rfl) cls_12 fl_RX12_560 cf_85_85 ?_
              refine a_top (y := (h2 85 85)) (by simp [up, cpy]) ?_
              refine a_iload (pc := 110) (dk D 60 rfl) rfl ?_
              refine a_iast (pc := 112) (dk D 61 rfl) ar_140 ⟨H.1, ?_⟩
              replace H := H.2
              refine a_aload_n (pc := 113) (dk D 62 rfl) rfl ?_
              refine a_dup (pc := 114) (dk D 63 rfl) rfl ?_
              refine a_geti (pc := 115) (dk D 64 rfl) cls_12 fl_RX12_560 cf_85_85 ?_
              refine a_top (y := (h2 85 85)) (by simp [up, cpy]) ?_
              refine a_iconst (pc := 118) (dk D 65 rfl) (ik rfl) ?_
              refine a_iadd (pc := 119) (dk D 66 rfl) ?_
              refine a_puti (pc := 120) (dk D 67 rfl) cls_12 fl_RX12_560 cf_85_85 rfl rfl ?_
              refine a_iinc (pc := 123) (dk D 68 rfl) (by decide) rfl rfl rfl ?_
              refine a_aload_n (pc := 126) (dk D 69 rfl) rfl ?_
              refine a_geti (pc := 127) (dk D 70 rfl) cls_12 fl_RX12_560 cf_85_85 ?_
              refine a_top (y := (w32 ((h2 85 85) + 1))) (by simp [up, cpy]) ?_
              refine a_aload_n (pc := 130) (dk D 71 rfl) rfl ?_
              refine a_geti (pc := 131) (dk D 72 rfl) cls_12 fl_RX12_572 cf_85_86 ?_
              refine a_top (y := (h2 85 86)) (by simp [up, cpy]) ?_
              refine a_icmp_ge (pc := 134) (dk D 73 rfl) (tgt := 140) rfl ⟨fun c => ?_, fun c => ?_⟩
              · replace H := H.1 c
                refine a_iinc (pc := 140) (dk D 75 rfl) (by decide) rfl rfl rfl ?_
                refine a_aload_n (pc := 143) (dk D 76 rfl) rfl ?_
                refine a_geti (pc := 144) (dk D 77 rfl) cls_12 fl_RX12_575 cf_85_87 ?_
                refine a_top (y := (h2 85 87)) (by simp [up, cpy]) ?_
                refine a_bipush (pc := 147) (dk D 78 rfl) (ik rfl) (bpk rfl) ?_
                refine a_icmp_ge (pc := 149) (dk D 79 rfl) (tgt := 215) rfl ⟨fun c => ?_, fun c => ?_⟩
                · replace H := H.1 c
                  refine a_aload_n (pc := 215) (dk D 114 rfl) rfl ?_
                  refine a_iconst (pc := 216) (dk D 115 rfl) (ik rfl) ?_
                  refine a_puti (pc := 217) (dk D 116 rfl) cls_12 fl_RX12_560 cf_85_85 rfl rfl ?_
                  refine a_goto (pc := 220) (dk D 117 rfl) (tgt := 4) rfl ?_
                  exact a_pick [0, 1, 2] rfl H
                · replace H := H.2 c
                  refine a_aload_n (pc := 152) (dk D 80 rfl) rfl ?_
                  refine a_getr (r := 141) (pc := 153) (dk D 81 rfl) cls_12 fl_RX12_256 cf_85_93 ?_
                  refine a_aload_n (pc := 156) (dk D 82 rfl) rfl ?_
                  refine a_geti (pc := 157) (dk D 83 rfl) cls_12 fl_RX12_575 cf_85_87 ?_
                  refine a_top (y := (h2 85 87)) (by simp [up, cpy]) ?_
                  refine a_aload_n (pc := 160) (dk D 84 rfl) rfl ?_
                  refine a_geti (pc := 161) (dk D 85 rfl) cls_12 fl_RX12_560 cf_85_85 ?_
                  refine a_top (y := (w32 ((h2 85 85) + 1))) (by simp [up, cpy]) ?_
                  refine a_iast (pc := 164) (dk D 86 rfl) ar_142 ⟨H.1, ?_⟩
                  replace H := H.2
                  refine a_iconst (pc := 165) (dk D 87 rfl) (ik rfl) ?_
                  refine a_istore (pc := 166) (dk D 88 rfl) (by decide) rfl rfl ?_
                  exact a_pick [0, 1, 2, 4] rfl H
              · replace H := H.2 c
                refine a_goto (pc := 137) (dk D 74 rfl) (tgt := 4) rfl ?_
                exact a_pick [0, 1, 2] rfl H
            · replace H := H.2 c
              refine a_bipush (pc := 90) (dk D 51 rfl) (ik rfl) (bpk rfl) ?_
              refine a_goto (pc := 92) (dk D 52 rfl) (tgt := 99) rfl ?_
              refine a_puti (pc := 99) (dk D 55 rfl) cls_12 fl_RX12_572 cf_85_86 rfl rfl ?_
              refine a_aload_n (pc := 102) (dk D 56 rfl) rfl ?_
              refine a_getr (r := 139) (pc := 103) (dk D 57 rfl) cls_12 fl_RX12_250 cf_85_91 ?_
              refine a_aload_n (pc := 106) (dk D 58 rfl) rfl ?_
              refine a_geti (pc := 107) (dk D 59 rfl) cls_12 fl_RX12_560 cf_85_85 ?_
              refine a_top (y := (h2 85 85)) (by simp [up, cpy]) ?_
              refine a_iload (pc := 110) (dk D 60 rfl) rfl ?_
              refine a_iast (pc := 112) (dk D 61 rfl) ar_140 ⟨H.1, ?_⟩
              replace H := H.2
              refine a_aload_n (pc := 113) (dk D 62 rfl) rfl ?_
              refine a_dup (pc := 114) (dk D 63 rfl) rfl ?_
              refine a_geti (pc := 115) (dk D 64 rfl) cls_12 fl_RX12_560 cf_85_85 ?_
              refine a_top (y := (h2 85 85)) (by simp [up, cpy]) ?_
              refine a_iconst (pc := 118) (dk D 65 rfl) (ik rfl) ?_
              refine a_iadd (pc := 119) (dk D 66 rfl) ?_
              refine a_puti (pc := 120) (dk D 67 rfl) cls_12 fl_RX12_560 cf_85_85 rfl rfl ?_
              refine a_iinc (pc := 123) (dk D 68 rfl) (by decide) rfl rfl rfl ?_
              refine a_aload_n (pc := 126) (dk D 69 rfl) rfl ?_
              refine a_geti (pc := 127) (dk D 70 rfl) cls_12 fl_RX12_560 cf_85_85 ?_
              refine a_top (y := (w32 ((h2 85 85) + 1))) (by simp [up, cpy]) ?_
              refine a_aload_n (pc := 130) (dk D 71 rfl) rfl ?_
              refine a_geti (pc := 131) (dk D 72 rfl) cls_12 fl_RX12_572 cf_85_86 ?_
              refine a_top (y := 9) (by simp [up, cpy]) ?_
              refine a_icmp_ge (pc := 134) (dk D 73 rfl) (tgt := 140) rfl ⟨fun c => ?_, fun c => ?_⟩
              · replace H := H.1 c
                refine a_iinc (pc := 140) (dk D 75 rfl) (by decide) rfl rfl rfl ?_
                refine a_aload_n (pc := 143) (dk D 76 rfl) rfl ?_
                refine a_geti (pc := 144) (dk D 77 rfl) cls_12 fl_RX12_575 cf_85_87 ?_
                refine a_top (y := (h2 85 87)) (by simp [up, cpy]) ?_
                refine a_bipush (pc := 147) (dk D 78 rfl) (ik rfl) (bpk rfl) ?_
                refine a_icmp_ge (pc := 149) (dk D 79 rfl) (tgt := 215) rfl ⟨fun c => ?_, fun c => ?_⟩
                · replace H := H.1 c
                  refine a_aload_n (pc := 215) (dk D 114 rfl) rfl ?_
                  refine a_iconst (pc := 216) (dk D 115 rfl) (ik rfl) ?_
                  refine a_puti (pc := 217) (dk D 116 rfl) cls_12 fl_RX12_560 cf_85_85 rfl rfl ?_
                  refine a_goto (pc := 220) (dk D 117 rfl) (tgt := 4) rfl ?_
                  exact a_pick [0, 1, 2] rfl H
                · replace H := H.2 c
                  refine a_aload_n (pc := 152) (dk D 80 rfl) rfl ?_
                  refine a_getr (r := 141) (pc := 153) (dk D 81 rfl) cls_12 fl_RX12_256 cf_85_93 ?_
                  refine a_aload_n (pc := 156) (dk D 82 rfl) rfl ?_
                  refine a_geti (pc := 157) (dk D 83 rfl) cls_12 fl_RX12_575 cf_85_87 ?_
                  refine a_top (y := (h2 85 87)) (by simp [up, cpy]) ?_
                  refine a_aload_n (pc := 160) (dk D 84 rfl) rfl ?_
                  refine a_geti (pc := 161) (dk D 85 rfl) cls_12 fl_RX12_560 cf_85_85 ?_
                  refine a_top (y := (w32 ((h2 85 85) + 1))) (by simp [up, cpy]) ?_
                  refine a_iast (pc := 164) (dk D 86 rfl) ar_142 ⟨H.1, ?_⟩
                  replace H := H.2
                  refine a_iconst (pc := 165) (dk D 87 rfl) (ik rfl) ?_
                  refine a_istore (pc := 166) (dk D 88 rfl) (by decide) rfl rfl ?_
                  exact a_pick [0, 1, 2, 4] rfl H
              · replace H := H.2 c
                refine a_goto (pc := 137) (dk D 74 rfl) (tgt := 4) rfl ?_
                exact a_pick [0, 1, 2] rfl H
          · replace H := H.2 c
            refine a_iconst (pc := 75) (dk D 43 rfl) (ik rfl) ?_
            refine a_iload (pc := 76) (dk D 44 rfl) rfl ?_
            refine a_iadd (pc := 78) (dk D 45 rfl) ?_
            refine a_goto (pc := 79) (dk D 46 rfl) (tgt := 99) rfl ?_
            refine a_puti (pc := 99) (dk D 55 rfl) cls_12 fl_RX12_572 cf_85_86 rfl rfl ?_
            refine a_aload_n (pc := 102) (dk D 56 rfl) rfl ?_
            refine a_getr (r := 139) (pc := 103) (dk D 57 rfl) cls_12 fl_RX12_250 cf_85_91 ?_
            refine a_aload_n (pc := 106) (dk D 58 rfl) rfl ?_
            refine a_geti (pc := 107) (dk D 59 rfl) cls_12 fl_RX12_560 cf_85_85 ?_
            refine a_top (y := (h2 85 85)) (by simp [up, cpy]) ?_
            refine a_iload (pc := 110) (dk D 60 rfl) rfl ?_
            refine a_iast (pc := 112) (dk D 61 rfl) ar_140 ⟨H.1, ?_⟩
            replace H := H.2
            refine a_aload_n (pc := 113) (dk D 62 rfl) rfl ?_
            refine a_dup (pc := 114) (dk D 63 rfl) rfl ?_
            refine a_geti (pc := 115) (dk D 64 rfl) cls_12 fl_RX12_560 cf_85_85 ?_
            refine a_top (y := (h2 85 85)) (by simp [up, cpy]) ?_
            refine a_iconst (pc := 118) (dk D 65 rfl) (ik rfl) ?_
            refine a_iadd (pc := 119) (dk D 66 rfl) ?_
            refine a_puti (pc := 120) (dk D 67 rfl) cls_12 fl_RX12_560 cf_85_85 rfl rfl ?_
            refine a_iinc (pc := 123) (dk D 68 rfl) (by decide) rfl rfl rfl ?_
            refine a_aload_n (pc := 126) (dk D 69 rfl) rfl ?_
            refine a_geti (pc := 127) (dk D 70 rfl) cls_12 fl_RX12_560 cf_85_85 ?_
            refine a_top (y := (w32 ((h2 85 85) + 1))) (by simp [up, cpy]) ?_
            refine a_aload_n (pc := 130) (dk D 71 rfl) rfl ?_
            refine a_geti (pc := 131) (dk D 72 rfl) cls_12 fl_RX12_572 cf_85_86 ?_
            refine a_top (y := (w32 (5 + (h 139 (w32 (4 + x3)))))) (by simp [up, cpy]) ?_
            refine a_icmp_ge (pc := 134) (dk D 73 rfl) (tgt := 140) rfl ⟨fun c => ?_, fun c => ?_⟩
            · replace H := H.1 c
              refine a_iinc (pc := 140) (dk D 75 rfl) (by decide) rfl rfl rfl ?_
              refine a_aload_n (pc := 143) (dk D 76 rfl) rfl ?_
              refine a_geti (pc := 144) (dk D 77 rfl) cls_12 fl_RX12_575 cf_85_87 ?_
              refine a_top (y := (h2 85 87)) (by simp [up, cpy]) ?_
              refine a_bipush (pc := 147) (dk D 78 rfl) (ik rfl) (bpk rfl) ?_
              refine a_icmp_ge (pc := 149) (dk D 79 rfl) (tgt := 215) rfl ⟨fun c => ?_, fun c => ?_⟩
              · replace H := H.1 c
                refine a_aload_n (pc := 215) (dk D 114 rfl) rfl ?_
                refine a_iconst (pc := 216) (dk D 115 rfl) (ik rfl) ?_
                refine a_puti (pc := 217) (dk D 116 rfl) cls_12 fl_RX12_560 cf_85_85 rfl rfl ?_
                refine a_goto (pc := 220) (dk D 117 rfl) (tgt := 4) rfl ?_
                exact a_pick [0, 1, 2] rfl H
              · replace H := H.2 c
                refine a_aload_n (pc := 152) (dk D 80 rfl) rfl ?_
                refine a_getr (r := 141) (pc := 153) (dk D 81 rfl) cls_12 fl_RX12_256 cf_85_93 ?_
                refine a_aload_n (pc := 156) (dk D 82 rfl) rfl ?_
                refine a_geti (pc := 157) (dk D 83 rfl) cls_12 fl_RX12_575 cf_85_87 ?_
                refine a_top (y := (h2 85 87)) (by simp [up, cpy]) ?_
                refine a_aload_n (pc := 160) (dk D 84 rfl) rfl ?_
                refine a_geti (pc := 161) (dk D 85 rfl) cls_12 fl_RX12_560 cf_85_85 ?_
                refine a_top (y := (w32 ((h2 85 85) + 1))) (by simp [up, cpy]) ?_
                refine a_iast (pc := 164) (dk D 86 rfl) ar_142 ⟨H.1, ?_⟩
                replace H := H.2
                refine a_iconst (pc := 165) (dk D 87 rfl) (ik rfl) ?_
                refine a_istore (pc := 166) (dk D 88 rfl) (by decide) rfl rfl ?_
                exact a_pick [0, 1, 2, 4] rfl H
            · replace H := H.2 c
              refine a_goto (pc := 137) (dk D 74 rfl) (tgt := 4) rfl ?_
              exact a_pick [0, 1, 2] rfl H
        · replace H := H.2 c
          refine a_aload_n (pc := 59) (dk D 33 rfl) rfl ?_
          refine a_iconst (pc := 60) (dk D 34 rfl) (ik rfl) ?_
          refine a_puti (pc := 61) (dk D 35 rfl) cls_12 fl_RX12_560 cf_85_85 rfl rfl ?_
          refine a_iload_n (pc := 64) (dk D 36 rfl) rfl ?_
          exact a_iret (pc := 65) (dk D 37 rfl) rfl rfl H
    · replace H := H.2 c
      refine a_iload (pc := 27) (dk D 17 rfl) rfl ?_
      refine a_bipush (pc := 29) (dk D 18 rfl) (ik rfl) (bpk rfl) ?_
      refine a_bipush (pc := 31) (dk D 19 rfl) (ik rfl) (bpk rfl) ?_
      refine a_callSi (as := [iv (h 139 (w32 (4 + x3))), iv 10, iv 25]) (st := []) (pc := 33) (dk D 20 rfl) cl_RX12_302 ⟨Nat.le_of_ble_eq_true rfl, Nat.le_of_ble_eq_true rfl⟩ ⟨Nat.le_of_ble_eq_true rfl, Nat.le_of_ble_eq_true rfl⟩ rfl rfl rfl (Nat.le_of_ble_eq_true rfl) (Call.mono H fun r3 h4 H => ?_)
      refine a_if_ne (pc := 36) (dk D 21 rfl) (tgt := 41) rfl ⟨fun c => ?_, fun c => ?_⟩
      · replace H := H.1 c
        refine a_aload_n (pc := 41) (dk D 24 rfl) rfl ?_
        refine a_geti (pc := 42) (dk D 25 rfl) cls_12 fl_RX12_560 cf_85_85 ?_
        refine a_iconst (pc := 45) (dk D 26 rfl) (ik rfl) ?_
        refine a_icmp_ne (pc := 46) (dk D 27 rfl) (tgt := 66) rfl ⟨fun c => ?_, fun c => ?_⟩
        · replace H := H.1 c
          refine a_aload_n (pc := 66) (dk D 38 rfl) rfl ?_
          refine a_aload_n (pc := 67) (dk D 39 rfl) rfl ?_
          refine a_geti (pc := 68) (dk D 40 rfl) cls_12 fl_RX12_560 cf_85_85 ?_
          refine a_iconst (pc := 71) (dk D 41 rfl) (ik rfl) ?_
          refine a_icmp_ne (pc := 72) (dk D 42 rfl) (tgt := 82) rfl ⟨fun c => ?_, fun c => ?_⟩
          · replace H := H.1 c
            refine a_aload_n (pc := 82) (dk D 47 rfl) rfl ?_
            refine a_geti (pc := 83) (dk D 48 rfl) cls_12 fl_RX12_560 cf_85_85 ?_
            refine a_iconst (pc := 86) (dk D 49 rfl) (ik rfl) ?_
            refine a_icmp_ge (pc := 87) (dk D 50 rfl) (tgt := 95) rfl ⟨fun c => ?_, fun c => ?_⟩
            · replace H := H.1 c
              refine a_aload_n (pc := 95) (dk D 53 rfl) rfl ?_
              refine a_geti (pc := 96) (dk D 54 rfl) cls_12 fl_RX12_572 cf_85_86 ?_
              refine a_puti (pc := 99) (dk D 55 rfl) cls_12 fl_RX12_572 cf_85_86 rfl rfl ?_
              refine a_aload_n (pc := 102) (dk D 56 rfl) rfl ?_
              refine a_getr (r := 139) (pc := 103) (dk D 57 rfl) cls_12 fl_RX12_250 cf_85_91 ?_
              refine a_aload_n (pc := 106) (dk D 58 rfl) rfl ?_
              refine a_geti (pc := 107) (dk D 59 rfl) cls_12 fl_RX12_560 cf_85_85 ?_
              refine a_top (y := (h4 85 85)) (by simp [up, cpy]) ?_
              refine a_iload (pc := 110) (dk D 60 rfl) rfl ?_
              refine a_iast (pc := 112) (dk D 61 rfl) ar_140 ⟨H.1, ?_⟩
              replace H := H.2
              refine a_aload_n (pc := 113) (dk D 62 rfl) rfl ?_
              refine a_dup (pc := 114) (dk D 63 rfl) rfl ?_
              refine a_geti (pc := 115) (dk D 64 rfl) cls_12 fl_RX12_560 cf_85_85 ?_
              refine a_top (y := (h4 85 85)) (by simp [up, cpy]) ?_
              refine a_iconst (pc := 118) (dk D 65 rfl) (ik rfl) ?_
              refine a_iadd (pc := 119) (dk D 66 rfl) ?_
              refine a_puti (pc := 120) (dk D 67 rfl) cls_12 fl_RX12_560 cf_85_85 rfl rfl ?_
              refine a_iinc (pc := 123) (dk D 68 rfl) (by decide) rfl rfl rfl ?_
              refine a_aload_n (pc := 126) (dk D 69 rfl) rfl ?_
              refine a_geti (pc := 127) (dk D 70 rfl) cls_12 fl_RX12_560 cf_85_85 ?_
              refine a_top (y := (w32 ((h4 85 85) + 1))) (by simp [up, cpy]) ?_
              refine a_aload_n (pc := 130) (dk D 71 rfl) rfl ?_
              refine a_geti (pc := 131) (dk D 72 rfl) cls_12 fl_RX12_572 cf_85_86 ?_
              refine a_top (y := (h4 85 86)) (by simp [up, cpy]) ?_
              refine a_icmp_ge (pc := 134) (dk D 73 rfl) (tgt := 140) rfl ⟨fun c => ?_, fun c => ?_⟩
              · replace H := H.1 c
                refine a_iinc (pc := 140) (dk D 75 rfl) (by decide) rfl rfl rfl ?_
                refine a_aload_n (pc := 143) (dk D 76 rfl) rfl ?_
                refine a_geti (pc := 144) (dk D 77 rfl) cls_12 fl_RX12_575 cf_85_87 ?_
                refine a_top (y := (h4 85 87)) (by simp [up, cpy]) ?_
                refine a_bipush (pc := 147) (dk D 78 rfl) (ik rfl) (bpk rfl) ?_
                refine a_icmp_ge (pc := 149) (dk D 79 rfl) (tgt := 215) rfl ⟨fun c => ?_, fun c => ?_⟩
                · replace H := H.1 c
                  refine a_aload_n (pc := 215) (dk D 114 rfl) rfl ?_
                  refine a_iconst (pc := 216) (dk D 115 rfl) (ik rfl) ?_
                  refine a_puti (pc := 217) (dk D 116 rfl) cls_12 fl_RX12_560 cf_85_85 rfl rfl ?_
                  refine a_goto (pc := 220) (dk D 117 rfl) (tgt := 4) rfl ?_
                  exact a_pick [0, 1, 2] rfl H
                · replace H := H.2 c
                  refine a_aload_n (pc := 152) (dk D 80 rfl) rfl ?_
                  refine a_getr (r := 141) (pc := 153) (dk D 81 rfl) cls_12 fl_RX12_256 cf_85_93 ?_
                  refine a_aload_n (pc := 156) (dk D 82 rfl) rfl ?_
                  refine a_geti (pc := 157) (dk D 83 rfl) cls_12 fl_RX12_575 cf_85_87 ?_
                  refine a_top (y := (h4 85 87)) (by simp [up, cpy]) ?_
                  refine a_aload_n (pc := 160) (dk D 84 rfl) rfl ?_
                  refine a_geti (pc := 161) (dk D 85 rfl) cls_12 fl_RX12_560 cf_85_85 ?_
                  refine a_top (y := (w32 ((h4 85 85) + 1))) (by simp [up, cpy]) ?_
                  refine a_iast (pc := 164) (dk D 86 rfl) ar_142 ⟨H.1, ?_⟩
                  replace H := H.2
                  refine a_iconst (pc := 165) (dk D 87 rfl) (ik rfl) ?_
                  refine a_istore (pc := 166) (dk D 88 rfl) (by decide) rfl rfl ?_
                  exact a_pick [0, 1, 2, 4] rfl H
              · replace H := H.2 c
                refine a_goto (pc := 137) (dk D 74 rfl) (tgt := 4) rfl ?_
                exact a_pick [0, 1, 2] rfl H
            · replace H := H.2 c
              refine a_bipush (pc := 90) (dk D 51 rfl) (ik rfl) (bpk rfl) ?_
              refine a_goto (pc := 92) (dk D 52 rfl) (tgt := 99) rfl ?_
              refine a_puti (pc := 99) (dk D 55 rfl) cls_12 fl_RX12_572 cf_85_86 rfl rfl ?_
              refine a_aload_n (pc := 102) (dk D 56 rfl) rfl ?_
              refine a_getr (r := 139) (pc := 103) (dk D 57 rfl) cls_12 fl_RX12_250 cf_85_91 ?_
              refine a_aload_n (pc := 106) (dk D 58 rfl) rfl ?_
              refine a_geti (pc := 107) (dk D 59 rfl) cls_12 fl_RX12_560 cf_85_85 ?_
              refine a_top (y := (h4 85 85)) (by simp [up, cpy]) ?_
              refine a_iload (pc := 110) (dk D 60 rfl) rfl ?_
              refine a_iast (pc := 112) (dk D 61 rfl) ar_140 ⟨H.1, ?_⟩
              replace H := H.2
              refine a_aload_n (pc := 113) (dk D 62 rfl) rfl ?_
              refine a_dup (pc := 114) (dk D 63 rfl) rfl ?_
              refine a_geti (pc := 115) (dk D 64 rfl) cls_12 fl_RX12_560 cf_85_85 ?_
              refine a_top (y := (h4 85 85)) (by simp [up, cpy]) ?_
              refine a_iconst (pc := 118) (dk D 65 rfl) (ik rfl) ?_
              refine a_iadd (pc := 119) (dk D 66 rfl) ?_
              refine a_puti (pc := 120) (dk D 67 rfl) cls_12 fl_RX12_560 cf_85_85 rfl rfl ?_
              refine a_iinc (pc := 123) (dk D 68 rfl) (by decide) rfl rfl rfl ?_
              refine a_aload_n (pc := 126) (dk D 69 rfl) rfl ?_
              refine a_geti (pc := 127) (dk D 70 rfl) cls_12 fl_RX12_560 cf_85_85 ?_
              refine a_top (y := (w32 ((h4 85 85) + 1))) (by simp [up, cpy]) ?_
              refine a_aload_n (pc := 130) (dk D 71 rfl) rfl ?_
              refine a_geti (pc := 131) (dk D 72 rfl) cls_12 fl_RX12_572 cf_85_86 ?_
              refine a_top (y := 9) (by simp [up, cpy]) ?_
              refine a_icmp_ge (pc := 134) (dk D 73 rfl) (tgt := 140) rfl ⟨fun c => ?_, fun c => ?_⟩
              · replace H := H.1 c
                refine a_iinc (pc := 140) (dk D 75 rfl) (by decide) rfl rfl rfl ?_
                refine a_aload_n (pc := 143) (dk D 76 rfl) rfl ?_
                refine a_geti (pc := 144) (dk D 77 rfl) cls_12 fl_RX12_575 cf_85_87 ?_
                refine a_top (y := (h4 85 87)) (by simp [up, cpy]) ?_
                refine a_bipush (pc := 147) (dk D 78 rfl) (ik rfl) (bpk rfl) ?_
                refine a_icmp_ge (pc := 149) (dk D 79 rfl) (tgt := 215) rfl ⟨fun c => ?_, fun c => ?_⟩
                · replace H := H.1 c
                  refine a_aload_n (pc := 215) (dk D 114 rfl) rfl ?_
                  refine a_iconst (pc := 216) (dk D 115 rfl) (ik rfl) ?_
                  refine a_puti (pc := 217) (dk D 116 rfl) cls_12 fl_RX12_560 cf_85_85 rfl rfl ?_
                  refine a_goto (pc := 220) (dk D 117 rfl) (tgt := 4) rfl ?_
                  exact a_pick [0, 1, 2] rfl H
                · replace H := H.2 c
                  refine a_aload_n (pc := 152) (dk D 80 rfl) rfl ?_
                  refine a_getr (r := 141) (pc := 153) (dk D 81 rfl) cls_12 fl_RX12_256 cf_85_93 ?_
                  refine a_aload_n (pc := 156) (dk D 82 rfl) rfl ?_
                  refine a_geti (pc := 157) (dk D 83 rfl) cls_12 fl_RX12_575 cf_85_87 ?_
                  refine a_top (y := (h4 85 87)) (by simp [up, cpy]) ?_
                  refine a_aload_n (pc := 160) (dk D 84 rfl) rfl ?_
                  refine a_geti (pc := 161) (dk D 85 rfl) cls_12 fl_RX12_560 cf_85_85 ?_
                  refine a_top (y := (w32 ((h4 85 85) + 1))) (by simp [up, cpy]) ?_
                  refine a_iast (pc := 164) (dk D 86 rfl) ar_142 ⟨H.1, ?_⟩
                  replace H := H.2
                  refine a_iconst (pc := 165) (dk D 87 rfl) (ik rfl) ?_
                  refine a_istore (pc := 166) (dk D 88 rfl) (by decide) rfl rfl ?_
                  exact a_pick [0, 1, 2, 4] rfl H
              · replace H := H.2 c
                refine a_goto (pc := 137) (dk D 74 rfl) (tgt := 4) rfl ?_
                exact a_pick [0, 1, 2] rfl H
          · replace H := H.2 c
            refine a_iconst (pc := 75) (dk D 43 rfl) (ik rfl) ?_
            refine a_iload (pc := 76) (dk D 44 rfl) rfl ?_
            refine a_iadd (pc := 78) (dk D 45 rfl) ?_
            refine a_goto (pc := 79) (dk D 46 rfl) (tgt := 99) rfl ?_
            refine a_puti (pc := 99) (dk D 55 rfl) cls_12 fl_RX12_572 cf_85_86 rfl rfl ?_
            refine a_aload_n (pc := 102) (dk D 56 rfl) rfl ?_
            refine a_getr (r := 139) (pc := 103) (dk D 57 rfl) cls_12 fl_RX12_250 cf_85_91 ?_
            refine a_aload_n (pc := 106) (dk D 58 rfl) rfl ?_
            refine a_geti (pc := 107) (dk D 59 rfl) cls_12 fl_RX12_560 cf_85_85 ?_
            refine a_top (y := (h4 85 85)) (by simp [up, cpy]) ?_
            refine a_iload (pc := 110) (dk D 60 rfl) rfl ?_
            refine a_iast (pc := 112) (dk D 61 rfl) ar_140 ⟨H.1, ?_⟩
            replace H := H.2
            refine a_aload_n (pc := 113) (dk D 62 rfl) rfl ?_
            refine a_dup (pc := 114) (dk D 63 rfl) rfl ?_
            refine a_geti (pc := 115) (dk D 64 rfl) cls_12 fl_RX12_560 cf_85_85 ?_
            refine a_top (y := (h4 85 85)) (by simp [up, cpy]) ?_
            refine a_iconst (pc := 118) (dk D 65 rfl) (ik rfl) ?_
            refine a_iadd (pc := 119) (dk D 66 rfl) ?_
            refine a_puti (pc := 120) (dk D 67 rfl) cls_12 fl_RX12_560 cf_85_85 rfl rfl ?_
            refine a_iinc (pc := 123) (dk D 68 rfl) (by decide) rfl rfl rfl ?_
            refine a_aload_n (pc := 126) (dk D 69 rfl) rfl ?_
            refine a_geti (pc := 127) (dk D 70 rfl) cls_12 fl_RX12_560 cf_85_85 ?_
            refine a_top (y := (w32 ((h4 85 85) + 1))) (by simp [up, cpy]) ?_
            refine a_aload_n (pc := 130) (dk D 71 rfl) rfl ?_
            refine a_geti (pc := 131) (dk D 72 rfl) cls_12 fl_RX12_572 cf_85_86 ?_
            refine a_top (y := (w32 (5 + (h 139 (w32 (4 + x3)))))) (by simp [up, cpy]) ?_
            refine a_icmp_ge (pc := 134) (dk D 73 rfl) (tgt := 140) rfl ⟨fun c => ?_, fun c => ?_⟩
            · replace H := H.1 c
              refine a_iinc (pc := 140) (dk D 75 rfl) (by decide) rfl rfl rfl ?_
              refine a_aload_n (pc := 143) (dk D 76 rfl) rfl ?_
              refine a_geti (pc := 144) (dk D 77 rfl) cls_12 fl_RX12_575 cf_85_87 ?_
              refine a_top (y := (h4 85 87)) (by simp [up, cpy]) ?_
              refine a_bipush (pc := 147) (dk D 78 rfl) (ik rfl) (bpk rfl) ?_
              refine a_icmp_ge (pc := 149) (dk D 79 rfl) (tgt := 215) rfl ⟨fun c => ?_, fun c => ?_⟩
              · replace H := H.1 c
                refine a_aload_n (pc := 215) (dk D 114 rfl) rfl ?_
                refine a_iconst (pc := 216) (dk D 115 rfl) (ik rfl) ?_
                refine a_puti (pc := 217) (dk D 116 rfl) cls_12 fl_RX12_560 cf_85_85 rfl rfl ?_
                refine a_goto (pc := 220) (dk D 117 rfl) (tgt := 4) rfl ?_
                exact a_pick [0, 1, 2] rfl H
              · replace H := H.2 c
                refine a_aload_n (pc := 152) (dk D 80 rfl) rfl ?_
                refine a_getr (r := 141) (pc := 153) (dk D 81 rfl) cls_12 fl_RX12_256 cf_85_93 ?_
                refine a_aload_n (pc := 156) (dk D 82 rfl) rfl ?_
                refine a_geti (pc := 157) (dk D 83 rfl) cls_12 fl_RX12_575 cf_85_87 ?_
                refine a_top (y := (h4 85 87)) (by simp [up, cpy]) ?_
                refine a_aload_n (pc := 160) (dk D 84 rfl) rfl ?_
                refine a_geti (pc := 161) (dk D 85 rfl) cls_12 fl_RX12_560 cf_85_85 ?_
                refine a_top (y := (w32 ((h4 85 85) + 1))) (by simp [up, cpy]) ?_
                refine a_iast (pc := 164) (dk D 86 rfl) ar_142 ⟨H.1, ?_⟩
                replace H := H.2
                refine a_iconst (pc := 165) (dk D 87 rfl) (ik rfl) ?_
                refine a_istore (pc := 166) (dk D 88 rfl) (by decide) rfl rfl ?_
                exact a_pick [0, 1, 2, 4] rfl H
            · replace H := H.2 c
              refine a_goto (pc := 137) (dk D 74 rfl) (tgt := 4) rfl ?_
              exact a_pick [0, 1, 2] rfl H
        · replace H := H.2 c
          refine a_iload (pc := 49) (dk D 28 rfl) rfl ?_
          refine a_iconst (pc := 51) (dk D 29 rfl) (ik rfl) ?_
          refine a_iconst (pc := 52) (dk D 30 rfl) (ik rfl) ?_
          refine a_callSi (as := [iv (h 139 (w32 (4 + x3))), iv 1, iv 4]) (st := []) (pc := 53) (dk D 31 rfl) cl_RX12_302 ⟨Nat.le_of_ble_eq_true rfl, Nat.le_of_ble_eq_true rfl⟩ ⟨Nat.le_of_ble_eq_true rfl, Nat.le_of_ble_eq_true rfl⟩ rfl rfl rfl (Nat.le_of_ble_eq_true rfl) (Call.mono H fun r5 h6 H => ?_)
          refine a_if_ne (pc := 56) (dk D 32 rfl) (tgt := 66) rfl ⟨fun c => ?_, fun c => ?_⟩
          · replace H := H.1 c
            refine a_aload_n (pc := 66) (dk D 38 rfl) rfl ?_
            refine a_aload_n (pc := 67) (dk D 39 rfl) rfl ?_
            refine a_geti (pc := 68) (dk D 40 rfl) cls_12 fl_RX12_560 cf_85_85 ?_
            refine a_iconst (pc := 71) (dk D 41 rfl) (ik rfl) ?_
            refine a_icmp_ne (pc := 72) (dk D 42 rfl) (tgt := 82) rfl ⟨fun c => ?_, fun c => ?_⟩
            · replace H := H.1 c
              refine a_aload_n (pc := 82) (dk D 47 rfl) rfl ?_
              refine a_geti (pc := 83) (dk D 48 rfl) cls_12 fl_RX12_560 cf_85_85 ?_
              refine a_iconst (pc := 86) (dk D 49 rfl) (ik rfl) ?_
              refine a_icmp_ge (pc := 87) (dk D 50 rfl) (tgt := 95) rfl ⟨fun c => ?_, fun c => ?_⟩
              · replace H := H.1 c
                refine a_aload_n (pc := 95) (dk D 53 rfl) rfl ?_
                refine a_geti (pc := 96) (dk D 54 rfl) cls_12 fl_RX12_572 cf_85_86 ?_
                refine a_puti (pc := 99) (dk D 55 rfl) cls_12 fl_RX12_572 cf_85_86 rfl rfl ?_
                refine a_aload_n (pc := 102) (dk D 56 rfl) rfl ?_
                refine a_getr (r := 139) (pc := 103) (dk D 57 rfl) cls_12 fl_RX12_250 cf_85_91 ?_
                refine a_aload_n (pc := 106) (dk D 58 rfl) rfl ?_
                refine a_geti (pc := 107) (dk D 59 rfl) cls_12 fl_RX12_560 cf_85_85 ?_
                refine a_top (y := (h6 85 85)) (by simp [up, cpy]) ?_
                refine a_iload (pc := 110) (dk D 60 rfl) rfl ?_
                refine a_iast (pc := 112) (dk D 61 rfl) ar_140 ⟨H.1, ?_⟩
                replace H := H.2
                refine a_aload_n (pc := 113) (dk D 62 rfl) rfl ?_
                refine a_dup (pc := 114) (dk D 63 rfl) rfl ?_
                refine a_geti (pc := 115) (dk D 64 rfl) cls_12 fl_RX12_560 cf_85_85 ?_
                refine a_top (y := (h6 85 85)) (by simp [up, cpy]) ?_
                refine a_iconst (pc := 118) (dk D 65 rfl) (ik rfl) ?_
                refine a_iadd (pc := 119) (dk D 66 rfl) ?_
                refine a_puti (pc := 120) (dk D 67 rfl) cls_12 fl_RX12_560 cf_85_85 rfl rfl ?_
                refine a_iinc (pc := 123) (dk D 68 rfl) (by decide) rfl rfl rfl ?_
                refine a_aload_n (pc := 126) (dk D 69 rfl) rfl ?_
                refine a_geti (pc := 127) (dk D 70 rfl) cls_12 fl_RX12_560 cf_85_85 ?_
                refine a_top (y := (w32 ((h6 85 85) + 1))) (by simp [up, cpy]) ?_
                refine a_aload_n (pc := 130) (dk D 71 rfl) rfl ?_
                refine a_geti (pc := 131) (dk D 72 rfl) cls_12 fl_RX12_572 cf_85_86 ?_
                refine a_top (y := (h6 85 86)) (by simp [up, cpy]) ?_
                refine a_icmp_ge (pc := 134) (dk D 73 rfl) (tgt := 140) rfl ⟨fun c => ?_, fun c => ?_⟩
                · replace H := H.1 c
                  refine a_iinc (pc := 140) (dk D 75 rfl) (by decide) rfl rfl rfl ?_
                  refine a_aload_n (pc := 143) (dk D 76 rfl) rfl ?_
                  refine a_geti (pc := 144) (dk D 77 rfl) cls_12 fl_RX12_575 cf_85_87 ?_
                  refine a_top (y := (h6 85 87)) (by simp [up, cpy]) ?_
                  refine a_bipush (pc := 147) (dk D 78 rfl) (ik rfl) (bpk rfl) ?_
                  refine a_icmp_ge (pc := 149) (dk D 79 rfl) (tgt := 215) rfl ⟨fun c => ?_, fun c => ?_⟩
                  · replace H := H.1 c
                    refine a_aload_n (pc := 215) (dk D 114 rfl) rfl ?_
                    refine a_iconst (pc := 216) (dk D 115 rfl) (ik rfl) ?_
                    refine a_puti (pc := 217) (dk D 116 rfl) cls_12 fl_RX12_560 cf_85_85 rfl rfl ?_
                    refine a_goto (pc := 220) (dk D 117 rfl) (tgt := 4) rfl ?_
                    exact a_pick [0, 1, 2] rfl H
                  · replace H := H.2 c
                    refine a_aload_n (pc := 152) (dk D 80 rfl) rfl ?_
                    refine a_getr (r := 141) (pc := 153) (dk D 81 rfl) cls_12 fl_RX12_256 cf_85_93 ?_
                    refine a_aload_n (pc := 156) (dk D 82 rfl) rfl ?_
                    refine a_geti (pc := 157) (dk D 83 rfl) cls_12 fl_RX12_575 cf_85_87 ?_
                    refine a_top (y := (h6 85 87)) (by simp [up, cpy]) ?_
                    refine a_aload_n (pc := 160) (dk D 84 rfl) rfl ?_
                    refine a_geti (pc := 161) (dk D 85 rfl) cls_12 fl_RX12_560 cf_85_85 ?_
                    refine a_top (y := (w32 ((h6 85 85) + 1))) (by simp [up, cpy]) ?_
                    refine a_iast (pc := 164) (dk D 86 rfl) ar_142 ⟨H.1, ?_⟩
                    replace H := H.2
                    refine a_iconst (pc := 165) (dk D 87 rfl) (ik rfl) ?_
                    refine a_istore (pc := 166) (dk D 88 rfl) (by decide) rfl rfl ?_
                    exact a_pick [0, 1, 2, 4] rfl H
                · replace H := H.2 c
                  refine a_goto (pc := 137) (dk D 74 rfl) (tgt := 4) rfl ?_
                  exact a_pick [0, 1, 2] rfl H
              · replace H := H.2 c
                refine a_bipush (pc := 90) (dk D 51 rfl) (ik rfl) (bpk rfl) ?_
                refine a_goto (pc := 92) (dk D 52 rfl) (tgt := 99) rfl ?_
                refine a_puti (pc := 99) (dk D 55 rfl) cls_12 fl_RX12_572 cf_85_86 rfl rfl ?_
                refine a_aload_n (pc := 102) (dk D 56 rfl) rfl ?_
                refine a_getr (r := 139) (pc := 103) (dk D 57 rfl) cls_12 fl_RX12_250 cf_85_91 ?_
                refine a_aload_n (pc := 106) (dk D 58 rfl) rfl ?_
                refine a_geti (pc := 107) (dk D 59 rfl) cls_12 fl_RX12_560 cf_85_85 ?_
                refine a_top (y := (h6 85 85)) (by simp [up, cpy]) ?_
                refine a_iload (pc := 110) (dk D 60 rfl) rfl ?_
                refine a_iast (pc := 112) (dk D 61 rfl) ar_140 ⟨H.1, ?_⟩
                replace H := H.2
                refine a_aload_n (pc := 113) (dk D 62 rfl) rfl ?_
                refine a_dup (pc := 114) (dk D 63 rfl) rfl ?_
                refine a_geti (pc := 115) (dk D 64 rfl) cls_12 fl_RX12_560 cf_85_85 ?_
                refine a_top (y := (h6 85 85)) (by simp [up, cpy]) ?_
                refine a_iconst (pc := 118) (dk D 65 rfl) (ik rfl) ?_
                refine a_iadd (pc := 119) (dk D 66 rfl) ?_
                refine a_puti (pc := 120) (dk D 67 rfl) cls_12 fl_RX12_560 cf_85_85 rfl rfl ?_
                refine a_iinc (pc := 123) (dk D 68 rfl) (by decide) rfl rfl rfl ?_
                refine a_aload_n (pc := 126) (dk D 69 rfl) rfl ?_
                refine a_geti (pc := 127) (dk D 70 rfl) cls_12 fl_RX12_560 cf_85_85 ?_
                refine a_top (y := (w32 ((h6 85 85) + 1))) (by simp [up, cpy]) ?_
                refine a_aload_n (pc := 130) (dk D 71 rfl) rfl ?_
                refine a_geti (pc := 131) (dk D 72 rfl) cls_12 fl_RX12_572 cf_85_86 ?_
                refine a_top (y := 9) (by simp [up, cpy]) ?_
                refine a_icmp_ge (pc := 134) (dk D 73 rfl) (tgt := 140) rfl ⟨fun c => ?_, fun c => ?_⟩
                · replace H := H.1 c
                  refine a_iinc (pc := 140) (dk D 75 rfl) (by decide) rfl rfl rfl ?_
                  refine a_aload_n (pc := 143) (dk D 76 rfl) rfl ?_
                  refine a_geti (pc := 144) (dk D 77 rfl) cls_12 fl_RX12_575 cf_85_87 ?_
                  refine a_top (y := (h6 85 87)) (by simp [up, cpy]) ?_
                  refine a_bipush (pc := 147) (dk D 78 rfl) (ik rfl) (bpk rfl) ?_
                  refine a_icmp_ge (pc := 149) (dk D 79 rfl) (tgt := 215) rfl ⟨fun c => ?_, fun c => ?_⟩
                  · replace H := H.1 c
                    refine a_aload_n (pc := 215) (dk D 114 rfl) rfl ?_
                    refine a_iconst (pc := 216) (dk D 115 rfl) (ik rfl) ?_
                    refine a_puti (pc := 217) (dk D 116 rfl) cls_12 fl_RX12_560 cf_85_85 rfl rfl ?_
                    refine a_goto (pc := 220) (dk D 117 rfl) (tgt := 4) rfl ?_
                    exact a_pick [0, 1, 2] rfl H
                  · replace H := H.2 c
                    refine a_aload_n (pc := 152) (dk D 80 rfl) rfl ?_
                    refine a_getr (r := 141) (pc := 153) (dk D 81 rfl) cls_12 fl_RX12_256 cf_85_93 ?_
                    refine a_aload_n (pc := 156) (dk D 82 rfl) rfl ?_
                    refine a_geti (pc := 157) (dk D 83 rfl) cls_12 fl_RX12_575 cf_85_87 ?_
                    refine a_top (y := (h6 85 87)) (by simp [up, cpy]) ?_
                    refine a_aload_n (pc := 160) (dk D 84 rfl) rfl ?_
                    refine a_geti (pc := 161) (dk D 85 rfl) cls_12 fl_RX12_560 cf_85_85 ?_
                    refine a_top (y := (w32 ((h6 85 85) + 1))) (by simp [up, cpy]) ?_
                    refine a_iast (pc := 164) (dk D 86 rfl) ar_142 ⟨H.1, ?_⟩
                    replace H := H.2
                    refine a_iconst (pc := 165) (dk D 87 rfl) (ik rfl) ?_
                    refine a_istore (pc := 166) (dk D 88 rfl) (by decide) rfl rfl ?_
                    exact a_pick [0, 1, 2, 4] rfl H
                · replace H := H.2 c
                  refine a_goto (pc := 137) (dk D 74 rfl) (tgt := 4) rfl ?_
                  exact a_pick [0, 1, 2] rfl H
            · replace H := H.2 c
              refine a_iconst (pc := 75) (dk D 43 rfl) (ik rfl) ?_
              refine a_iload (pc := 76) (dk D 44 rfl) rfl ?_
              refine a_iadd (pc := 78) (dk D 45 rfl) ?_
              refine a_goto (pc := 79) (dk D 46 rfl) (tgt := 99) rfl ?_
              refine a_puti (pc := 99) (dk D 55 rfl) cls_12 fl_RX12_572 cf_85_86 rfl rfl ?_
              refine a_aload_n (pc := 102) (dk D 56 rfl) rfl ?_
              refine a_getr (r := 139) (pc := 103) (dk D 57 rfl) cls_12 fl_RX12_250 cf_85_91 ?_
              refine a_aload_n (pc := 106) (dk D 58 rfl) rfl ?_
              refine a_geti (pc := 107) (dk D 59 rfl) cls_12 fl_RX12_560 cf_85_85 ?_
              refine a_top (y := (h6 85 85)) (by simp [up, cpy]) ?_
              refine a_iload (pc := 110) (dk D 60 rfl) rfl ?_
              refine a_iast (pc := 112) (dk D 61 rfl) ar_140 ⟨H.1, ?_⟩
              replace H := H.2
              refine a_aload_n (pc := 113) (dk D 62 rfl) rfl ?_
              refine a_dup (pc := 114) (dk D 63 rfl) rfl ?_
              refine a_geti (pc := 115) (dk D 64 rfl) cls_12 fl_RX12_560 cf_85_85 ?_
              refine a_top (y := (h6 85 85)) (by simp [up, cpy]) ?_
              refine a_iconst (pc := 118) (dk D 65 rfl) (ik rfl) ?_
              refine a_iadd (pc := 119) (dk D 66 rfl) ?_
              refine a_puti (pc := 120) (dk D 67 rfl) cls_12 fl_RX12_560 cf_85_85 rfl rfl ?_
              refine a_iinc (pc := 123) (dk D 68 rfl) (by decide) rfl rfl rfl ?_
              refine a_aload_n (pc := 126) (dk D 69 rfl) rfl ?_
              refine a_geti (pc := 127) (dk D 70 rfl) cls_12 fl_RX12_560 cf_85_85 ?_
              refine a_top (y := (w32 ((h6 85 85) + 1))) (by simp [up, cpy]) ?_
              refine a_aload_n (pc := 130) (dk D 71 rfl) rfl ?_
              refine a_geti (pc := 131) (dk D 72 rfl) cls_12 fl_RX12_572 cf_85_86 ?_
              refine a_top (y := (w32 (5 + (h 139 (w32 (4 + x3)))))) (by simp [up, cpy]) ?_
              refine a_icmp_ge (pc := 134) (dk D 73 rfl) (tgt := 140) rfl ⟨fun c => ?_, fun c => ?_⟩
              · replace H := H.1 c
                refine a_iinc (pc := 140) (dk D 75 rfl) (by decide) rfl rfl rfl ?_
                refine a_aload_n (pc := 143) (dk D 76 rfl) rfl ?_
                refine a_geti (pc := 144) (dk D 77 rfl) cls_12 fl_RX12_575 cf_85_87 ?_
                refine a_top (y := (h6 85 87)) (by simp [up, cpy]) ?_
                refine a_bipush (pc := 147) (dk D 78 rfl) (ik rfl) (bpk rfl) ?_
                refine a_icmp_ge (pc := 149) (dk D 79 rfl) (tgt := 215) rfl ⟨fun c => ?_, fun c => ?_⟩
                · replace H := H.1 c
                  refine a_aload_n (pc := 215) (dk D 114 rfl) rfl ?_
                  refine a_iconst (pc := 216) (dk D 115 rfl) (ik rfl) ?_
                  refine a_puti (pc := 217) (dk D 116 rfl) cls_12 fl_RX12_560 cf_85_85 rfl rfl ?_
                  refine a_goto (pc := 220) (dk D 117 rfl) (tgt := 4) rfl ?_
                  exact a_pick [0, 1, 2] rfl H
                · replace H := H.2 c
                  refine a_aload_n (pc := 152) (dk D 80 rfl) rfl ?_
                  refine a_getr (r := 141) (pc := 153) (dk D 81 rfl) cls_12 fl_RX12_256 cf_85_93 ?_
                  refine a_aload_n (pc := 156) (dk D 82 rfl) rfl ?_
                  refine a_geti (pc := 157) (dk D 83 rfl) cls_12 fl_RX12_575 cf_85_87 ?_
                  refine a_top (y := (h6 85 87)) (by simp [up, cpy]) ?_
                  refine a_aload_n (pc := 160) (dk D 84 rfl) rfl ?_
                  refine a_geti (pc := 161) (dk D 85 rfl) cls_12 fl_RX12_560 cf_85_85 ?_
                  refine a_top (y := (w32 ((h6 85 85) + 1))) (by simp [up, cpy]) ?_
                  refine a_iast (pc := 164) (dk D 86 rfl) ar_142 ⟨H.1, ?_⟩
                  replace H := H.2
                  refine a_iconst (pc := 165) (dk D 87 rfl) (ik rfl) ?_
                  refine a_istore (pc := 166) (dk D 88 rfl) (by decide) rfl rfl ?_
                  exact a_pick [0, 1, 2, 4] rfl H
              · replace H := H.2 c
                refine a_goto (pc := 137) (dk D 74 rfl) (tgt := 4) rfl ?_
                exact a_pick [0, 1, 2] rfl H
          · replace H := H.2 c
            refine a_aload_n (pc := 59) (dk D 33 rfl) rfl ?_
            refine a_iconst (pc := 60) (dk D 34 rfl) (ik rfl) ?_
            refine a_puti (pc := 61) (dk D 35 rfl) cls_12 fl_RX12_560 cf_85_85 rfl rfl ?_
            refine a_iload_n (pc := 64) (dk D 36 rfl) rfl ?_
            exact a_iret (pc := 65) (dk D 37 rfl) rfl rfl H
      · replace H := H.2 c
        refine a_iload_n (pc := 39) (dk D 22 rfl) rfl ?_
        exact a_iret (pc := 40) (dk D 23 rfl) rfl rfl H
set_option maxHeartbeats 40000000 in
theorem T_X12_pieces_85_168 {G : GG} {Φ : Int → Hp → Prop} {h : Hp} {x2 : Int} {x3 : Int} {x5 : Int} (H : (((h 85 85) ≤ x5 → AT G m_X12_pieces 4 [(0, rv 85), (2, iv x2), (3, iv x3)] [] (up (up h 85 87 (w32 ((h 85 87) + 1))) 85 85 0) Φ) ∧ (x5 < (h 85 85) → (0 ≤ x5 ∧ x5 < 9) ∧ (0 ≤ (w32 ((w32 (9 * (h 85 87))) + x5)) ∧ (w32 ((w32 (9 * (h 85 87))) + x5)) < 540) ∧ AT G m_X12_pieces 168 [(0, rv 85), (2, iv x2), (3, iv x3), (5, iv (w32 (x5 + 1)))] [] (up h 141 (w32 ((w32 (9 * (h 85 87))) + x5)) (h 140 x5)) Φ))) : AT G m_X12_pieces 168 [(0, rv 85), (2, iv x2), (3, iv x3), (5, iv x5)] [] h Φ := by
  have D := dt_X12_pieces
  refine a_iload (pc := 168) (dk D 89 rfl) rfl ?_
  refine a_aload_n (pc := 170) (dk D 90 rfl) rfl ?_
  refine a_geti (pc := 171) (dk D 91 rfl) cls_12 fl_RX12_560 cf_85_85 ?_
  refine a_icmp_ge (pc := 174) (dk D 92 rfl) (tgt := 205) rfl ⟨fun c => ?_, fun c => ?_⟩
  · replace H := H.1 c
    refine a_aload_n (pc := 205) (dk D 108 rfl) rfl ?_
    refine a_dup (pc := 206) (dk D 109 rfl) rfl ?_
    refine a_geti (pc := 207) (dk D 110 rfl) cls_12 fl_RX12_575 cf_85_87 ?_
    refine a_iconst (pc := 210) (dk D 111 rfl) (ik rfl) ?_
    refine a_iadd (pc := 211) (dk D 112 rfl) ?_
    refine a_puti (pc := 212) (dk D 113 rfl) cls_12 fl_RX12_575 cf_85_87 rfl rfl ?_
    refine a_aload_n (pc := 215) (dk D 114 rfl) rfl ?_
    refine a_iconst (pc := 216) (dk D 115 rfl) (ik rfl) ?_
    refine a_puti (pc := 217) (dk D 116 rfl) cls_12 fl_RX12_560 cf_85_85 rfl rfl ?_
    refine a_goto (pc := 220) (dk D 117 rfl) (tgt := 4) rfl ?_
    exact a_pick [0, 1, 2] rfl H
  · replace H := H.2 c
    refine a_aload_n (pc := 177) (dk D 93 rfl) rfl ?_
    refine a_getr (r := 140) (pc := 178) (dk D 94 rfl) cls_12 fl_RX12_253 cf_85_92 ?_
    refine a_bipush (pc := 181) (dk D 95 rfl) (ik rfl) (bpk rfl) ?_
    refine a_aload_n (pc := 183) (dk D 96 rfl) rfl ?_
    refine a_geti (pc := 184) (dk D 97 rfl) cls_12 fl_RX12_575 cf_85_87 ?_
    refine a_imul (pc := 187) (dk D 98 rfl) ?_
    refine a_iload (pc := 188) (dk D 99 rfl) rfl ?_
    refine a_iadd (pc := 190) (dk D 100 rfl) ?_
    refine a_aload_n (pc := 191) (dk D 101 rfl) rfl ?_
    refine a_getr (r := 139) (pc := 192) (dk D 102 rfl) cls_12 fl_RX12_250 cf_85_91 ?_
    refine a_iload (pc := 195) (dk D 103 rfl) rfl ?_
    refine a_iald (pc := 197) (dk D 104 rfl) ar_140 ⟨H.1, ?_⟩
    replace H := H.2
    refine a_iast (pc := 198) (dk D 105 rfl) ar_141 ⟨H.1, ?_⟩
    replace H := H.2
    refine a_iinc (pc := 199) (dk D 106 rfl) (by decide) rfl rfl rfl ?_
    refine a_goto (pc := 202) (dk D 107 rfl) (tgt := 168) rfl ?_
    exact a_pick [0, 1, 2, 3] rfl H
set_option maxHeartbeats 40000000 in
theorem T_X12_check_139_0 {G : GG} {Φ : Int → Hp → Prop} {h : Hp} {x1 : Int} (H : AT G m_X12_check 6 [(0, rv 139), (1, iv x1), (2, iv 65535), (3, iv 0)] [] h Φ) : AT G m_X12_check 0 [(0, rv 139), (1, iv x1)] [] h Φ := by
  have D := dt_X12_check
  refine a_ldcw (n := 65535) (pc := 0) (dk D 0 rfl) (ik rfl) co_RX12_510 ?_
  refine a_istore_n (pc := 3) (dk D 1 rfl) (by decide) rfl rfl ?_
  refine a_iconst (pc := 4) (dk D 2 rfl) (ik rfl) ?_
  refine a_istore_n (pc := 5) (dk D 3 rfl) (by decide) rfl rfl ?_
  exact a_pick [0, 1, 2, 3] rfl H
set_option maxHeartbeats 40000000 in
theorem T_X12_check_139_6 {G : GG} {Φ : Int → Hp → Prop} {h : Hp} {x1 : Int} {x2 : Int} {x3 : Int} (H : ((22 ≤ x3 → Φ x2 h) ∧ (x3 < 22 → (0 ≤ (w32 (x1 + x3)) ∧ (w32 (x1 + x3)) < 24) ∧ AT G m_X12_check 26 [(0, rv 139), (1, iv x1), (2, iv (bxor x2 (bshl (h 139 (w32 (x1 + x3))) 8))), (3, iv x3), (4, iv 0)] [] h Φ))) : AT G m_X12_check 6 [(0, rv 139), (1, iv x1), (2, iv x2), (3, iv x3)] [] h Φ := by
  have D := dt_X12_check
  refine a_iload_n (pc := 6) (dk D 4 rfl) rfl ?_
  refine a_bipush (pc := 7) (dk D 5 rfl) (ik rfl) (bpk rfl) ?_
  refine a_icmp_ge (pc := 9) (dk D 6 rfl) (tgt := 68) rfl ⟨fun c => ?_, fun c => ?_⟩
  · replace H := H.1 c
    refine a_iload_n (pc := 68) (dk D 39 rfl) rfl ?_
    exact a_iret (pc := 69) (dk D 40 rfl) rfl rfl H
  · replace H := H.2 c
    refine a_iload_n (pc := 12) (dk D 7 rfl) rfl ?_
    refine a_aload_n (pc := 13) (dk D 8 rfl) rfl ?_
    refine a_iload_n (pc := 14) (dk D 9 rfl) rfl ?_
    refine a_iload_n (pc := 15) (dk D 10 rfl) rfl ?_
    refine a_iadd (pc := 16) (dk D 11 rfl) ?_
    refine a_iald (pc := 17) (dk D 12 rfl) ar_139 ⟨H.1, ?_⟩
    replace H := H.2
    refine a_bipush (pc := 18) (dk D 13 rfl) (ik rfl) (bpk rfl) ?_
    refine a_ishl (pc := 20) (dk D 14 rfl) ?_
    refine a_ixor (pc := 21) (dk D 15 rfl) ?_
    refine a_istore_n (pc := 22) (dk D 16 rfl) (by decide) rfl rfl ?_
    refine a_iconst (pc := 23) (dk D 17 rfl) (ik rfl) ?_
    refine a_istore (pc := 24) (dk D 18 rfl) (by decide) rfl rfl ?_
    exact a_pick [0, 1, 2, 3, 4] rfl H
set_option maxHeartbeats 40000000 in
theorem T_X12_check_139_26 {G : GG} {Φ : Int → Hp → Prop} {h : Hp} {x1 : Int} {x2 : Int} {x3 : Int} {x4 : Int} (H : ((8 ≤ x4 → AT G m_X12_check 6 [(0, rv 139), (1, iv x1), (2, iv x2), (3, iv (w32 (x3 + 1)))] [] h Φ) ∧ (x4 < 8 → ((x2 ≤ 32767 → AT G m_X12_check 26 [(0, rv 139), (1, iv x1), (2, iv (band (bxor (bshl x2 1) 0) 65535)), (3, iv x3), (4, iv (w32 (x4 + 1)))] [] h Φ) ∧ (32767 < x2 → AT G m_X12_check 26 [(0, rv 139), (1, iv x1), (2, iv (band (bxor (bshl x2 1) 4129) 65535)), (3, iv x3), (4, iv (w32 (x4 + 1)))] [] h Φ))))) : AT G m_X12_check 26 [(0, rv 139), (1, iv x1), (2, iv x2), (3, iv x3), (4, iv x4)] [] h Φ := by
  have D := dt_X12_check
  refine a_iload (pc := 26) (dk D 19 rfl) rfl ?_
  refine a_bipush (pc := 28) (dk D 20 rfl) (ik rfl) (bpk rfl) ?_
  refine a_icmp_ge (pc := 30) (dk D 21 rfl) (tgt := 62) rfl ⟨fun c => ?_, fun c => ?_⟩
  · replace H := H.1 c
    refine a_iinc (pc := 62) (dk D 37 rfl) (by decide) rfl rfl rfl ?_
    refine a_goto (pc := 65) (dk D 38 rfl) (tgt := 6) rfl ?_
    exact a_pick [0, 1, 2, 3] rfl H
  · replace H := H.2 c
    refine a_iload_n (pc := 33) (dk D 22 rfl) rfl ?_
    refine a_iconst (pc := 34) (dk D 23 rfl) (ik rfl) ?_
    refine a_ishl (pc := 35) (dk D 24 rfl) ?_
    refine a_iload_n (pc := 36) (dk D 25 rfl) rfl ?_
    refine a_sipush (pc := 37) (dk D 26 rfl) (ik rfl) (spk rfl) ?_
    refine a_icmp_le (pc := 40) (dk D 27 rfl) (tgt := 49) rfl ⟨fun c => ?_, fun c => ?_⟩
    · replace H := H.1 c
      refine a_iconst (pc := 49) (dk D 30 rfl) (ik rfl) ?_
      refine a_ixor (pc := 50) (dk D 31 rfl) ?_
      refine a_ldcw (n := 65535) (pc := 51) (dk D 32 rfl) (ik rfl) co_RX12_510 ?_
      refine a_iand (pc := 54) (dk D 33 rfl) ?_
      refine a_istore_n (pc := 55) (dk D 34 rfl) (by decide) rfl rfl ?_
      refine a_iinc (pc := 56) (dk D 35 rfl) (by decide) rfl rfl rfl ?_
      refine a_goto (pc := 59) (dk D 36 rfl) (tgt := 26) rfl ?_
      exact a_pick [0, 1, 2, 3, 4] rfl H
    · replace H := H.2 c
      refine a_sipush (pc := 43) (dk D 28 rfl) (ik rfl) (spk rfl) ?_
      refine a_goto (pc := 46) (dk D 29 rfl) (tgt := 50) rfl ?_
      refine a_ixor (pc := 50) (dk D 31 rfl) ?_
      refine a_ldcw (n := 65535) (pc := 51) (dk D 32 rfl) (ik rfl) co_RX12_510 ?_
      refine a_iand (pc := 54) (dk D 33 rfl) ?_
      refine a_istore_n (pc := 55) (dk D 34 rfl) (by decide) rfl rfl ?_
      refine a_iinc (pc := 56) (dk D 35 rfl) (by decide) rfl rfl rfl ?_
      refine a_goto (pc := 59) (dk D 36 rfl) (tgt := 26) rfl ?_
      exact a_pick [0, 1, 2, 3, 4] rfl H
set_option maxHeartbeats 40000000 in
theorem T_X12_wordOf_85_98_0 {G : GG} {Φ : Int → Hp → Prop} {h : Hp} (H : Call G m_X12_bad [rv 85] h (fun r1 h2 => ((r1 = 0 → Call G m_X12_wordEnd [rv 85] h2 (fun r3 h4 => AT G m_X12_wordOf 16 [(0, rv 85), (1, rv 98), (2, iv r3), (3, iv 0)] [] h4 Φ)) ∧ (r1 ≠ 0 → Φ (-1) h2)))) : AT G m_X12_wordOf 0 [(0, rv 85), (1, rv 98)] [] h Φ := by
  have D := dt_X12_wordOf
  refine a_aload_n (pc := 0) (dk D 0 rfl) rfl ?_
  refine a_callVi (as := []) (st := []) (pc := 1) (dk D 1 rfl) cl_RX12_315 ⟨Nat.le_of_ble_eq_true rfl, Nat.le_of_ble_eq_true rfl⟩ ⟨Nat.le_of_ble_eq_true rfl, Nat.le_of_ble_eq_true rfl⟩ cls_12 rfl cc_85 rfl rfl rfl (Nat.le_of_ble_eq_true rfl) (Call.mono H fun r1 h2 H => ?_)
  refine a_if_eq (pc := 4) (dk D 2 rfl) (tgt := 9) rfl ⟨fun c => ?_, fun c => ?_⟩
  · replace H := H.1 c
    refine a_aload_n (pc := 9) (dk D 5 rfl) rfl ?_
    refine a_callVi (as := []) (st := []) (pc := 10) (dk D 6 rfl) cl_RX12_340 ⟨Nat.le_of_ble_eq_true rfl, Nat.le_of_ble_eq_true rfl⟩ ⟨Nat.le_of_ble_eq_true rfl, Nat.le_of_ble_eq_true rfl⟩ cls_12 rfl cc_85 rfl rfl rfl (Nat.le_of_ble_eq_true rfl) (Call.mono H fun r3 h4 H => ?_)
    refine a_istore_n (pc := 13) (dk D 7 rfl) (by decide) rfl rfl ?_
    refine a_iconst (pc := 14) (dk D 8 rfl) (ik rfl) ?_
    refine a_istore_n (pc := 15) (dk D 9 rfl) (by decide) rfl rfl ?_
    exact a_pick [0, 1, 2, 3] rfl H
  · replace H := H.2 c
    refine a_iconst (pc := 7) (dk D 3 rfl) (ik rfl) ?_
    exact a_iret (pc := 8) (dk D 4 rfl) rfl rfl H
set_option maxHeartbeats 40000000 in
theorem T_X12_wordOf_85_98_16 {G : GG} {Φ : Int → Hp → Prop} {h : Hp} {x2 : Int} {x3 : Int} (H : ((15 ≤ x3 → Call G m_X12_fail [rv 85, iv (h 85 5)] h (fun _ h2 => Φ (-1) h2)) ∧ (x3 < 15 → (0 ≤ x3 ∧ x3 < 15) ∧ (1000 ≤ (rf 98 (x3).toNat) ∧ (rf 98 (x3).toNat) < 1063) ∧ Call G m_J0_length_8abf5 [rv (rf 98 (x3).toNat)] h (fun r3 h4 => (((w32 (x2 - (h 85 5))) ≠ r3 → AT G m_X12_wordOf 47 [(0, rv 85), (1, rv 98), (2, iv x2), (3, iv x3), (4, iv 0), (5, iv 0)] [] h4 Φ) ∧ ((w32 (x2 - (h 85 5))) = r3 → AT G m_X12_wordOf 47 [(0, rv 85), (1, rv 98), (2, iv x2), (3, iv x3), (4, iv 1), (5, iv 0)] [] h4 Φ)))))) : AT G m_X12_wordOf 16 [(0, rv 85), (1, rv 98), (2, iv x2), (3, iv x3)] [] h Φ := by
  have D := dt_X12_wordOf
  refine a_iload_n (pc := 16) (dk D 10 rfl) rfl ?_
  refine a_aload_n (pc := 17) (dk D 11 rfl) rfl ?_
  refine a_alen (pc := 18) (dk D 12 rfl) ar_98 (by decide) ?_
  refine a_icmp_ge (pc := 19) (dk D 13 rfl) (tgt := 117) rfl ⟨fun c => ?_, fun c => ?_⟩
  · replace H := H.1 c
    refine a_aload_n (pc := 117) (dk D 65 rfl) rfl ?_
    refine a_aload_n (pc := 118) (dk D 66 rfl) rfl ?_
    refine a_geti (pc := 119) (dk D 67 rfl) cls_12 fl_RX12_309 cf_85_5 ?_
    refine a_callVv (as := [iv (h 85 5)]) (st := []) (pc := 122) (dk D 68 rfl) cl_RX12_323 ⟨Nat.le_of_ble_eq_true rfl, Nat.le_of_ble_eq_true rfl⟩ ⟨Nat.le_of_ble_eq_true rfl, Nat.le_of_ble_eq_true rfl⟩ cls_12 rfl cc_85 rfl rfl rfl (Nat.le_of_ble_eq_true rfl) (Call.mono H fun _ h2 H => ?_)
    refine a_iconst (pc := 125) (dk D 69 rfl) (ik rfl) ?_
    exact a_iret (pc := 126) (dk D 70 rfl) rfl rfl H
  · replace H := H.2 c
    refine a_iload_n (pc := 22) (dk D 14 rfl) rfl ?_
    refine a_aload_n (pc := 23) (dk D 15 rfl) rfl ?_
    refine a_geti (pc := 24) (dk D 16 rfl) cls_12 fl_RX12_309 cf_85_5 ?_
    refine a_isub (pc := 27) (dk D 17 rfl) ?_
    refine a_aload_n (pc := 28) (dk D 18 rfl) rfl ?_
    refine a_iload_n (pc := 29) (dk D 19 rfl) rfl ?_
    refine a_aald (pc := 30) (dk D 20 rfl) ar_98 (by decide) ⟨H.1, ?_⟩
    replace H := H.2
    have hS := H.1
    replace H := H.2
    refine a_callTi (as := []) (st := [iv (w32 (x2 - (h 85 5)))]) (pc := 31) (dk D 21 rfl) cl_RX12_343 ⟨Nat.le_of_ble_eq_true rfl, Nat.le_of_ble_eq_true rfl⟩ ⟨Nat.le_of_ble_eq_true rfl, Nat.le_of_ble_eq_true rfl⟩ hS rfl rfl rfl rfl (Nat.le_of_ble_eq_true rfl) (Call.mono H fun r3 h4 H => ?_)
    refine a_icmp_ne (pc := 34) (dk D 22 rfl) (tgt := 41) rfl ⟨fun c => ?_, fun c => ?_⟩
    · replace H := H.1 c
      refine a_iconst (pc := 41) (dk D 25 rfl) (ik rfl) ?_
      refine a_istore (pc := 42) (dk D 26 rfl) (by decide) rfl rfl ?_
      refine a_iconst (pc := 44) (dk D 27 rfl) (ik rfl) ?_
      refine a_istore (pc := 45) (dk D 28 rfl) (by decide) rfl rfl ?_
      exact a_pick [0, 1, 2, 3, 4, 5] rfl H
    · replace H := H.2 c
      refine a_iconst (pc := 37) (dk D 23 rfl) (ik rfl) ?_
      refine a_goto (pc := 38) (dk D 24 rfl) (tgt := 42) rfl ?_
      refine a_istore (pc := 42) (dk D 26 rfl) (by decide) rfl rfl ?_
      refine a_iconst (pc := 44) (dk D 27 rfl) (ik rfl) ?_
      refine a_istore (pc := 45) (dk D 28 rfl) (by decide) rfl rfl ?_
      exact a_pick [0, 1, 2, 3, 4, 5] rfl H
set_option maxHeartbeats 40000000 in
theorem T_X12_wordOf_85_98_47 {G : GG} {Φ : Int → Hp → Prop} {h : Hp} {x2 : Int} {x3 : Int} {x4 : Int} {x5 : Int} (H : (0 ≤ x3 ∧ x3 < 15) ∧ (1000 ≤ (rf 98 (x3).toNat) ∧ (rf 98 (x3).toNat) < 1063) ∧ Call G m_J0_length_8abf5 [rv (rf 98 (x3).toNat)] h (fun r1 h2 => ((r1 ≤ x5 → ((x4 = 0 → AT G m_X12_wordOf 16 [(0, rv 85), (1, rv 98), (2, iv x2), (3, iv (w32 (x3 + 1)))] [] h2 Φ) ∧ (x4 ≠ 0 → Φ x3 (up h2 85 5 x2)))) ∧ (x5 < r1 → ((x4 = 0 → ((x4 = 0 → AT G m_X12_wordOf 16 [(0, rv 85), (1, rv 98), (2, iv x2), (3, iv (w32 (x3 + 1)))] [] h2 Φ) ∧ (x4 ≠ 0 → Φ x3 (up h2 85 5 x2)))) ∧ (x4 ≠ 0 → (0 ≤ (w32 ((h2 85 5) + x5)) ∧ (w32 ((h2 85 5) + x5)) < 1600) ∧ (0 ≤ x3 ∧ x3 < 15) ∧ (1000 ≤ (rf 98 (x3).toNat) ∧ (rf 98 (x3).toNat) < 1063) ∧ Call G m_J0_charAt_5068e [rv (rf 98 (x3).toNat), iv x5] h2 (fun r3 h4 => (((h2 87 (w32 ((h2 85 5) + x5))) ≠ r3 → AT G m_X12_wordOf 47 [(0, rv 85), (1, rv 98), (2, iv x2), (3, iv x3), (4, iv 0), (5, iv (w32 (x5 + 1)))] [] h4 Φ) ∧ ((h2 87 (w32 ((h2 85 5) + x5))) = r3 → AT G m_X12_wordOf 47 [(0, rv 85), (1, rv 98), (2, iv x2), (3, iv x3), (4, iv 1), (5, iv (w32 (x5 + 1)))] [] h4 Φ))))))))) : AT G m_X12_wordOf 47 [(0, rv 85), (1, rv 98), (2, iv x2), (3, iv x3), (4, iv x4), (5, iv x5)] [] h Φ := by
  have D := dt_X12_wordOf
  refine a_iload (pc := 47) (dk D 29 rfl) rfl ?_
  refine a_aload_n (pc := 49) (dk D 30 rfl) rfl ?_
  refine a_iload_n (pc := 50) (dk D 31 rfl) rfl ?_
  refine a_aald (pc := 51) (dk D 32 rfl) ar_98 (by decide) ⟨H.1, ?_⟩
  replace H := H.2
  have hS := H.1
  replace H := H.2
  refine a_callTi (as := []) (st := [iv x5]) (pc := 52) (dk D 33 rfl) cl_RX12_343 ⟨Nat.le_of_ble_eq_true rfl, Nat.le_of_ble_eq_true rfl⟩ ⟨Nat.le_of_ble_eq_true rfl, Nat.le_of_ble_eq_true rfl⟩ hS rfl rfl rfl rfl (Nat.le_of_ble_eq_true rfl) (Call.mono H fun r1 h2 H => ?_)
  refine a_icmp_ge (pc := 55) (dk D 34 rfl) (tgt := 99) rfl ⟨fun c => ?_, fun c => ?_⟩
  · replace H := H.1 c
    refine a_iload (pc := 99) (dk D 56 rfl) rfl ?_
    refine a_if_eq (pc := 101) (dk D 57 rfl) (tgt := 111) rfl ⟨fun c => ?_, fun c => ?_⟩
    · replace H := H.1 c
      refine a_iinc (pc := 111) (dk D 63 rfl) (by decide) rfl rfl rfl ?_
      refine a_goto (pc := 114) (dk D 64 rfl) (tgt := 16) rfl ?_
      exact a_pick [0, 1, 2, 3] rfl H
    · replace H := H.2 c
      refine a_aload_n (pc := 104) (dk D 58 rfl) rfl ?_
      refine a_iload_n (pc := 105) (dk D 59 rfl) rfl ?_
      refine a_puti (pc := 106) (dk D 60 rfl) cls_12 fl_RX12_309 cf_85_5 rfl rfl ?_
      refine a_iload_n (pc := 109) (dk D 61 rfl) rfl ?_
      exact a_iret (pc := 110) (dk D 62 rfl) rfl rfl H
  · replace H := H.2 c
    refine a_iload (pc := 58) (dk D 35 rfl) rfl ?_
    refine a_if_eq (pc := 60) (dk D 36 rfl) (tgt := 99) rfl ⟨fun c => ?_, fun c => ?_⟩
    · replace H := H.1 c
      refine a_iload (pc := 99) (dk D 56 rfl) rfl ?_
      refine a_if_eq (pc := 101) (dk D 57 rfl) (tgt := 111) rfl ⟨fun c => ?_, fun c => ?_⟩
      · replace H := H.1 c
        refine a_iinc (pc := 111) (dk D 63 rfl) (by decide) rfl rfl rfl ?_
        refine a_goto (pc := 114) (dk D 64 rfl) (tgt := 16) rfl ?_
        exact a_pick [0, 1, 2, 3] rfl H
      · replace H := H.2 c
        refine a_aload_n (pc := 104) (dk D 58 rfl) rfl ?_
        refine a_iload_n (pc := 105) (dk D 59 rfl) rfl ?_
        refine a_puti (pc := 106) (dk D 60 rfl) cls_12 fl_RX12_309 cf_85_5 rfl rfl ?_
        refine a_iload_n (pc := 109) (dk D 61 rfl) rfl ?_
        exact a_iret (pc := 110) (dk D 62 rfl) rfl rfl H
    · replace H := H.2 c
      refine a_aload_n (pc := 63) (dk D 37 rfl) rfl ?_
      refine a_getr (r := 86) (pc := 64) (dk D 38 rfl) cls_12 fl_RX12_13 cf_85_1 ?_
      refine a_aload_n (pc := 67) (dk D 39 rfl) rfl ?_
      refine a_geti (pc := 68) (dk D 40 rfl) cls_12 fl_RX12_309 cf_85_5 ?_
      refine a_iload (pc := 71) (dk D 41 rfl) rfl ?_
      refine a_iadd (pc := 73) (dk D 42 rfl) ?_
      refine a_iald (pc := 74) (dk D 43 rfl) ar_87 ⟨H.1, ?_⟩
      replace H := H.2
      refine a_aload_n (pc := 75) (dk D 44 rfl) rfl ?_
      refine a_iload_n (pc := 76) (dk D 45 rfl) rfl ?_
      refine a_aald (pc := 77) (dk D 46 rfl) ar_98 (by decide) ⟨H.1, ?_⟩
      replace H := H.2
      refine a_iload (pc := 78) (dk D 47 rfl) rfl ?_
      have hS := H.1
      replace H := H.2
      refine a_callTi (as := [iv x5]) (st := [iv (h2 87 (w32 ((h2 85 5) + x5)))]) (pc := 80) (dk D 48 rfl) cl_RX12_346 ⟨Nat.le_of_ble_eq_true rfl, Nat.le_of_ble_eq_true rfl⟩ ⟨Nat.le_of_ble_eq_true rfl, Nat.le_of_ble_eq_true rfl⟩ hS rfl rfl rfl rfl (Nat.le_of_ble_eq_true rfl) (Call.mono H fun r3 h4 H => ?_)
      refine a_icmp_ne (pc := 83) (dk D 49 rfl) (tgt := 90) rfl ⟨fun c => ?_, fun c => ?_⟩
      · replace H := H.1 c
        refine a_iconst (pc := 90) (dk D 52 rfl) (ik rfl) ?_
        refine a_istore (pc := 91) (dk D 53 rfl) (by decide) rfl rfl ?_
        refine a_iinc (pc := 93) (dk D 54 rfl) (by decide) rfl rfl rfl ?_
        refine a_goto (pc := 96) (dk D 55 rfl) (tgt := 47) rfl ?_
        exact a_pick [0, 1, 2, 3, 4, 5] rfl H
      · replace H := H.2 c
        refine a_iconst (pc := 86) (dk D 50 rfl) (ik rfl) ?_
        refine a_goto (pc := 87) (dk D 51 rfl) (tgt := 91) rfl ?_
        refine a_istore (pc := 91) (dk D 53 rfl) (by decide) rfl rfl ?_
        refine a_iinc (pc := 93) (dk D 54 rfl) (by decide) rfl rfl rfl ?_
        refine a_goto (pc := 96) (dk D 55 rfl) (tgt := 47) rfl ?_
        exact a_pick [0, 1, 2, 3, 4, 5] rfl H
set_option maxHeartbeats 40000000 in
theorem T_X12_behind_85_0 {G : GG} {Φ : Int → Hp → Prop} {h : Hp} {x1 : Int} {x2 : Int} (H : Call G m_X12_need [rv 85, iv 32] h (fun _ h2 => Call G m_X12_whole [rv 85, iv 0, iv x1, iv x2] h2 (fun r3 h4 => Φ r3 h4))) : AT G m_X12_behind 0 [(0, rv 85), (1, iv x1), (2, iv x2)] [] h Φ := by
  have D := dt_X12_behind
  refine a_aload_n (pc := 0) (dk D 0 rfl) rfl ?_
  refine a_bipush (pc := 1) (dk D 1 rfl) (ik rfl) (bpk rfl) ?_
  refine a_callVv (as := [iv 32]) (st := []) (pc := 3) (dk D 2 rfl) cl_RX12_330 ⟨Nat.le_of_ble_eq_true rfl, Nat.le_of_ble_eq_true rfl⟩ ⟨Nat.le_of_ble_eq_true rfl, Nat.le_of_ble_eq_true rfl⟩ cls_12 rfl cc_85 rfl rfl rfl (Nat.le_of_ble_eq_true rfl) (Call.mono H fun _ h2 H => ?_)
  refine a_aload_n (pc := 6) (dk D 3 rfl) rfl ?_
  refine a_iconst (pc := 7) (dk D 4 rfl) (ik rfl) ?_
  refine a_iload_n (pc := 8) (dk D 5 rfl) rfl ?_
  refine a_iload_n (pc := 9) (dk D 6 rfl) rfl ?_
  refine a_callVi (as := [iv 0, iv x1, iv x2]) (st := []) (pc := 10) (dk D 7 rfl) cl_RX12_333 ⟨Nat.le_of_ble_eq_true rfl, Nat.le_of_ble_eq_true rfl⟩ ⟨Nat.le_of_ble_eq_true rfl, Nat.le_of_ble_eq_true rfl⟩ cls_12 rfl cc_85 rfl rfl rfl (Nat.le_of_ble_eq_true rfl) (Call.mono H fun r3 h4 H => ?_)
  exact a_iret (pc := 13) (dk D 8 rfl) rfl rfl H
set_option maxHeartbeats 40000000 in
theorem T_X12_isSeen_85_0 {G : GG} {Φ : Int → Hp → Prop} {h : Hp} (H : Call G m_X12_sees [rv 85, iv 0, iv (h 85 10)] h (fun r1 h2 => ((r1 ≠ 0 → Φ 1 h2) ∧ (r1 = 0 → Call G m_X12_sees [rv 85, iv 1, iv (h2 85 10)] h2 (fun r3 h4 => ((r3 ≠ 0 → Φ 1 h4) ∧ (r3 = 0 → Call G m_X12_sees [rv 85, iv 2, iv (h4 85 10)] h4 (fun r5 h6 => ((r5 ≠ 0 → Φ 1 h6) ∧ (r5 = 0 → Call G m_X12_sees [rv 85, iv 3, iv (h6 85 10)] h6 (fun r7 h8 => ((r7 = 0 → Φ 0 h8) ∧ (r7 ≠ 0 → Φ 1 h8))))))))))))) : AT G m_X12_isSeen 0 [(0, rv 85)] [] h Φ := by
  have D := dt_X12_isSeen
  refine a_aload_n (pc := 0) (dk D 0 rfl) rfl ?_
  refine a_iconst (pc := 1) (dk D 1 rfl) (ik rfl) ?_
  refine a_aload_n (pc := 2) (dk D 2 rfl) rfl ?_
  refine a_geti (pc := 3) (dk D 3 rfl) cls_12 fl_RX12_398 cf_85_10 ?_
  refine a_callVi (as := [iv 0, iv (h 85 10)]) (st := []) (pc := 6) (dk D 4 rfl) cl_RX12_408 ⟨Nat.le_of_ble_eq_true rfl, Nat.le_of_ble_eq_true rfl⟩ ⟨Nat.le_of_ble_eq_true rfl, Nat.le_of_ble_eq_true rfl⟩ cls_12 rfl cc_85 rfl rfl rfl (Nat.le_of_ble_eq_true rfl) (Call.mono H fun r1 h2 H => ?_)
  refine a_if_ne (pc := 9) (dk D 5 rfl) (tgt := 48) rfl ⟨fun c => ?_, fun c => ?_⟩
  · replace H := H.1 c
    refine a_iconst (pc := 48) (dk D 24 rfl) (ik rfl) ?_
    refine a_goto (pc := 49) (dk D 25 rfl) (tgt := 53) rfl ?_
    exact a_zret (pc := 53) (dk D 27 rfl) rfl rfl ⟨by decide, H⟩
  · replace H := H.2 c
    refine a_aload_n (pc := 12) (dk D 6 rfl) rfl ?_
    refine a_iconst (pc := 13) (dk D 7 rfl) (ik rfl) ?_
    refine a_aload_n (pc := 14) (dk D 8 rfl) rfl ?_
    refine a_geti (pc := 15) (dk D 9 rfl) cls_12 fl_RX12_398 cf_85_10 ?_
    refine a_callVi (as := [iv 1, iv (h2 85 10)]) (st := []) (pc := 18) (dk D 10 rfl) cl_RX12_408 ⟨Nat.le_of_ble_eq_true rfl, Nat.le_of_ble_eq_true rfl⟩ ⟨Nat.le_of_ble_eq_true rfl, Nat.le_of_ble_eq_true rfl⟩ cls_12 rfl cc_85 rfl rfl rfl (Nat.le_of_ble_eq_true rfl) (Call.mono H fun r3 h4 H => ?_)
    refine a_if_ne (pc := 21) (dk D 11 rfl) (tgt := 48) rfl ⟨fun c => ?_, fun c => ?_⟩
    · replace H := H.1 c
      refine a_iconst (pc := 48) (dk D 24 rfl) (ik rfl) ?_
      refine a_goto (pc := 49) (dk D 25 rfl) (tgt := 53) rfl ?_
      exact a_zret (pc := 53) (dk D 27 rfl) rfl rfl ⟨by decide, H⟩
    · replace H := H.2 c
      refine a_aload_n (pc := 24) (dk D 12 rfl) rfl ?_
      refine a_iconst (pc := 25) (dk D 13 rfl) (ik rfl) ?_
      refine a_aload_n (pc := 26) (dk D 14 rfl) rfl ?_
      refine a_geti (pc := 27) (dk D 15 rfl) cls_12 fl_RX12_398 cf_85_10 ?_
      refine a_callVi (as := [iv 2, iv (h4 85 10)]) (st := []) (pc := 30) (dk D 16 rfl) cl_RX12_408 ⟨Nat.le_of_ble_eq_true rfl, Nat.le_of_ble_eq_true rfl⟩ ⟨Nat.le_of_ble_eq_true rfl, Nat.le_of_ble_eq_true rfl⟩ cls_12 rfl cc_85 rfl rfl rfl (Nat.le_of_ble_eq_true rfl) (Call.mono H fun r5 h6 H => ?_)
      refine a_if_ne (pc := 33) (dk D 17 rfl) (tgt := 48) rfl ⟨fun c => ?_, fun c => ?_⟩
      · replace H := H.1 c
        refine a_iconst (pc := 48) (dk D 24 rfl) (ik rfl) ?_
        refine a_goto (pc := 49) (dk D 25 rfl) (tgt := 53) rfl ?_
        exact a_zret (pc := 53) (dk D 27 rfl) rfl rfl ⟨by decide, H⟩
      · replace H := H.2 c
        refine a_aload_n (pc := 36) (dk D 18 rfl) rfl ?_
        refine a_iconst (pc := 37) (dk D 19 rfl) (ik rfl) ?_
        refine a_aload_n (pc := 38) (dk D 20 rfl) rfl ?_
        refine a_geti (pc := 39) (dk D 21 rfl) cls_12 fl_RX12_398 cf_85_10 ?_
        refine a_callVi (as := [iv 3, iv (h6 85 10)]) (st := []) (pc := 42) (dk D 22 rfl) cl_RX12_408 ⟨Nat.le_of_ble_eq_true rfl, Nat.le_of_ble_eq_true rfl⟩ ⟨Nat.le_of_ble_eq_true rfl, Nat.le_of_ble_eq_true rfl⟩ cls_12 rfl cc_85 rfl rfl rfl (Nat.le_of_ble_eq_true rfl) (Call.mono H fun r7 h8 H => ?_)
        refine a_if_eq (pc := 45) (dk D 23 rfl) (tgt := 52) rfl ⟨fun c => ?_, fun c => ?_⟩
        · replace H := H.1 c
          refine a_iconst (pc := 52) (dk D 26 rfl) (ik rfl) ?_
          exact a_zret (pc := 53) (dk D 27 rfl) rfl rfl ⟨by decide, H⟩
        · replace H := H.2 c
          refine a_iconst (pc := 48) (dk D 24 rfl) (ik rfl) ?_
          refine a_goto (pc := 49) (dk D 25 rfl) (tgt := 53) rfl ?_
          exact a_zret (pc := 53) (dk D 27 rfl) rfl rfl ⟨by decide, H⟩
set_option maxHeartbeats 40000000 in
theorem T_X12_act_85_0 {G : GG} {Φ : Int → Hp → Prop} {h : Hp} {x1 : Int} (H : (0 ≤ x1 ∧ x1 < 260) ∧ ((((h 103 x1) = 0) → (0 ≤ x1 ∧ x1 < 260) ∧ (0 ≤ (h 104 x1) ∧ (h 104 x1) < 8) ∧ Φ 1 (up (up h 85 57 0) 95 (h 104 x1) 1)) ∧ (((h 103 x1) = 1) → (0 ≤ x1 ∧ x1 < 260) ∧ (0 ≤ (h 104 x1) ∧ (h 104 x1) < 8) ∧ Φ 1 (up (up h 85 57 0) 95 (h 104 x1) 0)) ∧ (((h 103 x1) = 6) → (0 ≤ x1 ∧ x1 < 260) ∧ (0 ≤ x1 ∧ x1 < 260) ∧ Call G m_X12_encoded [iv (h 105 x1)] (up h 85 57 0) (fun r1 h2 => (0 ≤ (h 104 x1) ∧ (h 104 x1) < 64) ∧ (((h2 85 57) = 0 → (((h2 85 57) ≠ 0 → Φ 0 (up h2 97 (h 104 x1) r1)) ∧ ((h2 85 57) = 0 → Φ 1 (up h2 97 (h 104 x1) r1)))) ∧ ((h2 85 57) ≠ 0 → (((h2 85 57) ≠ 0 → Φ 0 (up (up h2 97 (h 104 x1) r1) 85 22 (w32 ((h2 85 22) + 1)))) ∧ ((h2 85 57) = 0 → Φ 1 (up (up h2 97 (h 104 x1) r1) 85 22 (w32 ((h2 85 22) + 1))))))))) ∧ (((h 103 x1) = 7) → (0 ≤ x1 ∧ x1 < 260) ∧ Call G m_X12_valueOf [rv 85, iv (w32 (9 + (h 104 x1)))] (up h 85 57 0) (fun r3 h4 => (((h4 85 57) ≠ 0 → (((h4 85 57) = 0 → (((h4 85 57) ≠ 0 → Φ 0 h4) ∧ ((h4 85 57) = 0 → Φ 1 h4))) ∧ ((h4 85 57) ≠ 0 → (((h4 85 57) ≠ 0 → Φ 0 (up h4 85 22 (w32 ((h4 85 22) + 1)))) ∧ ((h4 85 57) = 0 → Φ 1 (up h4 85 22 (w32 ((h4 85 22) + 1)))))))) ∧ ((h4 85 57) = 0 → (0 ≤ x1 ∧ x1 < 260) ∧ (0 ≤ x1 ∧ x1 < 260) ∧ Call G m_X12_encoded [iv (band (w32 (r3 + (h4 105 x1))) 255)] h4 (fun r5 h6 => (0 ≤ (h4 104 x1) ∧ (h4 104 x1) < 64) ∧ (((h6 85 57) = 0 → (((h6 85 57) ≠ 0 → Φ 0 (up h6 97 (h4 104 x1) r5)) ∧ ((h6 85 57) = 0 → Φ 1 (up h6 97 (h4 104 x1) r5)))) ∧ ((h6 85 57) ≠ 0 → (((h6 85 57) ≠ 0 → Φ 0 (up (up h6 97 (h4 104 x1) r5) 85 22 (w32 ((h6 85 22) + 1)))) ∧ ((h6 85 57) = 0 → Φ 1 (up (up h6 97 (h4 104 x1) r5) 85 22 (w32 ((h6 85 22) + 1)))))))))))) ∧ (((h 103 x1) = 8) → (0 ≤ x1 ∧ x1 < 260) ∧ Call G m_X12_emit [rv 85, iv (h 105 x1)] (up h 85 57 0) (fun _ h8 => (((h8 85 57) = 0 → (((h8 85 57) ≠ 0 → Φ 0 h8) ∧ ((h8 85 57) = 0 → Φ 1 h8))) ∧ ((h8 85 57) ≠ 0 → (((h8 85 57) ≠ 0 → Φ 0 (up h8 85 22 (w32 ((h8 85 22) + 1)))) ∧ ((h8 85 57) = 0 → Φ 1 (up h8 85 22 (w32 ((h8 85 22) + 1))))))))) ∧ (((h 103 x1) = 9) → (0 ≤ x1 ∧ x1 < 260) ∧ Call G m_X12_goTo [rv 85, iv (h 105 x1)] (up h 85 57 0) (fun _ h10 => (((h10 85 57) = 0 → (((h10 85 57) ≠ 0 → Φ 0 h10) ∧ ((h10 85 57) = 0 → Φ 1 h10))) ∧ ((h10 85 57) ≠ 0 → (((h10 85 57) ≠ 0 → Φ 0 (up h10 85 22 (w32 ((h10 85 22) + 1)))) ∧ ((h10 85 57) = 0 → Φ 1 (up h10 85 22 (w32 ((h10 85 22) + 1))))))))) ∧ (((h 103 x1) = 10) → (0 ≤ x1 ∧ x1 < 260) ∧ Call G m_X12_begin [rv 85, iv (h 104 x1)] (up h 85 57 0) (fun _ h12 => (((h12 85 57) = 0 → (((h12 85 57) ≠ 0 → Φ 0 h12) ∧ ((h12 85 57) = 0 → Φ 1 h12))) ∧ ((h12 85 57) ≠ 0 → (((h12 85 57) ≠ 0 → Φ 0 (up h12 85 22 (w32 ((h12 85 22) + 1)))) ∧ ((h12 85 57) = 0 → Φ 1 (up h12 85 22 (w32 ((h12 85 22) + 1))))))))) ∧ (((h 103 x1) = 11) → (0 ≤ x1 ∧ x1 < 260) ∧ (0 ≤ (h 104 x1) ∧ (h 104 x1) < 8) ∧ Φ 1 (up (up h 85 57 0) 116 (h 104 x1) (-1))) ∧ ((((h 103 x1) < 0 ∨ 11 < (h 103 x1)) ∨ (h 103 x1) = 2 ∨ (h 103 x1) = 3 ∨ (h 103 x1) = 4 ∨ (h 103 x1) = 5) → Φ 1 (up h 85 57 0)))) : AT G m_X12_act 0 [(0, rv 85), (1, iv x1)] [] h Φ := by
  have D := dt_X12_act
  refine a_aload_n (pc := 0) (dk D 0 rfl) rfl ?_
  refine a_iconst (pc := 1) (dk D 1 rfl) (ik rfl) ?_
  refine a_putz (pc := 2) (dk D 2 rfl) cls_12 fl_RX12_474 cf_85_57 rfl rfl ⟨by decide, ?_⟩
  refine a_aload_n (pc := 5) (dk D 3 rfl) rfl ?_
  refine a_getr (r := 102) (pc := 6) (dk D 4 rfl) cls_12 fl_RX12_138 cf_85_36 ?_
  refine a_iload_n (pc := 9) (dk D 5 rfl) rfl ?_
  refine a_iald (pc := 10) (dk D 6 rfl) ar_103 ⟨H.1, ?_⟩
  replace H := H.2
  refine a_top (y := (h 103 x1)) (by simp [up, cpy]) ?_
  have B0 : ((h 103 x1) = 0) → AT G m_X12_act 72 [(0, rv 85), (1, iv x1)] [] (up h 85 57 0) Φ := by
    intro c
    replace H := H.1 c
    refine a_aload_n (pc := 72) (dk D 8 rfl) rfl ?_
    refine a_getr (r := 94) (pc := 73) (dk D 9 rfl) cls_12 fl_RX12_50 cf_85_26 ?_
    refine a_aload_n (pc := 76) (dk D 10 rfl) rfl ?_
    refine a_getr (r := 103) (pc := 77) (dk D 11 rfl) cls_12 fl_RX12_141 cf_85_37 ?_
    refine a_iload_n (pc := 80) (dk D 12 rfl) rfl ?_
    refine a_iald (pc := 81) (dk D 13 rfl) ar_104 ⟨H.1, ?_⟩
    replace H := H.2
    refine a_top (y := (h 104 x1)) (by simp [up, cpy]) ?_
    refine a_iconst (pc := 82) (dk D 14 rfl) (ik rfl) ?_
    refine a_zast (pc := 83) (dk D 15 rfl) ar_95 ⟨H.1, by decide, ?_⟩
    replace H := H.2
    refine a_goto (pc := 84) (dk D 16 rfl) (tgt := 229) rfl ?_
    refine a_aload_n (pc := 229) (dk D 98 rfl) rfl ?_
    refine a_geti (pc := 230) (dk D 99 rfl) cls_12 fl_RX12_474 cf_85_57 ?_
    refine a_top (y := 0) (by simp [up, cpy]) ?_
    refine a_if_eq (pc := 233) (dk D 100 rfl) (tgt := 246) rfl ⟨fun _ => ?_, fun c => absurd c (by decide)⟩
    refine a_aload_n (pc := 246) (dk D 107 rfl) rfl ?_
    refine a_geti (pc := 247) (dk D 108 rfl) cls_12 fl_RX12_474 cf_85_57 ?_
    refine a_top (y := 0) (by simp [up, cpy]) ?_
    refine a_if_ne (pc := 250) (dk D 109 rfl) (tgt := 257) rfl ⟨fun c => absurd c (by decide), fun _ => ?_⟩
    refine a_iconst (pc := 253) (dk D 110 rfl) (ik rfl) ?_
    refine a_goto (pc := 254) (dk D 111 rfl) (tgt := 258) rfl ?_
    exact a_zret (pc := 258) (dk D 113 rfl) rfl rfl ⟨by decide, H⟩
  have B1 : ((h 103 x1) = 1) → AT G m_X12_act 87 [(0, rv 85), (1, iv x1)] [] (up h 85 57 0) Φ := by
    intro c
    replace H := H.2.1 c
    refine a_aload_n (pc := 87) (dk D 17 rfl) rfl ?_
    refine a_getr (r := 94) (pc := 88) (dk D 18 rfl) cls_12 fl_RX12_50 cf_85_26 ?_
    refine a_aload_n (pc := 91) (dk D 19 rfl) rfl ?_
    refine a_getr (r := 103) (pc := 92) (dk D 20 rfl) cls_12 fl_RX12_141 cf_85_37 ?_
    refine a_iload_n (pc := 95) (dk D 21 rfl) rfl ?_
    refine a_iald (pc := 96) (dk D 22 rfl) ar_104 ⟨H.1, ?_⟩
    replace H := H.2
    refine a_top (y := (h 104 x1)) (by simp [up, cpy]) ?_
    refine a_iconst (pc := 97) (dk D 23 rfl) (ik rfl) ?_
    refine a_zast (pc := 98) (dk D 24 rfl) ar_95 ⟨H.1, by decide, ?_⟩
    replace H := H.2
    refine a_goto (pc := 99) (dk D 25 rfl) (tgt := 229) rfl ?_
    refine a_aload_n (pc := 229) (dk D 98 rfl) rfl ?_
    refine a_geti (pc := 230) (dk D 99 rfl) cls_12 fl_RX12_474 cf_85_57 ?_
    refine a_top (y := 0) (by simp [up, cpy]) ?_
    refine a_if_eq (pc := 233) (dk D 100 rfl) (tgt := 246) rfl ⟨fun _ => ?_, fun c => absurd c (by decide)⟩
    refine a_aload_n (pc := 246) (dk D 107 rfl) rfl ?_
    refine a_geti (pc := 247) (dk D 108 rfl) cls_12 fl_RX12_474 cf_85_57 ?_
    refine a_top (y := 0) (by simp [up, cpy]) ?_
    refine a_if_ne (pc := 250) (dk D 109 rfl) (tgt := 257) rfl ⟨fun c => absurd c (by decide), fun _ => ?_⟩
    refine a_iconst (pc := 253) (dk D 110 rfl) (ik rfl) ?_
    refine a_goto (pc := 254) (dk D 111 rfl) (tgt := 258) rfl ?_
    exact a_zret (pc := 258) (dk D 113 rfl) rfl rfl ⟨by decide, H⟩
  have B2 : ((h 103 x1) = 6) → AT G m_X12_act 102 [(0, rv 85), (1, iv x1)] [] (up h 85 57 0) Φ := by
    intro c
    replace H := H.2.2.1 c
    refine a_aload_n (pc := 102) (dk D 26 rfl) rfl ?_
    refine a_getr (r := 96) (pc := 103) (dk D 27 rfl) cls_12 fl_RX12_57 cf_85_28 ?_
    refine a_aload_n (pc := 106) (dk D 28 rfl) rfl ?_
    refine a_getr (r := 103) (pc := 107) (dk D 29 rfl) cls_12 fl_RX12_141 cf_85_37 ?_
    refine a_iload_n (pc := 110) (dk D 30 rfl) rfl ?_
    refine a_iald (pc := 111) (dk D 31 rfl) ar_104 ⟨H.1, ?_⟩
    replace H := H.2
    refine a_top (y := (h 104 x1)) (by simp [up, cpy]) ?_
    refine a_aload_n (pc := 112) (dk D 32 rfl) rfl ?_
    refine a_getr (r := 104) (pc := 113) (dk D 33 rfl) cls_12 fl_RX12_144 cf_85_38 ?_
    refine a_iload_n (pc := 116) (dk D 34 rfl) rfl ?_
    refine a_iald (pc := 117) (dk D 35 rfl) ar_105 ⟨H.1, ?_⟩
    replace H := H.2
    refine a_top (y := (h 105 x1)) (by simp [up, cpy]) ?_
    refine a_callSi (as := [iv (h 105 x1)]) (st := [iv (h 104 x1), rv 97]) (pc := 118) (dk D 36 rfl) cl_RX12_441 ⟨Nat.le_of_ble_eq_true rfl, Nat.le_of_ble_eq_true rfl⟩ ⟨Nat.le_of_ble_eq_true rfl, Nat.le_of_ble_eq_true rfl⟩ rfl rfl rfl (Nat.le_of_ble_eq_true rfl) (Call.mono H fun r1 h2 H => ?_)
    refine a_iast (pc := 121) (dk D 37 rfl) ar_97 ⟨H.1, ?_⟩
    replace H := H.2
    refine a_goto (pc := 122) (dk D 38 rfl) (tgt := 229) rfl ?_
    refine a_aload_n (pc := 229) (dk D 98 rfl) rfl ?_
    refine a_geti (pc := 230) (dk D 99 rfl) cls_12 fl_RX12_474 cf_85_57 ?_
    refine a_top (y := (h2 85 57)) (by simp [up, cpy]) ?_
    refine a_if_eq (pc := 233) (dk D 100 rfl) (tgt := 246) rfl ⟨fun c => ?_, fun c => ?_⟩
    · replace H := H.1 c
      refine a_aload_n (pc := 246) (dk D 107 rfl) rfl ?_
      refine a_geti (pc := 247) (dk D 108 rfl) cls_12 fl_RX12_474 cf_85_57 ?_
      refine a_top (y := (h2 85 57)) (by simp [up, cpy]) ?_
      refine a_if_ne (pc := 250) (dk D 109 rfl) (tgt := 257) rfl ⟨fun c => ?_, fun c => ?_⟩
      · replace H := H.1 c
        refine a_iconst (pc := 257) (dk D 112 rfl) (ik rfl) ?_
        exact a_zret (pc := 258) (dk D 113 rfl) rfl rfl ⟨by decide, H⟩
      · replace H := H.2 c
        refine a_iconst (pc := 253) (dk D 110 rfl) (ik rfl) ?_
        refine a_goto (pc := 254) (dk D 111 rfl) (tgt := 258) rfl ?_
        exact a_zret (pc := 258) (dk D 113 rfl) rfl rfl ⟨by decide, H⟩
    · replace H := H.2 c
      refine a_aload_n (pc := 236) (dk D 101 rfl) rfl ?_
      refine a_dup (pc := 237) (dk D 102 rfl) rfl ?_
      refine a_geti (pc := 238) (dk D 103 rfl) cls_12 fl_RX12_426 cf_85_22 ?_
      refine a_top (y := (h2 85 22)) (by simp [up, cpy]) ?_
      refine a_iconst (pc := 241) (dk D 104 rfl) (ik rfl) ?_
      refine a_iadd (pc := 242) (dk D 105 rfl) ?_
      refine a_puti (pc := 243) (dk D 106 rfl) cls_12 fl_RX12_426 cf_85_22 rfl rfl ?_
      refine a_aload_n (pc := 246) (dk D 107 rfl) rfl ?_
      refine a_geti (pc := 247) (dk D 108 rfl) cls_12 fl_RX12_474 cf_85_57 ?_
      refine a_top (y := (h2 85 57)) (by simp [up, cpy]) ?_
      refine a_if_ne (pc := 250) (dk D 109 rfl) (tgt := 257) rfl ⟨fun c => ?_, fun c => ?_⟩
      · replace H := H.1 c
        refine a_iconst (pc := 257) (dk D 112 rfl) (ik rfl) ?_
        exact a_zret (pc := 258) (dk D 113 rfl) rfl rfl ⟨by decide, H⟩
      · replace H := H.2 c
        refine a_iconst (pc := 253) (dk D 110 rfl) (ik rfl) ?_
        refine a_goto (pc := 254) (dk D 111 rfl) (tgt := 258) rfl ?_
        exact a_zret (pc := 258) (dk D 113 rfl) rfl rfl ⟨by decide, H⟩
  have B3 : ((h 103 x1) = 7) → AT G m_X12_act 125 [(0, rv 85), (1, iv x1)] [] (up h 85 57 0) Φ := by
    intro c
    replace H := H.2.2.2.1 c
    refine a_aload_n (pc := 125) (dk D 39 rfl) rfl ?_
    refine a_bipush (pc := 126) (dk D 40 rfl) (ik rfl) (bpk rfl) ?_
    refine a_aload_n (pc := 128) (dk D 41 rfl) rfl ?_
    refine a_getr (r := 103) (pc := 129) (dk D 42 rfl) cls_12 fl_RX12_141 cf_85_37 ?_
    refine a_iload_n (pc := 132) (dk D 43 rfl) rfl ?_
    refine a_iald (pc := 133) (dk D 44 rfl) ar_104 ⟨H.1, ?_⟩
    replace H := H.2
    refine a_top (y := (h 104 x1)) (by simp [up, cpy]) ?_
    refine a_iadd (pc := 134) (dk D 45 rfl) ?_
    refine a_callVi (as := [iv (w32 (9 + (h 104 x1)))]) (st := []) (pc := 135) (dk D 46 rfl) cl_RX12_478 ⟨Nat.le_of_ble_eq_true rfl, Nat.le_of_ble_eq_true rfl⟩ ⟨Nat.le_of_ble_eq_true rfl, Nat.le_of_ble_eq_true rfl⟩ cls_12 rfl cc_85 rfl rfl rfl (Nat.le_of_ble_eq_true rfl) (Call.mono H fun r3 h4 H => ?_)
    refine a_istore_n (pc := 138) (dk D 47 rfl) (by decide) rfl rfl ?_
    refine a_aload_n (pc := 139) (dk D 48 rfl) rfl ?_
    refine a_geti (pc := 140) (dk D 49 rfl) cls_12 fl_RX12_474 cf_85_57 ?_
    refine a_if_ne (pc := 143) (dk D 50 rfl) (tgt := 229) rfl ⟨fun c => ?_, fun c => ?_⟩
    · replace H := H.1 c
      refine a_aload_n (pc := 229) (dk D 98 rfl) rfl ?_
      refine a_geti (pc := 230) (dk D 99 rfl) cls_12 fl_RX12_474 cf_85_57 ?_
      refine a_if_eq (pc := 233) (dk D 100 rfl) (tgt := 246) rfl ⟨fun c => ?_, fun c => ?_⟩
      · replace H := H.1 c
        refine a_aload_n (pc := 246) (dk D 107 rfl) rfl ?_
        refine a_geti (pc := 247) (dk D 108 rfl) cls_12 fl_RX12_474 cf_85_57 ?_
        refine a_if_ne (pc := 250) (dk D 109 rfl) (tgt := 257) rfl ⟨fun c => ?_, fun c => ?_⟩
        · replace H := H.1 c
          refine a_iconst (pc := 257) (dk D 112 rfl) (ik rfl) ?_
          exact a_zret (pc := 258) (dk D 113 rfl) rfl rfl ⟨by decide, H⟩
        · replace H := H.2 c
          refine a_iconst (pc := 253) (dk D 110 rfl) (ik rfl) ?_
          refine a_goto (pc := 254) (dk D 111 rfl) (tgt := 258) rfl ?_
          exact a_zret (pc := 258) (dk D 113 rfl) rfl rfl ⟨by decide, H⟩
      · replace H := H.2 c
        refine a_aload_n (pc := 236) (dk D 101 rfl) rfl ?_
        refine a_dup (pc := 237) (dk D 102 rfl) rfl ?_
        refine a_geti (pc := 238) (dk D 103 rfl) cls_12 fl_RX12_426 cf_85_22 ?_
        refine a_iconst (pc := 241) (dk D 104 rfl) (ik rfl) ?_
        refine a_iadd (pc := 242) (dk D 105 rfl) ?_
        refine a_puti (pc := 243) (dk D 106 rfl) cls_12 fl_RX12_426 cf_85_22 rfl rfl ?_
        refine a_aload_n (pc := 246) (dk D 107 rfl) rfl ?_
        refine a_geti (pc := 247) (dk D 108 rfl) cls_12 fl_RX12_474 cf_85_57 ?_
        refine a_top (y := (h4 85 57)) (by simp [up, cpy]) ?_
        refine a_if_ne (pc := 250) (dk D 109 rfl) (tgt := 257) rfl ⟨fun c => ?_, fun c => ?_⟩
        · replace H := H.1 c
          refine a_iconst (pc := 257) (dk D 112 rfl) (ik rfl) ?_
          exact a_zret (pc := 258) (dk D 113 rfl) rfl rfl ⟨by decide, H⟩
        · replace H := H.2 c
          refine a_iconst (pc := 253) (dk D 110 rfl) (ik rfl) ?_
          refine a_goto (pc := 254) (dk D 111 rfl) (tgt := 258) rfl ?_
          exact a_zret (pc := 258) (dk D 113 rfl) rfl rfl ⟨by decide, H⟩
    · replace H := H.2 c
      refine a_aload_n (pc := 146) (dk D 51 rfl) rfl ?_
      refine a_getr (r := 96) (pc := 147) (dk D 52 rfl) cls_12 fl_RX12_57 cf_85_28 ?_
      refine a_aload_n (pc := 150) (dk D 53 rfl) rfl ?_
      refine a_getr (r := 103) (pc := 151) (dk D 54 rfl) cls_12 fl_RX12_141 cf_85_37 ?_
      refine a_iload_n (pc := 154) (dk D 55 rfl) rfl ?_
      refine a_iald (pc := 155) (dk D 56 rfl) ar_104 ⟨H.1, ?_⟩
      replace H := H.2
      refine a_iload_n (pc := 156) (dk D 57 rfl) rfl ?_
      refine a_aload_n (pc := 157) (dk D 58 rfl) rfl ?_
      refine a_getr (r := 104) (pc := 158) (dk D 59 rfl) cls_12 fl_RX12_144 cf_85_38 ?_
      refine a_iload_n (pc := 161) (dk D 60 rfl) rfl ?_
      refine a_iald (pc := 162) (dk D 61 rfl) ar_105 ⟨H.1, ?_⟩
      replace H := H.2
      refine a_iadd (pc := 163) (dk D 62 rfl) ?_
      refine a_sipush (pc := 164) (dk D 63 rfl) (ik rfl) (spk rfl) ?_
      refine a_iand (pc := 167) (dk D 64 rfl) ?_
      refine a_callSi (as := [iv (band (w32 (r3 + (h4 105 x1))) 255)]) (st := [iv (h4 104 x1), rv 97]) (pc := 168) (dk D 65 rfl) cl_RX12_441 ⟨Nat.le_of_ble_eq_true rfl, Nat.le_of_ble_eq_true rfl⟩ ⟨Nat.le_of_ble_eq_true rfl, Nat.le_of_ble_eq_true rfl⟩ rfl rfl rfl (Nat.le_of_ble_eq_true rfl) (Call.mono H fun r5 h6 H => ?_)
      refine a_iast (pc := 171) (dk D 66 rfl) ar_97 ⟨H.1, ?_⟩
      replace H := H.2
      refine a_goto (pc := 172) (dk D 67 rfl) (tgt := 229) rfl ?_
      refine a_aload_n (pc := 229) (dk D 98 rfl) rfl ?_
      refine a_geti (pc := 230) (dk D 99 rfl) cls_12 fl_RX12_474 cf_85_57 ?_
      refine a_top (y := (h6 85 57)) (by simp [up, cpy]) ?_
      refine a_if_eq (pc := 233) (dk D 100 rfl) (tgt := 246) rfl ⟨fun c => ?_, fun c => ?_⟩
      · replace H := H.1 c
        refine a_aload_n (pc := 246) (dk D 107 rfl) rfl ?_
        refine a_geti (pc := 247) (dk D 108 rfl) cls_12 fl_RX12_474 cf_85_57 ?_
        refine a_top (y := (h6 85 57)) (by simp [up, cpy]) ?_
        refine a_if_ne (pc := 250) (dk D 109 rfl) (tgt := 257) rfl ⟨fun c => ?_, fun c => ?_⟩
        · replace H := H.1 c
          refine a_iconst (pc := 257) (dk D 112 rfl) (ik rfl) ?_
          exact a_zret (pc := 258) (dk D 113 rfl) rfl rfl ⟨by decide, H⟩
        · replace H := H.2 c
          refine a_iconst (pc := 253) (dk D 110 rfl) (ik rfl) ?_
          refine a_goto (pc := 254) (dk D 111 rfl) (tgt := 258) rfl ?_
          exact a_zret (pc := 258) (dk D 113 rfl) rfl rfl ⟨by decide, H⟩
      · replace H := H.2 c
        refine a_aload_n (pc := 236) (dk D 101 rfl) rfl ?_
        refine a_dup (pc := 237) (dk D 102 rfl) rfl ?_
        refine a_geti (pc := 238) (dk D 103 rfl) cls_12 fl_RX12_426 cf_85_22 ?_
        refine a_top (y := (h6 85 22)) (by simp [up, cpy]) ?_
        refine a_iconst (pc := 241) (dk D 104 rfl) (ik rfl) ?_
        refine a_iadd (pc := 242) (dk D 105 rfl) ?_
        refine a_puti (pc := 243) (dk D 106 rfl) cls_12 fl_RX12_426 cf_85_22 rfl rfl ?_
        refine a_aload_n (pc := 246) (dk D 107 rfl) rfl ?_
        refine a_geti (pc := 247) (dk D 108 rfl) cls_12 fl_RX12_474 cf_85_57 ?_
        refine a_top (y := (h6 85 57)) (by simp [up, cpy]) ?_
        refine a_if_ne (pc := 250) (dk D 109 rfl) (tgt := 257) rfl ⟨fun c => ?_, fun c => ?_⟩
        · replace H := H.1 c
          refine a_iconst (pc := 257) (dk D 112 rfl) (ik rfl) ?_
          exact a_zret (pc := 258) (dk D 113 rfl) rfl rfl ⟨by decide, H⟩
        · replace H := H.2 c
          refine a_iconst (pc := 253) (dk D 110 rfl) (ik rfl) ?_
          refine a_goto (pc := 254) (dk D 111 rfl) (tgt := 258) rfl ?_
          exact a_zret (pc := 258) (dk D 113 rfl) rfl rfl ⟨by decide, H⟩
  have B4 : ((h 103 x1) = 8) → AT G m_X12_act 175 [(0, rv 85), (1, iv x1)] [] (up h 85 57 0) Φ := by
    intro c
    replace H := H.2.2.2.2.1 c
    refine a_aload_n (pc := 175) (dk D 68 rfl) rfl ?_
    refine a_aload_n (pc := 176) (dk D 69 rfl) rfl ?_
    refine a_getr (r := 104) (pc := 177) (dk D 70 rfl) cls_12 fl_RX12_144 cf_85_38 ?_
    refine a_iload_n (pc := 180) (dk D 71 rfl) rfl ?_
    refine a_iald (pc := 181) (dk D 72 rfl) ar_105 ⟨H.1, ?_⟩
    replace H := H.2
    refine a_top (y := (h 105 x1)) (by simp [up, cpy]) ?_
    refine a_callVv (as := [iv (h 105 x1)]) (st := []) (pc := 182) (dk D 73 rfl) cl_RX12_481 ⟨Nat.le_of_ble_eq_true rfl, Nat.le_of_ble_eq_true rfl⟩ ⟨Nat.le_of_ble_eq_true rfl, Nat.le_of_ble_eq_true rfl⟩ cls_12 rfl cc_85 rfl rfl rfl (Nat.le_of_ble_eq_true rfl) (Call.mono H fun _ h8 H => ?_)
    refine a_goto (pc := 185) (dk D 74 rfl) (tgt := 229) rfl ?_
    refine a_aload_n (pc := 229) (dk D 98 rfl) rfl ?_
    refine a_geti (pc := 230) (dk D 99 rfl) cls_12 fl_RX12_474 cf_85_57 ?_
    refine a_if_eq (pc := 233) (dk D 100 rfl) (tgt := 246) rfl ⟨fun c => ?_, fun c => ?_⟩
    · replace H := H.1 c
      refine a_aload_n (pc := 246) (dk D 107 rfl) rfl ?_
      refine a_geti (pc := 247) (dk D 108 rfl) cls_12 fl_RX12_474 cf_85_57 ?_
      refine a_if_ne (pc := 250) (dk D 109 rfl) (tgt := 257) rfl ⟨fun c => ?_, fun c => ?_⟩
      · replace H := H.1 c
        refine a_iconst (pc := 257) (dk D 112 rfl) (ik rfl) ?_
        exact a_zret (pc := 258) (dk D 113 rfl) rfl rfl ⟨by decide, H⟩
      · replace H := H.2 c
        refine a_iconst (pc := 253) (dk D 110 rfl) (ik rfl) ?_
        refine a_goto (pc := 254) (dk D 111 rfl) (tgt := 258) rfl ?_
        exact a_zret (pc := 258) (dk D 113 rfl) rfl rfl ⟨by decide, H⟩
    · replace H := H.2 c
      refine a_aload_n (pc := 236) (dk D 101 rfl) rfl ?_
      refine a_dup (pc := 237) (dk D 102 rfl) rfl ?_
      refine a_geti (pc := 238) (dk D 103 rfl) cls_12 fl_RX12_426 cf_85_22 ?_
      refine a_iconst (pc := 241) (dk D 104 rfl) (ik rfl) ?_
      refine a_iadd (pc := 242) (dk D 105 rfl) ?_
      refine a_puti (pc := 243) (dk D 106 rfl) cls_12 fl_RX12_426 cf_85_22 rfl rfl ?_
      refine a_aload_n (pc := 246) (dk D 107 rfl) rfl ?_
      refine a_geti (pc := 247) (dk D 108 rfl) cls_12 fl_RX12_474 cf_85_57 ?_
      refine a_top (y := (h8 85 57)) (by simp [up, cpy]) ?_
      refine a_if_ne (pc := 250) (dk D 109 rfl) (tgt := 257) rfl ⟨fun c => ?_, fun c => ?_⟩
      · replace H := H.1 c
        refine a_iconst (pc := 257) (dk D 112 rfl) (ik rfl) ?_
        exact a_zret (pc := 258) (dk D 113 rfl) rfl rfl ⟨by decide, H⟩
      · replace H := H.2 c
        refine a_iconst (pc := 253) (dk D 110 rfl) (ik rfl) ?_
        refine a_goto (pc := 254) (dk D 111 rfl) (tgt := 258) rfl ?_
        exact a_zret (pc := 258) (dk D 113 rfl) rfl rfl ⟨by decide, H⟩
  have B5 : ((h 103 x1) = 9) → AT G m_X12_act 188 [(0, rv 85), (1, iv x1)] [] (up h 85 57 0) Φ := by
    intro c
    replace H := H.2.2.2.2.2.1 c
    refine a_aload_n (pc := 188) (dk D 75 rfl) rfl ?_
    refine a_aload_n (pc := 189) (dk D 76 rfl) rfl ?_
    refine a_getr (r := 104) (pc := 190) (dk D 77 rfl) cls_12 fl_RX12_144 cf_85_38 ?_
    refine a_iload_n (pc := 193) (dk D 78 rfl) rfl ?_
    refine a_iald (pc := 194) (dk D 79 rfl) ar_105 ⟨H.1, ?_⟩
    replace H := H.2
    refine a_top (y := (h 105 x1)) (by simp [up, cpy]) ?_
    refine a_callVv (as := [iv (h 105 x1)]) (st := []) (pc := 195) (dk D 80 rfl) cl_RX12_483 ⟨Nat.le_of_ble_eq_true rfl, Nat.le_of_ble_eq_true rfl⟩ ⟨Nat.le_of_ble_eq_true rfl, Nat.le_of_ble_eq_true rfl⟩ cls_12 rfl cc_85 rfl rfl rfl (Nat.le_of_ble_eq_true rfl) (Call.mono H fun _ h10 H => ?_)
    refine a_goto (pc := 198) (dk D 81 rfl) (tgt := 229) rfl ?_
    refine a_aload_n (pc := 229) (dk D 98 rfl) rfl ?_
    refine a_geti (pc := 230) (dk D 99 rfl) cls_12 fl_RX12_474 cf_85_57 ?_
    refine a_if_eq (pc := 233) (dk D 100 rfl) (tgt := 246) rfl ⟨fun c => ?_, fun c => ?_⟩
    · replace H := H.1 c
      refine a_aload_n (pc := 246) (dk D 107 rfl) rfl ?_
      refine a_geti (pc := 247) (dk D 108 rfl) cls_12 fl_RX12_474 cf_85_57 ?_
      refine a_if_ne (pc := 250) (dk D 109 rfl) (tgt := 257) rfl ⟨fun c => ?_, fun c => ?_⟩
      · replace H := H.1 c
        refine a_iconst (pc := 257) (dk D 112 rfl) (ik rfl) ?_
        exact a_zret (pc := 258) (dk D 113 rfl) rfl rfl ⟨by decide, H⟩
      · replace H := H.2 c
        refine a_iconst (pc := 253) (dk D 110 rfl) (ik rfl) ?_
        refine a_goto (pc := 254) (dk D 111 rfl) (tgt := 258) rfl ?_
        exact a_zret (pc := 258) (dk D 113 rfl) rfl rfl ⟨by decide, H⟩
    · replace H := H.2 c
      refine a_aload_n (pc := 236) (dk D 101 rfl) rfl ?_
      refine a_dup (pc := 237) (dk D 102 rfl) rfl ?_
      refine a_geti (pc := 238) (dk D 103 rfl) cls_12 fl_RX12_426 cf_85_22 ?_
      refine a_iconst (pc := 241) (dk D 104 rfl) (ik rfl) ?_
      refine a_iadd (pc := 242) (dk D 105 rfl) ?_
      refine a_puti (pc := 243) (dk D 106 rfl) cls_12 fl_RX12_426 cf_85_22 rfl rfl ?_
      refine a_aload_n (pc := 246) (dk D 107 rfl) rfl ?_
      refine a_geti (pc := 247) (dk D 108 rfl) cls_12 fl_RX12_474 cf_85_57 ?_
      refine a_top (y := (h10 85 57)) (by simp [up, cpy]) ?_
      refine a_if_ne (pc := 250) (dk D 109 rfl) (tgt := 257) rfl ⟨fun c => ?_, fun c => ?_⟩
      · replace H := H.1 c
        refine a_iconst (pc := 257) (dk D 112 rfl) (ik rfl) ?_
        exact a_zret (pc := 258) (dk D 113 rfl) rfl rfl ⟨by decide, H⟩
      · replace H := H.2 c
        refine a_iconst (pc := 253) (dk D 110 rfl) (ik rfl) ?_
        refine a_goto (pc := 254) (dk D 111 rfl) (tgt := 258) rfl ?_
        exact a_zret (pc := 258) (dk D 113 rfl) rfl rfl ⟨by decide, H⟩
  have B6 : ((h 103 x1) = 10) → AT G m_X12_act 201 [(0, rv 85), (1, iv x1)] [] (up h 85 57 0) Φ := by
    intro c
    replace H := H.2.2.2.2.2.2.1 c
    refine a_aload_n (pc := 201) (dk D 82 rfl) rfl ?_
    refine a_aload_n (pc := 202) (dk D 83 rfl) rfl ?_
    refine a_getr (r := 103) (pc := 203) (dk D 84 rfl) cls_12 fl_RX12_141 cf_85_37 ?_
    refine a_iload_n (pc := 206) (dk D 85 rfl) rfl ?_
    refine a_iald (pc := 207) (dk D 86 rfl) ar_104 ⟨H.1, ?_⟩
    replace H := H.2
    refine a_top (y := (h 104 x1)) (by simp [up, cpy]) ?_
    refine a_callVv (as := [iv (h 104 x1)]) (st := []) (pc := 208) (dk D 87 rfl) cl_RX12_486 ⟨Nat.le_of_ble_eq_true rfl, Nat.le_of_ble_eq_true rfl⟩ ⟨Nat.le_of_ble_eq_true rfl, Nat.le_of_ble_eq_true rfl⟩ cls_12 rfl cc_85 rfl rfl rfl (Nat.le_of_ble_eq_true rfl) (Call.mono H fun _ h12 H => ?_)
    refine a_goto (pc := 211) (dk D 88 rfl) (tgt := 229) rfl ?_
    refine a_aload_n (pc := 229) (dk D 98 rfl) rfl ?_
    refine a_geti (pc := 230) (dk D 99 rfl) cls_12 fl_RX12_474 cf_85_57 ?_
    refine a_if_eq (pc := 233) (dk D 100 rfl) (tgt := 246) rfl ⟨fun c => ?_, fun c => ?_⟩
    · replace H := H.1 c
      refine a_aload_n (pc := 246) (dk D 107 rfl) rfl ?_
      refine a_geti (pc := 247) (dk D 108 rfl) cls_12 fl_RX12_474 cf_85_57 ?_
      refine a_if_ne (pc := 250) (dk D 109 rfl) (tgt := 257) rfl ⟨fun c => ?_, fun c => ?_⟩
      · replace H := H.1 c
        refine a_iconst (pc := 257) (dk D 112 rfl) (ik rfl) ?_
        exact a_zret (pc := 258) (dk D 113 rfl) rfl rfl ⟨by decide, H⟩
      · replace H := H.2 c
        refine a_iconst (pc := 253) (dk D 110 rfl) (ik rfl) ?_
        refine a_goto (pc := 254) (dk D 111 rfl) (tgt := 258) rfl ?_
        exact a_zret (pc := 258) (dk D 113 rfl) rfl rfl ⟨by decide, H⟩
    · replace H := H.2 c
      refine a_aload_n (pc := 236) (dk D 101 rfl) rfl ?_
      refine a_dup (pc := 237) (dk D 102 rfl) rfl ?_
      refine a_geti (pc := 238) (dk D 103 rfl) cls_12 fl_RX12_426 cf_85_22 ?_
      refine a_iconst (pc := 241) (dk D 104 rfl) (ik rfl) ?_
      refine a_iadd (pc := 242) (dk D 105 rfl) ?_
      refine a_puti (pc := 243) (dk D 106 rfl) cls_12 fl_RX12_426 cf_85_22 rfl rfl ?_
      refine a_aload_n (pc := 246) (dk D 107 rfl) rfl ?_
      refine a_geti (pc := 247) (dk D 108 rfl) cls_12 fl_RX12_474 cf_85_57 ?_
      refine a_top (y := (h12 85 57)) (by simp [up, cpy]) ?_
      refine a_if_ne (pc := 250) (dk D 109 rfl) (tgt := 257) rfl ⟨fun c => ?_, fun c => ?_⟩
      · replace H := H.1 c
        refine a_iconst (pc := 257) (dk D 112 rfl) (ik rfl) ?_
        exact a_zret (pc := 258) (dk D 113 rfl) rfl rfl ⟨by decide, H⟩
      · replace H := H.2 c
        refine a_iconst (pc := 253) (dk D 110 rfl) (ik rfl) ?_
        refine a_goto (pc := 254) (dk D 111 rfl) (tgt := 258) rfl ?_
        exact a_zret (pc := 258) (dk D 113 rfl) rfl rfl ⟨by decide, H⟩
  have B7 : ((h 103 x1) = 11) → AT G m_X12_act 214 [(0, rv 85), (1, iv x1)] [] (up h 85 57 0) Φ := by
    intro c
    replace H := H.2.2.2.2.2.2.2.1 c
    refine a_aload_n (pc := 214) (dk D 89 rfl) rfl ?_
    refine a_getr (r := 115) (pc := 215) (dk D 90 rfl) cls_12 fl_RX12_177 cf_85_49 ?_
    refine a_aload_n (pc := 218) (dk D 91 rfl) rfl ?_
    refine a_getr (r := 103) (pc := 219) (dk D 92 rfl) cls_12 fl_RX12_141 cf_85_37 ?_
    refine a_iload_n (pc := 222) (dk D 93 rfl) rfl ?_
    refine a_iald (pc := 223) (dk D 94 rfl) ar_104 ⟨H.1, ?_⟩
    replace H := H.2
    refine a_top (y := (h 104 x1)) (by simp [up, cpy]) ?_
    refine a_iconst (pc := 224) (dk D 95 rfl) (ik rfl) ?_
    refine a_iast (pc := 225) (dk D 96 rfl) ar_116 ⟨H.1, ?_⟩
    replace H := H.2
    refine a_goto (pc := 226) (dk D 97 rfl) (tgt := 229) rfl ?_
    refine a_aload_n (pc := 229) (dk D 98 rfl) rfl ?_
    refine a_geti (pc := 230) (dk D 99 rfl) cls_12 fl_RX12_474 cf_85_57 ?_
    refine a_top (y := 0) (by simp [up, cpy]) ?_
    refine a_if_eq (pc := 233) (dk D 100 rfl) (tgt := 246) rfl ⟨fun _ => ?_, fun c => absurd c (by decide)⟩
    refine a_aload_n (pc := 246) (dk D 107 rfl) rfl ?_
    refine a_geti (pc := 247) (dk D 108 rfl) cls_12 fl_RX12_474 cf_85_57 ?_
    refine a_top (y := 0) (by simp [up, cpy]) ?_
    refine a_if_ne (pc := 250) (dk D 109 rfl) (tgt := 257) rfl ⟨fun c => absurd c (by decide), fun _ => ?_⟩
    refine a_iconst (pc := 253) (dk D 110 rfl) (ik rfl) ?_
    refine a_goto (pc := 254) (dk D 111 rfl) (tgt := 258) rfl ?_
    exact a_zret (pc := 258) (dk D 113 rfl) rfl rfl ⟨by decide, H⟩
  have BD : (((h 103 x1) < 0 ∨ 11 < (h 103 x1)) ∨ (h 103 x1) = 2 ∨ (h 103 x1) = 3 ∨ (h 103 x1) = 4 ∨ (h 103 x1) = 5) → AT G m_X12_act 229 [(0, rv 85), (1, iv x1)] [] (up h 85 57 0) Φ := by
    intro c
    replace H := H.2.2.2.2.2.2.2.2 c
    refine a_aload_n (pc := 229) (dk D 98 rfl) rfl ?_
    refine a_geti (pc := 230) (dk D 99 rfl) cls_12 fl_RX12_474 cf_85_57 ?_
    refine a_top (y := 0) (by simp [up, cpy]) ?_
    refine a_if_eq (pc := 233) (dk D 100 rfl) (tgt := 246) rfl ⟨fun _ => ?_, fun c => absurd c (by decide)⟩
    refine a_aload_n (pc := 246) (dk D 107 rfl) rfl ?_
    refine a_geti (pc := 247) (dk D 108 rfl) cls_12 fl_RX12_474 cf_85_57 ?_
    refine a_top (y := 0) (by simp [up, cpy]) ?_
    refine a_if_ne (pc := 250) (dk D 109 rfl) (tgt := 257) rfl ⟨fun c => absurd c (by decide), fun _ => ?_⟩
    refine a_iconst (pc := 253) (dk D 110 rfl) (ik rfl) ?_
    refine a_goto (pc := 254) (dk D 111 rfl) (tgt := 258) rfl ?_
    exact a_zret (pc := 258) (dk D 113 rfl) rfl rfl ⟨by decide, H⟩
  exact a_tsw [72, 87, 229, 229, 229, 229, 102, 125, 175, 188, 201, 214] (pc := 11) (dk D 7 rfl) (by decide) (dt := 229) rfl (by decide) ⟨⟨fun c => B0 (c), fun c => B1 (c), fun c => BD (Or.inr (Or.inl c)), fun c => BD (Or.inr (Or.inr (Or.inl c))), fun c => BD (Or.inr (Or.inr (Or.inr (Or.inl c)))), fun c => BD (Or.inr (Or.inr (Or.inr (Or.inr (c))))), fun c => B2 (c), fun c => B3 (c), fun c => B4 (c), fun c => B5 (c), fun c => B6 (c), fun c => B7 (c), trivial⟩, fun c => BD (Or.inl c)⟩
set_option maxHeartbeats 40000000 in
theorem T_X12_ready_85_0 {G : GG} {Φ : Int → Hp → Prop} {h : Hp} {x1 : Int} (H : (0 ≤ (w32 (30 * x1)) ∧ (w32 (30 * x1)) < 240) ∧ (((h 109 (w32 (30 * x1))) ≠ (-1) → AT G m_X12_ready 16 [(0, rv 85), (1, iv x1), (2, iv 0)] [] h Φ) ∧ ((h 109 (w32 (30 * x1))) = (-1) → Φ 0 h))) : AT G m_X12_ready 0 [(0, rv 85), (1, iv x1)] [] h Φ := by
  have D := dt_X12_ready
  refine a_aload_n (pc := 0) (dk D 0 rfl) rfl ?_
  refine a_getr (r := 108) (pc := 1) (dk D 1 rfl) cls_12 fl_RX12_156 cf_85_42 ?_
  refine a_bipush (pc := 4) (dk D 2 rfl) (ik rfl) (bpk rfl) ?_
  refine a_iload_n (pc := 6) (dk D 3 rfl) rfl ?_
  refine a_imul (pc := 7) (dk D 4 rfl) ?_
  refine a_iald (pc := 8) (dk D 5 rfl) ar_109 ⟨H.1, ?_⟩
  replace H := H.2
  refine a_iconst (pc := 9) (dk D 6 rfl) (ik rfl) ?_
  refine a_icmp_ne (pc := 10) (dk D 7 rfl) (tgt := 14) rfl ⟨fun c => ?_, fun c => ?_⟩
  · replace H := H.1 c
    refine a_iconst (pc := 14) (dk D 9 rfl) (ik rfl) ?_
    refine a_istore_n (pc := 15) (dk D 10 rfl) (by decide) rfl rfl ?_
    exact a_pick [0, 1, 2] rfl H
  · replace H := H.2 c
    exact a_vret (pc := 13) (dk D 8 rfl) rfl rfl H
set_option maxHeartbeats 40000000 in
theorem T_X12_ready_85_16 {G : GG} {Φ : Int → Hp → Prop} {h : Hp} {x1 : Int} {x2 : Int} (H : ((30 ≤ x2 → AT G m_X12_ready 124 [(0, rv 85), (1, iv x1), (2, iv x2), (3, iv 0)] [] h Φ) ∧ (x2 < 30 → (0 ≤ (w32 ((w32 (30 * x1)) + x2)) ∧ (w32 ((w32 (30 * x1)) + x2)) < 240) ∧ (((h 109 (w32 ((w32 (30 * x1)) + x2))) = (-1) → AT G m_X12_ready 124 [(0, rv 85), (1, iv x1), (2, iv x2), (3, iv 0)] [] h Φ) ∧ ((h 109 (w32 ((w32 (30 * x1)) + x2))) ≠ (-1) → (0 ≤ (w32 ((w32 (30 * x1)) + x2)) ∧ (w32 ((w32 (30 * x1)) + x2)) < 240) ∧ (0 ≤ (w32 ((w32 (30 * x1)) + x2)) ∧ (w32 ((w32 (30 * x1)) + x2)) < 260) ∧ (0 ≤ (w32 ((w32 (30 * x1)) + x2)) ∧ (w32 ((w32 (30 * x1)) + x2)) < 240) ∧ (0 ≤ (w32 ((w32 (30 * x1)) + x2)) ∧ (w32 ((w32 (30 * x1)) + x2)) < 260) ∧ (0 ≤ (w32 ((w32 (30 * x1)) + x2)) ∧ (w32 ((w32 (30 * x1)) + x2)) < 240) ∧ (0 ≤ (w32 ((w32 (30 * x1)) + x2)) ∧ (w32 ((w32 (30 * x1)) + x2)) < 260) ∧ (0 ≤ (w32 ((w32 (30 * x1)) + x2)) ∧ (w32 ((w32 (30 * x1)) + x2)) < 240) ∧ (0 ≤ (w32 ((w32 (30 * x1)) + x2)) ∧ (w32 ((w32 (30 * x1)) + x2)) < 260) ∧ (0 ≤ (w32 ((w32 (30 * x1)) + x2)) ∧ (w32 ((w32 (30 * x1)) + x2)) < 240) ∧ (0 ≤ (w32 ((w32 (30 * x1)) + x2)) ∧ (w32 ((w32 (30 * x1)) + x2)) < 260) ∧ (0 ≤ (w32 ((w32 (30 * x1)) + x2)) ∧ (w32 ((w32 (30 * x1)) + x2)) < 240) ∧ (0 ≤ (w32 ((w32 (30 * x1)) + x2)) ∧ (w32 ((w32 (30 * x1)) + x2)) < 260) ∧ AT G m_X12_ready 16 [(0, rv 85), (1, iv x1), (2, iv (w32 (x2 + 1)))] [] (up (up (up (up (up (up h 103 (w32 ((w32 (30 * x1)) + x2)) (h 109 (w32 ((w32 (30 * x1)) + x2)))) 104 (w32 ((w32 (30 * x1)) + x2)) (h 110 (w32 ((w32 (30 * x1)) + x2)))) 105 (w32 ((w32 (30 * x1)) + x2)) (h 111 (w32 ((w32 (30 * x1)) + x2)))) 106 (w32 ((w32 (30 * x1)) + x2)) (h 112 (w32 ((w32 (30 * x1)) + x2)))) 107 (w32 ((w32 (30 * x1)) + x2)) (h 113 (w32 ((w32 (30 * x1)) + x2)))) 108 (w32 ((w32 (30 * x1)) + x2)) (h 114 (w32 ((w32 (30 * x1)) + x2)))) Φ))))) : AT G m_X12_ready 16 [(0, rv 85), (1, iv x1), (2, iv x2)] [] h Φ := by
  have D := dt_X12_ready
  refine a_iload_n (pc := 16) (dk D 11 rfl) rfl ?_
  refine a_bipush (pc := 17) (dk D 12 rfl) (ik rfl) (bpk rfl) ?_
  refine a_icmp_ge (pc := 19) (dk D 13 rfl) (tgt := 122) rfl ⟨fun c => ?_, fun c => ?_⟩
  · replace H := H.1 c
    refine a_iconst (pc := 122) (dk D 80 rfl) (ik rfl) ?_
    refine a_istore_n (pc := 123) (dk D 81 rfl) (by decide) rfl rfl ?_
    exact a_pick [0, 1, 2, 3] rfl H
  · replace H := H.2 c
    refine a_aload_n (pc := 22) (dk D 14 rfl) rfl ?_
    refine a_getr (r := 108) (pc := 23) (dk D 15 rfl) cls_12 fl_RX12_156 cf_85_42 ?_
    refine a_bipush (pc := 26) (dk D 16 rfl) (ik rfl) (bpk rfl) ?_
    refine a_iload_n (pc := 28) (dk D 17 rfl) rfl ?_
    refine a_imul (pc := 29) (dk D 18 rfl) ?_
    refine a_iload_n (pc := 30) (dk D 19 rfl) rfl ?_
    refine a_iadd (pc := 31) (dk D 20 rfl) ?_
    refine a_iald (pc := 32) (dk D 21 rfl) ar_109 ⟨H.1, ?_⟩
    replace H := H.2
    refine a_iconst (pc := 33) (dk D 22 rfl) (ik rfl) ?_
    refine a_icmp_eq (pc := 34) (dk D 23 rfl) (tgt := 122) rfl ⟨fun c => ?_, fun c => ?_⟩
    · replace H := H.1 c
      refine a_iconst (pc := 122) (dk D 80 rfl) (ik rfl) ?_
      refine a_istore_n (pc := 123) (dk D 81 rfl) (by decide) rfl rfl ?_
      exact a_pick [0, 1, 2, 3] rfl H
    · replace H := H.2 c
      refine a_bipush (pc := 37) (dk D 24 rfl) (ik rfl) (bpk rfl) ?_
      refine a_iload_n (pc := 39) (dk D 25 rfl) rfl ?_
      refine a_imul (pc := 40) (dk D 26 rfl) ?_
      refine a_iload_n (pc := 41) (dk D 27 rfl) rfl ?_
      refine a_iadd (pc := 42) (dk D 28 rfl) ?_
      refine a_istore_n (pc := 43) (dk D 29 rfl) (by decide) rfl rfl ?_
      refine a_aload_n (pc := 44) (dk D 30 rfl) rfl ?_
      refine a_getr (r := 102) (pc := 45) (dk D 31 rfl) cls_12 fl_RX12_138 cf_85_36 ?_
      refine a_iload_n (pc := 48) (dk D 32 rfl) rfl ?_
      refine a_aload_n (pc := 49) (dk D 33 rfl) rfl ?_
      refine a_getr (r := 108) (pc := 50) (dk D 34 rfl) cls_12 fl_RX12_156 cf_85_42 ?_
      refine a_iload_n (pc := 53) (dk D 35 rfl) rfl ?_
      refine a_iald (pc := 54) (dk D 36 rfl) ar_109 ⟨H.1, ?_⟩
      replace H := H.2
      refine a_iast (pc := 55) (dk D 37 rfl) ar_103 ⟨H.1, ?_⟩
      replace H := H.2
      refine a_aload_n (pc := 56) (dk D 38 rfl) rfl ?_
      refine a_getr (r := 103) (pc := 57) (dk D 39 rfl) cls_12 fl_RX12_141 cf_85_37 ?_
      refine a_iload_n (pc := 60) (dk D 40 rfl) rfl ?_
      refine a_aload_n (pc := 61) (dk D 41 rfl) rfl ?_
      refine a_getr (r := 109) (pc := 62) (dk D 42 rfl) cls_12 fl_RX12_159 cf_85_43 ?_
      refine a_iload_n (pc := 65) (dk D 43 rfl) rfl ?_
      refine a_iald (pc := 66) (dk D 44 rfl) ar_110 ⟨H.1, ?_⟩
      replace H := H.2
      refine a_top (y := (h 110 (w32 ((w32 (30 * x1)) + x2)))) (by simp [up, cpy]) ?_
      refine a_iast (pc := 67) (dk D 45 rfl) ar_104 ⟨H.1, ?_⟩
      replace H := H.2
      refine a_aload_n (pc := 68) (dk D 46 rfl) rfl ?_
      refine a_getr (r := 104) (pc := 69) (dk D 47 rfl) cls_12 fl_RX12_144 cf_85_38 ?_
      refine a_iload_n (pc := 72) (dk D 48 rfl) rfl ?_
      refine a_aload_n (pc := 73) (dk D 49 rfl) rfl ?_
      refine a_getr (r := 110) (pc := 74) (dk D 50 rfl) cls_12 fl_RX12_162 cf_85_44 ?_
      refine a_iload_n (pc := 77) (dk D 51 rfl) rfl ?_
      refine a_iald (pc := 78) (dk D 52 rfl) ar_111 ⟨H.1, ?_⟩
      replace H := H.2
      refine a_top (y := (h 111 (w32 ((w32 (30 * x1)) + x2)))) (by simp [up, cpy]) ?_
      refine a_iast (pc := 79) (dk D 53 rfl) ar_105 ⟨H.1, ?_⟩
      replace H := H.2
      refine a_aload_n (pc := 80) (dk D 54 rfl) rfl ?_
      refine a_getr (r := 105) (pc := 81) (dk D 55 rfl) cls_12 fl_RX12_147 cf_85_39 ?_
      refine a_iload_n (pc := 84) (dk D 56 rfl) rfl ?_
      refine a_aload_n (pc := 85) (dk D 57 rfl) rfl ?_
      refine a_getr (r := 111) (pc := 86) (dk D 58 rfl) cls_12 fl_RX12_165 cf_85_45 ?_
      refine a_iload_n (pc := 89) (dk D 59 rfl) rfl ?_
      refine a_iald (pc := 90) (dk D 60 rfl) ar_112 ⟨H.1, ?_⟩
      replace H := H.2
      refine a_top (y := (h 112 (w32 ((w32 (30 * x1)) + x2)))) (by simp [up, cpy]) ?_
      refine a_iast (pc := 91) (dk D 61 rfl) ar_106 ⟨H.1, ?_⟩
      replace H := H.2
      refine a_aload_n (pc := 92) (dk D 62 rfl) rfl ?_
      refine a_getr (r := 106) (pc := 93) (dk D 63 rfl) cls_12 fl_RX12_150 cf_85_40 ?_
      refine a_iload_n (pc := 96) (dk D 64 rfl) rfl ?_
      refine a_aload_n (pc := 97) (dk D 65 rfl) rfl ?_
      refine a_getr (r := 112) (pc := 98) (dk D 66 rfl) cls_12 fl_RX12_168 cf_85_46 ?_
      refine a_iload_n (pc := 101) (dk D 67 rfl) rfl ?_
      refine a_iald (pc := 102) (dk D 68 rfl) ar_113 ⟨H.1, ?_⟩
      replace H := H.2
      refine a_top (y := (h 113 (w32 ((w32 (30 * x1)) + x2)))) (by simp [up, cpy]) ?_
      refine a_iast (pc := 103) (dk D 69 rfl) ar_107 ⟨H.1, ?_⟩
      replace H := H.2
      refine a_aload_n (pc := 104) (dk D 70 rfl) rfl ?_
      refine a_getr (r := 107) (pc := 105) (dk D 71 rfl) cls_12 fl_RX12_153 cf_85_41 ?_
      refine a_iload_n (pc := 108) (dk D 72 rfl) rfl ?_
      refine a_aload_n (pc := 109) (dk D 73 rfl) rfl ?_
      refine a_getr (r := 113) (pc := 110) (dk D 74 rfl) cls_12 fl_RX12_171 cf_85_47 ?_
      refine a_iload_n (pc := 113) (dk D 75 rfl) rfl ?_
      refine a_iald (pc := 114) (dk D 76 rfl) ar_114 ⟨H.1, ?_⟩
      replace H := H.2
      refine a_top (y := (h 114 (w32 ((w32 (30 * x1)) + x2)))) (by simp [up, cpy]) ?_
      refine a_iast (pc := 115) (dk D 77 rfl) ar_108 ⟨H.1, ?_⟩
      replace H := H.2
      refine a_iinc (pc := 116) (dk D 78 rfl) (by decide) rfl rfl rfl ?_
      refine a_goto (pc := 119) (dk D 79 rfl) (tgt := 16) rfl ?_
      exact a_pick [0, 1, 2] rfl H
set_option maxHeartbeats 40000000 in
theorem T_X12_ready_85_124 {G : GG} {Φ : Int → Hp → Prop} {h : Hp} {x1 : Int} {x2 : Int} {x3 : Int} (H : ((30 ≤ x3 → (0 ≤ x1 ∧ x1 < 8) ∧ (0 ≤ x1 ∧ x1 < 8) ∧ Φ 0 (up (up h 115 x1 x2) 116 x1 (-1))) ∧ (x3 < 30 → (0 ≤ (w32 ((w32 (30 * x1)) + x3)) ∧ (w32 ((w32 (30 * x1)) + x3)) < 240) ∧ AT G m_X12_ready 124 [(0, rv 85), (1, iv x1), (2, iv x2), (3, iv (w32 (x3 + 1)))] [] (up h 109 (w32 ((w32 (30 * x1)) + x3)) (-1)) Φ))) : AT G m_X12_ready 124 [(0, rv 85), (1, iv x1), (2, iv x2), (3, iv x3)] [] h Φ := by
  have D := dt_X12_ready
  refine a_iload_n (pc := 124) (dk D 82 rfl) rfl ?_
  refine a_bipush (pc := 125) (dk D 83 rfl) (ik rfl) (bpk rfl) ?_
  refine a_icmp_ge (pc := 127) (dk D 84 rfl) (tgt := 148) rfl ⟨fun c => ?_, fun c => ?_⟩
  · replace H := H.1 c
    refine a_aload_n (pc := 148) (dk D 96 rfl) rfl ?_
    refine a_getr (r := 114) (pc := 149) (dk D 97 rfl) cls_12 fl_RX12_174 cf_85_48 ?_
    refine a_iload_n (pc := 152) (dk D 98 rfl) rfl ?_
    refine a_iload_n (pc := 153) (dk D 99 rfl) rfl ?_
    refine a_iast (pc := 154) (dk D 100 rfl) ar_115 ⟨H.1, ?_⟩
    replace H := H.2
    refine a_aload_n (pc := 155) (dk D 101 rfl) rfl ?_
    refine a_getr (r := 115) (pc := 156) (dk D 102 rfl) cls_12 fl_RX12_177 cf_85_49 ?_
    refine a_iload_n (pc := 159) (dk D 103 rfl) rfl ?_
    refine a_iconst (pc := 160) (dk D 104 rfl) (ik rfl) ?_
    refine a_iast (pc := 161) (dk D 105 rfl) ar_116 ⟨H.1, ?_⟩
    replace H := H.2
    exact a_vret (pc := 162) (dk D 106 rfl) rfl rfl H
  · replace H := H.2 c
    refine a_aload_n (pc := 130) (dk D 85 rfl) rfl ?_
    refine a_getr (r := 108) (pc := 131) (dk D 86 rfl) cls_12 fl_RX12_156 cf_85_42 ?_
    refine a_bipush (pc := 134) (dk D 87 rfl) (ik rfl) (bpk rfl) ?_
    refine a_iload_n (pc := 136) (dk D 88 rfl) rfl ?_
    refine a_imul (pc := 137) (dk D 89 rfl) ?_
    refine a_iload_n (pc := 138) (dk D 90 rfl) rfl ?_
    refine a_iadd (pc := 139) (dk D 91 rfl) ?_
    refine a_iconst (pc := 140) (dk D 92 rfl) (ik rfl) ?_
    refine a_iast (pc := 141) (dk D 93 rfl) ar_109 ⟨H.1, ?_⟩
    replace H := H.2
    refine a_iinc (pc := 142) (dk D 94 rfl) (by decide) rfl rfl rfl ?_
    refine a_goto (pc := 145) (dk D 95 rfl) (tgt := 124) rfl ?_
    exact a_pick [0, 1, 2, 3] rfl H
set_option maxHeartbeats 40000000 in
theorem T_X12_areApart_85_0 {G : GG} {Φ : Int → Hp → Prop} {h : Hp} {x1 : Int} {x2 : Int} (H : (0 ≤ x1 ∧ x1 < 12) ∧ (0 ≤ x2 ∧ x2 < 12) ∧ (((h 147 x1) ≠ (h 147 x2) → (0 ≤ x1 ∧ x1 < 12) ∧ (0 ≤ x2 ∧ x2 < 12) ∧ (((w32 ((h 149 x1) + (h 85 103))) ≤ (h 148 x2) → Φ 1 h) ∧ ((h 148 x2) < (w32 ((h 149 x1) + (h 85 103))) → (0 ≤ x2 ∧ x2 < 12) ∧ (0 ≤ x1 ∧ x1 < 12) ∧ (((h 148 x1) < (w32 ((h 149 x2) + (h 85 103))) → Φ 0 h) ∧ ((w32 ((h 149 x2) + (h 85 103))) ≤ (h 148 x1) → Φ 1 h))))) ∧ ((h 147 x1) = (h 147 x2) → (0 ≤ x1 ∧ x1 < 12) ∧ (0 ≤ x2 ∧ x2 < 12) ∧ (((w32 ((h 149 x1) + 0)) ≤ (h 148 x2) → Φ 1 h) ∧ ((h 148 x2) < (w32 ((h 149 x1) + 0)) → (0 ≤ x2 ∧ x2 < 12) ∧ (0 ≤ x1 ∧ x1 < 12) ∧ (((h 148 x1) < (w32 ((h 149 x2) + 0)) → Φ 0 h) ∧ ((w32 ((h 149 x2) + 0)) ≤ (h 148 x1) → Φ 1 h))))))) : AT G m_X12_areApart 0 [(0, rv 85), (1, iv x1), (2, iv x2)] [] h Φ := by
  have D := dt_X12_areApart
  refine a_aload_n (pc := 0) (dk D 0 rfl) rfl ?_
  refine a_getr (r := 146) (pc := 1) (dk D 1 rfl) cls_12 fl_RX12_271 cf_85_98 ?_
  refine a_iload_n (pc := 4) (dk D 2 rfl) rfl ?_
  refine a_iald (pc := 5) (dk D 3 rfl) ar_147 ⟨H.1, ?_⟩
  replace H := H.2
  refine a_aload_n (pc := 6) (dk D 4 rfl) rfl ?_
  refine a_getr (r := 146) (pc := 7) (dk D 5 rfl) cls_12 fl_RX12_271 cf_85_98 ?_
  refine a_iload_n (pc := 10) (dk D 6 rfl) rfl ?_
  refine a_iald (pc := 11) (dk D 7 rfl) ar_147 ⟨H.1, ?_⟩
  replace H := H.2
  refine a_icmp_ne (pc := 12) (dk D 8 rfl) (tgt := 19) rfl ⟨fun c => ?_, fun c => ?_⟩
  · replace H := H.1 c
    refine a_aload_n (pc := 19) (dk D 11 rfl) rfl ?_
    refine a_geti (pc := 20) (dk D 12 rfl) cls_12 fl_RX12_283 cf_85_103 ?_
    refine a_istore_n (pc := 23) (dk D 13 rfl) (by decide) rfl rfl ?_
    refine a_aload_n (pc := 24) (dk D 14 rfl) rfl ?_
    refine a_getr (r := 148) (pc := 25) (dk D 15 rfl) cls_12 fl_RX12_277 cf_85_100 ?_
    refine a_iload_n (pc := 28) (dk D 16 rfl) rfl ?_
    refine a_iald (pc := 29) (dk D 17 rfl) ar_149 ⟨H.1, ?_⟩
    replace H := H.2
    refine a_iload_n (pc := 30) (dk D 18 rfl) rfl ?_
    refine a_iadd (pc := 31) (dk D 19 rfl) ?_
    refine a_aload_n (pc := 32) (dk D 20 rfl) rfl ?_
    refine a_getr (r := 147) (pc := 33) (dk D 21 rfl) cls_12 fl_RX12_274 cf_85_99 ?_
    refine a_iload_n (pc := 36) (dk D 22 rfl) rfl ?_
    refine a_iald (pc := 37) (dk D 23 rfl) ar_148 ⟨H.1, ?_⟩
    replace H := H.2
    refine a_icmp_le (pc := 38) (dk D 24 rfl) (tgt := 58) rfl ⟨fun c => ?_, fun c => ?_⟩
    · replace H := H.1 c
      refine a_iconst (pc := 58) (dk D 36 rfl) (ik rfl) ?_
      refine a_goto (pc := 59) (dk D 37 rfl) (tgt := 63) rfl ?_
      exact a_zret (pc := 63) (dk D 39 rfl) rfl rfl ⟨by decide, H⟩
    · replace H := H.2 c
      refine a_aload_n (pc := 41) (dk D 25 rfl) rfl ?_
      refine a_getr (r := 148) (pc := 42) (dk D 26 rfl) cls_12 fl_RX12_277 cf_85_100 ?_
      refine a_iload_n (pc := 45) (dk D 27 rfl) rfl ?_
      refine a_iald (pc := 46) (dk D 28 rfl) ar_149 ⟨H.1, ?_⟩
      replace H := H.2
      refine a_iload_n (pc := 47) (dk D 29 rfl) rfl ?_
      refine a_iadd (pc := 48) (dk D 30 rfl) ?_
      refine a_aload_n (pc := 49) (dk D 31 rfl) rfl ?_
      refine a_getr (r := 147) (pc := 50) (dk D 32 rfl) cls_12 fl_RX12_274 cf_85_99 ?_
      refine a_iload_n (pc := 53) (dk D 33 rfl) rfl ?_
      refine a_iald (pc := 54) (dk D 34 rfl) ar_148 ⟨H.1, ?_⟩
      replace H := H.2
      refine a_icmp_gt (pc := 55) (dk D 35 rfl) (tgt := 62) rfl ⟨fun c => ?_, fun c => ?_⟩
      · replace H := H.1 c
        refine a_iconst (pc := 62) (dk D 38 rfl) (ik rfl) ?_
        exact a_zret (pc := 63) (dk D 39 rfl) rfl rfl ⟨by decide, H⟩
      · replace H := H.2 c
        refine a_iconst (pc := 58) (dk D 36 rfl) (ik rfl) ?_
        refine a_goto (pc := 59) (dk D 37 rfl) (tgt := 63) rfl ?_
        exact a_zret (pc := 63) (dk D 39 rfl) rfl rfl ⟨by decide, H⟩
  · replace H := H.2 c
    refine a_iconst (pc := 15) (dk D 9 rfl) (ik rfl) ?_
    refine a_goto (pc := 16) (dk D 10 rfl) (tgt := 23) rfl ?_
    refine a_istore_n (pc := 23) (dk D 13 rfl) (by decide) rfl rfl ?_
    refine a_aload_n (pc := 24) (dk D 14 rfl) rfl ?_
    refine a_getr (r := 148) (pc := 25) (dk D 15 rfl) cls_12 fl_RX12_277 cf_85_100 ?_
    refine a_iload_n (pc := 28) (dk D 16 rfl) rfl ?_
    refine a_iald (pc := 29) (dk D 17 rfl) ar_149 ⟨H.1, ?_⟩
    replace H := H.2
    refine a_iload_n (pc := 30) (dk D 18 rfl) rfl ?_
    refine a_iadd (pc := 31) (dk D 19 rfl) ?_
    refine a_aload_n (pc := 32) (dk D 20 rfl) rfl ?_
    refine a_getr (r := 147) (pc := 33) (dk D 21 rfl) cls_12 fl_RX12_274 cf_85_99 ?_
    refine a_iload_n (pc := 36) (dk D 22 rfl) rfl ?_
    refine a_iald (pc := 37) (dk D 23 rfl) ar_148 ⟨H.1, ?_⟩
    replace H := H.2
    refine a_icmp_le (pc := 38) (dk D 24 rfl) (tgt := 58) rfl ⟨fun c => ?_, fun c => ?_⟩
    · replace H := H.1 c
      refine a_iconst (pc := 58) (dk D 36 rfl) (ik rfl) ?_
      refine a_goto (pc := 59) (dk D 37 rfl) (tgt := 63) rfl ?_
      exact a_zret (pc := 63) (dk D 39 rfl) rfl rfl ⟨by decide, H⟩
    · replace H := H.2 c
      refine a_aload_n (pc := 41) (dk D 25 rfl) rfl ?_
      refine a_getr (r := 148) (pc := 42) (dk D 26 rfl) cls_12 fl_RX12_277 cf_85_100 ?_
      refine a_iload_n (pc := 45) (dk D 27 rfl) rfl ?_
      refine a_iald (pc := 46) (dk D 28 rfl) ar_149 ⟨H.1, ?_⟩
      replace H := H.2
      refine a_iload_n (pc := 47) (dk D 29 rfl) rfl ?_
      refine a_iadd (pc := 48) (dk D 30 rfl) ?_
      refine a_aload_n (pc := 49) (dk D 31 rfl) rfl ?_
      refine a_getr (r := 147) (pc := 50) (dk D 32 rfl) cls_12 fl_RX12_274 cf_85_99 ?_
      refine a_iload_n (pc := 53) (dk D 33 rfl) rfl ?_
      refine a_iald (pc := 54) (dk D 34 rfl) ar_148 ⟨H.1, ?_⟩
      replace H := H.2
      refine a_icmp_gt (pc := 55) (dk D 35 rfl) (tgt := 62) rfl ⟨fun c => ?_, fun c => ?_⟩
      · replace H := H.1 c
        refine a_iconst (pc := 62) (dk D 38 rfl) (ik rfl) ?_
        exact a_zret (pc := 63) (dk D 39 rfl) rfl rfl ⟨by decide, H⟩
      · replace H := H.2 c
        refine a_iconst (pc := 58) (dk D 36 rfl) (ik rfl) ?_
        refine a_goto (pc := 59) (dk D 37 rfl) (tgt := 63) rfl ?_
        exact a_zret (pc := 63) (dk D 39 rfl) rfl rfl ⟨by decide, H⟩
set_option maxHeartbeats 40000000 in
theorem T_X12_isField_0 {G : GG} {Φ : Int → Hp → Prop} {h : Hp} {x0 : Int} {x1 : Int} (H : Call G m_X12_is [iv x0, iv 0, iv 23] h (fun r1 h2 => ((r1 = 0 → Φ 0 h2) ∧ (r1 ≠ 0 → Call G m_X12_is [iv x1, iv 0, iv 11] h2 (fun r3 h4 => ((r3 = 0 → Φ 0 h4) ∧ (r3 ≠ 0 → Φ 1 h4))))))) : AT G m_X12_isField 0 [(0, iv x0), (1, iv x1)] [] h Φ := by
  have D := dt_X12_isField
  refine a_iload_n (pc := 0) (dk D 0 rfl) rfl ?_
  refine a_iconst (pc := 1) (dk D 1 rfl) (ik rfl) ?_
  refine a_bipush (pc := 2) (dk D 2 rfl) (ik rfl) (bpk rfl) ?_
  refine a_callSi (as := [iv x0, iv 0, iv 23]) (st := []) (pc := 4) (dk D 3 rfl) cl_RX12_302 ⟨Nat.le_of_ble_eq_true rfl, Nat.le_of_ble_eq_true rfl⟩ ⟨Nat.le_of_ble_eq_true rfl, Nat.le_of_ble_eq_true rfl⟩ rfl rfl rfl (Nat.le_of_ble_eq_true rfl) (Call.mono H fun r1 h2 H => ?_)
  refine a_if_eq (pc := 7) (dk D 4 rfl) (tgt := 24) rfl ⟨fun c => ?_, fun c => ?_⟩
  · replace H := H.1 c
    refine a_iconst (pc := 24) (dk D 12 rfl) (ik rfl) ?_
    exact a_zret (pc := 25) (dk D 13 rfl) rfl rfl ⟨by decide, H⟩
  · replace H := H.2 c
    refine a_iload_n (pc := 10) (dk D 5 rfl) rfl ?_
    refine a_iconst (pc := 11) (dk D 6 rfl) (ik rfl) ?_
    refine a_bipush (pc := 12) (dk D 7 rfl) (ik rfl) (bpk rfl) ?_
    refine a_callSi (as := [iv x1, iv 0, iv 11]) (st := []) (pc := 14) (dk D 8 rfl) cl_RX12_302 ⟨Nat.le_of_ble_eq_true rfl, Nat.le_of_ble_eq_true rfl⟩ ⟨Nat.le_of_ble_eq_true rfl, Nat.le_of_ble_eq_true rfl⟩ rfl rfl rfl (Nat.le_of_ble_eq_true rfl) (Call.mono H fun r3 h4 H => ?_)
    refine a_if_eq (pc := 17) (dk D 9 rfl) (tgt := 24) rfl ⟨fun c => ?_, fun c => ?_⟩
    · replace H := H.1 c
      refine a_iconst (pc := 24) (dk D 12 rfl) (ik rfl) ?_
      exact a_zret (pc := 25) (dk D 13 rfl) rfl rfl ⟨by decide, H⟩
    · replace H := H.2 c
      refine a_iconst (pc := 20) (dk D 10 rfl) (ik rfl) ?_
      refine a_goto (pc := 21) (dk D 11 rfl) (tgt := 25) rfl ?_
      exact a_zret (pc := 25) (dk D 13 rfl) rfl rfl ⟨by decide, H⟩
set_option maxHeartbeats 40000000 in
theorem T_X12_beside_0 {G : GG} {Φ : Int → Hp → Prop} {h : Hp} {x0 : Int} {x1 : Int} (H : (((x1 = 0) → (((w32 (x0.tdiv 24)) ≠ 0 → Φ (w32 (x0 - 24)) h) ∧ ((w32 (x0.tdiv 24)) = 0 → Φ (-1) h))) ∧ ((x1 = 1) → Φ (w32 ((w32 (24 * (w32 (x0.tdiv 24)))) + ((w32 ((w32 ((x0.tmod 24) + 24)) - 1)).tmod 24))) h) ∧ ((x1 = 2) → Φ (w32 ((w32 (24 * (w32 (x0.tdiv 24)))) + ((w32 ((x0.tmod 24) + 1)).tmod 24))) h) ∧ (((x1 < 0 ∨ 2 < x1)) → (((w32 (x0.tdiv 24)) ≠ 11 → Φ (w32 (x0 + 24)) h) ∧ ((w32 (x0.tdiv 24)) = 11 → Φ (-1) h))))) : AT G m_X12_beside 0 [(0, iv x0), (1, iv x1)] [] h Φ := by
  have D := dt_X12_beside
  refine a_iload_n (pc := 0) (dk D 0 rfl) rfl ?_
  refine a_bipush (pc := 1) (dk D 1 rfl) (ik rfl) (bpk rfl) ?_
  refine a_irem (pc := 3) (dk D 2 rfl) ⟨by decide, ?_⟩
  refine a_istore_n (pc := 4) (dk D 3 rfl) (by decide) rfl rfl ?_
  refine a_iload_n (pc := 5) (dk D 4 rfl) rfl ?_
  refine a_bipush (pc := 6) (dk D 5 rfl) (ik rfl) (bpk rfl) ?_
  refine a_idiv (pc := 8) (dk D 6 rfl) ⟨by decide, ?_⟩
  refine a_istore_n (pc := 9) (dk D 7 rfl) (by decide) rfl rfl ?_
  refine a_iload_n (pc := 10) (dk D 8 rfl) rfl ?_
  have B0 : (x1 = 0) → AT G m_X12_beside 36 [(0, iv x0), (1, iv x1), (2, iv (x0.tmod 24)), (3, iv (w32 (x0.tdiv 24)))] [] h Φ := by
    intro c
    replace H := H.1 c
    refine a_iload_n (pc := 36) (dk D 10 rfl) rfl ?_
    refine a_if_ne (pc := 37) (dk D 11 rfl) (tgt := 44) rfl ⟨fun c => ?_, fun c => ?_⟩
    · replace H := H.1 c
      refine a_iload_n (pc := 44) (dk D 14 rfl) rfl ?_
      refine a_bipush (pc := 45) (dk D 15 rfl) (ik rfl) (bpk rfl) ?_
      refine a_isub (pc := 47) (dk D 16 rfl) ?_
      exact a_iret (pc := 48) (dk D 17 rfl) rfl rfl H
    · replace H := H.2 c
      refine a_iconst (pc := 40) (dk D 12 rfl) (ik rfl) ?_
      refine a_goto (pc := 41) (dk D 13 rfl) (tgt := 48) rfl ?_
      exact a_iret (pc := 48) (dk D 17 rfl) rfl rfl H
  have B1 : (x1 = 1) → AT G m_X12_beside 49 [(0, iv x0), (1, iv x1), (2, iv (x0.tmod 24)), (3, iv (w32 (x0.tdiv 24)))] [] h Φ := by
    intro c
    replace H := H.2.1 c
    refine a_bipush (pc := 49) (dk D 18 rfl) (ik rfl) (bpk rfl) ?_
    refine a_iload_n (pc := 51) (dk D 19 rfl) rfl ?_
    refine a_imul (pc := 52) (dk D 20 rfl) ?_
    refine a_iload_n (pc := 53) (dk D 21 rfl) rfl ?_
    refine a_bipush (pc := 54) (dk D 22 rfl) (ik rfl) (bpk rfl) ?_
    refine a_iadd (pc := 56) (dk D 23 rfl) ?_
    refine a_iconst (pc := 57) (dk D 24 rfl) (ik rfl) ?_
    refine a_isub (pc := 58) (dk D 25 rfl) ?_
    refine a_bipush (pc := 59) (dk D 26 rfl) (ik rfl) (bpk rfl) ?_
    refine a_irem (pc := 61) (dk D 27 rfl) ⟨by decide, ?_⟩
    refine a_iadd (pc := 62) (dk D 28 rfl) ?_
    exact a_iret (pc := 63) (dk D 29 rfl) rfl rfl H
  have B2 : (x1 = 2) → AT G m_X12_beside 64 [(0, iv x0), (1, iv x1), (2, iv (x0.tmod 24)), (3, iv (w32 (x0.tdiv 24)))] [] h Φ := by
    intro c
    replace H := H.2.2.1 c
    refine a_bipush (pc := 64) (dk D 30 rfl) (ik rfl) (bpk rfl) ?_
    refine a_iload_n (pc := 66) (dk D 31 rfl) rfl ?_
    refine a_imul (pc := 67) (dk D 32 rfl) ?_
    refine a_iload_n (pc := 68) (dk D 33 rfl) rfl ?_
    refine a_iconst (pc := 69) (dk D 34 rfl) (ik rfl) ?_
    refine a_iadd (pc := 70) (dk D 35 rfl) ?_
    refine a_bipush (pc := 71) (dk D 36 rfl) (ik rfl) (bpk rfl) ?_
    refine a_irem (pc := 73) (dk D 37 rfl) ⟨by decide, ?_⟩
    refine a_iadd (pc := 74) (dk D 38 rfl) ?_
    exact a_iret (pc := 75) (dk D 39 rfl) rfl rfl H
  have BD : ((x1 < 0 ∨ 2 < x1)) → AT G m_X12_beside 76 [(0, iv x0), (1, iv x1), (2, iv (x0.tmod 24)), (3, iv (w32 (x0.tdiv 24)))] [] h Φ := by
    intro c
    replace H := H.2.2.2 c
    refine a_iload_n (pc := 76) (dk D 40 rfl) rfl ?_
    refine a_bipush (pc := 77) (dk D 41 rfl) (ik rfl) (bpk rfl) ?_
    refine a_icmp_ne (pc := 79) (dk D 42 rfl) (tgt := 86) rfl ⟨fun c => ?_, fun c => ?_⟩
    · replace H := H.1 c
      refine a_iload_n (pc := 86) (dk D 45 rfl) rfl ?_
      refine a_bipush (pc := 87) (dk D 46 rfl) (ik rfl) (bpk rfl) ?_
      refine a_iadd (pc := 89) (dk D 47 rfl) ?_
      exact a_iret (pc := 90) (dk D 48 rfl) rfl rfl H
    · replace H := H.2 c
      refine a_iconst (pc := 82) (dk D 43 rfl) (ik rfl) ?_
      refine a_goto (pc := 83) (dk D 44 rfl) (tgt := 90) rfl ?_
      exact a_iret (pc := 90) (dk D 48 rfl) rfl rfl H
  exact a_tsw [36, 49, 64] (pc := 11) (dk D 9 rfl) (by decide) (dt := 76) rfl (by decide) ⟨⟨fun c => B0 (c), fun c => B1 (c), fun c => B2 (c), trivial⟩, fun c => BD (c)⟩
set_option maxHeartbeats 40000000 in
theorem T_X12_here_85_0 {G : GG} {Φ : Int → Hp → Prop} {h : Hp} (H : (((h 85 4) ≤ (h 85 5) → Φ (-1) h) ∧ ((h 85 5) < (h 85 4) → (0 ≤ (h 85 5) ∧ (h 85 5) < 1600) ∧ Φ (h 87 (h 85 5)) h))) : AT G m_X12_here 0 [(0, rv 85)] [] h Φ := by
  have D := dt_X12_here
  refine a_aload_n (pc := 0) (dk D 0 rfl) rfl ?_
  refine a_geti (pc := 1) (dk D 1 rfl) cls_12 fl_RX12_309 cf_85_5 ?_
  refine a_aload_n (pc := 4) (dk D 2 rfl) rfl ?_
  refine a_geti (pc := 5) (dk D 3 rfl) cls_12 fl_RX12_306 cf_85_4 ?_
  refine a_icmp_ge (pc := 8) (dk D 4 rfl) (tgt := 23) rfl ⟨fun c => ?_, fun c => ?_⟩
  · replace H := H.1 c
    refine a_iconst (pc := 23) (dk D 11 rfl) (ik rfl) ?_
    exact a_iret (pc := 24) (dk D 12 rfl) rfl rfl H
  · replace H := H.2 c
    refine a_aload_n (pc := 11) (dk D 5 rfl) rfl ?_
    refine a_getr (r := 86) (pc := 12) (dk D 6 rfl) cls_12 fl_RX12_13 cf_85_1 ?_
    refine a_aload_n (pc := 15) (dk D 7 rfl) rfl ?_
    refine a_geti (pc := 16) (dk D 8 rfl) cls_12 fl_RX12_309 cf_85_5 ?_
    refine a_iald (pc := 19) (dk D 9 rfl) ar_87 ⟨H.1, ?_⟩
    replace H := H.2
    refine a_goto (pc := 20) (dk D 10 rfl) (tgt := 24) rfl ?_
    exact a_iret (pc := 24) (dk D 12 rfl) rfl rfl H
set_option maxHeartbeats 40000000 in
theorem T_X12_isDigit_0 {G : GG} {Φ : Int → Hp → Prop} {h : Hp} {x0 : Int} (H : ((x0 < 48 → Φ 0 h) ∧ (48 ≤ x0 → ((57 < x0 → Φ 0 h) ∧ (x0 ≤ 57 → Φ 1 h))))) : AT G m_X12_isDigit 0 [(0, iv x0)] [] h Φ := by
  have D := dt_X12_isDigit
  refine a_iload_n (pc := 0) (dk D 0 rfl) rfl ?_
  refine a_bipush (pc := 1) (dk D 1 rfl) (ik rfl) (bpk rfl) ?_
  refine a_icmp_lt (pc := 3) (dk D 2 rfl) (tgt := 16) rfl ⟨fun c => ?_, fun c => ?_⟩
  · replace H := H.1 c
    refine a_iconst (pc := 16) (dk D 8 rfl) (ik rfl) ?_
    exact a_zret (pc := 17) (dk D 9 rfl) rfl rfl ⟨by decide, H⟩
  · replace H := H.2 c
    refine a_iload_n (pc := 6) (dk D 3 rfl) rfl ?_
    refine a_bipush (pc := 7) (dk D 4 rfl) (ik rfl) (bpk rfl) ?_
    refine a_icmp_gt (pc := 9) (dk D 5 rfl) (tgt := 16) rfl ⟨fun c => ?_, fun c => ?_⟩
    · replace H := H.1 c
      refine a_iconst (pc := 16) (dk D 8 rfl) (ik rfl) ?_
      exact a_zret (pc := 17) (dk D 9 rfl) rfl rfl ⟨by decide, H⟩
    · replace H := H.2 c
      refine a_iconst (pc := 12) (dk D 6 rfl) (ik rfl) ?_
      refine a_goto (pc := 13) (dk D 7 rfl) (tgt := 17) rfl ?_
      exact a_zret (pc := 17) (dk D 9 rfl) rfl rfl ⟨by decide, H⟩
set_option maxHeartbeats 40000000 in
theorem T_X12_round_0 {G : GG} {Φ : Int → Hp → Prop} {h : Hp} {x0 : Int} (H : Φ (w32 ((w64 ((x0.tmod 3600) + 3600)).tmod 3600)) h) : AT G m_X12_round 0 [(0, jv x0)] [] h Φ := by
  have D := dt_X12_round
  refine a_lload_n (pc := 0) (dk D 0 rfl) rfl ?_
  refine a_ldc2 (n := 3600) (pc := 1) (dk D 1 rfl) (jk rfl) co_RX12_396 ?_
  refine a_lrem (pc := 4) (dk D 2 rfl) ⟨by decide, ?_⟩
  refine a_ldc2 (n := 3600) (pc := 5) (dk D 3 rfl) (jk rfl) co_RX12_396 ?_
  refine a_ladd (pc := 8) (dk D 4 rfl) ?_
  refine a_ldc2 (n := 3600) (pc := 9) (dk D 5 rfl) (jk rfl) co_RX12_396 ?_
  refine a_lrem (pc := 12) (dk D 6 rfl) ⟨by decide, ?_⟩
  refine a_l2i (pc := 13) (dk D 7 rfl) ?_
  exact a_iret (pc := 14) (dk D 8 rfl) rfl rfl H
set_option maxHeartbeats 40000000 in
theorem T_X12_wordOf_85_101_0 {G : GG} {Φ : Int → Hp → Prop} {h : Hp} (H : Call G m_X12_bad [rv 85] h (fun r1 h2 => ((r1 = 0 → Call G m_X12_wordEnd [rv 85] h2 (fun r3 h4 => AT G m_X12_wordOf 16 [(0, rv 85), (1, rv 101), (2, iv r3), (3, iv 0)] [] h4 Φ)) ∧ (r1 ≠ 0 → Φ (-1) h2)))) : AT G m_X12_wordOf 0 [(0, rv 85), (1, rv 101)] [] h Φ := by
  have D := dt_X12_wordOf
  refine a_aload_n (pc := 0) (dk D 0 rfl) rfl ?_
  refine a_callVi (as := []) (st := []) (pc := 1) (dk D 1 rfl) cl_RX12_315 ⟨Nat.le_of_ble_eq_true rfl, Nat.le_of_ble_eq_true rfl⟩ ⟨Nat.le_of_ble_eq_true rfl, Nat.le_of_ble_eq_true rfl⟩ cls_12 rfl cc_85 rfl rfl rfl (Nat.le_of_ble_eq_true rfl) (Call.mono H fun r1 h2 H => ?_)
  refine a_if_eq (pc := 4) (dk D 2 rfl) (tgt := 9) rfl ⟨fun c => ?_, fun c => ?_⟩
  · replace H := H.1 c
    refine a_aload_n (pc := 9) (dk D 5 rfl) rfl ?_
    refine a_callVi (as := []) (st := []) (pc := 10) (dk D 6 rfl) cl_RX12_340 ⟨Nat.le_of_ble_eq_true rfl, Nat.le_of_ble_eq_true rfl⟩ ⟨Nat.le_of_ble_eq_true rfl, Nat.le_of_ble_eq_true rfl⟩ cls_12 rfl cc_85 rfl rfl rfl (Nat.le_of_ble_eq_true rfl) (Call.mono H fun r3 h4 H => ?_)
    refine a_istore_n (pc := 13) (dk D 7 rfl) (by decide) rfl rfl ?_
    refine a_iconst (pc := 14) (dk D 8 rfl) (ik rfl) ?_
    refine a_istore_n (pc := 15) (dk D 9 rfl) (by decide) rfl rfl ?_
    exact a_pick [0, 1, 2, 3] rfl H
  · replace H := H.2 c
    refine a_iconst (pc := 7) (dk D 3 rfl) (ik rfl) ?_
    exact a_iret (pc := 8) (dk D 4 rfl) rfl rfl H
set_option maxHeartbeats 40000000 in
theorem T_X12_wordOf_85_101_16 {G : GG} {Φ : Int → Hp → Prop} {h : Hp} {x2 : Int} {x3 : Int} (H : ((8 ≤ x3 → Call G m_X12_fail [rv 85, iv (h 85 5)] h (fun _ h2 => Φ (-1) h2)) ∧ (x3 < 8 → (0 ≤ x3 ∧ x3 < 8) ∧ (1000 ≤ (rf 101 (x3).toNat) ∧ (rf 101 (x3).toNat) < 1063) ∧ Call G m_J0_length_8abf5 [rv (rf 101 (x3).toNat)] h (fun r3 h4 => (((w32 (x2 - (h 85 5))) ≠ r3 → AT G m_X12_wordOf 47 [(0, rv 85), (1, rv 101), (2, iv x2), (3, iv x3), (4, iv 0), (5, iv 0)] [] h4 Φ) ∧ ((w32 (x2 - (h 85 5))) = r3 → AT G m_X12_wordOf 47 [(0, rv 85), (1, rv 101), (2, iv x2), (3, iv x3), (4, iv 1), (5, iv 0)] [] h4 Φ)))))) : AT G m_X12_wordOf 16 [(0, rv 85), (1, rv 101), (2, iv x2), (3, iv x3)] [] h Φ := by
  have D := dt_X12_wordOf
  refine a_iload_n (pc := 16) (dk D 10 rfl) rfl ?_
  refine a_aload_n (pc := 17) (dk D 11 rfl) rfl ?_
  refine a_alen (pc := 18) (dk D 12 rfl) ar_101 (by decide) ?_
  refine a_icmp_ge (pc := 19) (dk D 13 rfl) (tgt := 117) rfl ⟨fun c => ?_, fun c => ?_⟩
  · replace H := H.1 c
    refine a_aload_n (pc := 117) (dk D 65 rfl) rfl ?_
    refine a_aload_n (pc := 118) (dk D 66 rfl) rfl ?_
    refine a_geti (pc := 119) (dk D 67 rfl) cls_12 fl_RX12_309 cf_85_5 ?_
    refine a_callVv (as := [iv (h 85 5)]) (st := []) (pc := 122) (dk D 68 rfl) cl_RX12_323 ⟨Nat.le_of_ble_eq_true rfl, Nat.le_of_ble_eq_true rfl⟩ ⟨Nat.le_of_ble_eq_true rfl, Nat.le_of_ble_eq_true rfl⟩ cls_12 rfl cc_85 rfl rfl rfl (Nat.le_of_ble_eq_true rfl) (Call.mono H fun _ h2 H => ?_)
    refine a_iconst (pc := 125) (dk D 69 rfl) (ik rfl) ?_
    exact a_iret (pc := 126) (dk D 70 rfl) rfl rfl H
  · replace H := H.2 c
    refine a_iload_n (pc := 22) (dk D 14 rfl) rfl ?_
    refine a_aload_n (pc := 23) (dk D 15 rfl) rfl ?_
    refine a_geti (pc := 24) (dk D 16 rfl) cls_12 fl_RX12_309 cf_85_5 ?_
    refine a_isub (pc := 27) (dk D 17 rfl) ?_
    refine a_aload_n (pc := 28) (dk D 18 rfl) rfl ?_
    refine a_iload_n (pc := 29) (dk D 19 rfl) rfl ?_
    refine a_aald (pc := 30) (dk D 20 rfl) ar_101 (by decide) ⟨H.1, ?_⟩
    replace H := H.2
    have hS := H.1
    replace H := H.2
    refine a_callTi (as := []) (st := [iv (w32 (x2 - (h 85 5)))]) (pc := 31) (dk D 21 rfl) cl_RX12_343 ⟨Nat.le_of_ble_eq_true rfl, Nat.le_of_ble_eq_true rfl⟩ ⟨Nat.le_of_ble_eq_true rfl, Nat.le_of_ble_eq_true rfl⟩ hS rfl rfl rfl rfl (Nat.le_of_ble_eq_true rfl) (Call.mono H fun r3 h4 H => ?_)
    refine a_icmp_ne (pc := 34) (dk D 22 rfl) (tgt := 41) rfl ⟨fun c => ?_, fun c => ?_⟩
    · replace H := H.1 c
      refine a_iconst (pc := 41) (dk D 25 rfl) (ik rfl) ?_
      refine a_istore (pc := 42) (dk D 26 rfl) (by decide) rfl rfl ?_
      refine a_iconst (pc := 44) (dk D 27 rfl) (ik rfl) ?_
      refine a_istore (pc := 45) (dk D 28 rfl) (by decide) rfl rfl ?_
      exact a_pick [0, 1, 2, 3, 4, 5] rfl H
    · replace H := H.2 c
      refine a_iconst (pc := 37) (dk D 23 rfl) (ik rfl) ?_
      refine a_goto (pc := 38) (dk D 24 rfl) (tgt := 42) rfl ?_
      refine a_istore (pc := 42) (dk D 26 rfl) (by decide) rfl rfl ?_
      refine a_iconst (pc := 44) (dk D 27 rfl) (ik rfl) ?_
      refine a_istore (pc := 45) (dk D 28 rfl) (by decide) rfl rfl ?_
      exact a_pick [0, 1, 2, 3, 4, 5] rfl H
set_option maxHeartbeats 40000000 in
theorem T_X12_wordOf_85_101_47 {G : GG} {Φ : Int → Hp → Prop} {h : Hp} {x2 : Int} {x3 : Int} {x4 : Int} {x5 : Int} (H : (0 ≤ x3 ∧ x3 < 8) ∧ (1000 ≤ (rf 101 (x3).toNat) ∧ (rf 101 (x3).toNat) < 1063) ∧ Call G m_J0_length_8abf5 [rv (rf 101 (x3).toNat)] h (fun r1 h2 => ((r1 ≤ x5 → ((x4 = 0 → AT G m_X12_wordOf 16 [(0, rv 85), (1, rv 101), (2, iv x2), (3, iv (w32 (x3 + 1)))] [] h2 Φ) ∧ (x4 ≠ 0 → Φ x3 (up h2 85 5 x2)))) ∧ (x5 < r1 → ((x4 = 0 → ((x4 = 0 → AT G m_X12_wordOf 16 [(0, rv 85), (1, rv 101), (2, iv x2), (3, iv (w32 (x3 + 1)))] [] h2 Φ) ∧ (x4 ≠ 0 → Φ x3 (up h2 85 5 x2)))) ∧ (x4 ≠ 0 → (0 ≤ (w32 ((h2 85 5) + x5)) ∧ (w32 ((h2 85 5) + x5)) < 1600) ∧ (0 ≤ x3 ∧ x3 < 8) ∧ (1000 ≤ (rf 101 (x3).toNat) ∧ (rf 101 (x3).toNat) < 1063) ∧ Call G m_J0_charAt_5068e [rv (rf 101 (x3).toNat), iv x5] h2 (fun r3 h4 => (((h2 87 (w32 ((h2 85 5) + x5))) ≠ r3 → AT G m_X12_wordOf 47 [(0, rv 85), (1, rv 101), (2, iv x2), (3, iv x3), (4, iv 0), (5, iv (w32 (x5 + 1)))] [] h4 Φ) ∧ ((h2 87 (w32 ((h2 85 5) + x5))) = r3 → AT G m_X12_wordOf 47 [(0, rv 85), (1, rv 101), (2, iv x2), (3, iv x3), (4, iv 1), (5, iv (w32 (x5 + 1)))] [] h4 Φ))))))))) : AT G m_X12_wordOf 47 [(0, rv 85), (1, rv 101), (2, iv x2), (3, iv x3), (4, iv x4), (5, iv x5)] [] h Φ := by
  have D := dt_X12_wordOf
  refine a_iload (pc := 47) (dk D 29 rfl) rfl ?_
  refine a_aload_n (pc := 49) (dk D 30 rfl) rfl ?_
  refine a_iload_n (pc := 50) (dk D 31 rfl) rfl ?_
  refine a_aald (pc := 51) (dk D 32 rfl) ar_101 (by decide) ⟨H.1, ?_⟩
  replace H := H.2
  have hS := H.1
  replace H := H.2
  refine a_callTi (as := []) (st := [iv x5]) (pc := 52) (dk D 33 rfl) cl_RX12_343 ⟨Nat.le_of_ble_eq_true rfl, Nat.le_of_ble_eq_true rfl⟩ ⟨Nat.le_of_ble_eq_true rfl, Nat.le_of_ble_eq_true rfl⟩ hS rfl rfl rfl rfl (Nat.le_of_ble_eq_true rfl) (Call.mono H fun r1 h2 H => ?_)
  refine a_icmp_ge (pc := 55) (dk D 34 rfl) (tgt := 99) rfl ⟨fun c => ?_, fun c => ?_⟩
  · replace H := H.1 c
    refine a_iload (pc := 99) (dk D 56 rfl) rfl ?_
    refine a_if_eq (pc := 101) (dk D 57 rfl) (tgt := 111) rfl ⟨fun c => ?_, fun c => ?_⟩
    · replace H := H.1 c
      refine a_iinc (pc := 111) (dk D 63 rfl) (by decide) rfl rfl rfl ?_
      refine a_goto (pc := 114) (dk D 64 rfl) (tgt := 16) rfl ?_
      exact a_pick [0, 1, 2, 3] rfl H
    · replace H := H.2 c
      refine a_aload_n (pc := 104) (dk D 58 rfl) rfl ?_
      refine a_iload_n (pc := 105) (dk D 59 rfl) rfl ?_
      refine a_puti (pc := 106) (dk D 60 rfl) cls_12 fl_RX12_309 cf_85_5 rfl rfl ?_
      refine a_iload_n (pc := 109) (dk D 61 rfl) rfl ?_
      exact a_iret (pc := 110) (dk D 62 rfl) rfl rfl H
  · replace H := H.2 c
    refine a_iload (pc := 58) (dk D 35 rfl) rfl ?_
    refine a_if_eq (pc := 60) (dk D 36 rfl) (tgt := 99) rfl ⟨fun c => ?_, fun c => ?_⟩
    · replace H := H.1 c
      refine a_iload (pc := 99) (dk D 56 rfl) rfl ?_
      refine a_if_eq (pc := 101) (dk D 57 rfl) (tgt := 111) rfl ⟨fun c => ?_, fun c => ?_⟩
      · replace H := H.1 c
        refine a_iinc (pc := 111) (dk D 63 rfl) (by decide) rfl rfl rfl ?_
        refine a_goto (pc := 114) (dk D 64 rfl) (tgt := 16) rfl ?_
        exact a_pick [0, 1, 2, 3] rfl H
      · replace H := H.2 c
        refine a_aload_n (pc := 104) (dk D 58 rfl) rfl ?_
        refine a_iload_n (pc := 105) (dk D 59 rfl) rfl ?_
        refine a_puti (pc := 106) (dk D 60 rfl) cls_12 fl_RX12_309 cf_85_5 rfl rfl ?_
        refine a_iload_n (pc := 109) (dk D 61 rfl) rfl ?_
        exact a_iret (pc := 110) (dk D 62 rfl) rfl rfl H
    · replace H := H.2 c
      refine a_aload_n (pc := 63) (dk D 37 rfl) rfl ?_
      refine a_getr (r := 86) (pc := 64) (dk D 38 rfl) cls_12 fl_RX12_13 cf_85_1 ?_
      refine a_aload_n (pc := 67) (dk D 39 rfl) rfl ?_
      refine a_geti (pc := 68) (dk D 40 rfl) cls_12 fl_RX12_309 cf_85_5 ?_
      refine a_iload (pc := 71) (dk D 41 rfl) rfl ?_
      refine a_iadd (pc := 73) (dk D 42 rfl) ?_
      refine a_iald (pc := 74) (dk D 43 rfl) ar_87 ⟨H.1, ?_⟩
      replace H := H.2
      refine a_aload_n (pc := 75) (dk D 44 rfl) rfl ?_
      refine a_iload_n (pc := 76) (dk D 45 rfl) rfl ?_
      refine a_aald (pc := 77) (dk D 46 rfl) ar_101 (by decide) ⟨H.1, ?_⟩
      replace H := H.2
      refine a_iload (pc := 78) (dk D 47 rfl) rfl ?_
      have hS := H.1
      replace H := H.2
      refine a_callTi (as := [iv x5]) (st := [iv (h2 87 (w32 ((h2 85 5) + x5)))]) (pc := 80) (dk D 48 rfl) cl_RX12_346 ⟨Nat.le_of_ble_eq_true rfl, Nat.le_of_ble_eq_true rfl⟩ ⟨Nat.le_of_ble_eq_true rfl, Nat.le_of_ble_eq_true rfl⟩ hS rfl rfl rfl rfl (Nat.le_of_ble_eq_true rfl) (Call.mono H fun r3 h4 H => ?_)
      refine a_icmp_ne (pc := 83) (dk D 49 rfl) (tgt := 90) rfl ⟨fun c => ?_, fun c => ?_⟩
      · replace H := H.1 c
        refine a_iconst (pc := 90) (dk D 52 rfl) (ik rfl) ?_
        refine a_istore (pc := 91) (dk D 53 rfl) (by decide) rfl rfl ?_
        refine a_iinc (pc := 93) (dk D 54 rfl) (by decide) rfl rfl rfl ?_
        refine a_goto (pc := 96) (dk D 55 rfl) (tgt := 47) rfl ?_
        exact a_pick [0, 1, 2, 3, 4, 5] rfl H
      · replace H := H.2 c
        refine a_iconst (pc := 86) (dk D 50 rfl) (ik rfl) ?_
        refine a_goto (pc := 87) (dk D 51 rfl) (tgt := 91) rfl ?_
        refine a_istore (pc := 91) (dk D 53 rfl) (by decide) rfl rfl ?_
        refine a_iinc (pc := 93) (dk D 54 rfl) (by decide) rfl rfl rfl ?_
        refine a_goto (pc := 96) (dk D 55 rfl) (tgt := 47) rfl ?_
        exact a_pick [0, 1, 2, 3, 4, 5] rfl H
set_option maxHeartbeats 40000000 in
theorem T_X12_wordOf_85_102_0 {G : GG} {Φ : Int → Hp → Prop} {h : Hp} (H : Call G m_X12_bad [rv 85] h (fun r1 h2 => ((r1 = 0 → Call G m_X12_wordEnd [rv 85] h2 (fun r3 h4 => AT G m_X12_wordOf 16 [(0, rv 85), (1, rv 102), (2, iv r3), (3, iv 0)] [] h4 Φ)) ∧ (r1 ≠ 0 → Φ (-1) h2)))) : AT G m_X12_wordOf 0 [(0, rv 85), (1, rv 102)] [] h Φ := by
  have D := dt_X12_wordOf
  refine a_aload_n (pc := 0) (dk D 0 rfl) rfl ?_
  refine a_callVi (as := []) (st := []) (pc := 1) (dk D 1 rfl) cl_RX12_315 ⟨Nat.le_of_ble_eq_true rfl, Nat.le_of_ble_eq_true rfl⟩ ⟨Nat.le_of_ble_eq_true rfl, Nat.le_of_ble_eq_true rfl⟩ cls_12 rfl cc_85 rfl rfl rfl (Nat.le_of_ble_eq_true rfl) (Call.mono H fun r1 h2 H => ?_)
  refine a_if_eq (pc := 4) (dk D 2 rfl) (tgt := 9) rfl ⟨fun c => ?_, fun c => ?_⟩
  · replace H := H.1 c
    refine a_aload_n (pc := 9) (dk D 5 rfl) rfl ?_
    refine a_callVi (as := []) (st := []) (pc := 10) (dk D 6 rfl) cl_RX12_340 ⟨Nat.le_of_ble_eq_true rfl, Nat.le_of_ble_eq_true rfl⟩ ⟨Nat.le_of_ble_eq_true rfl, Nat.le_of_ble_eq_true rfl⟩ cls_12 rfl cc_85 rfl rfl rfl (Nat.le_of_ble_eq_true rfl) (Call.mono H fun r3 h4 H => ?_)
    refine a_istore_n (pc := 13) (dk D 7 rfl) (by decide) rfl rfl ?_
    refine a_iconst (pc := 14) (dk D 8 rfl) (ik rfl) ?_
    refine a_istore_n (pc := 15) (dk D 9 rfl) (by decide) rfl rfl ?_
    exact a_pick [0, 1, 2, 3] rfl H
  · replace H := H.2 c
    refine a_iconst (pc := 7) (dk D 3 rfl) (ik rfl) ?_
    exact a_iret (pc := 8) (dk D 4 rfl) rfl rfl H
set_option maxHeartbeats 40000000 in
theorem T_X12_wordOf_85_102_16 {G : GG} {Φ : Int → Hp → Prop} {h : Hp} {x2 : Int} {x3 : Int} (H : ((1 ≤ x3 → Call G m_X12_fail [rv 85, iv (h 85 5)] h (fun _ h2 => Φ (-1) h2)) ∧ (x3 < 1 → (0 ≤ x3 ∧ x3 < 1) ∧ (1000 ≤ (rf 102 (x3).toNat) ∧ (rf 102 (x3).toNat) < 1063) ∧ Call G m_J0_length_8abf5 [rv (rf 102 (x3).toNat)] h (fun r3 h4 => (((w32 (x2 - (h 85 5))) ≠ r3 → AT G m_X12_wordOf 47 [(0, rv 85), (1, rv 102), (2, iv x2), (3, iv x3), (4, iv 0), (5, iv 0)] [] h4 Φ) ∧ ((w32 (x2 - (h 85 5))) = r3 → AT G m_X12_wordOf 47 [(0, rv 85), (1, rv 102), (2, iv x2), (3, iv x3), (4, iv 1), (5, iv 0)] [] h4 Φ)))))) : AT G m_X12_wordOf 16 [(0, rv 85), (1, rv 102), (2, iv x2), (3, iv x3)] [] h Φ := by
  have D := dt_X12_wordOf
  refine a_iload_n (pc := 16) (dk D 10 rfl) rfl ?_
  refine a_aload_n (pc := 17) (dk D 11 rfl) rfl ?_
  refine a_alen (pc := 18) (dk D 12 rfl) ar_102 (by decide) ?_
  refine a_icmp_ge (pc := 19) (dk D 13 rfl) (tgt := 117) rfl ⟨fun c => ?_, fun c => ?_⟩
  · replace H := H.1 c
    refine a_aload_n (pc := 117) (dk D 65 rfl) rfl ?_
    refine a_aload_n (pc := 118) (dk D 66 rfl) rfl ?_
    refine a_geti (pc := 119) (dk D 67 rfl) cls_12 fl_RX12_309 cf_85_5 ?_
    refine a_callVv (as := [iv (h 85 5)]) (st := []) (pc := 122) (dk D 68 rfl) cl_RX12_323 ⟨Nat.le_of_ble_eq_true rfl, Nat.le_of_ble_eq_true rfl⟩ ⟨Nat.le_of_ble_eq_true rfl, Nat.le_of_ble_eq_true rfl⟩ cls_12 rfl cc_85 rfl rfl rfl (Nat.le_of_ble_eq_true rfl) (Call.mono H fun _ h2 H => ?_)
    refine a_iconst (pc := 125) (dk D 69 rfl) (ik rfl) ?_
    exact a_iret (pc := 126) (dk D 70 rfl) rfl rfl H
  · replace H := H.2 c
    refine a_iload_n (pc := 22) (dk D 14 rfl) rfl ?_
    refine a_aload_n (pc := 23) (dk D 15 rfl) rfl ?_
    refine a_geti (pc := 24) (dk D 16 rfl) cls_12 fl_RX12_309 cf_85_5 ?_
    refine a_isub (pc := 27) (dk D 17 rfl) ?_
    refine a_aload_n (pc := 28) (dk D 18 rfl) rfl ?_
    refine a_iload_n (pc := 29) (dk D 19 rfl) rfl ?_
    refine a_aald (pc := 30) (dk D 20 rfl) ar_102 (by decide) ⟨H.1, ?_⟩
    replace H := H.2
    have hS := H.1
    replace H := H.2
    refine a_callTi (as := []) (st := [iv (w32 (x2 - (h 85 5)))]) (pc := 31) (dk D 21 rfl) cl_RX12_343 ⟨Nat.le_of_ble_eq_true rfl, Nat.le_of_ble_eq_true rfl⟩ ⟨Nat.le_of_ble_eq_true rfl, Nat.le_of_ble_eq_true rfl⟩ hS rfl rfl rfl rfl (Nat.le_of_ble_eq_true rfl) (Call.mono H fun r3 h4 H => ?_)
    refine a_icmp_ne (pc := 34) (dk D 22 rfl) (tgt := 41) rfl ⟨fun c => ?_, fun c => ?_⟩
    · replace H := H.1 c
      refine a_iconst (pc := 41) (dk D 25 rfl) (ik rfl) ?_
      refine a_istore (pc := 42) (dk D 26 rfl) (by decide) rfl rfl ?_
      refine a_iconst (pc := 44) (dk D 27 rfl) (ik rfl) ?_
      refine a_istore (pc := 45) (dk D 28 rfl) (by decide) rfl rfl ?_
      exact a_pick [0, 1, 2, 3, 4, 5] rfl H
    · replace H := H.2 c
      refine a_iconst (pc := 37) (dk D 23 rfl) (ik rfl) ?_
      refine a_goto (pc := 38) (dk D 24 rfl) (tgt := 42) rfl ?_
      refine a_istore (pc := 42) (dk D 26 rfl) (by decide) rfl rfl ?_
      refine a_iconst (pc := 44) (dk D 27 rfl) (ik rfl) ?_
      refine a_istore (pc := 45) (dk D 28 rfl) (by decide) rfl rfl ?_
      exact a_pick [0, 1, 2, 3, 4, 5] rfl H
set_option maxHeartbeats 40000000 in
theorem T_X12_wordOf_85_102_47 {G : GG} {Φ : Int → Hp → Prop} {h : Hp} {x2 : Int} {x3 : Int} {x4 : Int} {x5 : Int} (H : (0 ≤ x3 ∧ x3 < 1) ∧ (1000 ≤ (rf 102 (x3).toNat) ∧ (rf 102 (x3).toNat) < 1063) ∧ Call G m_J0_length_8abf5 [rv (rf 102 (x3).toNat)] h (fun r1 h2 => ((r1 ≤ x5 → ((x4 = 0 → AT G m_X12_wordOf 16 [(0, rv 85), (1, rv 102), (2, iv x2), (3, iv (w32 (x3 + 1)))] [] h2 Φ) ∧ (x4 ≠ 0 → Φ x3 (up h2 85 5 x2)))) ∧ (x5 < r1 → ((x4 = 0 → ((x4 = 0 → AT G m_X12_wordOf 16 [(0, rv 85), (1, rv 102), (2, iv x2), (3, iv (w32 (x3 + 1)))] [] h2 Φ) ∧ (x4 ≠ 0 → Φ x3 (up h2 85 5 x2)))) ∧ (x4 ≠ 0 → (0 ≤ (w32 ((h2 85 5) + x5)) ∧ (w32 ((h2 85 5) + x5)) < 1600) ∧ (0 ≤ x3 ∧ x3 < 1) ∧ (1000 ≤ (rf 102 (x3).toNat) ∧ (rf 102 (x3).toNat) < 1063) ∧ Call G m_J0_charAt_5068e [rv (rf 102 (x3).toNat), iv x5] h2 (fun r3 h4 => (((h2 87 (w32 ((h2 85 5) + x5))) ≠ r3 → AT G m_X12_wordOf 47 [(0, rv 85), (1, rv 102), (2, iv x2), (3, iv x3), (4, iv 0), (5, iv (w32 (x5 + 1)))] [] h4 Φ) ∧ ((h2 87 (w32 ((h2 85 5) + x5))) = r3 → AT G m_X12_wordOf 47 [(0, rv 85), (1, rv 102), (2, iv x2), (3, iv x3), (4, iv 1), (5, iv (w32 (x5 + 1)))] [] h4 Φ))))))))) : AT G m_X12_wordOf 47 [(0, rv 85), (1, rv 102), (2, iv x2), (3, iv x3), (4, iv x4), (5, iv x5)] [] h Φ := by
  have D := dt_X12_wordOf
  refine a_iload (pc := 47) (dk D 29 rfl) rfl ?_
  refine a_aload_n (pc := 49) (dk D 30 rfl) rfl ?_
  refine a_iload_n (pc := 50) (dk D 31 rfl) rfl ?_
  refine a_aald (pc := 51) (dk D 32 rfl) ar_102 (by decide) ⟨H.1, ?_⟩
  replace H := H.2
  have hS := H.1
  replace H := H.2
  refine a_callTi (as := []) (st := [iv x5]) (pc := 52) (dk D 33 rfl) cl_RX12_343 ⟨Nat.le_of_ble_eq_true rfl, Nat.le_of_ble_eq_true rfl⟩ ⟨Nat.le_of_ble_eq_true rfl, Nat.le_of_ble_eq_true rfl⟩ hS rfl rfl rfl rfl (Nat.le_of_ble_eq_true rfl) (Call.mono H fun r1 h2 H => ?_)
  refine a_icmp_ge (pc := 55) (dk D 34 rfl) (tgt := 99) rfl ⟨fun c => ?_, fun c => ?_⟩
  · replace H := H.1 c
    refine a_iload (pc := 99) (dk D 56 rfl) rfl ?_
    refine a_if_eq (pc := 101) (dk D 57 rfl) (tgt := 111) rfl ⟨fun c => ?_, fun c => ?_⟩
    · replace H := H.1 c
      refine a_iinc (pc := 111) (dk D 63 rfl) (by decide) rfl rfl rfl ?_
      refine a_goto (pc := 114) (dk D 64 rfl) (tgt := 16) rfl ?_
      exact a_pick [0, 1, 2, 3] rfl H
    · replace H := H.2 c
      refine a_aload_n (pc := 104) (dk D 58 rfl) rfl ?_
      refine a_iload_n (pc := 105) (dk D 59 rfl) rfl ?_
      refine a_puti (pc := 106) (dk D 60 rfl) cls_12 fl_RX12_309 cf_85_5 rfl rfl ?_
      refine a_iload_n (pc := 109) (dk D 61 rfl) rfl ?_
      exact a_iret (pc := 110) (dk D 62 rfl) rfl rfl H
  · replace H := H.2 c
    refine a_iload (pc := 58) (dk D 35 rfl) rfl ?_
    refine a_if_eq (pc := 60) (dk D 36 rfl) (tgt := 99) rfl ⟨fun c => ?_, fun c => ?_⟩
    · replace H := H.1 c
      refine a_iload (pc := 99) (dk D 56 rfl) rfl ?_
      refine a_if_eq (pc := 101) (dk D 57 rfl) (tgt := 111) rfl ⟨fun c => ?_, fun c => ?_⟩
      · replace H := H.1 c
        refine a_iinc (pc := 111) (dk D 63 rfl) (by decide) rfl rfl rfl ?_
        refine a_goto (pc := 114) (dk D 64 rfl) (tgt := 16) rfl ?_
        exact a_pick [0, 1, 2, 3] rfl H
      · replace H := H.2 c
        refine a_aload_n (pc := 104) (dk D 58 rfl) rfl ?_
        refine a_iload_n (pc := 105) (dk D 59 rfl) rfl ?_
        refine a_puti (pc := 106) (dk D 60 rfl) cls_12 fl_RX12_309 cf_85_5 rfl rfl ?_
        refine a_iload_n (pc := 109) (dk D 61 rfl) rfl ?_
        exact a_iret (pc := 110) (dk D 62 rfl) rfl rfl H
    · replace H := H.2 c
      refine a_aload_n (pc := 63) (dk D 37 rfl) rfl ?_
      refine a_getr (r := 86) (pc := 64) (dk D 38 rfl) cls_12 fl_RX12_13 cf_85_1 ?_
      refine a_aload_n (pc := 67) (dk D 39 rfl) rfl ?_
      refine a_geti (pc := 68) (dk D 40 rfl) cls_12 fl_RX12_309 cf_85_5 ?_
      refine a_iload (pc := 71) (dk D 41 rfl) rfl ?_
      refine a_iadd (pc := 73) (dk D 42 rfl) ?_
      refine a_iald (pc := 74) (dk D 43 rfl) ar_87 ⟨H.1, ?_⟩
      replace H := H.2
      refine a_aload_n (pc := 75) (dk D 44 rfl) rfl ?_
      refine a_iload_n (pc := 76) (dk D 45 rfl) rfl ?_
      refine a_aald (pc := 77) (dk D 46 rfl) ar_102 (by decide) ⟨H.1, ?_⟩
      replace H := H.2
      refine a_iload (pc := 78) (dk D 47 rfl) rfl ?_
      have hS := H.1
      replace H := H.2
      refine a_callTi (as := [iv x5]) (st := [iv (h2 87 (w32 ((h2 85 5) + x5)))]) (pc := 80) (dk D 48 rfl) cl_RX12_346 ⟨Nat.le_of_ble_eq_true rfl, Nat.le_of_ble_eq_true rfl⟩ ⟨Nat.le_of_ble_eq_true rfl, Nat.le_of_ble_eq_true rfl⟩ hS rfl rfl rfl rfl (Nat.le_of_ble_eq_true rfl) (Call.mono H fun r3 h4 H => ?_)
      refine a_icmp_ne (pc := 83) (dk D 49 rfl) (tgt := 90) rfl ⟨fun c => ?_, fun c => ?_⟩
      · replace H := H.1 c
        refine a_iconst (pc := 90) (dk D 52 rfl) (ik rfl) ?_
        refine a_istore (pc := 91) (dk D 53 rfl) (by decide) rfl rfl ?_
        refine a_iinc (pc := 93) (dk D 54 rfl) (by decide) rfl rfl rfl ?_
        refine a_goto (pc := 96) (dk D 55 rfl) (tgt := 47) rfl ?_
        exact a_pick [0, 1, 2, 3, 4, 5] rfl H
      · replace H := H.2 c
        refine a_iconst (pc := 86) (dk D 50 rfl) (ik rfl) ?_
        refine a_goto (pc := 87) (dk D 51 rfl) (tgt := 91) rfl ?_
        refine a_istore (pc := 91) (dk D 53 rfl) (by decide) rfl rfl ?_
        refine a_iinc (pc := 93) (dk D 54 rfl) (by decide) rfl rfl rfl ?_
        refine a_goto (pc := 96) (dk D 55 rfl) (tgt := 47) rfl ?_
        exact a_pick [0, 1, 2, 3, 4, 5] rfl H
set_option maxHeartbeats 40000000 in
theorem T_X12_wordOf_85_99_0 {G : GG} {Φ : Int → Hp → Prop} {h : Hp} (H : Call G m_X12_bad [rv 85] h (fun r1 h2 => ((r1 = 0 → Call G m_X12_wordEnd [rv 85] h2 (fun r3 h4 => AT G m_X12_wordOf 16 [(0, rv 85), (1, rv 99), (2, iv r3), (3, iv 0)] [] h4 Φ)) ∧ (r1 ≠ 0 → Φ (-1) h2)))) : AT G m_X12_wordOf 0 [(0, rv 85), (1, rv 99)] [] h Φ := by
  have D := dt_X12_wordOf
  refine a_aload_n (pc := 0) (dk D 0 rfl) rfl ?_
  refine a_callVi (as := []) (st := []) (pc := 1) (dk D 1 rfl) cl_RX12_315 ⟨Nat.le_of_ble_eq_true rfl, Nat.le_of_ble_eq_true rfl⟩ ⟨Nat.le_of_ble_eq_true rfl, Nat.le_of_ble_eq_true rfl⟩ cls_12 rfl cc_85 rfl rfl rfl (Nat.le_of_ble_eq_true rfl) (Call.mono H fun r1 h2 H => ?_)
  refine a_if_eq (pc := 4) (dk D 2 rfl) (tgt := 9) rfl ⟨fun c => ?_, fun c => ?_⟩
  · replace H := H.1 c
    refine a_aload_n (pc := 9) (dk D 5 rfl) rfl ?_
    refine a_callVi (as := []) (st := []) (pc := 10) (dk D 6 rfl) cl_RX12_340 ⟨Nat.le_of_ble_eq_true rfl, Nat.le_of_ble_eq_true rfl⟩ ⟨Nat.le_of_ble_eq_true rfl, Nat.le_of_ble_eq_true rfl⟩ cls_12 rfl cc_85 rfl rfl rfl (Nat.le_of_ble_eq_true rfl) (Call.mono H fun r3 h4 H => ?_)
    refine a_istore_n (pc := 13) (dk D 7 rfl) (by decide) rfl rfl ?_
    refine a_iconst (pc := 14) (dk D 8 rfl) (ik rfl) ?_
    refine a_istore_n (pc := 15) (dk D 9 rfl) (by decide) rfl rfl ?_
    exact a_pick [0, 1, 2, 3] rfl H
  · replace H := H.2 c
    refine a_iconst (pc := 7) (dk D 3 rfl) (ik rfl) ?_
    exact a_iret (pc := 8) (dk D 4 rfl) rfl rfl H
set_option maxHeartbeats 40000000 in
theorem T_X12_wordOf_85_99_16 {G : GG} {Φ : Int → Hp → Prop} {h : Hp} {x2 : Int} {x3 : Int} (H : ((13 ≤ x3 → Call G m_X12_fail [rv 85, iv (h 85 5)] h (fun _ h2 => Φ (-1) h2)) ∧ (x3 < 13 → (0 ≤ x3 ∧ x3 < 13) ∧ (1000 ≤ (rf 99 (x3).toNat) ∧ (rf 99 (x3).toNat) < 1063) ∧ Call G m_J0_length_8abf5 [rv (rf 99 (x3).toNat)] h (fun r3 h4 => (((w32 (x2 - (h 85 5))) ≠ r3 → AT G m_X12_wordOf 47 [(0, rv 85), (1, rv 99), (2, iv x2), (3, iv x3), (4, iv 0), (5, iv 0)] [] h4 Φ) ∧ ((w32 (x2 - (h 85 5))) = r3 → AT G m_X12_wordOf 47 [(0, rv 85), (1, rv 99), (2, iv x2), (3, iv x3), (4, iv 1), (5, iv 0)] [] h4 Φ)))))) : AT G m_X12_wordOf 16 [(0, rv 85), (1, rv 99), (2, iv x2), (3, iv x3)] [] h Φ := by
  have D := dt_X12_wordOf
  refine a_iload_n (pc := 16) (dk D 10 rfl) rfl ?_
  refine a_aload_n (pc := 17) (dk D 11 rfl) rfl ?_
  refine a_alen (pc := 18) (dk D 12 rfl) ar_99 (by decide) ?_
  refine a_icmp_ge (pc := 19) (dk D 13 rfl) (tgt := 117) rfl ⟨fun c => ?_, fun c => ?_⟩
  · replace H := H.1 c
    refine a_aload_n (pc := 117) (dk D 65 rfl) rfl ?_
    refine a_aload_n (pc := 118) (dk D 66 rfl) rfl ?_
    refine a_geti (pc := 119) (dk D 67 rfl) cls_12 fl_RX12_309 cf_85_5 ?_
    refine a_callVv (as := [iv (h 85 5)]) (st := []) (pc := 122) (dk D 68 rfl) cl_RX12_323 ⟨Nat.le_of_ble_eq_true rfl, Nat.le_of_ble_eq_true rfl⟩ ⟨Nat.le_of_ble_eq_true rfl, Nat.le_of_ble_eq_true rfl⟩ cls_12 rfl cc_85 rfl rfl rfl (Nat.le_of_ble_eq_true rfl) (Call.mono H fun _ h2 H => ?_)
    refine a_iconst (pc := 125) (dk D 69 rfl) (ik rfl) ?_
    exact a_iret (pc := 126) (dk D 70 rfl) rfl rfl H
  · replace H := H.2 c
    refine a_iload_n (pc := 22) (dk D 14 rfl) rfl ?_
    refine a_aload_n (pc := 23) (dk D 15 rfl) rfl ?_
    refine a_geti (pc := 24) (dk D 16 rfl) cls_12 fl_RX12_309 cf_85_5 ?_
    refine a_isub (pc := 27) (dk D 17 rfl) ?_
    refine a_aload_n (pc := 28) (dk D 18 rfl) rfl ?_
    refine a_iload_n (pc := 29) (dk D 19 rfl) rfl ?_
    refine a_aald (pc := 30) (dk D 20 rfl) ar_99 (by decide) ⟨H.1, ?_⟩
    replace H := H.2
    have hS := H.1
    replace H := H.2
    refine a_callTi (as := []) (st := [iv (w32 (x2 - (h 85 5)))]) (pc := 31) (dk D 21 rfl) cl_RX12_343 ⟨Nat.le_of_ble_eq_true rfl, Nat.le_of_ble_eq_true rfl⟩ ⟨Nat.le_of_ble_eq_true rfl, Nat.le_of_ble_eq_true rfl⟩ hS rfl rfl rfl rfl (Nat.le_of_ble_eq_true rfl) (Call.mono H fun r3 h4 H => ?_)
    refine a_icmp_ne (pc := 34) (dk D 22 rfl) (tgt := 41) rfl ⟨fun c => ?_, fun c => ?_⟩
    · replace H := H.1 c
      refine a_iconst (pc := 41) (dk D 25 rfl) (ik rfl) ?_
      refine a_istore (pc := 42) (dk D 26 rfl) (by decide) rfl rfl ?_
      refine a_iconst (pc := 44) (dk D 27 rfl) (ik rfl) ?_
      refine a_istore (pc := 45) (dk D 28 rfl) (by decide) rfl rfl ?_
      exact a_pick [0, 1, 2, 3, 4, 5] rfl H
    · replace H := H.2 c
      refine a_iconst (pc := 37) (dk D 23 rfl) (ik rfl) ?_
      refine a_goto (pc := 38) (dk D 24 rfl) (tgt := 42) rfl ?_
      refine a_istore (pc := 42) (dk D 26 rfl) (by decide) rfl rfl ?_
      refine a_iconst (pc := 44) (dk D 27 rfl) (ik rfl) ?_
      refine a_istore (pc := 45) (dk D 28 rfl) (by decide) rfl rfl ?_
      exact a_pick [0, 1, 2, 3, 4, 5] rfl H
set_option maxHeartbeats 40000000 in
theorem T_X12_wordOf_85_99_47 {G : GG} {Φ : Int → Hp → Prop} {h : Hp} {x2 : Int} {x3 : Int} {x4 : Int} {x5 : Int} (H : (0 ≤ x3 ∧ x3 < 13) ∧ (1000 ≤ (rf 99 (x3).toNat) ∧ (rf 99 (x3).toNat) < 1063) ∧ Call G m_J0_length_8abf5 [rv (rf 99 (x3).toNat)] h (fun r1 h2 => ((r1 ≤ x5 → ((x4 = 0 → AT G m_X12_wordOf 16 [(0, rv 85), (1, rv 99), (2, iv x2), (3, iv (w32 (x3 + 1)))] [] h2 Φ) ∧ (x4 ≠ 0 → Φ x3 (up h2 85 5 x2)))) ∧ (x5 < r1 → ((x4 = 0 → ((x4 = 0 → AT G m_X12_wordOf 16 [(0, rv 85), (1, rv 99), (2, iv x2), (3, iv (w32 (x3 + 1)))] [] h2 Φ) ∧ (x4 ≠ 0 → Φ x3 (up h2 85 5 x2)))) ∧ (x4 ≠ 0 → (0 ≤ (w32 ((h2 85 5) + x5)) ∧ (w32 ((h2 85 5) + x5)) < 1600) ∧ (0 ≤ x3 ∧ x3 < 13) ∧ (1000 ≤ (rf 99 (x3).toNat) ∧ (rf 99 (x3).toNat) < 1063) ∧ Call G m_J0_charAt_5068e [rv (rf 99 (x3).toNat), iv x5] h2 (fun r3 h4 => (((h2 87 (w32 ((h2 85 5) + x5))) ≠ r3 → AT G m_X12_wordOf 47 [(0, rv 85), (1, rv 99), (2, iv x2), (3, iv x3), (4, iv 0), (5, iv (w32 (x5 + 1)))] [] h4 Φ) ∧ ((h2 87 (w32 ((h2 85 5) + x5))) = r3 → AT G m_X12_wordOf 47 [(0, rv 85), (1, rv 99), (2, iv x2), (3, iv x3), (4, iv 1), (5, iv (w32 (x5 + 1)))] [] h4 Φ))))))))) : AT G m_X12_wordOf 47 [(0, rv 85), (1, rv 99), (2, iv x2), (3, iv x3), (4, iv x4), (5, iv x5)] [] h Φ := by
  have D := dt_X12_wordOf
  refine a_iload (pc := 47) (dk D 29 rfl) rfl ?_
  refine a_aload_n (pc := 49) (dk D 30 rfl) rfl ?_
  refine a_iload_n (pc := 50) (dk D 31 rfl) rfl ?_
  refine a_aald (pc := 51) (dk D 32 rfl) ar_99 (by decide) ⟨H.1, ?_⟩
  replace H := H.2
  have hS := H.1
  replace H := H.2
  refine a_callTi (as := []) (st := [iv x5]) (pc := 52) (dk D 33 rfl) cl_RX12_343 ⟨Nat.le_of_ble_eq_true rfl, Nat.le_of_ble_eq_true rfl⟩ ⟨Nat.le_of_ble_eq_true rfl, Nat.le_of_ble_eq_true rfl⟩ hS rfl rfl rfl rfl (Nat.le_of_ble_eq_true rfl) (Call.mono H fun r1 h2 H => ?_)
  refine a_icmp_ge (pc := 55) (dk D 34 rfl) (tgt := 99) rfl ⟨fun c => ?_, fun c => ?_⟩
  · replace H := H.1 c
    refine a_iload (pc := 99) (dk D 56 rfl) rfl ?_
    refine a_if_eq (pc := 101) (dk D 57 rfl) (tgt := 111) rfl ⟨fun c => ?_, fun c => ?_⟩
    · replace H := H.1 c
      refine a_iinc (pc := 111) (dk D 63 rfl) (by decide) rfl rfl rfl ?_
      refine a_goto (pc := 114) (dk D 64 rfl) (tgt := 16) rfl ?_
      exact a_pick [0, 1, 2, 3] rfl H
    · replace H := H.2 c
      refine a_aload_n (pc := 104) (dk D 58 rfl) rfl ?_
      refine a_iload_n (pc := 105) (dk D 59 rfl) rfl ?_
      refine a_puti (pc := 106) (dk D 60 rfl) cls_12 fl_RX12_309 cf_85_5 rfl rfl ?_
      refine a_iload_n (pc := 109) (dk D 61 rfl) rfl ?_
      exact a_iret (pc := 110) (dk D 62 rfl) rfl rfl H
  · replace H := H.2 c
    refine a_iload (pc := 58) (dk D 35 rfl) rfl ?_
    refine a_if_eq (pc := 60) (dk D 36 rfl) (tgt := 99) rfl ⟨fun c => ?_, fun c => ?_⟩
    · replace H := H.1 c
      refine a_iload (pc := 99) (dk D 56 rfl) rfl ?_
      refine a_if_eq (pc := 101) (dk D 57 rfl) (tgt := 111) rfl ⟨fun c => ?_, fun c => ?_⟩
      · replace H := H.1 c
        refine a_iinc (pc := 111) (dk D 63 rfl) (by decide) rfl rfl rfl ?_
        refine a_goto (pc := 114) (dk D 64 rfl) (tgt := 16) rfl ?_
        exact a_pick [0, 1, 2, 3] rfl H
      · replace H := H.2 c
        refine a_aload_n (pc := 104) (dk D 58 rfl) rfl ?_
        refine a_iload_n (pc := 105) (dk D 59 rfl) rfl ?_
        refine a_puti (pc := 106) (dk D 60 rfl) cls_12 fl_RX12_309 cf_85_5 rfl rfl ?_
        refine a_iload_n (pc := 109) (dk D 61 rfl) rfl ?_
        exact a_iret (pc := 110) (dk D 62 rfl) rfl rfl H
    · replace H := H.2 c
      refine a_aload_n (pc := 63) (dk D 37 rfl) rfl ?_
      refine a_getr (r := 86) (pc := 64) (dk D 38 rfl) cls_12 fl_RX12_13 cf_85_1 ?_
      refine a_aload_n (pc := 67) (dk D 39 rfl) rfl ?_
      refine a_geti (pc := 68) (dk D 40 rfl) cls_12 fl_RX12_309 cf_85_5 ?_
      refine a_iload (pc := 71) (dk D 41 rfl) rfl ?_
      refine a_iadd (pc := 73) (dk D 42 rfl) ?_
      refine a_iald (pc := 74) (dk D 43 rfl) ar_87 ⟨H.1, ?_⟩
      replace H := H.2
      refine a_aload_n (pc := 75) (dk D 44 rfl) rfl ?_
      refine a_iload_n (pc := 76) (dk D 45 rfl) rfl ?_
      refine a_aald (pc := 77) (dk D 46 rfl) ar_99 (by decide) ⟨H.1, ?_⟩
      replace H := H.2
      refine a_iload (pc := 78) (dk D 47 rfl) rfl ?_
      have hS := H.1
      replace H := H.2
      refine a_callTi (as := [iv x5]) (st := [iv (h2 87 (w32 ((h2 85 5) + x5)))]) (pc := 80) (dk D 48 rfl) cl_RX12_346 ⟨Nat.le_of_ble_eq_true rfl, Nat.le_of_ble_eq_true rfl⟩ ⟨Nat.le_of_ble_eq_true rfl, Nat.le_of_ble_eq_true rfl⟩ hS rfl rfl rfl rfl (Nat.le_of_ble_eq_true rfl) (Call.mono H fun r3 h4 H => ?_)
      refine a_icmp_ne (pc := 83) (dk D 49 rfl) (tgt := 90) rfl ⟨fun c => ?_, fun c => ?_⟩
      · replace H := H.1 c
        refine a_iconst (pc := 90) (dk D 52 rfl) (ik rfl) ?_
        refine a_istore (pc := 91) (dk D 53 rfl) (by decide) rfl rfl ?_
        refine a_iinc (pc := 93) (dk D 54 rfl) (by decide) rfl rfl rfl ?_
        refine a_goto (pc := 96) (dk D 55 rfl) (tgt := 47) rfl ?_
        exact a_pick [0, 1, 2, 3, 4, 5] rfl H
      · replace H := H.2 c
        refine a_iconst (pc := 86) (dk D 50 rfl) (ik rfl) ?_
        refine a_goto (pc := 87) (dk D 51 rfl) (tgt := 91) rfl ?_
        refine a_istore (pc := 91) (dk D 53 rfl) (by decide) rfl rfl ?_
        refine a_iinc (pc := 93) (dk D 54 rfl) (by decide) rfl rfl rfl ?_
        refine a_goto (pc := 96) (dk D 55 rfl) (tgt := 47) rfl ?_
        exact a_pick [0, 1, 2, 3, 4, 5] rfl H
set_option maxHeartbeats 40000000 in
theorem T_X12_whole_85_0 {G : GG} {Φ : Int → Hp → Prop} {h : Hp} {x1 : Int} {x2 : Int} {x3 : Int} (H : Call G m_X12_bad [rv 85] h (fun r1 h2 => ((r1 = 0 → ((x1 = 0 → Call G m_X12_here [rv 85] h2 (fun r3 h4 => Call G m_X12_isDigit [iv r3] h4 (fun r5 h6 => ((r5 = 0 → Call G m_X12_fail [rv 85, iv (h6 85 5)] h6 (fun _ h8 => AT G m_X12_whole 91 [(0, rv 85), (2, iv x2), (3, iv x3), (4, iv (h2 85 5)), (5, iv 0), (6, iv (h2 85 5)), (7, iv 0)] [] h8 Φ)) ∧ (r5 ≠ 0 → AT G m_X12_whole 91 [(0, rv 85), (2, iv x2), (3, iv x3), (4, iv (h2 85 5)), (5, iv 0), (6, iv (h2 85 5)), (7, iv 0)] [] h6 Φ))))) ∧ (x1 ≠ 0 → Call G m_X12_here [rv 85] h2 (fun r9 h10 => ((r9 ≠ 45 → Call G m_X12_here [rv 85] h10 (fun r11 h12 => Call G m_X12_isDigit [iv r11] h12 (fun r13 h14 => ((r13 = 0 → Call G m_X12_fail [rv 85, iv (h14 85 5)] h14 (fun _ h16 => AT G m_X12_whole 91 [(0, rv 85), (2, iv x2), (3, iv x3), (4, iv (h2 85 5)), (5, iv 0), (6, iv (h10 85 5)), (7, iv 0)] [] h16 Φ)) ∧ (r13 ≠ 0 → AT G m_X12_whole 91 [(0, rv 85), (2, iv x2), (3, iv x3), (4, iv (h2 85 5)), (5, iv 0), (6, iv (h10 85 5)), (7, iv 0)] [] h14 Φ))))) ∧ (r9 = 45 → Call G m_X12_here [rv 85] (up h10 85 5 (w32 ((h10 85 5) + 1))) (fun r17 h18 => Call G m_X12_isDigit [iv r17] h18 (fun r19 h20 => ((r19 = 0 → Call G m_X12_fail [rv 85, iv (h20 85 5)] h20 (fun _ h22 => AT G m_X12_whole 91 [(0, rv 85), (2, iv x2), (3, iv x3), (4, iv (h2 85 5)), (5, iv 1), (6, iv (w32 ((h10 85 5) + 1))), (7, iv 0)] [] h22 Φ)) ∧ (r19 ≠ 0 → Call G m_X12_here [rv 85] h20 (fun r23 h24 => ((r23 ≠ 48 → AT G m_X12_whole 91 [(0, rv 85), (2, iv x2), (3, iv x3), (4, iv (h2 85 5)), (5, iv 1), (6, iv (w32 ((h10 85 5) + 1))), (7, iv 0)] [] h24 Φ) ∧ (r23 = 48 → Call G m_X12_fail [rv 85, iv (h24 85 5)] h24 (fun _ h26 => AT G m_X12_whole 91 [(0, rv 85), (2, iv x2), (3, iv x3), (4, iv (h2 85 5)), (5, iv 1), (6, iv (w32 ((h10 85 5) + 1))), (7, iv 0)] [] h26 Φ)))))))))))))) ∧ (r1 ≠ 0 → Φ 0 h2)))) : AT G m_X12_whole 0 [(0, rv 85), (1, iv x1), (2, iv x2), (3, iv x3)] [] h Φ := by
  have D := dt_X12_whole
  refine a_aload_n (pc := 0) (dk D 0 rfl) rfl ?_
  refine a_callVi (as := []) (st := []) (pc := 1) (dk D 1 rfl) cl_RX12_315 ⟨Nat.le_of_ble_eq_true rfl, Nat.le_of_ble_eq_true rfl⟩ ⟨Nat.le_of_ble_eq_true rfl, Nat.le_of_ble_eq_true rfl⟩ cls_12 rfl cc_85 rfl rfl rfl (Nat.le_of_ble_eq_true rfl) (Call.mono H fun r1 h2 H => ?_)
  refine a_if_eq (pc := 4) (dk D 2 rfl) (tgt := 9) rfl ⟨fun c => ?_, fun c => ?_⟩
  · replace H := H.1 c
    refine a_aload_n (pc := 9) (dk D 5 rfl) rfl ?_
    refine a_geti (pc := 10) (dk D 6 rfl) cls_12 fl_RX12_309 cf_85_5 ?_
    refine a_istore (pc := 13) (dk D 7 rfl) (by decide) rfl rfl ?_
    refine a_iload_n (pc := 15) (dk D 8 rfl) rfl ?_
    refine a_if_eq (pc := 16) (dk D 9 rfl) (tgt := 32) rfl ⟨fun c => ?_, fun c => ?_⟩
    · replace H := H.1 c
      refine a_iconst (pc := 32) (dk D 16 rfl) (ik rfl) ?_
      refine a_istore (pc := 33) (dk D 17 rfl) (by decide) rfl rfl ?_
      refine a_iload (pc := 35) (dk D 18 rfl) rfl ?_
      refine a_if_eq (pc := 37) (dk D 19 rfl) (tgt := 50) rfl ⟨fun _ => ?_, fun c => absurd c (by decide)⟩
      refine a_aload_n (pc := 50) (dk D 26 rfl) rfl ?_
      refine a_geti (pc := 51) (dk D 27 rfl) cls_12 fl_RX12_309 cf_85_5 ?_
      refine a_istore (pc := 54) (dk D 28 rfl) (by decide) rfl rfl ?_
      refine a_iconst (pc := 56) (dk D 29 rfl) (ik rfl) ?_
      refine a_istore (pc := 57) (dk D 30 rfl) (by decide) rfl rfl ?_
      refine a_aload_n (pc := 59) (dk D 31 rfl) rfl ?_
      refine a_callVi (as := []) (st := []) (pc := 60) (dk D 32 rfl) cl_RX12_319 ⟨Nat.le_of_ble_eq_true rfl, Nat.le_of_ble_eq_true rfl⟩ ⟨Nat.le_of_ble_eq_true rfl, Nat.le_of_ble_eq_true rfl⟩ cls_12 rfl cc_85 rfl rfl rfl (Nat.le_of_ble_eq_true rfl) (Call.mono H fun r3 h4 H => ?_)
      refine a_callSi (as := [iv r3]) (st := []) (pc := 63) (dk D 33 rfl) cl_RX12_326 ⟨Nat.le_of_ble_eq_true rfl, Nat.le_of_ble_eq_true rfl⟩ ⟨Nat.le_of_ble_eq_true rfl, Nat.le_of_ble_eq_true rfl⟩ rfl rfl rfl (Nat.le_of_ble_eq_true rfl) (Call.mono H fun r5 h6 H => ?_)
      refine a_if_eq (pc := 66) (dk D 34 rfl) (tgt := 83) rfl ⟨fun c => ?_, fun c => ?_⟩
      · replace H := H.1 c
        refine a_aload_n (pc := 83) (dk D 41 rfl) rfl ?_
        refine a_aload_n (pc := 84) (dk D 42 rfl) rfl ?_
        refine a_geti (pc := 85) (dk D 43 rfl) cls_12 fl_RX12_309 cf_85_5 ?_
        refine a_callVv (as := [iv (h6 85 5)]) (st := []) (pc := 88) (dk D 44 rfl) cl_RX12_323 ⟨Nat.le_of_ble_eq_true rfl, Nat.le_of_ble_eq_true rfl⟩ ⟨Nat.le_of_ble_eq_true rfl, Nat.le_of_ble_eq_true rfl⟩ cls_12 rfl cc_85 rfl rfl rfl (Nat.le_of_ble_eq_true rfl) (Call.mono H fun _ h8 H => ?_)
        exact a_pick [0, 2, 3, 4, 5, 6, 7] rfl H
      · replace H := H.2 c
        refine a_iload (pc := 69) (dk D 35 rfl) rfl ?_
        refine a_if_eq (pc := 71) (dk D 36 rfl) (tgt := 91) rfl ⟨fun _ => ?_, fun c => absurd c (by decide)⟩
        exact a_pick [0, 2, 3, 4, 5, 6, 7] rfl H
    · replace H := H.2 c
      refine a_aload_n (pc := 19) (dk D 10 rfl) rfl ?_
      refine a_callVi (as := []) (st := []) (pc := 20) (dk D 11 rfl) cl_RX12_319 ⟨Nat.le_of_ble_eq_true rfl, Nat.le_of_ble_eq_true rfl⟩ ⟨Nat.le_of_ble_eq_true rfl, Nat.le_of_ble_eq_true rfl⟩ cls_12 rfl cc_85 rfl rfl rfl (Nat.le_of_ble_eq_true rfl) (Call.mono H fun r9 h10 H => ?_)
      refine a_bipush (pc := 23) (dk D 12 rfl) (ik rfl) (bpk rfl) ?_
      refine a_icmp_ne (pc := 25) (dk D 13 rfl) (tgt := 32) rfl ⟨fun c => ?_, fun c => ?_⟩
      · replace H := H.1 c
        refine a_iconst (pc := 32) (dk D 16 rfl) (ik rfl) ?_
        refine a_istore (pc := 33) (dk D 17 rfl) (by decide) rfl rfl ?_
        refine a_iload (pc := 35) (dk D 18 rfl) rfl ?_
        refine a_if_eq (pc := 37) (dk D 19 rfl) (tgt := 50) rfl ⟨fun _ => ?_, fun c => absurd c (by decide)⟩
        refine a_aload_n (pc := 50) (dk D 26 rfl) rfl ?_
        refine a_geti (pc := 51) (dk D 27 rfl) cls_12 fl_RX12_309 cf_85_5 ?_
        refine a_istore (pc := 54) (dk D 28 rfl) (by decide) rfl rfl ?_
        refine a_iconst (pc := 56) (dk D 29 rfl) (ik rfl) ?_
        refine a_istore (pc := 57) (dk D 30 rfl) (by decide) rfl rfl ?_
        refine a_aload_n (pc := 59) (dk D 31 rfl) rfl ?_
        refine a_callVi (as := []) (st := []) (pc := 60) (dk D 32 rfl) cl_RX12_319 ⟨Nat.le_of_ble_eq_true rfl, Nat.le_of_ble_eq_true rfl⟩ ⟨Nat.le_of_ble_eq_true rfl, Nat.le_of_ble_eq_true rfl⟩ cls_12 rfl cc_85 rfl rfl rfl (Nat.le_of_ble_eq_true rfl) (Call.mono H fun r11 h12 H => ?_)
        refine a_callSi (as := [iv r11]) (st := []) (pc := 63) (dk D 33 rfl) cl_RX12_326 ⟨Nat.le_of_ble_eq_true rfl, Nat.le_of_ble_eq_true rfl⟩ ⟨Nat.le_of_ble_eq_true rfl, Nat.le_of_ble_eq_true rfl⟩ rfl rfl rfl (Nat.le_of_ble_eq_true rfl) (Call.mono H fun r13 h14 H => ?_)
        refine a_if_eq (pc := 66) (dk D 34 rfl) (tgt := 83) rfl ⟨fun c => ?_, fun c => ?_⟩
        · replace H := H.1 c
          refine a_aload_n (pc := 83) (dk D 41 rfl) rfl ?_
          refine a_aload_n (pc := 84) (dk D 42 rfl) rfl ?_
          refine a_geti (pc := 85) (dk D 43 rfl) cls_12 fl_RX12_309 cf_85_5 ?_
          refine a_callVv (as := [iv (h14 85 5)]) (st := []) (pc := 88) (dk D 44 rfl) cl_RX12_323 ⟨Nat.le_of_ble_eq_true rfl, Nat.le_of_ble_eq_true rfl⟩ ⟨Nat.le_of_ble_eq_true rfl, Nat.le_of_ble_eq_true rfl⟩ cls_12 rfl cc_85 rfl rfl rfl (Nat.le_of_ble_eq_true rfl) (Call.mono H fun _ h16 H => ?_)
          exact a_pick [0, 2, 3, 4, 5, 6, 7] rfl H
        · replace H := H.2 c
          refine a_iload (pc := 69) (dk D 35 rfl) rfl ?_
          refine a_if_eq (pc := 71) (dk D 36 rfl) (tgt := 91) rfl ⟨fun _ => ?_, fun c => absurd c (by decide)⟩
          exact a_pick [0, 2, 3, 4, 5, 6, 7] rfl H
      · replace H := H.2 c
        refine a_iconst (pc := 28) (dk D 14 rfl) (ik rfl) ?_
        refine a_goto (pc := 29) (dk D 15 rfl) (tgt := 33) rfl ?_
        refine a_istore (pc := 33) (dk D 17 rfl) (by decide) rfl rfl ?_
        refine a_iload (pc := 35) (dk D 18 rfl) rfl ?_
        refine a_if_eq (pc := 37) (dk D 19 rfl) (tgt := 50) rfl ⟨fun c => absurd c (by decide), fun _ => ?_⟩
        refine a_aload_n (pc := 40) (dk D 20 rfl) rfl ?_
        refine a_dup (pc := 41) (dk D 21 rfl) rfl ?_
        refine a_geti (pc := 42) (dk D 22 rfl) cls_12 fl_RX12_309 cf_85_5 ?_
        refine a_iconst (pc := 45) (dk D 23 rfl) (ik rfl) ?_
        refine a_iadd (pc := 46) (dk D 24 rfl) ?_
        refine a_puti (pc := 47) (dk D 25 rfl) cls_12 fl_RX12_309 cf_85_5 rfl rfl ?_
        refine a_aload_n (pc := 50) (dk D 26 rfl) rfl ?_
        refine a_geti (pc := 51) (dk D 27 rfl) cls_12 fl_RX12_309 cf_85_5 ?_
        refine a_top (y := (w32 ((h10 85 5) + 1))) (by simp [up, cpy]) ?_
        refine a_istore (pc := 54) (dk D 28 rfl) (by decide) rfl rfl ?_
        refine a_iconst (pc := 56) (dk D 29 rfl) (ik rfl) ?_
        refine a_istore (pc := 57) (dk D 30 rfl) (by decide) rfl rfl ?_
        refine a_aload_n (pc := 59) (dk D 31 rfl) rfl ?_
        refine a_callVi (as := []) (st := []) (pc := 60) (dk D 32 rfl) cl_RX12_319 ⟨Nat.le_of_ble_eq_true rfl, Nat.le_of_ble_eq_true rfl⟩ ⟨Nat.le_of_ble_eq_true rfl, Nat.le_of_ble_eq_true rfl⟩ cls_12 rfl cc_85 rfl rfl rfl (Nat.le_of_ble_eq_true rfl) (Call.mono H fun r17 h18 H => ?_)
        refine a_callSi (as := [iv r17]) (st := []) (pc := 63) (dk D 33 rfl) cl_RX12_326 ⟨Nat.le_of_ble_eq_true rfl, Nat.le_of_ble_eq_true rfl⟩ ⟨Nat.le_of_ble_eq_true rfl, Nat.le_of_ble_eq_true rfl⟩ rfl rfl rfl (Nat.le_of_ble_eq_true rfl) (Call.mono H fun r19 h20 H => ?_)
        refine a_if_eq (pc := 66) (dk D 34 rfl) (tgt := 83) rfl ⟨fun c => ?_, fun c => ?_⟩
        · replace H := H.1 c
          refine a_aload_n (pc := 83) (dk D 41 rfl) rfl ?_
          refine a_aload_n (pc := 84) (dk D 42 rfl) rfl ?_
          refine a_geti (pc := 85) (dk D 43 rfl) cls_12 fl_RX12_309 cf_85_5 ?_
          refine a_callVv (as := [iv (h20 85 5)]) (st := []) (pc := 88) (dk D 44 rfl) cl_RX12_323 ⟨Nat.le_of_ble_eq_true rfl, Nat.le_of_ble_eq_true rfl⟩ ⟨Nat.le_of_ble_eq_true rfl, Nat.le_of_ble_eq_true rfl⟩ cls_12 rfl cc_85 rfl rfl rfl (Nat.le_of_ble_eq_true rfl) (Call.mono H fun _ h22 H => ?_)
          exact a_pick [0, 2, 3, 4, 5, 6, 7] rfl H
        · replace H := H.2 c
          refine a_iload (pc := 69) (dk D 35 rfl) rfl ?_
          refine a_if_eq (pc := 71) (dk D 36 rfl) (tgt := 91) rfl ⟨fun c => absurd c (by decide), fun _ => ?_⟩
          refine a_aload_n (pc := 74) (dk D 37 rfl) rfl ?_
          refine a_callVi (as := []) (st := []) (pc := 75) (dk D 38 rfl) cl_RX12_319 ⟨Nat.le_of_ble_eq_true rfl, Nat.le_of_ble_eq_true rfl⟩ ⟨Nat.le_of_ble_eq_true rfl, Nat.le_of_ble_eq_true rfl⟩ cls_12 rfl cc_85 rfl rfl rfl (Nat.le_of_ble_eq_true rfl) (Call.mono H fun r23 h24 H => ?_)
          refine a_bipush (pc := 78) (dk D 39 rfl) (ik rfl) (bpk rfl) ?_
          refine a_icmp_ne (pc := 80) (dk D 40 rfl) (tgt := 91) rfl ⟨fun c => ?_, fun c => ?_⟩
          · replace H := H.1 c
            exact a_pick [0, 2, 3, 4, 5, 6, 7] rfl H
          · replace H := H.2 c
            refine a_aload_n (pc := 83) (dk D 41 rfl) rfl ?_
            refine a_aload_n (pc := 84) (dk D 42 rfl) rfl ?_
            refine a_geti (pc := 85) (dk D 43 rfl) cls_12 fl_RX12_309 cf_85_5 ?_
            refine a_callVv (as := [iv (h24 85 5)]) (st := []) (pc := 88) (dk D 44 rfl) cl_RX12_323 ⟨Nat.le_of_ble_eq_true rfl, Nat.le_of_ble_eq_true rfl⟩ ⟨Nat.le_of_ble_eq_true rfl, Nat.le_of_ble_eq_true rfl⟩ cls_12 rfl cc_85 rfl rfl rfl (Nat.le_of_ble_eq_true rfl) (Call.mono H fun _ h26 H => ?_)
            exact a_pick [0, 2, 3, 4, 5, 6, 7] rfl H
  · replace H := H.2 c
    refine a_iconst (pc := 7) (dk D 3 rfl) (ik rfl) ?_
    exact a_iret (pc := 8) (dk D 4 rfl) rfl rfl H
set_option maxHeartbeats 40000000 in
theorem T_X12_whole_85_91 {G : GG} {Φ : Int → Hp → Prop} {h : Hp} {x2 : Int} {x3 : Int} {x4 : Int} {x5 : Int} {x6 : Int} {x7 : Int} (H : Call G m_X12_bad [rv 85] h (fun r1 h2 => ((r1 ≠ 0 → ((x5 = 0 → Call G m_X12_bad [rv 85] h2 (fun r3 h4 => ((r3 ≠ 0 → Φ x7 h4) ∧ (r3 = 0 → Call G m_X12_is [iv x7, iv x2, iv x3] h4 (fun r5 h6 => ((r5 ≠ 0 → Φ x7 h6) ∧ (r5 = 0 → Call G m_X12_fail [rv 85, iv x4] h6 (fun _ h8 => Φ x7 h8)))))))) ∧ (x5 ≠ 0 → Call G m_X12_bad [rv 85] h2 (fun r9 h10 => ((r9 ≠ 0 → Φ (w32 (-x7)) h10) ∧ (r9 = 0 → Call G m_X12_is [iv (w32 (-x7)), iv x2, iv x3] h10 (fun r11 h12 => ((r11 ≠ 0 → Φ (w32 (-x7)) h12) ∧ (r11 = 0 → Call G m_X12_fail [rv 85, iv x4] h12 (fun _ h14 => Φ (w32 (-x7)) h14)))))))))) ∧ (r1 = 0 → Call G m_X12_here [rv 85] h2 (fun r15 h16 => Call G m_X12_isDigit [iv r15] h16 (fun r17 h18 => ((r17 = 0 → ((x5 = 0 → Call G m_X12_bad [rv 85] h18 (fun r19 h20 => ((r19 ≠ 0 → Φ x7 h20) ∧ (r19 = 0 → Call G m_X12_is [iv x7, iv x2, iv x3] h20 (fun r21 h22 => ((r21 ≠ 0 → Φ x7 h22) ∧ (r21 = 0 → Call G m_X12_fail [rv 85, iv x4] h22 (fun _ h24 => Φ x7 h24)))))))) ∧ (x5 ≠ 0 → Call G m_X12_bad [rv 85] h18 (fun r25 h26 => ((r25 ≠ 0 → Φ (w32 (-x7)) h26) ∧ (r25 = 0 → Call G m_X12_is [iv (w32 (-x7)), iv x2, iv x3] h26 (fun r27 h28 => ((r27 ≠ 0 → Φ (w32 (-x7)) h28) ∧ (r27 = 0 → Call G m_X12_fail [rv 85, iv x4] h28 (fun _ h30 => Φ (w32 (-x7)) h30)))))))))) ∧ (r17 ≠ 0 → (((w32 ((h18 85 5) - x6)) = 9 → Call G m_X12_fail [rv 85, iv (h18 85 5)] h18 (fun _ h32 => AT G m_X12_whole 91 [(0, rv 85), (2, iv x2), (3, iv x3), (4, iv x4), (5, iv x5), (6, iv x6), (7, iv x7)] [] h32 Φ)) ∧ ((w32 ((h18 85 5) - x6)) ≠ 9 → (((h18 85 5) ≤ x6 → Call G m_X12_here [rv 85] h18 (fun r33 h34 => AT G m_X12_whole 91 [(0, rv 85), (2, iv x2), (3, iv x3), (4, iv x4), (5, iv x5), (6, iv x6), (7, iv (w32 ((w32 ((w32 (10 * x7)) + r33)) - 48)))] [] (up h34 85 5 (w32 ((h34 85 5) + 1))) Φ)) ∧ (x6 < (h18 85 5) → (0 ≤ x6 ∧ x6 < 1600) ∧ (((h18 87 x6) ≠ 48 → Call G m_X12_here [rv 85] h18 (fun r35 h36 => AT G m_X12_whole 91 [(0, rv 85), (2, iv x2), (3, iv x3), (4, iv x4), (5, iv x5), (6, iv x6), (7, iv (w32 ((w32 ((w32 (10 * x7)) + r35)) - 48)))] [] (up h36 85 5 (w32 ((h36 85 5) + 1))) Φ)) ∧ ((h18 87 x6) = 48 → Call G m_X12_fail [rv 85, iv (h18 85 5)] h18 (fun _ h38 => AT G m_X12_whole 91 [(0, rv 85), (2, iv x2), (3, iv x3), (4, iv x4), (5, iv x5), (6, iv x6), (7, iv x7)] [] h38 Φ))))))))))))))) : AT G m_X12_whole 91 [(0, rv 85), (2, iv x2), (3, iv x3), (4, iv x4), (5, iv x5), (6, iv x6), (7, iv x7)] [] h Φ := by
  have D := dt_X12_whole
  refine a_aload_n (pc := 91) (dk D 45 rfl) rfl ?_
  refine a_callVi (as := []) (st := []) (pc := 92) (dk D 46 rfl) cl_RX12_315 ⟨Nat.le_of_ble_eq_true rfl, Nat.le_of_ble_eq_true rfl⟩ ⟨Nat.le_of_ble_eq_true rfl, Nat.le_of_ble_eq_true rfl⟩ cls_12 rfl cc_85 rfl rfl rfl (Nat.le_of_ble_eq_true rfl) (Call.mono H fun r1 h2 H => ?_)
  refine a_if_ne (pc := 95) (dk D 47 rfl) (tgt := 180) rfl ⟨fun c => ?_, fun c => ?_⟩
  · replace H := H.1 c
    refine a_iload (pc := 180) (dk D 89 rfl) rfl ?_
    refine a_if_eq (pc := 182) (dk D 90 rfl) (tgt := 191) rfl ⟨fun c => ?_, fun c => ?_⟩
    · replace H := H.1 c
      refine a_iload (pc := 191) (dk D 94 rfl) rfl ?_
      refine a_istore (pc := 193) (dk D 95 rfl) (by decide) rfl rfl ?_
      refine a_aload_n (pc := 195) (dk D 96 rfl) rfl ?_
      refine a_callVi (as := []) (st := []) (pc := 196) (dk D 97 rfl) cl_RX12_315 ⟨Nat.le_of_ble_eq_true rfl, Nat.le_of_ble_eq_true rfl⟩ ⟨Nat.le_of_ble_eq_true rfl, Nat.le_of_ble_eq_true rfl⟩ cls_12 rfl cc_85 rfl rfl rfl (Nat.le_of_ble_eq_true rfl) (Call.mono H fun r3 h4 H => ?_)
      refine a_if_ne (pc := 199) (dk D 98 rfl) (tgt := 218) rfl ⟨fun c => ?_, fun c => ?_⟩
      · replace H := H.1 c
        refine a_iload (pc := 218) (dk D 107 rfl) rfl ?_
        exact a_iret (pc := 220) (dk D 108 rfl) rfl rfl H
      · replace H := H.2 c
        refine a_iload (pc := 202) (dk D 99 rfl) rfl ?_
        refine a_iload_n (pc := 204) (dk D 100 rfl) rfl ?_
        refine a_iload_n (pc := 205) (dk D 101 rfl) rfl ?_
        refine a_callSi (as := [iv x7, iv x2, iv x3]) (st := []) (pc := 206) (dk D 102 rfl) cl_RX12_302 ⟨Nat.le_of_ble_eq_true rfl, Nat.le_of_ble_eq_true rfl⟩ ⟨Nat.le_of_ble_eq_true rfl, Nat.le_of_ble_eq_true rfl⟩ rfl rfl rfl (Nat.le_of_ble_eq_true rfl) (Call.mono H fun r5 h6 H => ?_)
        refine a_if_ne (pc := 209) (dk D 103 rfl) (tgt := 218) rfl ⟨fun c => ?_, fun c => ?_⟩
        · replace H := H.1 c
          refine a_iload (pc := 218) (dk D 107 rfl) rfl ?_
          exact a_iret (pc := 220) (dk D 108 rfl) rfl rfl H
        · replace H := H.2 c
          refine a_aload_n (pc := 212) (dk D 104 rfl) rfl ?_
          refine a_iload (pc := 213) (dk D 105 rfl) rfl ?_
          refine a_callVv (as := [iv x4]) (st := []) (pc := 215) (dk D 106 rfl) cl_RX12_323 ⟨Nat.le_of_ble_eq_true rfl, Nat.le_of_ble_eq_true rfl⟩ ⟨Nat.le_of_ble_eq_true rfl, Nat.le_of_ble_eq_true rfl⟩ cls_12 rfl cc_85 rfl rfl rfl (Nat.le_of_ble_eq_true rfl) (Call.mono H fun _ h8 H => ?_)
          refine a_iload (pc := 218) (dk D 107 rfl) rfl ?_
          exact a_iret (pc := 220) (dk D 108 rfl) rfl rfl H
    · replace H := H.2 c
      refine a_iload (pc := 185) (dk D 91 rfl) rfl ?_
      refine a_ineg (pc := 187) (dk D 92 rfl) ?_
      refine a_goto (pc := 188) (dk D 93 rfl) (tgt := 193) rfl ?_
      refine a_istore (pc := 193) (dk D 95 rfl) (by decide) rfl rfl ?_
      refine a_aload_n (pc := 195) (dk D 96 rfl) rfl ?_
      refine a_callVi (as := []) (st := []) (pc := 196) (dk D 97 rfl) cl_RX12_315 ⟨Nat.le_of_ble_eq_true rfl, Nat.le_of_ble_eq_true rfl⟩ ⟨Nat.le_of_ble_eq_true rfl, Nat.le_of_ble_eq_true rfl⟩ cls_12 rfl cc_85 rfl rfl rfl (Nat.le_of_ble_eq_true rfl) (Call.mono H fun r9 h10 H => ?_)
      refine a_if_ne (pc := 199) (dk D 98 rfl) (tgt := 218) rfl ⟨fun c => ?_, fun c => ?_⟩
      · replace H := H.1 c
        refine a_iload (pc := 218) (dk D 107 rfl) rfl ?_
        exact a_iret (pc := 220) (dk D 108 rfl) rfl rfl H
      · replace H := H.2 c
        refine a_iload (pc := 202) (dk D 99 rfl) rfl ?_
        refine a_iload_n (pc := 204) (dk D 100 rfl) rfl ?_
        refine a_iload_n (pc := 205) (dk D 101 rfl) rfl ?_
        refine a_callSi (as := [iv (w32 (-x7)), iv x2, iv x3]) (st := []) (pc := 206) (dk D 102 rfl) cl_RX12_302 ⟨Nat.le_of_ble_eq_true rfl, Nat.le_of_ble_eq_true rfl⟩ ⟨Nat.le_of_ble_eq_true rfl, Nat.le_of_ble_eq_true rfl⟩ rfl rfl rfl (Nat.le_of_ble_eq_true rfl) (Call.mono H fun r11 h12 H => ?_)
        refine a_if_ne (pc := 209) (dk D 103 rfl) (tgt := 218) rfl ⟨fun c => ?_, fun c => ?_⟩
        · replace H := H.1 c
          refine a_iload (pc := 218) (dk D 107 rfl) rfl ?_
          exact a_iret (pc := 220) (dk D 108 rfl) rfl rfl H
        · replace H := H.2 c
          refine a_aload_n (pc := 212) (dk D 104 rfl) rfl ?_
          refine a_iload (pc := 213) (dk D 105 rfl) rfl ?_
          refine a_callVv (as := [iv x4]) (st := []) (pc := 215) (dk D 106 rfl) cl_RX12_323 ⟨Nat.le_of_ble_eq_true rfl, Nat.le_of_ble_eq_true rfl⟩ ⟨Nat.le_of_ble_eq_true rfl, Nat.le_of_ble_eq_true rfl⟩ cls_12 rfl cc_85 rfl rfl rfl (Nat.le_of_ble_eq_true rfl) (Call.mono H fun _ h14 H => ?_)
          refine a_iload (pc := 218) (dk D 107 rfl) rfl ?_
          exact a_iret (pc := 220) (dk D 108 rfl) rfl rfl H
  · replace H := H.2 c
    refine a_aload_n (pc := 98) (dk D 48 rfl) rfl ?_
    refine a_callVi (as := []) (st := []) (pc := 99) (dk D 49 rfl) cl_RX12_319 ⟨Nat.le_of_ble_eq_true rfl, Nat.le_of_ble_eq_true rfl⟩ ⟨Nat.le_of_ble_eq_true rfl, Nat.le_of_ble_eq_true rfl⟩ cls_12 rfl cc_85 rfl rfl rfl (Nat.le_of_ble_eq_true rfl) (Call.mono H fun r15 h16 H => ?_)
    refine a_callSi (as := [iv r15]) (st := []) (pc := 102) (dk D 50 rfl) cl_RX12_326 ⟨Nat.le_of_ble_eq_true rfl, Nat.le_of_ble_eq_true rfl⟩ ⟨Nat.le_of_ble_eq_true rfl, Nat.le_of_ble_eq_true rfl⟩ rfl rfl rfl (Nat.le_of_ble_eq_true rfl) (Call.mono H fun r17 h18 H => ?_)
    refine a_if_eq (pc := 105) (dk D 51 rfl) (tgt := 180) rfl ⟨fun c => ?_, fun c => ?_⟩
    · replace H := H.1 c
      refine a_iload (pc := 180) (dk D 89 rfl) rfl ?_
      refine a_if_eq (pc := 182) (dk D 90 rfl) (tgt := 191) rfl ⟨fun c => ?_, fun c => ?_⟩
      · replace H := H.1 c
        refine a_iload (pc := 191) (dk D 94 rfl) rfl ?_
        refine a_istore (pc := 193) (dk D 95 rfl) (by decide) rfl rfl ?_
        refine a_aload_n (pc := 195) (dk D 96 rfl) rfl ?_
        refine a_callVi (as := []) (st := []) (pc := 196) (dk D 97 rfl) cl_RX12_315 ⟨Nat.le_of_ble_eq_true rfl, Nat.le_of_ble_eq_true rfl⟩ ⟨Nat.le_of_ble_eq_true rfl, Nat.le_of_ble_eq_true rfl⟩ cls_12 rfl cc_85 rfl rfl rfl (Nat.le_of_ble_eq_true rfl) (Call.mono H fun r19 h20 H => ?_)
        refine a_if_ne (pc := 199) (dk D 98 rfl) (tgt := 218) rfl ⟨fun c => ?_, fun c => ?_⟩
        · replace H := H.1 c
          refine a_iload (pc := 218) (dk D 107 rfl) rfl ?_
          exact a_iret (pc := 220) (dk D 108 rfl) rfl rfl H
        · replace H := H.2 c
          refine a_iload (pc := 202) (dk D 99 rfl) rfl ?_
          refine a_iload_n (pc := 204) (dk D 100 rfl) rfl ?_
          refine a_iload_n (pc := 205) (dk D 101 rfl) rfl ?_
          refine a_callSi (as := [iv x7, iv x2, iv x3]) (st := []) (pc := 206) (dk D 102 rfl) cl_RX12_302 ⟨Nat.le_of_ble_eq_true rfl, Nat.le_of_ble_eq_true rfl⟩ ⟨Nat.le_of_ble_eq_true rfl, Nat.le_of_ble_eq_true rfl⟩ rfl rfl rfl (Nat.le_of_ble_eq_true rfl) (Call.mono H fun r21 h22 H => ?_)
          refine a_if_ne (pc := 209) (dk D 103 rfl) (tgt := 218) rfl ⟨fun c => ?_, fun c => ?_⟩
          · replace H := H.1 c
            refine a_iload (pc := 218) (dk D 107 rfl) rfl ?_
            exact a_iret (pc := 220) (dk D 108 rfl) rfl rfl H
          · replace H := H.2 c
            refine a_aload_n (pc := 212) (dk D 104 rfl) rfl ?_
            refine a_iload (pc := 213) (dk D 105 rfl) rfl ?_
            refine a_callVv (as := [iv x4]) (st := []) (pc := 215) (dk D 106 rfl) cl_RX12_323 ⟨Nat.le_of_ble_eq_true rfl, Nat.le_of_ble_eq_true rfl⟩ ⟨Nat.le_of_ble_eq_true rfl, Nat.le_of_ble_eq_true rfl⟩ cls_12 rfl cc_85 rfl rfl rfl (Nat.le_of_ble_eq_true rfl) (Call.mono H fun _ h24 H => ?_)
            refine a_iload (pc := 218) (dk D 107 rfl) rfl ?_
            exact a_iret (pc := 220) (dk D 108 rfl) rfl rfl H
      · replace H := H.2 c
        refine a_iload (pc := 185) (dk D 91 rfl) rfl ?_
        refine a_ineg (pc := 187) (dk D 92 rfl) ?_
        refine a_goto (pc := 188) (dk D 93 rfl) (tgt := 193) rfl ?_
        refine a_istore (pc := 193) (dk D 95 rfl) (by decide) rfl rfl ?_
        refine a_aload_n (pc := 195) (dk D 96 rfl) rfl ?_
        refine a_callVi (as := []) (st := []) (pc := 196) (dk D 97 rfl) cl_RX12_315 ⟨Nat.le_of_ble_eq_true rfl, Nat.le_of_ble_eq_true rfl⟩ ⟨Nat.le_of_ble_eq_true rfl, Nat.le_of_ble_eq_true rfl⟩ cls_12 rfl cc_85 rfl rfl rfl (Nat.le_of_ble_eq_true rfl) (Call.mono H fun r25 h26 H => ?_)
        refine a_if_ne (pc := 199) (dk D 98 rfl) (tgt := 218) rfl ⟨fun c => ?_, fun c => ?_⟩
        · replace H := H.1 c
          refine a_iload (pc := 218) (dk D 107 rfl) rfl ?_
          exact a_iret (pc := 220) (dk D 108 rfl) rfl rfl H
        · replace H := H.2 c
          refine a_iload (pc := 202) (dk D 99 rfl) rfl ?_
          refine a_iload_n (pc := 204) (dk D 100 rfl) rfl ?_
          refine a_iload_n (pc := 205) (dk D 101 rfl) rfl ?_
          refine a_callSi (as := [iv (w32 (-x7)), iv x2, iv x3]) (st := []) (pc := 206) (dk D 102 rfl) cl_RX12_302 ⟨Nat.le_of_ble_eq_true rfl, Nat.le_of_ble_eq_true rfl⟩ ⟨Nat.le_of_ble_eq_true rfl, Nat.le_of_ble_eq_true rfl⟩ rfl rfl rfl (Nat.le_of_ble_eq_true rfl) (Call.mono H fun r27 h28 H => ?_)
          refine a_if_ne (pc := 209) (dk D 103 rfl) (tgt := 218) rfl ⟨fun c => ?_, fun c => ?_⟩
          · replace H := H.1 c
            refine a_iload (pc := 218) (dk D 107 rfl) rfl ?_
            exact a_iret (pc := 220) (dk D 108 rfl) rfl rfl H
          · replace H := H.2 c
            refine a_aload_n (pc := 212) (dk D 104 rfl) rfl ?_
            refine a_iload (pc := 213) (dk D 105 rfl) rfl ?_
            refine a_callVv (as := [iv x4]) (st := []) (pc := 215) (dk D 106 rfl) cl_RX12_323 ⟨Nat.le_of_ble_eq_true rfl, Nat.le_of_ble_eq_true rfl⟩ ⟨Nat.le_of_ble_eq_true rfl, Nat.le_of_ble_eq_true rfl⟩ cls_12 rfl cc_85 rfl rfl rfl (Nat.le_of_ble_eq_true rfl) (Call.mono H fun _ h30 H => ?_)
            refine a_iload (pc := 218) (dk D 107 rfl) rfl ?_
            exact a_iret (pc := 220) (dk D 108 rfl) rfl rfl H
    · replace H := H.2 c
      refine a_aload_n (pc := 108) (dk D 52 rfl) rfl ?_
      refine a_geti (pc := 109) (dk D 53 rfl) cls_12 fl_RX12_309 cf_85_5 ?_
      refine a_iload (pc := 112) (dk D 54 rfl) rfl ?_
      refine a_isub (pc := 114) (dk D 55 rfl) ?_
      refine a_bipush (pc := 115) (dk D 56 rfl) (ik rfl) (bpk rfl) ?_
      refine a_icmp_eq (pc := 117) (dk D 57 rfl) (tgt := 141) rfl ⟨fun c => ?_, fun c => ?_⟩
      · replace H := H.1 c
        refine a_aload_n (pc := 141) (dk D 68 rfl) rfl ?_
        refine a_aload_n (pc := 142) (dk D 69 rfl) rfl ?_
        refine a_geti (pc := 143) (dk D 70 rfl) cls_12 fl_RX12_309 cf_85_5 ?_
        refine a_callVv (as := [iv (h18 85 5)]) (st := []) (pc := 146) (dk D 71 rfl) cl_RX12_323 ⟨Nat.le_of_ble_eq_true rfl, Nat.le_of_ble_eq_true rfl⟩ ⟨Nat.le_of_ble_eq_true rfl, Nat.le_of_ble_eq_true rfl⟩ cls_12 rfl cc_85 rfl rfl rfl (Nat.le_of_ble_eq_true rfl) (Call.mono H fun _ h32 H => ?_)
        refine a_goto (pc := 149) (dk D 72 rfl) (tgt := 91) rfl ?_
        exact a_pick [0, 1, 2, 3, 4, 5, 6] rfl H
      · replace H := H.2 c
        refine a_aload_n (pc := 120) (dk D 58 rfl) rfl ?_
        refine a_geti (pc := 121) (dk D 59 rfl) cls_12 fl_RX12_309 cf_85_5 ?_
        refine a_iload (pc := 124) (dk D 60 rfl) rfl ?_
        refine a_icmp_le (pc := 126) (dk D 61 rfl) (tgt := 152) rfl ⟨fun c => ?_, fun c => ?_⟩
        · replace H := H.1 c
          refine a_bipush (pc := 152) (dk D 73 rfl) (ik rfl) (bpk rfl) ?_
          refine a_iload (pc := 154) (dk D 74 rfl) rfl ?_
          refine a_imul (pc := 156) (dk D 75 rfl) ?_
          refine a_aload_n (pc := 157) (dk D 76 rfl) rfl ?_
          refine a_callVi (as := []) (st := [iv (w32 (10 * x7))]) (pc := 158) (dk D 77 rfl) cl_RX12_319 ⟨Nat.le_of_ble_eq_true rfl, Nat.le_of_ble_eq_true rfl⟩ ⟨Nat.le_of_ble_eq_true rfl, Nat.le_of_ble_eq_true rfl⟩ cls_12 rfl cc_85 rfl rfl rfl (Nat.le_of_ble_eq_true rfl) (Call.mono H fun r33 h34 H => ?_)
          refine a_iadd (pc := 161) (dk D 78 rfl) ?_
          refine a_bipush (pc := 162) (dk D 79 rfl) (ik rfl) (bpk rfl) ?_
          refine a_isub (pc := 164) (dk D 80 rfl) ?_
          refine a_istore (pc := 165) (dk D 81 rfl) (by decide) rfl rfl ?_
          refine a_aload_n (pc := 167) (dk D 82 rfl) rfl ?_
          refine a_dup (pc := 168) (dk D 83 rfl) rfl ?_
          refine a_geti (pc := 169) (dk D 84 rfl) cls_12 fl_RX12_309 cf_85_5 ?_
          refine a_iconst (pc := 172) (dk D 85 rfl) (ik rfl) ?_
          refine a_iadd (pc := 173) (dk D 86 rfl) ?_
          refine a_puti (pc := 174) (dk D 87 rfl) cls_12 fl_RX12_309 cf_85_5 rfl rfl ?_
          refine a_goto (pc := 177) (dk D 88 rfl) (tgt := 91) rfl ?_
          exact a_pick [0, 1, 2, 3, 4, 5, 6] rfl H
        · replace H := H.2 c
          refine a_aload_n (pc := 129) (dk D 62 rfl) rfl ?_
          refine a_getr (r := 86) (pc := 130) (dk D 63 rfl) cls_12 fl_RX12_13 cf_85_1 ?_
          refine a_iload (pc := 133) (dk D 64 rfl) rfl ?_
          refine a_iald (pc := 135) (dk D 65 rfl) ar_87 ⟨H.1, ?_⟩
          replace H := H.2
          refine a_bipush (pc := 136) (dk D 66 rfl) (ik rfl) (bpk rfl) ?_
          refine a_icmp_ne (pc := 138) (dk D 67 rfl) (tgt := 152) rfl ⟨fun c => ?_, fun c => ?_⟩
          · replace H := H.1 c
            refine a_bipush (pc := 152) (dk D 73 rfl) (ik rfl) (bpk rfl) ?_
            refine a_iload (pc := 154) (dk D 74 rfl) rfl ?_
            refine a_imul (pc := 156) (dk D 75 rfl) ?_
            refine a_aload_n (pc := 157) (dk D 76 rfl) rfl ?_
            refine a_callVi (as := []) (st := [iv (w32 (10 * x7))]) (pc := 158) (dk D 77 rfl) cl_RX12_319 ⟨Nat.le_of_ble_eq_true rfl, Nat.le_of_ble_eq_true rfl⟩ ⟨Nat.le_of_ble_eq_true rfl, Nat.le_of_ble_eq_true rfl⟩ cls_12 rfl cc_85 rfl rfl rfl (Nat.le_of_ble_eq_true rfl) (Call.mono H fun r35 h36 H => ?_)
            refine a_iadd (pc := 161) (dk D 78 rfl) ?_
            refine a_bipush (pc := 162) (dk D 79 rfl) (ik rfl) (bpk rfl) ?_
            refine a_isub (pc := 164) (dk D 80 rfl) ?_
            refine a_istore (pc := 165) (dk D 81 rfl) (by decide) rfl rfl ?_
            refine a_aload_n (pc := 167) (dk D 82 rfl) rfl ?_
            refine a_dup (pc := 168) (dk D 83 rfl) rfl ?_
            refine a_geti (pc := 169) (dk D 84 rfl) cls_12 fl_RX12_309 cf_85_5 ?_
            refine a_iconst (pc := 172) (dk D 85 rfl) (ik rfl) ?_
            refine a_iadd (pc := 173) (dk D 86 rfl) ?_
            refine a_puti (pc := 174) (dk D 87 rfl) cls_12 fl_RX12_309 cf_85_5 rfl rfl ?_
            refine a_goto (pc := 177) (dk D 88 rfl) (tgt := 91) rfl ?_
            exact a_pick [0, 1, 2, 3, 4, 5, 6] rfl H
          · replace H := H.2 c
            refine a_aload_n (pc := 141) (dk D 68 rfl) rfl ?_
            refine a_aload_n (pc := 142) (dk D 69 rfl) rfl ?_
            refine a_geti (pc := 143) (dk D 70 rfl) cls_12 fl_RX12_309 cf_85_5 ?_
            refine a_callVv (as := [iv (h18 85 5)]) (st := []) (pc := 146) (dk D 71 rfl) cl_RX12_323 ⟨Nat.le_of_ble_eq_true rfl, Nat.le_of_ble_eq_true rfl⟩ ⟨Nat.le_of_ble_eq_true rfl, Nat.le_of_ble_eq_true rfl⟩ cls_12 rfl cc_85 rfl rfl rfl (Nat.le_of_ble_eq_true rfl) (Call.mono H fun _ h38 H => ?_)
            refine a_goto (pc := 149) (dk D 72 rfl) (tgt := 91) rfl ?_
            exact a_pick [0, 1, 2, 3, 4, 5, 6] rfl H
set_option maxHeartbeats 40000000 in
theorem T_X12_wordOf_85_100_0 {G : GG} {Φ : Int → Hp → Prop} {h : Hp} (H : Call G m_X12_bad [rv 85] h (fun r1 h2 => ((r1 = 0 → Call G m_X12_wordEnd [rv 85] h2 (fun r3 h4 => AT G m_X12_wordOf 16 [(0, rv 85), (1, rv 100), (2, iv r3), (3, iv 0)] [] h4 Φ)) ∧ (r1 ≠ 0 → Φ (-1) h2)))) : AT G m_X12_wordOf 0 [(0, rv 85), (1, rv 100)] [] h Φ := by
  have D := dt_X12_wordOf
  refine a_aload_n (pc := 0) (dk D 0 rfl) rfl ?_
  refine a_callVi (as := []) (st := []) (pc := 1) (dk D 1 rfl) cl_RX12_315 ⟨Nat.le_of_ble_eq_true rfl, Nat.le_of_ble_eq_true rfl⟩ ⟨Nat.le_of_ble_eq_true rfl, Nat.le_of_ble_eq_true rfl⟩ cls_12 rfl cc_85 rfl rfl rfl (Nat.le_of_ble_eq_true rfl) (Call.mono H fun r1 h2 H => ?_)
  refine a_if_eq (pc := 4) (dk D 2 rfl) (tgt := 9) rfl ⟨fun c => ?_, fun c => ?_⟩
  · replace H := H.1 c
    refine a_aload_n (pc := 9) (dk D 5 rfl) rfl ?_
    refine a_callVi (as := []) (st := []) (pc := 10) (dk D 6 rfl) cl_RX12_340 ⟨Nat.le_of_ble_eq_true rfl, Nat.le_of_ble_eq_true rfl⟩ ⟨Nat.le_of_ble_eq_true rfl, Nat.le_of_ble_eq_true rfl⟩ cls_12 rfl cc_85 rfl rfl rfl (Nat.le_of_ble_eq_true rfl) (Call.mono H fun r3 h4 H => ?_)
    refine a_istore_n (pc := 13) (dk D 7 rfl) (by decide) rfl rfl ?_
    refine a_iconst (pc := 14) (dk D 8 rfl) (ik rfl) ?_
    refine a_istore_n (pc := 15) (dk D 9 rfl) (by decide) rfl rfl ?_
    exact a_pick [0, 1, 2, 3] rfl H
  · replace H := H.2 c
    refine a_iconst (pc := 7) (dk D 3 rfl) (ik rfl) ?_
    exact a_iret (pc := 8) (dk D 4 rfl) rfl rfl H
set_option maxHeartbeats 40000000 in
theorem T_X12_wordOf_85_100_16 {G : GG} {Φ : Int → Hp → Prop} {h : Hp} {x2 : Int} {x3 : Int} (H : ((17 ≤ x3 → Call G m_X12_fail [rv 85, iv (h 85 5)] h (fun _ h2 => Φ (-1) h2)) ∧ (x3 < 17 → (0 ≤ x3 ∧ x3 < 17) ∧ (1000 ≤ (rf 100 (x3).toNat) ∧ (rf 100 (x3).toNat) < 1063) ∧ Call G m_J0_length_8abf5 [rv (rf 100 (x3).toNat)] h (fun r3 h4 => (((w32 (x2 - (h 85 5))) ≠ r3 → AT G m_X12_wordOf 47 [(0, rv 85), (1, rv 100), (2, iv x2), (3, iv x3), (4, iv 0), (5, iv 0)] [] h4 Φ) ∧ ((w32 (x2 - (h 85 5))) = r3 → AT G m_X12_wordOf 47 [(0, rv 85), (1, rv 100), (2, iv x2), (3, iv x3), (4, iv 1), (5, iv 0)] [] h4 Φ)))))) : AT G m_X12_wordOf 16 [(0, rv 85), (1, rv 100), (2, iv x2), (3, iv x3)] [] h Φ := by
  have D := dt_X12_wordOf
  refine a_iload_n (pc := 16) (dk D 10 rfl) rfl ?_
  refine a_aload_n (pc := 17) (dk D 11 rfl) rfl ?_
  refine a_alen (pc := 18) (dk D 12 rfl) ar_100 (by decide) ?_
  refine a_icmp_ge (pc := 19) (dk D 13 rfl) (tgt := 117) rfl ⟨fun c => ?_, fun c => ?_⟩
  · replace H := H.1 c
    refine a_aload_n (pc := 117) (dk D 65 rfl) rfl ?_
    refine a_aload_n (pc := 118) (dk D 66 rfl) rfl ?_
    refine a_geti (pc := 119) (dk D 67 rfl) cls_12 fl_RX12_309 cf_85_5 ?_
    refine a_callVv (as := [iv (h 85 5)]) (st := []) (pc := 122) (dk D 68 rfl) cl_RX12_323 ⟨Nat.le_of_ble_eq_true rfl, Nat.le_of_ble_eq_true rfl⟩ ⟨Nat.le_of_ble_eq_true rfl, Nat.le_of_ble_eq_true rfl⟩ cls_12 rfl cc_85 rfl rfl rfl (Nat.le_of_ble_eq_true rfl) (Call.mono H fun _ h2 H => ?_)
    refine a_iconst (pc := 125) (dk D 69 rfl) (ik rfl) ?_
    exact a_iret (pc := 126) (dk D 70 rfl) rfl rfl H
  · replace H := H.2 c
    refine a_iload_n (pc := 22) (dk D 14 rfl) rfl ?_
    refine a_aload_n (pc := 23) (dk D 15 rfl) rfl ?_
    refine a_geti (pc := 24) (dk D 16 rfl) cls_12 fl_RX12_309 cf_85_5 ?_
    refine a_isub (pc := 27) (dk D 17 rfl) ?_
    refine a_aload_n (pc := 28) (dk D 18 rfl) rfl ?_
    refine a_iload_n (pc := 29) (dk D 19 rfl) rfl ?_
    refine a_aald (pc := 30) (dk D 20 rfl) ar_100 (by decide) ⟨H.1, ?_⟩
    replace H := H.2
    have hS := H.1
    replace H := H.2
    refine a_callTi (as := []) (st := [iv (w32 (x2 - (h 85 5)))]) (pc := 31) (dk D 21 rfl) cl_RX12_343 ⟨Nat.le_of_ble_eq_true rfl, Nat.le_of_ble_eq_true rfl⟩ ⟨Nat.le_of_ble_eq_true rfl, Nat.le_of_ble_eq_true rfl⟩ hS rfl rfl rfl rfl (Nat.le_of_ble_eq_true rfl) (Call.mono H fun r3 h4 H => ?_)
    refine a_icmp_ne (pc := 34) (dk D 22 rfl) (tgt := 41) rfl ⟨fun c => ?_, fun c => ?_⟩
    · replace H := H.1 c
      refine a_iconst (pc := 41) (dk D 25 rfl) (ik rfl) ?_
      refine a_istore (pc := 42) (dk D 26 rfl) (by decide) rfl rfl ?_
      refine a_iconst (pc := 44) (dk D 27 rfl) (ik rfl) ?_
      refine a_istore (pc := 45) (dk D 28 rfl) (by decide) rfl rfl ?_
      exact a_pick [0, 1, 2, 3, 4, 5] rfl H
    · replace H := H.2 c
      refine a_iconst (pc := 37) (dk D 23 rfl) (ik rfl) ?_
      refine a_goto (pc := 38) (dk D 24 rfl) (tgt := 42) rfl ?_
      refine a_istore (pc := 42) (dk D 26 rfl) (by decide) rfl rfl ?_
      refine a_iconst (pc := 44) (dk D 27 rfl) (ik rfl) ?_
      refine a_istore (pc := 45) (dk D 28 rfl) (by decide) rfl rfl ?_
      exact a_pick [0, 1, 2, 3, 4, 5] rfl H
set_option maxHeartbeats 40000000 in
theorem T_X12_wordOf_85_100_47 {G : GG} {Φ : Int → Hp → Prop} {h : Hp} {x2 : Int} {x3 : Int} {x4 : Int} {x5 : Int} (H : (0 ≤ x3 ∧ x3 < 17) ∧ (1000 ≤ (rf 100 (x3).toNat) ∧ (rf 100 (x3).toNat) < 1063) ∧ Call G m_J0_length_8abf5 [rv (rf 100 (x3).toNat)] h (fun r1 h2 => ((r1 ≤ x5 → ((x4 = 0 → AT G m_X12_wordOf 16 [(0, rv 85), (1, rv 100), (2, iv x2), (3, iv (w32 (x3 + 1)))] [] h2 Φ) ∧ (x4 ≠ 0 → Φ x3 (up h2 85 5 x2)))) ∧ (x5 < r1 → ((x4 = 0 → ((x4 = 0 → AT G m_X12_wordOf 16 [(0, rv 85), (1, rv 100), (2, iv x2), (3, iv (w32 (x3 + 1)))] [] h2 Φ) ∧ (x4 ≠ 0 → Φ x3 (up h2 85 5 x2)))) ∧ (x4 ≠ 0 → (0 ≤ (w32 ((h2 85 5) + x5)) ∧ (w32 ((h2 85 5) + x5)) < 1600) ∧ (0 ≤ x3 ∧ x3 < 17) ∧ (1000 ≤ (rf 100 (x3).toNat) ∧ (rf 100 (x3).toNat) < 1063) ∧ Call G m_J0_charAt_5068e [rv (rf 100 (x3).toNat), iv x5] h2 (fun r3 h4 => (((h2 87 (w32 ((h2 85 5) + x5))) ≠ r3 → AT G m_X12_wordOf 47 [(0, rv 85), (1, rv 100), (2, iv x2), (3, iv x3), (4, iv 0), (5, iv (w32 (x5 + 1)))] [] h4 Φ) ∧ ((h2 87 (w32 ((h2 85 5) + x5))) = r3 → AT G m_X12_wordOf 47 [(0, rv 85), (1, rv 100), (2, iv x2), (3, iv x3), (4, iv 1), (5, iv (w32 (x5 + 1)))] [] h4 Φ))))))))) : AT G m_X12_wordOf 47 [(0, rv 85), (1, rv 100), (2, iv x2), (3, iv x3), (4, iv x4), (5, iv x5)] [] h Φ := by
  have D := dt_X12_wordOf
  refine a_iload (pc := 47) (dk D 29 rfl) rfl ?_
  refine a_aload_n (pc := 49) (dk D 30 rfl) rfl ?_
  refine a_iload_n (pc := 50) (dk D 31 rfl) rfl ?_
  refine a_aald (pc := 51) (dk D 32 rfl) ar_100 (by decide) ⟨H.1, ?_⟩
  replace H := H.2
  have hS := H.1
  replace H := H.2
  refine a_callTi (as := []) (st := [iv x5]) (pc := 52) (dk D 33 rfl) cl_RX12_343 ⟨Nat.le_of_ble_eq_true rfl, Nat.le_of_ble_eq_true rfl⟩ ⟨Nat.le_of_ble_eq_true rfl, Nat.le_of_ble_eq_true rfl⟩ hS rfl rfl rfl rfl (Nat.le_of_ble_eq_true rfl) (Call.mono H fun r1 h2 H => ?_)
  refine a_icmp_ge (pc := 55) (dk D 34 rfl) (tgt := 99) rfl ⟨fun c => ?_, fun c => ?_⟩
  · replace H := H.1 c
    refine a_iload (pc := 99) (dk D 56 rfl) rfl ?_
    refine a_if_eq (pc := 101) (dk D 57 rfl) (tgt := 111) rfl ⟨fun c => ?_, fun c => ?_⟩
    · replace H := H.1 c
      refine a_iinc (pc := 111) (dk D 63 rfl) (by decide) rfl rfl rfl ?_
      refine a_goto (pc := 114) (dk D 64 rfl) (tgt := 16) rfl ?_
      exact a_pick [0, 1, 2, 3] rfl H
    · replace H := H.2 c
      refine a_aload_n (pc := 104) (dk D 58 rfl) rfl ?_
      refine a_iload_n (pc := 105) (dk D 59 rfl) rfl ?_
      refine a_puti (pc := 106) (dk D 60 rfl) cls_12 fl_RX12_309 cf_85_5 rfl rfl ?_
      refine a_iload_n (pc := 109) (dk D 61 rfl) rfl ?_
      exact a_iret (pc := 110) (dk D 62 rfl) rfl rfl H
  · replace H := H.2 c
    refine a_iload (pc := 58) (dk D 35 rfl) rfl ?_
    refine a_if_eq (pc := 60) (dk D 36 rfl) (tgt := 99) rfl ⟨fun c => ?_, fun c => ?_⟩
    · replace H := H.1 c
      refine a_iload (pc := 99) (dk D 56 rfl) rfl ?_
      refine a_if_eq (pc := 101) (dk D 57 rfl) (tgt := 111) rfl ⟨fun c => ?_, fun c => ?_⟩
      · replace H := H.1 c
        refine a_iinc (pc := 111) (dk D 63 rfl) (by decide) rfl rfl rfl ?_
        refine a_goto (pc := 114) (dk D 64 rfl) (tgt := 16) rfl ?_
        exact a_pick [0, 1, 2, 3] rfl H
      · replace H := H.2 c
        refine a_aload_n (pc := 104) (dk D 58 rfl) rfl ?_
        refine a_iload_n (pc := 105) (dk D 59 rfl) rfl ?_
        refine a_puti (pc := 106) (dk D 60 rfl) cls_12 fl_RX12_309 cf_85_5 rfl rfl ?_
        refine a_iload_n (pc := 109) (dk D 61 rfl) rfl ?_
        exact a_iret (pc := 110) (dk D 62 rfl) rfl rfl H
    · replace H := H.2 c
      refine a_aload_n (pc := 63) (dk D 37 rfl) rfl ?_
      refine a_getr (r := 86) (pc := 64) (dk D 38 rfl) cls_12 fl_RX12_13 cf_85_1 ?_
      refine a_aload_n (pc := 67) (dk D 39 rfl) rfl ?_
      refine a_geti (pc := 68) (dk D 40 rfl) cls_12 fl_RX12_309 cf_85_5 ?_
      refine a_iload (pc := 71) (dk D 41 rfl) rfl ?_
      refine a_iadd (pc := 73) (dk D 42 rfl) ?_
      refine a_iald (pc := 74) (dk D 43 rfl) ar_87 ⟨H.1, ?_⟩
      replace H := H.2
      refine a_aload_n (pc := 75) (dk D 44 rfl) rfl ?_
      refine a_iload_n (pc := 76) (dk D 45 rfl) rfl ?_
      refine a_aald (pc := 77) (dk D 46 rfl) ar_100 (by decide) ⟨H.1, ?_⟩
      replace H := H.2
      refine a_iload (pc := 78) (dk D 47 rfl) rfl ?_
      have hS := H.1
      replace H := H.2
      refine a_callTi (as := [iv x5]) (st := [iv (h2 87 (w32 ((h2 85 5) + x5)))]) (pc := 80) (dk D 48 rfl) cl_RX12_346 ⟨Nat.le_of_ble_eq_true rfl, Nat.le_of_ble_eq_true rfl⟩ ⟨Nat.le_of_ble_eq_true rfl, Nat.le_of_ble_eq_true rfl⟩ hS rfl rfl rfl rfl (Nat.le_of_ble_eq_true rfl) (Call.mono H fun r3 h4 H => ?_)
      refine a_icmp_ne (pc := 83) (dk D 49 rfl) (tgt := 90) rfl ⟨fun c => ?_, fun c => ?_⟩
      · replace H := H.1 c
        refine a_iconst (pc := 90) (dk D 52 rfl) (ik rfl) ?_
        refine a_istore (pc := 91) (dk D 53 rfl) (by decide) rfl rfl ?_
        refine a_iinc (pc := 93) (dk D 54 rfl) (by decide) rfl rfl rfl ?_
        refine a_goto (pc := 96) (dk D 55 rfl) (tgt := 47) rfl ?_
        exact a_pick [0, 1, 2, 3, 4, 5] rfl H
      · replace H := H.2 c
        refine a_iconst (pc := 86) (dk D 50 rfl) (ik rfl) ?_
        refine a_goto (pc := 87) (dk D 51 rfl) (tgt := 91) rfl ?_
        refine a_istore (pc := 91) (dk D 53 rfl) (by decide) rfl rfl ?_
        refine a_iinc (pc := 93) (dk D 54 rfl) (by decide) rfl rfl rfl ?_
        refine a_goto (pc := 96) (dk D 55 rfl) (tgt := 47) rfl ?_
        exact a_pick [0, 1, 2, 3, 4, 5] rfl H
set_option maxHeartbeats 40000000 in
theorem T_X12_begin_85_0 {G : GG} {Φ : Int → Hp → Prop} {h : Hp} {x1 : Int} (H : (0 ≤ x1 ∧ x1 < 8) ∧ (0 ≤ x1 ∧ x1 < 8) ∧ Φ 0 (up (up h 116 x1 0) 117 x1 0)) : AT G m_X12_begin 0 [(0, rv 85), (1, iv x1)] [] h Φ := by
  have D := dt_X12_begin
  refine a_aload_n (pc := 0) (dk D 0 rfl) rfl ?_
  refine a_getr (r := 115) (pc := 1) (dk D 1 rfl) cls_12 fl_RX12_177 cf_85_49 ?_
  refine a_iload_n (pc := 4) (dk D 2 rfl) rfl ?_
  refine a_iconst (pc := 5) (dk D 3 rfl) (ik rfl) ?_
  refine a_iast (pc := 6) (dk D 4 rfl) ar_116 ⟨H.1, ?_⟩
  replace H := H.2
  refine a_aload_n (pc := 7) (dk D 5 rfl) rfl ?_
  refine a_getr (r := 116) (pc := 8) (dk D 6 rfl) cls_12 fl_RX12_180 cf_85_50 ?_
  refine a_iload_n (pc := 11) (dk D 7 rfl) rfl ?_
  refine a_iconst (pc := 12) (dk D 8 rfl) (ik rfl) ?_
  refine a_iast (pc := 13) (dk D 9 rfl) ar_117 ⟨H.1, ?_⟩
  replace H := H.2
  exact a_vret (pc := 14) (dk D 10 rfl) rfl rfl H
set_option maxHeartbeats 40000000 in
theorem T_X12_holds_85_0 {G : GG} {Φ : Int → Hp → Prop} {h : Hp} {x1 : Int} (H : (0 ≤ x1 ∧ x1 < 260) ∧ Call G m_X12_valueOf [rv 85, iv (h 106 x1)] h (fun r1 h2 => (0 ≤ x1 ∧ x1 < 260) ∧ (((h2 107 x1) ≠ 61 → (0 ≤ x1 ∧ x1 < 260) ∧ (((h2 107 x1) ≠ 60 → (0 ≤ x1 ∧ x1 < 260) ∧ ((r1 ≤ (h2 108 x1) → Φ 0 h2) ∧ ((h2 108 x1) < r1 → Φ 1 h2))) ∧ ((h2 107 x1) = 60 → (0 ≤ x1 ∧ x1 < 260) ∧ (((h2 108 x1) ≤ r1 → Φ 0 h2) ∧ (r1 < (h2 108 x1) → Φ 1 h2))))) ∧ ((h2 107 x1) = 61 → (0 ≤ x1 ∧ x1 < 260) ∧ ((r1 ≠ (h2 108 x1) → Φ 0 h2) ∧ (r1 = (h2 108 x1) → Φ 1 h2)))))) : AT G m_X12_holds 0 [(0, rv 85), (1, iv x1)] [] h Φ := by
  have D := dt_X12_holds
  refine a_aload_n (pc := 0) (dk D 0 rfl) rfl ?_
  refine a_aload_n (pc := 1) (dk D 1 rfl) rfl ?_
  refine a_getr (r := 105) (pc := 2) (dk D 2 rfl) cls_12 fl_RX12_147 cf_85_39 ?_
  refine a_iload_n (pc := 5) (dk D 3 rfl) rfl ?_
  refine a_iald (pc := 6) (dk D 4 rfl) ar_106 ⟨H.1, ?_⟩
  replace H := H.2
  refine a_callVi (as := [iv (h 106 x1)]) (st := []) (pc := 7) (dk D 5 rfl) cl_RX12_478 ⟨Nat.le_of_ble_eq_true rfl, Nat.le_of_ble_eq_true rfl⟩ ⟨Nat.le_of_ble_eq_true rfl, Nat.le_of_ble_eq_true rfl⟩ cls_12 rfl cc_85 rfl rfl rfl (Nat.le_of_ble_eq_true rfl) (Call.mono H fun r1 h2 H => ?_)
  refine a_istore_n (pc := 10) (dk D 6 rfl) (by decide) rfl rfl ?_
  refine a_aload_n (pc := 11) (dk D 7 rfl) rfl ?_
  refine a_getr (r := 106) (pc := 12) (dk D 8 rfl) cls_12 fl_RX12_150 cf_85_40 ?_
  refine a_iload_n (pc := 15) (dk D 9 rfl) rfl ?_
  refine a_iald (pc := 16) (dk D 10 rfl) ar_107 ⟨H.1, ?_⟩
  replace H := H.2
  refine a_bipush (pc := 17) (dk D 11 rfl) (ik rfl) (bpk rfl) ?_
  refine a_icmp_ne (pc := 19) (dk D 12 rfl) (tgt := 40) rfl ⟨fun c => ?_, fun c => ?_⟩
  · replace H := H.1 c
    refine a_aload_n (pc := 40) (dk D 23 rfl) rfl ?_
    refine a_getr (r := 106) (pc := 41) (dk D 24 rfl) cls_12 fl_RX12_150 cf_85_40 ?_
    refine a_iload_n (pc := 44) (dk D 25 rfl) rfl ?_
    refine a_iald (pc := 45) (dk D 26 rfl) ar_107 ⟨H.1, ?_⟩
    replace H := H.2
    refine a_bipush (pc := 46) (dk D 27 rfl) (ik rfl) (bpk rfl) ?_
    refine a_icmp_ne (pc := 48) (dk D 28 rfl) (tgt := 69) rfl ⟨fun c => ?_, fun c => ?_⟩
    · replace H := H.1 c
      refine a_iload_n (pc := 69) (dk D 39 rfl) rfl ?_
      refine a_aload_n (pc := 70) (dk D 40 rfl) rfl ?_
      refine a_getr (r := 107) (pc := 71) (dk D 41 rfl) cls_12 fl_RX12_153 cf_85_41 ?_
      refine a_iload_n (pc := 74) (dk D 42 rfl) rfl ?_
      refine a_iald (pc := 75) (dk D 43 rfl) ar_108 ⟨H.1, ?_⟩
      replace H := H.2
      refine a_icmp_le (pc := 76) (dk D 44 rfl) (tgt := 83) rfl ⟨fun c => ?_, fun c => ?_⟩
      · replace H := H.1 c
        refine a_iconst (pc := 83) (dk D 47 rfl) (ik rfl) ?_
        exact a_zret (pc := 84) (dk D 48 rfl) rfl rfl ⟨by decide, H⟩
      · replace H := H.2 c
        refine a_iconst (pc := 79) (dk D 45 rfl) (ik rfl) ?_
        refine a_goto (pc := 80) (dk D 46 rfl) (tgt := 84) rfl ?_
        exact a_zret (pc := 84) (dk D 48 rfl) rfl rfl ⟨by decide, H⟩
    · replace H := H.2 c
      refine a_iload_n (pc := 51) (dk D 29 rfl) rfl ?_
      refine a_aload_n (pc := 52) (dk D 30 rfl) rfl ?_
      refine a_getr (r := 107) (pc := 53) (dk D 31 rfl) cls_12 fl_RX12_153 cf_85_41 ?_
      refine a_iload_n (pc := 56) (dk D 32 rfl) rfl ?_
      refine a_iald (pc := 57) (dk D 33 rfl) ar_108 ⟨H.1, ?_⟩
      replace H := H.2
      refine a_icmp_ge (pc := 58) (dk D 34 rfl) (tgt := 65) rfl ⟨fun c => ?_, fun c => ?_⟩
      · replace H := H.1 c
        refine a_iconst (pc := 65) (dk D 37 rfl) (ik rfl) ?_
        refine a_goto (pc := 66) (dk D 38 rfl) (tgt := 84) rfl ?_
        exact a_zret (pc := 84) (dk D 48 rfl) rfl rfl ⟨by decide, H⟩
      · replace H := H.2 c
        refine a_iconst (pc := 61) (dk D 35 rfl) (ik rfl) ?_
        refine a_goto (pc := 62) (dk D 36 rfl) (tgt := 84) rfl ?_
        exact a_zret (pc := 84) (dk D 48 rfl) rfl rfl ⟨by decide, H⟩
  · replace H := H.2 c
    refine a_iload_n (pc := 22) (dk D 13 rfl) rfl ?_
    refine a_aload_n (pc := 23) (dk D 14 rfl) rfl ?_
    refine a_getr (r := 107) (pc := 24) (dk D 15 rfl) cls_12 fl_RX12_153 cf_85_41 ?_
    refine a_iload_n (pc := 27) (dk D 16 rfl) rfl ?_
    refine a_iald (pc := 28) (dk D 17 rfl) ar_108 ⟨H.1, ?_⟩
    replace H := H.2
    refine a_icmp_ne (pc := 29) (dk D 18 rfl) (tgt := 36) rfl ⟨fun c => ?_, fun c => ?_⟩
    · replace H := H.1 c
      refine a_iconst (pc := 36) (dk D 21 rfl) (ik rfl) ?_
      refine a_goto (pc := 37) (dk D 22 rfl) (tgt := 84) rfl ?_
      exact a_zret (pc := 84) (dk D 48 rfl) rfl rfl ⟨by decide, H⟩
    · replace H := H.2 c
      refine a_iconst (pc := 32) (dk D 19 rfl) (ik rfl) ?_
      refine a_goto (pc := 33) (dk D 20 rfl) (tgt := 84) rfl ?_
      exact a_zret (pc := 84) (dk D 48 rfl) rfl rfl ⟨by decide, H⟩
set_option maxHeartbeats 40000000 in
theorem T_X12_goTo_85_0 {G : GG} {Φ : Int → Hp → Prop} {h : Hp} {x1 : Int} (H : AT G m_X12_goTo 7 [(0, rv 85), (1, iv x1), (2, iv 0)] [] (up h 85 23 x1) Φ) : AT G m_X12_goTo 0 [(0, rv 85), (1, iv x1)] [] h Φ := by
  have D := dt_X12_goTo
  refine a_aload_n (pc := 0) (dk D 0 rfl) rfl ?_
  refine a_iload_n (pc := 1) (dk D 1 rfl) rfl ?_
  refine a_puti (pc := 2) (dk D 2 rfl) cls_12 fl_RX12_465 cf_85_23 rfl rfl ?_
  refine a_iconst (pc := 5) (dk D 3 rfl) (ik rfl) ?_
  refine a_istore_n (pc := 6) (dk D 4 rfl) (by decide) rfl rfl ?_
  exact a_pick [0, 1, 2] rfl H
set_option maxHeartbeats 40000000 in
theorem T_X12_goTo_85_7 {G : GG} {Φ : Int → Hp → Prop} {h : Hp} {x1 : Int} {x2 : Int} (H : ((8 ≤ x2 → Φ 0 h) ∧ (x2 < 8 → (0 ≤ x1 ∧ x1 < 4) ∧ (((band (bshr (h 124 x1) x2) 1) ≠ 1 → (0 ≤ x2 ∧ x2 < 8) ∧ (0 ≤ x1 ∧ x1 < 4) ∧ (((band (bshr (h 125 x1) x2) 1) ≠ 0 → AT G m_X12_goTo 7 [(0, rv 85), (1, iv x1), (2, iv (w32 (x2 + 1)))] [] (up h 95 x2 0) Φ) ∧ ((band (bshr (h 125 x1) x2) 1) = 0 → (0 ≤ x2 ∧ x2 < 8) ∧ AT G m_X12_goTo 7 [(0, rv 85), (1, iv x1), (2, iv (w32 (x2 + 1)))] [] (up (up h 95 x2 0) 116 x2 (-1)) Φ))) ∧ ((band (bshr (h 124 x1) x2) 1) = 1 → (0 ≤ x2 ∧ x2 < 8) ∧ (0 ≤ x1 ∧ x1 < 4) ∧ (((band (bshr (h 125 x1) x2) 1) ≠ 0 → AT G m_X12_goTo 7 [(0, rv 85), (1, iv x1), (2, iv (w32 (x2 + 1)))] [] (up h 95 x2 1) Φ) ∧ ((band (bshr (h 125 x1) x2) 1) = 0 → (0 ≤ x2 ∧ x2 < 8) ∧ AT G m_X12_goTo 7 [(0, rv 85), (1, iv x1), (2, iv (w32 (x2 + 1)))] [] (up (up h 95 x2 1) 116 x2 (-1)) Φ))))))) : AT G m_X12_goTo 7 [(0, rv 85), (1, iv x1), (2, iv x2)] [] h Φ := by
  have D := dt_X12_goTo
  refine a_iload_n (pc := 7) (dk D 5 rfl) rfl ?_
  refine a_bipush (pc := 8) (dk D 6 rfl) (ik rfl) (bpk rfl) ?_
  refine a_icmp_ge (pc := 10) (dk D 7 rfl) (tgt := 64) rfl ⟨fun c => ?_, fun c => ?_⟩
  · replace H := H.1 c
    exact a_vret (pc := 64) (dk D 41 rfl) rfl rfl H
  · replace H := H.2 c
    refine a_aload_n (pc := 13) (dk D 8 rfl) rfl ?_
    refine a_getr (r := 94) (pc := 14) (dk D 9 rfl) cls_12 fl_RX12_50 cf_85_26 ?_
    refine a_iload_n (pc := 17) (dk D 10 rfl) rfl ?_
    refine a_aload_n (pc := 18) (dk D 11 rfl) rfl ?_
    refine a_getr (r := 123) (pc := 19) (dk D 12 rfl) cls_12 fl_RX12_201 cf_85_58 ?_
    refine a_iload_n (pc := 22) (dk D 13 rfl) rfl ?_
    refine a_iald (pc := 23) (dk D 14 rfl) ar_124 ⟨H.1, ?_⟩
    replace H := H.2
    refine a_iload_n (pc := 24) (dk D 15 rfl) rfl ?_
    refine a_ishr (pc := 25) (dk D 16 rfl) ?_
    refine a_iconst (pc := 26) (dk D 17 rfl) (ik rfl) ?_
    refine a_iand (pc := 27) (dk D 18 rfl) ?_
    refine a_iconst (pc := 28) (dk D 19 rfl) (ik rfl) ?_
    refine a_icmp_ne (pc := 29) (dk D 20 rfl) (tgt := 36) rfl ⟨fun c => ?_, fun c => ?_⟩
    · replace H := H.1 c
      refine a_iconst (pc := 36) (dk D 23 rfl) (ik rfl) ?_
      refine a_zast (pc := 37) (dk D 24 rfl) ar_95 ⟨H.1, by decide, ?_⟩
      replace H := H.2
      refine a_aload_n (pc := 38) (dk D 25 rfl) rfl ?_
      refine a_getr (r := 124) (pc := 39) (dk D 26 rfl) cls_12 fl_RX12_204 cf_85_59 ?_
      refine a_iload_n (pc := 42) (dk D 27 rfl) rfl ?_
      refine a_iald (pc := 43) (dk D 28 rfl) ar_125 ⟨H.1, ?_⟩
      replace H := H.2
      refine a_top (y := (h 125 x1)) (by simp [up, cpy]) ?_
      refine a_iload_n (pc := 44) (dk D 29 rfl) rfl ?_
      refine a_ishr (pc := 45) (dk D 30 rfl) ?_
      refine a_iconst (pc := 46) (dk D 31 rfl) (ik rfl) ?_
      refine a_iand (pc := 47) (dk D 32 rfl) ?_
      refine a_if_ne (pc := 48) (dk D 33 rfl) (tgt := 58) rfl ⟨fun c => ?_, fun c => ?_⟩
      · replace H := H.1 c
        refine a_iinc (pc := 58) (dk D 39 rfl) (by decide) rfl rfl rfl ?_
        refine a_goto (pc := 61) (dk D 40 rfl) (tgt := 7) rfl ?_
        exact a_pick [0, 1, 2] rfl H
      · replace H := H.2 c
        refine a_aload_n (pc := 51) (dk D 34 rfl) rfl ?_
        refine a_getr (r := 115) (pc := 52) (dk D 35 rfl) cls_12 fl_RX12_177 cf_85_49 ?_
        refine a_iload_n (pc := 55) (dk D 36 rfl) rfl ?_
        refine a_iconst (pc := 56) (dk D 37 rfl) (ik rfl) ?_
        refine a_iast (pc := 57) (dk D 38 rfl) ar_116 ⟨H.1, ?_⟩
        replace H := H.2
        refine a_iinc (pc := 58) (dk D 39 rfl) (by decide) rfl rfl rfl ?_
        refine a_goto (pc := 61) (dk D 40 rfl) (tgt := 7) rfl ?_
        exact a_pick [0, 1, 2] rfl H
    · replace H := H.2 c
      refine a_iconst (pc := 32) (dk D 21 rfl) (ik rfl) ?_
      refine a_goto (pc := 33) (dk D 22 rfl) (tgt := 37) rfl ?_
      refine a_zast (pc := 37) (dk D 24 rfl) ar_95 ⟨H.1, by decide, ?_⟩
      replace H := H.2
      refine a_aload_n (pc := 38) (dk D 25 rfl) rfl ?_
      refine a_getr (r := 124) (pc := 39) (dk D 26 rfl) cls_12 fl_RX12_204 cf_85_59 ?_
      refine a_iload_n (pc := 42) (dk D 27 rfl) rfl ?_
      refine a_iald (pc := 43) (dk D 28 rfl) ar_125 ⟨H.1, ?_⟩
      replace H := H.2
      refine a_top (y := (h 125 x1)) (by simp [up, cpy]) ?_
      refine a_iload_n (pc := 44) (dk D 29 rfl) rfl ?_
      refine a_ishr (pc := 45) (dk D 30 rfl) ?_
      refine a_iconst (pc := 46) (dk D 31 rfl) (ik rfl) ?_
      refine a_iand (pc := 47) (dk D 32 rfl) ?_
      refine a_if_ne (pc := 48) (dk D 33 rfl) (tgt := 58) rfl ⟨fun c => ?_, fun c => ?_⟩
      · replace H := H.1 c
        refine a_iinc (pc := 58) (dk D 39 rfl) (by decide) rfl rfl rfl ?_
        refine a_goto (pc := 61) (dk D 40 rfl) (tgt := 7) rfl ?_
        exact a_pick [0, 1, 2] rfl H
      · replace H := H.2 c
        refine a_aload_n (pc := 51) (dk D 34 rfl) rfl ?_
        refine a_getr (r := 115) (pc := 52) (dk D 35 rfl) cls_12 fl_RX12_177 cf_85_49 ?_
        refine a_iload_n (pc := 55) (dk D 36 rfl) rfl ?_
        refine a_iconst (pc := 56) (dk D 37 rfl) (ik rfl) ?_
        refine a_iast (pc := 57) (dk D 38 rfl) ar_116 ⟨H.1, ?_⟩
        replace H := H.2
        refine a_iinc (pc := 58) (dk D 39 rfl) (by decide) rfl rfl rfl ?_
        refine a_goto (pc := 61) (dk D 40 rfl) (tgt := 7) rfl ?_
        exact a_pick [0, 1, 2] rfl H
set_option maxHeartbeats 40000000 in
theorem T_X12_sunNow_85_0 {G : GG} {Φ : Int → Hp → Prop} {h : Hp} (H : Call G m_X12_isShadow [rv 85] h (fun r1 h2 => ((r1 = 0 → Φ (h2 85 20) h2) ∧ (r1 ≠ 0 → Φ 0 h2)))) : AT G m_X12_sunNow 0 [(0, rv 85)] [] h Φ := by
  have D := dt_X12_sunNow
  refine a_aload_n (pc := 0) (dk D 0 rfl) rfl ?_
  refine a_callVi (as := []) (st := []) (pc := 1) (dk D 1 rfl) cl_RX12_418 ⟨Nat.le_of_ble_eq_true rfl, Nat.le_of_ble_eq_true rfl⟩ ⟨Nat.le_of_ble_eq_true rfl, Nat.le_of_ble_eq_true rfl⟩ cls_12 rfl cc_85 rfl rfl rfl (Nat.le_of_ble_eq_true rfl) (Call.mono H fun r1 h2 H => ?_)
  refine a_if_eq (pc := 4) (dk D 2 rfl) (tgt := 11) rfl ⟨fun c => ?_, fun c => ?_⟩
  · replace H := H.1 c
    refine a_aload_n (pc := 11) (dk D 5 rfl) rfl ?_
    refine a_geti (pc := 12) (dk D 6 rfl) cls_12 fl_RX12_41 cf_85_20 ?_
    exact a_iret (pc := 15) (dk D 7 rfl) rfl rfl H
  · replace H := H.2 c
    refine a_iconst (pc := 7) (dk D 3 rfl) (ik rfl) ?_
    refine a_goto (pc := 8) (dk D 4 rfl) (tgt := 15) rfl ?_
    exact a_iret (pc := 15) (dk D 7 rfl) rfl rfl H
set_option maxHeartbeats 40000000 in
theorem T_X12_encoded_0 {G : GG} {Φ : Int → Hp → Prop} {h : Hp} {x0 : Int} (H : AT G m_X12_encoded 6 [(0, iv x0), (1, iv 0), (2, iv 0), (3, iv 3)] [] h Φ) : AT G m_X12_encoded 0 [(0, iv x0)] [] h Φ := by
  have D := dt_X12_encoded
  refine a_iconst (pc := 0) (dk D 0 rfl) (ik rfl) ?_
  refine a_istore_n (pc := 1) (dk D 1 rfl) (by decide) rfl rfl ?_
  refine a_iconst (pc := 2) (dk D 2 rfl) (ik rfl) ?_
  refine a_istore_n (pc := 3) (dk D 3 rfl) (by decide) rfl rfl ?_
  refine a_iconst (pc := 4) (dk D 4 rfl) (ik rfl) ?_
  refine a_istore_n (pc := 5) (dk D 5 rfl) (by decide) rfl rfl ?_
  exact a_pick [0, 1, 2, 3] rfl H
set_option maxHeartbeats 40000000 in
theorem T_X12_encoded_6 {G : GG} {Φ : Int → Hp → Prop} {h : Hp} {x0 : Int} {x1 : Int} {x2 : Int} {x3 : Int} (H : ((12 < x3 → Call G m_X12_places [iv x1] h (fun r1 h2 => AT G m_X12_encoded 53 [(1, iv x1), (3, iv r1), (4, iv 1)] [] h2 Φ)) ∧ (x3 ≤ 12 → ((x3 = 4 → AT G m_X12_encoded 6 [(0, iv x0), (1, iv x1), (2, iv x2), (3, iv (w32 (x3 + 1)))] [] h Φ) ∧ (x3 ≠ 4 → ((x3 ≠ 8 → AT G m_X12_encoded 6 [(0, iv x0), (1, iv (bor x1 (bshl (band (bshr x0 x2) 1) x3))), (2, iv (w32 (x2 + 1))), (3, iv (w32 (x3 + 1)))] [] h Φ) ∧ (x3 = 8 → AT G m_X12_encoded 6 [(0, iv x0), (1, iv x1), (2, iv x2), (3, iv (w32 (x3 + 1)))] [] h Φ))))))) : AT G m_X12_encoded 6 [(0, iv x0), (1, iv x1), (2, iv x2), (3, iv x3)] [] h Φ := by
  have D := dt_X12_encoded
  refine a_iload_n (pc := 6) (dk D 6 rfl) rfl ?_
  refine a_bipush (pc := 7) (dk D 7 rfl) (ik rfl) (bpk rfl) ?_
  refine a_icmp_gt (pc := 9) (dk D 8 rfl) (tgt := 45) rfl ⟨fun c => ?_, fun c => ?_⟩
  · replace H := H.1 c
    refine a_iload_n (pc := 45) (dk D 29 rfl) rfl ?_
    refine a_callSi (as := [iv x1]) (st := []) (pc := 46) (dk D 30 rfl) cl_RX12_429 ⟨Nat.le_of_ble_eq_true rfl, Nat.le_of_ble_eq_true rfl⟩ ⟨Nat.le_of_ble_eq_true rfl, Nat.le_of_ble_eq_true rfl⟩ rfl rfl rfl (Nat.le_of_ble_eq_true rfl) (Call.mono H fun r1 h2 H => ?_)
    refine a_istore_n (pc := 49) (dk D 31 rfl) (by decide) rfl rfl ?_
    refine a_iconst (pc := 50) (dk D 32 rfl) (ik rfl) ?_
    refine a_istore (pc := 51) (dk D 33 rfl) (by decide) rfl rfl ?_
    exact a_pick [1, 3, 4] rfl H
  · replace H := H.2 c
    refine a_iload_n (pc := 12) (dk D 9 rfl) rfl ?_
    refine a_iconst (pc := 13) (dk D 10 rfl) (ik rfl) ?_
    refine a_icmp_eq (pc := 14) (dk D 11 rfl) (tgt := 39) rfl ⟨fun c => ?_, fun c => ?_⟩
    · replace H := H.1 c
      refine a_iinc (pc := 39) (dk D 27 rfl) (by decide) rfl rfl rfl ?_
      refine a_goto (pc := 42) (dk D 28 rfl) (tgt := 6) rfl ?_
      exact a_pick [0, 1, 2, 3] rfl H
    · replace H := H.2 c
      refine a_iload_n (pc := 17) (dk D 12 rfl) rfl ?_
      refine a_bipush (pc := 18) (dk D 13 rfl) (ik rfl) (bpk rfl) ?_
      refine a_icmp_ne (pc := 20) (dk D 14 rfl) (tgt := 26) rfl ⟨fun c => ?_, fun c => ?_⟩
      · replace H := H.1 c
        refine a_iload_n (pc := 26) (dk D 16 rfl) rfl ?_
        refine a_iload_n (pc := 27) (dk D 17 rfl) rfl ?_
        refine a_iload_n (pc := 28) (dk D 18 rfl) rfl ?_
        refine a_ishr (pc := 29) (dk D 19 rfl) ?_
        refine a_iconst (pc := 30) (dk D 20 rfl) (ik rfl) ?_
        refine a_iand (pc := 31) (dk D 21 rfl) ?_
        refine a_iload_n (pc := 32) (dk D 22 rfl) rfl ?_
        refine a_ishl (pc := 33) (dk D 23 rfl) ?_
        refine a_ior (pc := 34) (dk D 24 rfl) ?_
        refine a_istore_n (pc := 35) (dk D 25 rfl) (by decide) rfl rfl ?_
        refine a_iinc (pc := 36) (dk D 26 rfl) (by decide) rfl rfl rfl ?_
        refine a_iinc (pc := 39) (dk D 27 rfl) (by decide) rfl rfl rfl ?_
        refine a_goto (pc := 42) (dk D 28 rfl) (tgt := 6) rfl ?_
        exact a_pick [0, 1, 2, 3] rfl H
      · replace H := H.2 c
        refine a_goto (pc := 23) (dk D 15 rfl) (tgt := 39) rfl ?_
        refine a_iinc (pc := 39) (dk D 27 rfl) (by decide) rfl rfl rfl ?_
        refine a_goto (pc := 42) (dk D 28 rfl) (tgt := 6) rfl ?_
        exact a_pick [0, 1, 2, 3] rfl H
set_option maxHeartbeats 40000000 in
theorem T_X12_encoded_53 {G : GG} {Φ : Int → Hp → Prop} {h : Hp} {x1 : Int} {x3 : Int} {x4 : Int} (H : ((9 ≤ x4 → Call G m_X12_odd [iv x1] h (fun r1 h2 => Φ (bor x1 r1) h2)) ∧ (x4 < 9 → (((band x3 x4) = 0 → AT G m_X12_encoded 53 [(1, iv (bor x1 0)), (3, iv x3), (4, iv (w32 (x4 * 2)))] [] h Φ) ∧ ((band x3 x4) ≠ 0 → AT G m_X12_encoded 53 [(1, iv (bor x1 (bshl 1 x4))), (3, iv x3), (4, iv (w32 (x4 * 2)))] [] h Φ))))) : AT G m_X12_encoded 53 [(1, iv x1), (3, iv x3), (4, iv x4)] [] h Φ := by
  have D := dt_X12_encoded
  refine a_iload (pc := 53) (dk D 34 rfl) rfl ?_
  refine a_bipush (pc := 55) (dk D 35 rfl) (ik rfl) (bpk rfl) ?_
  refine a_icmp_ge (pc := 57) (dk D 36 rfl) (tgt := 87) rfl ⟨fun c => ?_, fun c => ?_⟩
  · replace H := H.1 c
    refine a_iload_n (pc := 87) (dk D 54 rfl) rfl ?_
    refine a_iload_n (pc := 88) (dk D 55 rfl) rfl ?_
    refine a_callSi (as := [iv x1]) (st := [iv x1]) (pc := 89) (dk D 56 rfl) cl_RX12_432 ⟨Nat.le_of_ble_eq_true rfl, Nat.le_of_ble_eq_true rfl⟩ ⟨Nat.le_of_ble_eq_true rfl, Nat.le_of_ble_eq_true rfl⟩ rfl rfl rfl (Nat.le_of_ble_eq_true rfl) (Call.mono H fun r1 h2 H => ?_)
    refine a_ior (pc := 92) (dk D 57 rfl) ?_
    exact a_iret (pc := 93) (dk D 58 rfl) rfl rfl H
  · replace H := H.2 c
    refine a_iload_n (pc := 60) (dk D 37 rfl) rfl ?_
    refine a_iload_n (pc := 61) (dk D 38 rfl) rfl ?_
    refine a_iload (pc := 62) (dk D 39 rfl) rfl ?_
    refine a_iand (pc := 64) (dk D 40 rfl) ?_
    refine a_if_eq (pc := 65) (dk D 41 rfl) (tgt := 75) rfl ⟨fun c => ?_, fun c => ?_⟩
    · replace H := H.1 c
      refine a_iconst (pc := 75) (dk D 46 rfl) (ik rfl) ?_
      refine a_ior (pc := 76) (dk D 47 rfl) ?_
      refine a_istore_n (pc := 77) (dk D 48 rfl) (by decide) rfl rfl ?_
      refine a_iload (pc := 78) (dk D 49 rfl) rfl ?_
      refine a_iconst (pc := 80) (dk D 50 rfl) (ik rfl) ?_
      refine a_imul (pc := 81) (dk D 51 rfl) ?_
      refine a_istore (pc := 82) (dk D 52 rfl) (by decide) rfl rfl ?_
      refine a_goto (pc := 84) (dk D 53 rfl) (tgt := 53) rfl ?_
      exact a_pick [0, 1, 2] rfl H
    · replace H := H.2 c
      refine a_iconst (pc := 68) (dk D 42 rfl) (ik rfl) ?_
      refine a_iload (pc := 69) (dk D 43 rfl) rfl ?_
      refine a_ishl (pc := 71) (dk D 44 rfl) ?_
      refine a_goto (pc := 72) (dk D 45 rfl) (tgt := 76) rfl ?_
      refine a_ior (pc := 76) (dk D 47 rfl) ?_
      refine a_istore_n (pc := 77) (dk D 48 rfl) (by decide) rfl rfl ?_
      refine a_iload (pc := 78) (dk D 49 rfl) rfl ?_
      refine a_iconst (pc := 80) (dk D 50 rfl) (ik rfl) ?_
      refine a_imul (pc := 81) (dk D 51 rfl) ?_
      refine a_istore (pc := 82) (dk D 52 rfl) (by decide) rfl rfl ?_
      refine a_goto (pc := 84) (dk D 53 rfl) (tgt := 53) rfl ?_
      exact a_pick [0, 1, 2] rfl H
set_option maxHeartbeats 40000000 in
theorem T_X12_drop_85_0 {G : GG} {Φ : Int → Hp → Prop} {h : Hp} {x1 : Int} (H : AT G m_X12_drop 12 [(0, rv 85), (2, iv x1)] [] (up h 85 72 (w32 ((h 85 72) - 1))) Φ) : AT G m_X12_drop 0 [(0, rv 85), (1, iv x1)] [] h Φ := by
  have D := dt_X12_drop
  refine a_aload_n (pc := 0) (dk D 0 rfl) rfl ?_
  refine a_dup (pc := 1) (dk D 1 rfl) rfl ?_
  refine a_geti (pc := 2) (dk D 2 rfl) cls_12 fl_RX12_501 cf_85_72 ?_
  refine a_iconst (pc := 5) (dk D 3 rfl) (ik rfl) ?_
  refine a_isub (pc := 6) (dk D 4 rfl) ?_
  refine a_puti (pc := 7) (dk D 5 rfl) cls_12 fl_RX12_501 cf_85_72 rfl rfl ?_
  refine a_iload_n (pc := 10) (dk D 6 rfl) rfl ?_
  refine a_istore_n (pc := 11) (dk D 7 rfl) (by decide) rfl rfl ?_
  exact a_pick [0, 2] rfl H
set_option maxHeartbeats 40000000 in
theorem T_X12_drop_85_12 {G : GG} {Φ : Int → Hp → Prop} {h : Hp} {x2 : Int} (H : (((h 85 72) ≤ x2 → Φ 0 h) ∧ (x2 < (h 85 72) → (0 ≤ (w32 (x2 + 1)) ∧ (w32 (x2 + 1)) < 50) ∧ (0 ≤ x2 ∧ x2 < 50) ∧ AT G m_X12_drop 36 [(0, rv 85), (2, iv x2), (3, iv 0)] [] (up h 134 x2 (h 134 (w32 (x2 + 1)))) Φ))) : AT G m_X12_drop 12 [(0, rv 85), (2, iv x2)] [] h Φ := by
  have D := dt_X12_drop
  refine a_iload_n (pc := 12) (dk D 8 rfl) rfl ?_
  refine a_aload_n (pc := 13) (dk D 9 rfl) rfl ?_
  refine a_geti (pc := 14) (dk D 10 rfl) cls_12 fl_RX12_501 cf_85_72 ?_
  refine a_icmp_ge (pc := 17) (dk D 11 rfl) (tgt := 79) rfl ⟨fun c => ?_, fun c => ?_⟩
  · replace H := H.1 c
    exact a_vret (pc := 79) (dk D 49 rfl) rfl rfl H
  · replace H := H.2 c
    refine a_aload_n (pc := 20) (dk D 12 rfl) rfl ?_
    refine a_getr (r := 133) (pc := 21) (dk D 13 rfl) cls_12 fl_RX12_229 cf_85_69 ?_
    refine a_iload_n (pc := 24) (dk D 14 rfl) rfl ?_
    refine a_aload_n (pc := 25) (dk D 15 rfl) rfl ?_
    refine a_getr (r := 133) (pc := 26) (dk D 16 rfl) cls_12 fl_RX12_229 cf_85_69 ?_
    refine a_iload_n (pc := 29) (dk D 17 rfl) rfl ?_
    refine a_iconst (pc := 30) (dk D 18 rfl) (ik rfl) ?_
    refine a_iadd (pc := 31) (dk D 19 rfl) ?_
    refine a_iald (pc := 32) (dk D 20 rfl) ar_134 ⟨H.1, ?_⟩
    replace H := H.2
    refine a_iast (pc := 33) (dk D 21 rfl) ar_134 ⟨H.1, ?_⟩
    replace H := H.2
    refine a_iconst (pc := 34) (dk D 22 rfl) (ik rfl) ?_
    refine a_istore_n (pc := 35) (dk D 23 rfl) (by decide) rfl rfl ?_
    exact a_pick [0, 1, 2] rfl H
set_option maxHeartbeats 40000000 in
theorem T_X12_drop_85_36 {G : GG} {Φ : Int → Hp → Prop} {h : Hp} {x2 : Int} {x3 : Int} (H : ((9 ≤ x3 → AT G m_X12_drop 12 [(0, rv 85), (2, iv (w32 (x2 + 1)))] [] h Φ) ∧ (x3 < 9 → (0 ≤ (w32 ((w32 ((w32 (9 * x2)) + 9)) + x3)) ∧ (w32 ((w32 ((w32 (9 * x2)) + 9)) + x3)) < 450) ∧ (0 ≤ (w32 ((w32 (9 * x2)) + x3)) ∧ (w32 ((w32 (9 * x2)) + x3)) < 450) ∧ AT G m_X12_drop 36 [(0, rv 85), (2, iv x2), (3, iv (w32 (x3 + 1)))] [] (up h 133 (w32 ((w32 (9 * x2)) + x3)) (h 133 (w32 ((w32 ((w32 (9 * x2)) + 9)) + x3)))) Φ))) : AT G m_X12_drop 36 [(0, rv 85), (2, iv x2), (3, iv x3)] [] h Φ := by
  have D := dt_X12_drop
  refine a_iload_n (pc := 36) (dk D 24 rfl) rfl ?_
  refine a_bipush (pc := 37) (dk D 25 rfl) (ik rfl) (bpk rfl) ?_
  refine a_icmp_ge (pc := 39) (dk D 26 rfl) (tgt := 73) rfl ⟨fun c => ?_, fun c => ?_⟩
  · replace H := H.1 c
    refine a_iinc (pc := 73) (dk D 47 rfl) (by decide) rfl rfl rfl ?_
    refine a_goto (pc := 76) (dk D 48 rfl) (tgt := 12) rfl ?_
    exact a_pick [0, 1] rfl H
  · replace H := H.2 c
    refine a_aload_n (pc := 42) (dk D 27 rfl) rfl ?_
    refine a_getr (r := 132) (pc := 43) (dk D 28 rfl) cls_12 fl_RX12_227 cf_85_68 ?_
    refine a_bipush (pc := 46) (dk D 29 rfl) (ik rfl) (bpk rfl) ?_
    refine a_iload_n (pc := 48) (dk D 30 rfl) rfl ?_
    refine a_imul (pc := 49) (dk D 31 rfl) ?_
    refine a_iload_n (pc := 50) (dk D 32 rfl) rfl ?_
    refine a_iadd (pc := 51) (dk D 33 rfl) ?_
    refine a_aload_n (pc := 52) (dk D 34 rfl) rfl ?_
    refine a_getr (r := 132) (pc := 53) (dk D 35 rfl) cls_12 fl_RX12_227 cf_85_68 ?_
    refine a_bipush (pc := 56) (dk D 36 rfl) (ik rfl) (bpk rfl) ?_
    refine a_iload_n (pc := 58) (dk D 37 rfl) rfl ?_
    refine a_imul (pc := 59) (dk D 38 rfl) ?_
    refine a_bipush (pc := 60) (dk D 39 rfl) (ik rfl) (bpk rfl) ?_
    refine a_iadd (pc := 62) (dk D 40 rfl) ?_
    refine a_iload_n (pc := 63) (dk D 41 rfl) rfl ?_
    refine a_iadd (pc := 64) (dk D 42 rfl) ?_
    refine a_iald (pc := 65) (dk D 43 rfl) ar_133 ⟨H.1, ?_⟩
    replace H := H.2
    refine a_iast (pc := 66) (dk D 44 rfl) ar_133 ⟨H.1, ?_⟩
    replace H := H.2
    refine a_iinc (pc := 67) (dk D 45 rfl) (by decide) rfl rfl rfl ?_
    refine a_goto (pc := 70) (dk D 46 rfl) (tgt := 36) rfl ?_
    exact a_pick [0, 1, 2] rfl H
set_option maxHeartbeats 40000000 in
theorem T_X12_sort_85_0 {G : GG} {Φ : Int → Hp → Prop} {h : Hp} {x1 : Int} (H : (0 ≤ (w32 (9 * x1)) ∧ (w32 (9 * x1)) < 450) ∧ Φ (w32 ((w32 ((h 133 (w32 (9 * x1))) - 10)).tdiv 4)) h) : AT G m_X12_sort 0 [(0, rv 85), (1, iv x1)] [] h Φ := by
  have D := dt_X12_sort
  refine a_aload_n (pc := 0) (dk D 0 rfl) rfl ?_
  refine a_getr (r := 132) (pc := 1) (dk D 1 rfl) cls_12 fl_RX12_227 cf_85_68 ?_
  refine a_bipush (pc := 4) (dk D 2 rfl) (ik rfl) (bpk rfl) ?_
  refine a_iload_n (pc := 6) (dk D 3 rfl) rfl ?_
  refine a_imul (pc := 7) (dk D 4 rfl) ?_
  refine a_iald (pc := 8) (dk D 5 rfl) ar_133 ⟨H.1, ?_⟩
  replace H := H.2
  refine a_bipush (pc := 9) (dk D 6 rfl) (ik rfl) (bpk rfl) ?_
  refine a_isub (pc := 11) (dk D 7 rfl) ?_
  refine a_iconst (pc := 12) (dk D 8 rfl) (ik rfl) ?_
  refine a_idiv (pc := 13) (dk D 9 rfl) ⟨by decide, ?_⟩
  exact a_iret (pc := 14) (dk D 10 rfl) rfl rfl H
set_option maxHeartbeats 40000000 in
theorem T_X12_places_0 {G : GG} {Φ : Int → Hp → Prop} {h : Hp} {x0 : Int} (H : AT G m_X12_places 4 [(0, iv x0), (1, iv 0), (2, iv 1)] [] h Φ) : AT G m_X12_places 0 [(0, iv x0)] [] h Φ := by
  have D := dt_X12_places
  refine a_iconst (pc := 0) (dk D 0 rfl) (ik rfl) ?_
  refine a_istore_n (pc := 1) (dk D 1 rfl) (by decide) rfl rfl ?_
  refine a_iconst (pc := 2) (dk D 2 rfl) (ik rfl) ?_
  refine a_istore_n (pc := 3) (dk D 3 rfl) (by decide) rfl rfl ?_
  exact a_pick [0, 1, 2] rfl H
set_option maxHeartbeats 40000000 in
theorem T_X12_places_4 {G : GG} {Φ : Int → Hp → Prop} {h : Hp} {x0 : Int} {x1 : Int} {x2 : Int} (H : ((12 < x2 → Φ x1 h) ∧ (x2 ≤ 12 → (((band (bshr x0 x2) 1) ≠ 1 → AT G m_X12_places 4 [(0, iv x0), (1, iv (bxor x1 0)), (2, iv (w32 (x2 + 1)))] [] h Φ) ∧ ((band (bshr x0 x2) 1) = 1 → AT G m_X12_places 4 [(0, iv x0), (1, iv (bxor x1 x2)), (2, iv (w32 (x2 + 1)))] [] h Φ))))) : AT G m_X12_places 4 [(0, iv x0), (1, iv x1), (2, iv x2)] [] h Φ := by
  have D := dt_X12_places
  refine a_iload_n (pc := 4) (dk D 4 rfl) rfl ?_
  refine a_bipush (pc := 5) (dk D 5 rfl) (ik rfl) (bpk rfl) ?_
  refine a_icmp_gt (pc := 7) (dk D 6 rfl) (tgt := 33) rfl ⟨fun c => ?_, fun c => ?_⟩
  · replace H := H.1 c
    refine a_iload_n (pc := 33) (dk D 22 rfl) rfl ?_
    exact a_iret (pc := 34) (dk D 23 rfl) rfl rfl H
  · replace H := H.2 c
    refine a_iload_n (pc := 10) (dk D 7 rfl) rfl ?_
    refine a_iload_n (pc := 11) (dk D 8 rfl) rfl ?_
    refine a_iload_n (pc := 12) (dk D 9 rfl) rfl ?_
    refine a_ishr (pc := 13) (dk D 10 rfl) ?_
    refine a_iconst (pc := 14) (dk D 11 rfl) (ik rfl) ?_
    refine a_iand (pc := 15) (dk D 12 rfl) ?_
    refine a_iconst (pc := 16) (dk D 13 rfl) (ik rfl) ?_
    refine a_icmp_ne (pc := 17) (dk D 14 rfl) (tgt := 24) rfl ⟨fun c => ?_, fun c => ?_⟩
    · replace H := H.1 c
      refine a_iconst (pc := 24) (dk D 17 rfl) (ik rfl) ?_
      refine a_ixor (pc := 25) (dk D 18 rfl) ?_
      refine a_istore_n (pc := 26) (dk D 19 rfl) (by decide) rfl rfl ?_
      refine a_iinc (pc := 27) (dk D 20 rfl) (by decide) rfl rfl rfl ?_
      refine a_goto (pc := 30) (dk D 21 rfl) (tgt := 4) rfl ?_
      exact a_pick [0, 1, 2] rfl H
    · replace H := H.2 c
      refine a_iload_n (pc := 20) (dk D 15 rfl) rfl ?_
      refine a_goto (pc := 21) (dk D 16 rfl) (tgt := 25) rfl ?_
      refine a_ixor (pc := 25) (dk D 18 rfl) ?_
      refine a_istore_n (pc := 26) (dk D 19 rfl) (by decide) rfl rfl ?_
      refine a_iinc (pc := 27) (dk D 20 rfl) (by decide) rfl rfl rfl ?_
      refine a_goto (pc := 30) (dk D 21 rfl) (tgt := 4) rfl ?_
      exact a_pick [0, 1, 2] rfl H
set_option maxHeartbeats 40000000 in
theorem T_X12_odd_0 {G : GG} {Φ : Int → Hp → Prop} {h : Hp} {x0 : Int} (H : AT G m_X12_odd 4 [(0, iv x0), (1, iv 0), (2, iv 0)] [] h Φ) : AT G m_X12_odd 0 [(0, iv x0)] [] h Φ := by
  have D := dt_X12_odd
  refine a_iconst (pc := 0) (dk D 0 rfl) (ik rfl) ?_
  refine a_istore_n (pc := 1) (dk D 1 rfl) (by decide) rfl rfl ?_
  refine a_iconst (pc := 2) (dk D 2 rfl) (ik rfl) ?_
  refine a_istore_n (pc := 3) (dk D 3 rfl) (by decide) rfl rfl ?_
  exact a_pick [0, 1, 2] rfl H
set_option maxHeartbeats 40000000 in
theorem T_X12_odd_4 {G : GG} {Φ : Int → Hp → Prop} {h : Hp} {x0 : Int} {x1 : Int} {x2 : Int} (H : ((12 < x2 → Φ x1 h) ∧ (x2 ≤ 12 → AT G m_X12_odd 4 [(0, iv x0), (1, iv (bxor x1 (band (bshr x0 x2) 1))), (2, iv (w32 (x2 + 1)))] [] h Φ))) : AT G m_X12_odd 4 [(0, iv x0), (1, iv x1), (2, iv x2)] [] h Φ := by
  have D := dt_X12_odd
  refine a_iload_n (pc := 4) (dk D 4 rfl) rfl ?_
  refine a_bipush (pc := 5) (dk D 5 rfl) (ik rfl) (bpk rfl) ?_
  refine a_icmp_gt (pc := 7) (dk D 6 rfl) (tgt := 24) rfl ⟨fun c => ?_, fun c => ?_⟩
  · replace H := H.1 c
    refine a_iload_n (pc := 24) (dk D 17 rfl) rfl ?_
    exact a_iret (pc := 25) (dk D 18 rfl) rfl rfl H
  · replace H := H.2 c
    refine a_iload_n (pc := 10) (dk D 7 rfl) rfl ?_
    refine a_iload_n (pc := 11) (dk D 8 rfl) rfl ?_
    refine a_iload_n (pc := 12) (dk D 9 rfl) rfl ?_
    refine a_ishr (pc := 13) (dk D 10 rfl) ?_
    refine a_iconst (pc := 14) (dk D 11 rfl) (ik rfl) ?_
    refine a_iand (pc := 15) (dk D 12 rfl) ?_
    refine a_ixor (pc := 16) (dk D 13 rfl) ?_
    refine a_istore_n (pc := 17) (dk D 14 rfl) (by decide) rfl rfl ?_
    refine a_iinc (pc := 18) (dk D 15 rfl) (by decide) rfl rfl rfl ?_
    refine a_goto (pc := 21) (dk D 16 rfl) (tgt := 4) rfl ?_
    exact a_pick [0, 1, 2] rfl H
set_option maxHeartbeats 40000000 in
theorem T_X12_plain_0 {G : GG} {Φ : Int → Hp → Prop} {h : Hp} {x0 : Int} (H : AT G m_X12_plain 6 [(0, iv x0), (1, iv 0), (2, iv 0), (3, iv 3)] [] h Φ) : AT G m_X12_plain 0 [(0, iv x0)] [] h Φ := by
  have D := dt_X12_plain
  refine a_iconst (pc := 0) (dk D 0 rfl) (ik rfl) ?_
  refine a_istore_n (pc := 1) (dk D 1 rfl) (by decide) rfl rfl ?_
  refine a_iconst (pc := 2) (dk D 2 rfl) (ik rfl) ?_
  refine a_istore_n (pc := 3) (dk D 3 rfl) (by decide) rfl rfl ?_
  refine a_iconst (pc := 4) (dk D 4 rfl) (ik rfl) ?_
  refine a_istore_n (pc := 5) (dk D 5 rfl) (by decide) rfl rfl ?_
  exact a_pick [0, 1, 2, 3] rfl H
set_option maxHeartbeats 40000000 in
theorem T_X12_plain_6 {G : GG} {Φ : Int → Hp → Prop} {h : Hp} {x0 : Int} {x1 : Int} {x2 : Int} {x3 : Int} (H : ((12 < x3 → Φ x1 h) ∧ (x3 ≤ 12 → ((x3 = 4 → AT G m_X12_plain 6 [(0, iv x0), (1, iv x1), (2, iv x2), (3, iv (w32 (x3 + 1)))] [] h Φ) ∧ (x3 ≠ 4 → ((x3 ≠ 8 → AT G m_X12_plain 6 [(0, iv x0), (1, iv (bor x1 (bshl (band (bshr x0 x3) 1) x2))), (2, iv (w32 (x2 + 1))), (3, iv (w32 (x3 + 1)))] [] h Φ) ∧ (x3 = 8 → AT G m_X12_plain 6 [(0, iv x0), (1, iv x1), (2, iv x2), (3, iv (w32 (x3 + 1)))] [] h Φ))))))) : AT G m_X12_plain 6 [(0, iv x0), (1, iv x1), (2, iv x2), (3, iv x3)] [] h Φ := by
  have D := dt_X12_plain
  refine a_iload_n (pc := 6) (dk D 6 rfl) rfl ?_
  refine a_bipush (pc := 7) (dk D 7 rfl) (ik rfl) (bpk rfl) ?_
  refine a_icmp_gt (pc := 9) (dk D 8 rfl) (tgt := 45) rfl ⟨fun c => ?_, fun c => ?_⟩
  · replace H := H.1 c
    refine a_iload_n (pc := 45) (dk D 29 rfl) rfl ?_
    exact a_iret (pc := 46) (dk D 30 rfl) rfl rfl H
  · replace H := H.2 c
    refine a_iload_n (pc := 12) (dk D 9 rfl) rfl ?_
    refine a_iconst (pc := 13) (dk D 10 rfl) (ik rfl) ?_
    refine a_icmp_eq (pc := 14) (dk D 11 rfl) (tgt := 39) rfl ⟨fun c => ?_, fun c => ?_⟩
    · replace H := H.1 c
      refine a_iinc (pc := 39) (dk D 27 rfl) (by decide) rfl rfl rfl ?_
      refine a_goto (pc := 42) (dk D 28 rfl) (tgt := 6) rfl ?_
      exact a_pick [0, 1, 2, 3] rfl H
    · replace H := H.2 c
      refine a_iload_n (pc := 17) (dk D 12 rfl) rfl ?_
      refine a_bipush (pc := 18) (dk D 13 rfl) (ik rfl) (bpk rfl) ?_
      refine a_icmp_ne (pc := 20) (dk D 14 rfl) (tgt := 26) rfl ⟨fun c => ?_, fun c => ?_⟩
      · replace H := H.1 c
        refine a_iload_n (pc := 26) (dk D 16 rfl) rfl ?_
        refine a_iload_n (pc := 27) (dk D 17 rfl) rfl ?_
        refine a_iload_n (pc := 28) (dk D 18 rfl) rfl ?_
        refine a_ishr (pc := 29) (dk D 19 rfl) ?_
        refine a_iconst (pc := 30) (dk D 20 rfl) (ik rfl) ?_
        refine a_iand (pc := 31) (dk D 21 rfl) ?_
        refine a_iload_n (pc := 32) (dk D 22 rfl) rfl ?_
        refine a_ishl (pc := 33) (dk D 23 rfl) ?_
        refine a_ior (pc := 34) (dk D 24 rfl) ?_
        refine a_istore_n (pc := 35) (dk D 25 rfl) (by decide) rfl rfl ?_
        refine a_iinc (pc := 36) (dk D 26 rfl) (by decide) rfl rfl rfl ?_
        refine a_iinc (pc := 39) (dk D 27 rfl) (by decide) rfl rfl rfl ?_
        refine a_goto (pc := 42) (dk D 28 rfl) (tgt := 6) rfl ?_
        exact a_pick [0, 1, 2, 3] rfl H
      · replace H := H.2 c
        refine a_goto (pc := 23) (dk D 15 rfl) (tgt := 39) rfl ?_
        refine a_iinc (pc := 39) (dk D 27 rfl) (by decide) rfl rfl rfl ?_
        refine a_goto (pc := 42) (dk D 28 rfl) (tgt := 6) rfl ?_
        exact a_pick [0, 1, 2, 3] rfl H
set_option maxHeartbeats 40000000 in
theorem T_X12_wordEnd_85_0 {G : GG} {Φ : Int → Hp → Prop} {h : Hp} (H : (((h 85 4) ≤ (h 85 5) → Φ (h 85 5) h) ∧ ((h 85 5) < (h 85 4) → (0 ≤ (h 85 5) ∧ (h 85 5) < 1600) ∧ Call G m_X12_isSmall [iv (h 87 (h 85 5))] h (fun r1 h2 => ((r1 = 0 → Φ (h 85 5) h2) ∧ (r1 ≠ 0 → AT G m_X12_wordEnd 25 [(0, rv 85), (1, iv (h 85 5))] [] h2 Φ)))))) : AT G m_X12_wordEnd 0 [(0, rv 85)] [] h Φ := by
  have D := dt_X12_wordEnd
  refine a_aload_n (pc := 0) (dk D 0 rfl) rfl ?_
  refine a_geti (pc := 1) (dk D 1 rfl) cls_12 fl_RX12_309 cf_85_5 ?_
  refine a_istore_n (pc := 4) (dk D 2 rfl) (by decide) rfl rfl ?_
  refine a_iload_n (pc := 5) (dk D 3 rfl) rfl ?_
  refine a_aload_n (pc := 6) (dk D 4 rfl) rfl ?_
  refine a_geti (pc := 7) (dk D 5 rfl) cls_12 fl_RX12_306 cf_85_4 ?_
  refine a_icmp_ge (pc := 10) (dk D 6 rfl) (tgt := 63) rfl ⟨fun c => ?_, fun c => ?_⟩
  · replace H := H.1 c
    refine a_iload_n (pc := 63) (dk D 31 rfl) rfl ?_
    exact a_iret (pc := 64) (dk D 32 rfl) rfl rfl H
  · replace H := H.2 c
    refine a_aload_n (pc := 13) (dk D 7 rfl) rfl ?_
    refine a_getr (r := 86) (pc := 14) (dk D 8 rfl) cls_12 fl_RX12_13 cf_85_1 ?_
    refine a_iload_n (pc := 17) (dk D 9 rfl) rfl ?_
    refine a_iald (pc := 18) (dk D 10 rfl) ar_87 ⟨H.1, ?_⟩
    replace H := H.2
    refine a_callSi (as := [iv (h 87 (h 85 5))]) (st := []) (pc := 19) (dk D 11 rfl) cl_RX12_337 ⟨Nat.le_of_ble_eq_true rfl, Nat.le_of_ble_eq_true rfl⟩ ⟨Nat.le_of_ble_eq_true rfl, Nat.le_of_ble_eq_true rfl⟩ rfl rfl rfl (Nat.le_of_ble_eq_true rfl) (Call.mono H fun r1 h2 H => ?_)
    refine a_if_eq (pc := 22) (dk D 12 rfl) (tgt := 63) rfl ⟨fun c => ?_, fun c => ?_⟩
    · replace H := H.1 c
      refine a_iload_n (pc := 63) (dk D 31 rfl) rfl ?_
      exact a_iret (pc := 64) (dk D 32 rfl) rfl rfl H
    · replace H := H.2 c
      exact a_pick [0, 1] rfl H
set_option maxHeartbeats 40000000 in
theorem T_X12_wordEnd_85_25 {G : GG} {Φ : Int → Hp → Prop} {h : Hp} {x1 : Int} (H : (((h 85 4) ≤ x1 → Φ x1 h) ∧ (x1 < (h 85 4) → (0 ≤ x1 ∧ x1 < 1600) ∧ Call G m_X12_isSmall [iv (h 87 x1)] h (fun r1 h2 => ((r1 ≠ 0 → AT G m_X12_wordEnd 25 [(0, rv 85), (1, iv (w32 (x1 + 1)))] [] h2 Φ) ∧ (r1 = 0 → (0 ≤ x1 ∧ x1 < 1600) ∧ Call G m_X12_isDigit [iv (h2 87 x1)] h2 (fun r3 h4 => ((r3 = 0 → Φ x1 h4) ∧ (r3 ≠ 0 → AT G m_X12_wordEnd 25 [(0, rv 85), (1, iv (w32 (x1 + 1)))] [] h4 Φ))))))))) : AT G m_X12_wordEnd 25 [(0, rv 85), (1, iv x1)] [] h Φ := by
  have D := dt_X12_wordEnd
  refine a_iload_n (pc := 25) (dk D 13 rfl) rfl ?_
  refine a_aload_n (pc := 26) (dk D 14 rfl) rfl ?_
  refine a_geti (pc := 27) (dk D 15 rfl) cls_12 fl_RX12_306 cf_85_4 ?_
  refine a_icmp_ge (pc := 30) (dk D 16 rfl) (tgt := 63) rfl ⟨fun c => ?_, fun c => ?_⟩
  · replace H := H.1 c
    refine a_iload_n (pc := 63) (dk D 31 rfl) rfl ?_
    exact a_iret (pc := 64) (dk D 32 rfl) rfl rfl H
  · replace H := H.2 c
    refine a_aload_n (pc := 33) (dk D 17 rfl) rfl ?_
    refine a_getr (r := 86) (pc := 34) (dk D 18 rfl) cls_12 fl_RX12_13 cf_85_1 ?_
    refine a_iload_n (pc := 37) (dk D 19 rfl) rfl ?_
    refine a_iald (pc := 38) (dk D 20 rfl) ar_87 ⟨H.1, ?_⟩
    replace H := H.2
    refine a_callSi (as := [iv (h 87 x1)]) (st := []) (pc := 39) (dk D 21 rfl) cl_RX12_337 ⟨Nat.le_of_ble_eq_true rfl, Nat.le_of_ble_eq_true rfl⟩ ⟨Nat.le_of_ble_eq_true rfl, Nat.le_of_ble_eq_true rfl⟩ rfl rfl rfl (Nat.le_of_ble_eq_true rfl) (Call.mono H fun r1 h2 H => ?_)
    refine a_if_ne (pc := 42) (dk D 22 rfl) (tgt := 57) rfl ⟨fun c => ?_, fun c => ?_⟩
    · replace H := H.1 c
      refine a_iinc (pc := 57) (dk D 29 rfl) (by decide) rfl rfl rfl ?_
      refine a_goto (pc := 60) (dk D 30 rfl) (tgt := 25) rfl ?_
      exact a_pick [0, 1] rfl H
    · replace H := H.2 c
      refine a_aload_n (pc := 45) (dk D 23 rfl) rfl ?_
      refine a_getr (r := 86) (pc := 46) (dk D 24 rfl) cls_12 fl_RX12_13 cf_85_1 ?_
      refine a_iload_n (pc := 49) (dk D 25 rfl) rfl ?_
      refine a_iald (pc := 50) (dk D 26 rfl) ar_87 ⟨H.1, ?_⟩
      replace H := H.2
      refine a_callSi (as := [iv (h2 87 x1)]) (st := []) (pc := 51) (dk D 27 rfl) cl_RX12_326 ⟨Nat.le_of_ble_eq_true rfl, Nat.le_of_ble_eq_true rfl⟩ ⟨Nat.le_of_ble_eq_true rfl, Nat.le_of_ble_eq_true rfl⟩ rfl rfl rfl (Nat.le_of_ble_eq_true rfl) (Call.mono H fun r3 h4 H => ?_)
      refine a_if_eq (pc := 54) (dk D 28 rfl) (tgt := 63) rfl ⟨fun c => ?_, fun c => ?_⟩
      · replace H := H.1 c
        refine a_iload_n (pc := 63) (dk D 31 rfl) rfl ?_
        exact a_iret (pc := 64) (dk D 32 rfl) rfl rfl H
      · replace H := H.2 c
        refine a_iinc (pc := 57) (dk D 29 rfl) (by decide) rfl rfl rfl ?_
        refine a_goto (pc := 60) (dk D 30 rfl) (tgt := 25) rfl ?_
        exact a_pick [0, 1] rfl H
set_option maxHeartbeats 40000000 in
theorem T_X12_valueOf_85_0 {G : GG} {Φ : Int → Hp → Prop} {h : Hp} {x1 : Int} (H : (((x1 = 0) → Φ (h 85 19) h) ∧ ((x1 = 1) → Call G m_X12_sunNow [rv 85] h (fun r1 h2 => Φ r1 h2)) ∧ ((x1 = 2) → Φ (h 85 21) h) ∧ ((x1 = 3) → Φ (h 85 23) h) ∧ ((x1 = 4) → Call G m_X12_recorded [rv 85] h (fun r3 h4 => Φ r3 h4)) ∧ ((x1 = 5) → Φ (h 85 29) h) ∧ ((x1 = 6) → Φ (h 85 22) h) ∧ ((x1 = 7) → (h 85 11) ≠ 0 ∧ Φ (w32 ((h 85 10).tdiv (h 85 11))) h) ∧ ((x1 = 8) → Call G m_X12_isSeen [rv 85] h (fun r5 h6 => ((r5 = 0 → Φ 0 h6) ∧ (r5 ≠ 0 → Φ 1 h6)))) ∧ (((x1 < 0 ∨ 8 < x1)) → Call G m_X12_read [rv 85, iv (w32 (x1 - 9))] h (fun r7 h8 => (((h8 85 57) ≠ 0 → Φ r7 (up h8 85 57 1)) ∧ ((h8 85 57) = 0 → ((r7 ≠ (-1) → Φ r7 (up h8 85 57 0)) ∧ (r7 = (-1) → Φ r7 (up h8 85 57 1))))))))) : AT G m_X12_valueOf 0 [(0, rv 85), (1, iv x1)] [] h Φ := by
  have D := dt_X12_valueOf
  refine a_iload_n (pc := 0) (dk D 0 rfl) rfl ?_
  have B0 : (x1 = 0) → AT G m_X12_valueOf 52 [(0, rv 85), (1, iv x1)] [] h Φ := by
    intro c
    replace H := H.1 c
    refine a_aload_n (pc := 52) (dk D 2 rfl) rfl ?_
    refine a_geti (pc := 53) (dk D 3 rfl) cls_12 fl_RX12_38 cf_85_19 ?_
    exact a_iret (pc := 56) (dk D 4 rfl) rfl rfl H
  have B1 : (x1 = 1) → AT G m_X12_valueOf 57 [(0, rv 85), (1, iv x1)] [] h Φ := by
    intro c
    replace H := H.2.1 c
    refine a_aload_n (pc := 57) (dk D 5 rfl) rfl ?_
    refine a_callVi (as := []) (st := []) (pc := 58) (dk D 6 rfl) cl_RX12_421 ⟨Nat.le_of_ble_eq_true rfl, Nat.le_of_ble_eq_true rfl⟩ ⟨Nat.le_of_ble_eq_true rfl, Nat.le_of_ble_eq_true rfl⟩ cls_12 rfl cc_85 rfl rfl rfl (Nat.le_of_ble_eq_true rfl) (Call.mono H fun r1 h2 H => ?_)
    exact a_iret (pc := 61) (dk D 7 rfl) rfl rfl H
  have B2 : (x1 = 2) → AT G m_X12_valueOf 62 [(0, rv 85), (1, iv x1)] [] h Φ := by
    intro c
    replace H := H.2.2.1 c
    refine a_aload_n (pc := 62) (dk D 8 rfl) rfl ?_
    refine a_geti (pc := 63) (dk D 9 rfl) cls_12 fl_RX12_424 cf_85_21 ?_
    exact a_iret (pc := 66) (dk D 10 rfl) rfl rfl H
  have B3 : (x1 = 3) → AT G m_X12_valueOf 67 [(0, rv 85), (1, iv x1)] [] h Φ := by
    intro c
    replace H := H.2.2.2.1 c
    refine a_aload_n (pc := 67) (dk D 11 rfl) rfl ?_
    refine a_geti (pc := 68) (dk D 12 rfl) cls_12 fl_RX12_465 cf_85_23 ?_
    exact a_iret (pc := 71) (dk D 13 rfl) rfl rfl H
  have B4 : (x1 = 4) → AT G m_X12_valueOf 72 [(0, rv 85), (1, iv x1)] [] h Φ := by
    intro c
    replace H := H.2.2.2.2.1 c
    refine a_aload_n (pc := 72) (dk D 14 rfl) rfl ?_
    refine a_callVi (as := []) (st := []) (pc := 73) (dk D 15 rfl) cl_RX12_468 ⟨Nat.le_of_ble_eq_true rfl, Nat.le_of_ble_eq_true rfl⟩ ⟨Nat.le_of_ble_eq_true rfl, Nat.le_of_ble_eq_true rfl⟩ cls_12 rfl cc_85 rfl rfl rfl (Nat.le_of_ble_eq_true rfl) (Call.mono H fun r3 h4 H => ?_)
    exact a_iret (pc := 76) (dk D 16 rfl) rfl rfl H
  have B5 : (x1 = 5) → AT G m_X12_valueOf 77 [(0, rv 85), (1, iv x1)] [] h Φ := by
    intro c
    replace H := H.2.2.2.2.2.1 c
    refine a_aload_n (pc := 77) (dk D 17 rfl) rfl ?_
    refine a_geti (pc := 78) (dk D 18 rfl) cls_12 fl_RX12_447 cf_85_29 ?_
    exact a_iret (pc := 81) (dk D 19 rfl) rfl rfl H
  have B6 : (x1 = 6) → AT G m_X12_valueOf 82 [(0, rv 85), (1, iv x1)] [] h Φ := by
    intro c
    replace H := H.2.2.2.2.2.2.1 c
    refine a_aload_n (pc := 82) (dk D 20 rfl) rfl ?_
    refine a_geti (pc := 83) (dk D 21 rfl) cls_12 fl_RX12_426 cf_85_22 ?_
    exact a_iret (pc := 86) (dk D 22 rfl) rfl rfl H
  have B7 : (x1 = 7) → AT G m_X12_valueOf 87 [(0, rv 85), (1, iv x1)] [] h Φ := by
    intro c
    replace H := H.2.2.2.2.2.2.2.1 c
    refine a_aload_n (pc := 87) (dk D 23 rfl) rfl ?_
    refine a_geti (pc := 88) (dk D 24 rfl) cls_12 fl_RX12_398 cf_85_10 ?_
    refine a_aload_n (pc := 91) (dk D 25 rfl) rfl ?_
    refine a_geti (pc := 92) (dk D 26 rfl) cls_12 fl_RX12_22 cf_85_11 ?_
    refine a_idiv (pc := 95) (dk D 27 rfl) ⟨H.1, ?_⟩
    replace H := H.2
    exact a_iret (pc := 96) (dk D 28 rfl) rfl rfl H
  have B8 : (x1 = 8) → AT G m_X12_valueOf 97 [(0, rv 85), (1, iv x1)] [] h Φ := by
    intro c
    replace H := H.2.2.2.2.2.2.2.2.1 c
    refine a_aload_n (pc := 97) (dk D 29 rfl) rfl ?_
    refine a_callVi (as := []) (st := []) (pc := 98) (dk D 30 rfl) cl_RX12_471 ⟨Nat.le_of_ble_eq_true rfl, Nat.le_of_ble_eq_true rfl⟩ ⟨Nat.le_of_ble_eq_true rfl, Nat.le_of_ble_eq_true rfl⟩ cls_12 rfl cc_85 rfl rfl rfl (Nat.le_of_ble_eq_true rfl) (Call.mono H fun r5 h6 H => ?_)
    refine a_if_eq (pc := 101) (dk D 31 rfl) (tgt := 108) rfl ⟨fun c => ?_, fun c => ?_⟩
    · replace H := H.1 c
      refine a_iconst (pc := 108) (dk D 34 rfl) (ik rfl) ?_
      exact a_iret (pc := 109) (dk D 35 rfl) rfl rfl H
    · replace H := H.2 c
      refine a_iconst (pc := 104) (dk D 32 rfl) (ik rfl) ?_
      refine a_goto (pc := 105) (dk D 33 rfl) (tgt := 109) rfl ?_
      exact a_iret (pc := 109) (dk D 35 rfl) rfl rfl H
  have BD : ((x1 < 0 ∨ 8 < x1)) → AT G m_X12_valueOf 110 [(0, rv 85), (1, iv x1)] [] h Φ := by
    intro c
    replace H := H.2.2.2.2.2.2.2.2.2 c
    refine a_aload_n (pc := 110) (dk D 36 rfl) rfl ?_
    refine a_iload_n (pc := 111) (dk D 37 rfl) rfl ?_
    refine a_bipush (pc := 112) (dk D 38 rfl) (ik rfl) (bpk rfl) ?_
    refine a_isub (pc := 114) (dk D 39 rfl) ?_
    refine a_callVi (as := [iv (w32 (x1 - 9))]) (st := []) (pc := 115) (dk D 40 rfl) cl_RX12_438 ⟨Nat.le_of_ble_eq_true rfl, Nat.le_of_ble_eq_true rfl⟩ ⟨Nat.le_of_ble_eq_true rfl, Nat.le_of_ble_eq_true rfl⟩ cls_12 rfl cc_85 rfl rfl rfl (Nat.le_of_ble_eq_true rfl) (Call.mono H fun r7 h8 H => ?_)
    refine a_istore_n (pc := 118) (dk D 41 rfl) (by decide) rfl rfl ?_
    refine a_aload_n (pc := 119) (dk D 42 rfl) rfl ?_
    refine a_aload_n (pc := 120) (dk D 43 rfl) rfl ?_
    refine a_geti (pc := 121) (dk D 44 rfl) cls_12 fl_RX12_474 cf_85_57 ?_
    refine a_if_ne (pc := 124) (dk D 45 rfl) (tgt := 132) rfl ⟨fun c => ?_, fun c => ?_⟩
    · replace H := H.1 c
      refine a_iconst (pc := 132) (dk D 49 rfl) (ik rfl) ?_
      refine a_goto (pc := 133) (dk D 50 rfl) (tgt := 137) rfl ?_
      refine a_putz (pc := 137) (dk D 52 rfl) cls_12 fl_RX12_474 cf_85_57 rfl rfl ⟨by decide, ?_⟩
      refine a_iload_n (pc := 140) (dk D 53 rfl) rfl ?_
      exact a_iret (pc := 141) (dk D 54 rfl) rfl rfl H
    · replace H := H.2 c
      refine a_iload_n (pc := 127) (dk D 46 rfl) rfl ?_
      refine a_iconst (pc := 128) (dk D 47 rfl) (ik rfl) ?_
      refine a_icmp_ne (pc := 129) (dk D 48 rfl) (tgt := 136) rfl ⟨fun c => ?_, fun c => ?_⟩
      · replace H := H.1 c
        refine a_iconst (pc := 136) (dk D 51 rfl) (ik rfl) ?_
        refine a_putz (pc := 137) (dk D 52 rfl) cls_12 fl_RX12_474 cf_85_57 rfl rfl ⟨by decide, ?_⟩
        refine a_iload_n (pc := 140) (dk D 53 rfl) rfl ?_
        exact a_iret (pc := 141) (dk D 54 rfl) rfl rfl H
      · replace H := H.2 c
        refine a_iconst (pc := 132) (dk D 49 rfl) (ik rfl) ?_
        refine a_goto (pc := 133) (dk D 50 rfl) (tgt := 137) rfl ?_
        refine a_putz (pc := 137) (dk D 52 rfl) cls_12 fl_RX12_474 cf_85_57 rfl rfl ⟨by decide, ?_⟩
        refine a_iload_n (pc := 140) (dk D 53 rfl) rfl ?_
        exact a_iret (pc := 141) (dk D 54 rfl) rfl rfl H
  exact a_tsw [52, 57, 62, 67, 72, 77, 82, 87, 97] (pc := 1) (dk D 1 rfl) (by decide) (dt := 110) rfl (by decide) ⟨⟨fun c => B0 (c), fun c => B1 (c), fun c => B2 (c), fun c => B3 (c), fun c => B4 (c), fun c => B5 (c), fun c => B6 (c), fun c => B7 (c), fun c => B8 (c), trivial⟩, fun c => BD (c)⟩
set_option maxHeartbeats 40000000 in
theorem T_X12_emit_85_0 {G : GG} {Φ : Int → Hp → Prop} {h : Hp} {x1 : Int} (H : AT G m_X12_emit 8 [(0, rv 85), (1, iv x1), (2, iv (w32 ((x1.tmod 4) + 1))), (3, iv 0)] [] h Φ) : AT G m_X12_emit 0 [(0, rv 85), (1, iv x1)] [] h Φ := by
  have D := dt_X12_emit
  refine a_iload_n (pc := 0) (dk D 0 rfl) rfl ?_
  refine a_iconst (pc := 1) (dk D 1 rfl) (ik rfl) ?_
  refine a_irem (pc := 2) (dk D 2 rfl) ⟨by decide, ?_⟩
  refine a_iconst (pc := 3) (dk D 3 rfl) (ik rfl) ?_
  refine a_iadd (pc := 4) (dk D 4 rfl) ?_
  refine a_istore_n (pc := 5) (dk D 5 rfl) (by decide) rfl rfl ?_
  refine a_iconst (pc := 6) (dk D 6 rfl) (ik rfl) ?_
  refine a_istore_n (pc := 7) (dk D 7 rfl) (by decide) rfl rfl ?_
  exact a_pick [0, 1, 2, 3] rfl H
set_option maxHeartbeats 40000000 in
theorem T_X12_emit_85_8 {G : GG} {Φ : Int → Hp → Prop} {h : Hp} {x1 : Int} {x2 : Int} {x3 : Int} (H : ((x2 ≤ x3 → (((h 85 57) = 0 → (0 ≤ x1 ∧ x1 < 16) ∧ (0 ≤ x1 ∧ x1 < 16) ∧ (0 ≤ x1 ∧ x1 < 16) ∧ AT G m_X12_emit 125 [(0, rv 85), (1, iv x1), (3, iv (w32 (5 + x2)))] [] (up (up (up (up (up (up h 137 0 (w32 (10 + x1))) 137 1 (h 135 x1)) 137 2 (band (bshr (h 85 10) 8) 255)) 137 3 (band (h 85 10) 255)) 137 4 x2) 135 x1 (band (w32 ((h 135 x1) + 1)) 255)) Φ) ∧ ((h 85 57) ≠ 0 → Φ 0 h))) ∧ (x3 < x2 → Call G m_X12_valueOf [rv 85, iv (w32 (9 + x3))] h (fun r1 h2 => (0 ≤ (w32 (5 + x3)) ∧ (w32 (5 + x3)) < 9) ∧ AT G m_X12_emit 8 [(0, rv 85), (1, iv x1), (2, iv x2), (3, iv (w32 (x3 + 1)))] [] (up h2 137 (w32 (5 + x3)) r1) Φ)))) : AT G m_X12_emit 8 [(0, rv 85), (1, iv x1), (2, iv x2), (3, iv x3)] [] h Φ := by
  have D := dt_X12_emit
  refine a_iload_n (pc := 8) (dk D 8 rfl) rfl ?_
  refine a_iload_n (pc := 9) (dk D 9 rfl) rfl ?_
  refine a_icmp_ge (pc := 10) (dk D 10 rfl) (tgt := 35) rfl ⟨fun c => ?_, fun c => ?_⟩
  · replace H := H.1 c
    refine a_aload_n (pc := 35) (dk D 24 rfl) rfl ?_
    refine a_geti (pc := 36) (dk D 25 rfl) cls_12 fl_RX12_474 cf_85_57 ?_
    refine a_if_eq (pc := 39) (dk D 26 rfl) (tgt := 43) rfl ⟨fun c => ?_, fun c => ?_⟩
    · replace H := H.1 c
      refine a_aload_n (pc := 43) (dk D 28 rfl) rfl ?_
      refine a_getr (r := 136) (pc := 44) (dk D 29 rfl) cls_12 fl_RX12_238 cf_85_75 ?_
      refine a_iconst (pc := 47) (dk D 30 rfl) (ik rfl) ?_
      refine a_bipush (pc := 48) (dk D 31 rfl) (ik rfl) (bpk rfl) ?_
      refine a_iload_n (pc := 50) (dk D 32 rfl) rfl ?_
      refine a_iadd (pc := 51) (dk D 33 rfl) ?_
      refine a_iast (pc := 52) (dk D 34 rfl) ar_137 ⟨⟨by decide, by decide⟩, ?_⟩
      refine a_aload_n (pc := 53) (dk D 35 rfl) rfl ?_
      refine a_getr (r := 136) (pc := 54) (dk D 36 rfl) cls_12 fl_RX12_238 cf_85_75 ?_
      refine a_iconst (pc := 57) (dk D 37 rfl) (ik rfl) ?_
      refine a_aload_n (pc := 58) (dk D 38 rfl) rfl ?_
      refine a_getr (r := 134) (pc := 59) (dk D 39 rfl) cls_12 fl_RX12_232 cf_85_70 ?_
      refine a_iload_n (pc := 62) (dk D 40 rfl) rfl ?_
      refine a_iald (pc := 63) (dk D 41 rfl) ar_135 ⟨H.1, ?_⟩
      replace H := H.2
      refine a_top (y := (h 135 x1)) (by simp [up, cpy]) ?_
      refine a_iast (pc := 64) (dk D 42 rfl) ar_137 ⟨⟨by decide, by decide⟩, ?_⟩
      refine a_aload_n (pc := 65) (dk D 43 rfl) rfl ?_
      refine a_getr (r := 136) (pc := 66) (dk D 44 rfl) cls_12 fl_RX12_238 cf_85_75 ?_
      refine a_iconst (pc := 69) (dk D 45 rfl) (ik rfl) ?_
      refine a_aload_n (pc := 70) (dk D 46 rfl) rfl ?_
      refine a_geti (pc := 71) (dk D 47 rfl) cls_12 fl_RX12_398 cf_85_10 ?_
      refine a_top (y := (h 85 10)) (by simp [up, cpy]) ?_
      refine a_bipush (pc := 74) (dk D 48 rfl) (ik rfl) (bpk rfl) ?_
      refine a_ishr (pc := 76) (dk D 49 rfl) ?_
      refine a_sipush (pc := 77) (dk D 50 rfl) (ik rfl) (spk rfl) ?_
      refine a_iand (pc := 80) (dk D 51 rfl) ?_
      refine a_iast (pc := 81) (dk D 52 rfl) ar_137 ⟨⟨by decide, by decide⟩, ?_⟩
      refine a_aload_n (pc := 82) (dk D 53 rfl) rfl ?_
      refine a_getr (r := 136) (pc := 83) (dk D 54 rfl) cls_12 fl_RX12_238 cf_85_75 ?_
      refine a_iconst (pc := 86) (dk D 55 rfl) (ik rfl) ?_
      refine a_aload_n (pc := 87) (dk D 56 rfl) rfl ?_
      refine a_geti (pc := 88) (dk D 57 rfl) cls_12 fl_RX12_398 cf_85_10 ?_
      refine a_top (y := (h 85 10)) (by simp [up, cpy]) ?_
      refine a_sipush (pc := 91) (dk D 58 rfl) (ik rfl) (spk rfl) ?_
      refine a_iand (pc := 94) (dk D 59 rfl) ?_
      refine a_iast (pc := 95) (dk D 60 rfl) ar_137 ⟨⟨by decide, by decide⟩, ?_⟩
      refine a_aload_n (pc := 96) (dk D 61 rfl) rfl ?_
      refine a_getr (r := 136) (pc := 97) (dk D 62 rfl) cls_12 fl_RX12_238 cf_85_75 ?_
      refine a_iconst (pc := 100) (dk D 63 rfl) (ik rfl) ?_
      refine a_iload_n (pc := 101) (dk D 64 rfl) rfl ?_
      refine a_iast (pc := 102) (dk D 65 rfl) ar_137 ⟨⟨by decide, by decide⟩, ?_⟩
      refine a_aload_n (pc := 103) (dk D 66 rfl) rfl ?_
      refine a_getr (r := 134) (pc := 104) (dk D 67 rfl) cls_12 fl_RX12_232 cf_85_70 ?_
      refine a_iload_n (pc := 107) (dk D 68 rfl) rfl ?_
      refine a_aload_n (pc := 108) (dk D 69 rfl) rfl ?_
      refine a_getr (r := 134) (pc := 109) (dk D 70 rfl) cls_12 fl_RX12_232 cf_85_70 ?_
      refine a_iload_n (pc := 112) (dk D 71 rfl) rfl ?_
      refine a_iald (pc := 113) (dk D 72 rfl) ar_135 ⟨H.1, ?_⟩
      replace H := H.2
      refine a_top (y := (h 135 x1)) (by simp [up, cpy]) ?_
      refine a_iconst (pc := 114) (dk D 73 rfl) (ik rfl) ?_
      refine a_iadd (pc := 115) (dk D 74 rfl) ?_
      refine a_sipush (pc := 116) (dk D 75 rfl) (ik rfl) (spk rfl) ?_
      refine a_iand (pc := 119) (dk D 76 rfl) ?_
      refine a_iast (pc := 120) (dk D 77 rfl) ar_135 ⟨H.1, ?_⟩
      replace H := H.2
      refine a_iconst (pc := 121) (dk D 78 rfl) (ik rfl) ?_
      refine a_iload_n (pc := 122) (dk D 79 rfl) rfl ?_
      refine a_iadd (pc := 123) (dk D 80 rfl) ?_
      refine a_istore_n (pc := 124) (dk D 81 rfl) (by decide) rfl rfl ?_
      exact a_pick [0, 1, 3] rfl H
    · replace H := H.2 c
      exact a_vret (pc := 42) (dk D 27 rfl) rfl rfl H
  · replace H := H.2 c
    refine a_aload_n (pc := 13) (dk D 11 rfl) rfl ?_
    refine a_getr (r := 136) (pc := 14) (dk D 12 rfl) cls_12 fl_RX12_238 cf_85_75 ?_
    refine a_iconst (pc := 17) (dk D 13 rfl) (ik rfl) ?_
    refine a_iload_n (pc := 18) (dk D 14 rfl) rfl ?_
    refine a_iadd (pc := 19) (dk D 15 rfl) ?_
    refine a_aload_n (pc := 20) (dk D 16 rfl) rfl ?_
    refine a_bipush (pc := 21) (dk D 17 rfl) (ik rfl) (bpk rfl) ?_
    refine a_iload_n (pc := 23) (dk D 18 rfl) rfl ?_
    refine a_iadd (pc := 24) (dk D 19 rfl) ?_
    refine a_callVi (as := [iv (w32 (9 + x3))]) (st := [iv (w32 (5 + x3)), rv 137]) (pc := 25) (dk D 20 rfl) cl_RX12_478 ⟨Nat.le_of_ble_eq_true rfl, Nat.le_of_ble_eq_true rfl⟩ ⟨Nat.le_of_ble_eq_true rfl, Nat.le_of_ble_eq_true rfl⟩ cls_12 rfl cc_85 rfl rfl rfl (Nat.le_of_ble_eq_true rfl) (Call.mono H fun r1 h2 H => ?_)
    refine a_iast (pc := 28) (dk D 21 rfl) ar_137 ⟨H.1, ?_⟩
    replace H := H.2
    refine a_iinc (pc := 29) (dk D 22 rfl) (by decide) rfl rfl rfl ?_
    refine a_goto (pc := 32) (dk D 23 rfl) (tgt := 8) rfl ?_
    exact a_pick [0, 1, 2, 3] rfl H
set_option maxHeartbeats 40000000 in
theorem T_X12_emit_85_125 {G : GG} {Φ : Int → Hp → Prop} {h : Hp} {x1 : Int} {x3 : Int} (H : Call G m_X12_recorded [rv 85] h (fun r1 h2 => (((w32 (r1 + x3)) ≤ 300 → (0 ≤ (h2 85 72) ∧ (h2 85 72) < 50) ∧ AT G m_X12_emit 227 [(0, rv 85), (3, iv x3), (4, iv 0)] [] (up h2 134 (h2 85 72) x3) Φ) ∧ (300 < (w32 (r1 + x3)) → AT G m_X12_emit 143 [(0, rv 85), (1, iv x1), (3, iv x3), (4, iv 0), (5, iv 1)] [] h2 Φ)))) : AT G m_X12_emit 125 [(0, rv 85), (1, iv x1), (3, iv x3)] [] h Φ := by
  have D := dt_X12_emit
  refine a_aload_n (pc := 125) (dk D 82 rfl) rfl ?_
  refine a_callVi (as := []) (st := []) (pc := 126) (dk D 83 rfl) cl_RX12_468 ⟨Nat.le_of_ble_eq_true rfl, Nat.le_of_ble_eq_true rfl⟩ ⟨Nat.le_of_ble_eq_true rfl, Nat.le_of_ble_eq_true rfl⟩ cls_12 rfl cc_85 rfl rfl rfl (Nat.le_of_ble_eq_true rfl) (Call.mono H fun r1 h2 H => ?_)
  refine a_iload_n (pc := 129) (dk D 84 rfl) rfl ?_
  refine a_iadd (pc := 130) (dk D 85 rfl) ?_
  refine a_sipush (pc := 131) (dk D 86 rfl) (ik rfl) (spk rfl) ?_
  refine a_icmp_le (pc := 134) (dk D 87 rfl) (tgt := 214) rfl ⟨fun c => ?_, fun c => ?_⟩
  · replace H := H.1 c
    refine a_aload_n (pc := 214) (dk D 127 rfl) rfl ?_
    refine a_getr (r := 133) (pc := 215) (dk D 128 rfl) cls_12 fl_RX12_229 cf_85_69 ?_
    refine a_aload_n (pc := 218) (dk D 129 rfl) rfl ?_
    refine a_geti (pc := 219) (dk D 130 rfl) cls_12 fl_RX12_501 cf_85_72 ?_
    refine a_iload_n (pc := 222) (dk D 131 rfl) rfl ?_
    refine a_iast (pc := 223) (dk D 132 rfl) ar_134 ⟨H.1, ?_⟩
    replace H := H.2
    refine a_iconst (pc := 224) (dk D 133 rfl) (ik rfl) ?_
    refine a_istore (pc := 225) (dk D 134 rfl) (by decide) rfl rfl ?_
    exact a_pick [0, 2, 3] rfl H
  · replace H := H.2 c
    refine a_iconst (pc := 137) (dk D 88 rfl) (ik rfl) ?_
    refine a_istore (pc := 138) (dk D 89 rfl) (by decide) rfl rfl ?_
    refine a_iconst (pc := 140) (dk D 90 rfl) (ik rfl) ?_
    refine a_istore (pc := 141) (dk D 91 rfl) (by decide) rfl rfl ?_
    exact a_pick [0, 1, 2, 3, 4] rfl H
set_option maxHeartbeats 40000000 in
theorem T_X12_emit_85_227 {G : GG} {Φ : Int → Hp → Prop} {h : Hp} {x3 : Int} {x4 : Int} (H : ((x3 ≤ x4 → Φ 0 (up h 85 72 (w32 ((h 85 72) + 1)))) ∧ (x4 < x3 → (0 ≤ x4 ∧ x4 < 9) ∧ (0 ≤ (w32 ((w32 (9 * (h 85 72))) + x4)) ∧ (w32 ((w32 (9 * (h 85 72))) + x4)) < 450) ∧ AT G m_X12_emit 227 [(0, rv 85), (3, iv x3), (4, iv (w32 (x4 + 1)))] [] (up h 133 (w32 ((w32 (9 * (h 85 72))) + x4)) (h 137 x4)) Φ))) : AT G m_X12_emit 227 [(0, rv 85), (3, iv x3), (4, iv x4)] [] h Φ := by
  have D := dt_X12_emit
  refine a_iload (pc := 227) (dk D 135 rfl) rfl ?_
  refine a_iload_n (pc := 229) (dk D 136 rfl) rfl ?_
  refine a_icmp_ge (pc := 230) (dk D 137 rfl) (tgt := 261) rfl ⟨fun c => ?_, fun c => ?_⟩
  · replace H := H.1 c
    refine a_aload_n (pc := 261) (dk D 153 rfl) rfl ?_
    refine a_dup (pc := 262) (dk D 154 rfl) rfl ?_
    refine a_geti (pc := 263) (dk D 155 rfl) cls_12 fl_RX12_501 cf_85_72 ?_
    refine a_iconst (pc := 266) (dk D 156 rfl) (ik rfl) ?_
    refine a_iadd (pc := 267) (dk D 157 rfl) ?_
    refine a_puti (pc := 268) (dk D 158 rfl) cls_12 fl_RX12_501 cf_85_72 rfl rfl ?_
    exact a_vret (pc := 271) (dk D 159 rfl) rfl rfl H
  · replace H := H.2 c
    refine a_aload_n (pc := 233) (dk D 138 rfl) rfl ?_
    refine a_getr (r := 132) (pc := 234) (dk D 139 rfl) cls_12 fl_RX12_227 cf_85_68 ?_
    refine a_bipush (pc := 237) (dk D 140 rfl) (ik rfl) (bpk rfl) ?_
    refine a_aload_n (pc := 239) (dk D 141 rfl) rfl ?_
    refine a_geti (pc := 240) (dk D 142 rfl) cls_12 fl_RX12_501 cf_85_72 ?_
    refine a_imul (pc := 243) (dk D 143 rfl) ?_
    refine a_iload (pc := 244) (dk D 144 rfl) rfl ?_
    refine a_iadd (pc := 246) (dk D 145 rfl) ?_
    refine a_aload_n (pc := 247) (dk D 146 rfl) rfl ?_
    refine a_getr (r := 136) (pc := 248) (dk D 147 rfl) cls_12 fl_RX12_238 cf_85_75 ?_
    refine a_iload (pc := 251) (dk D 148 rfl) rfl ?_
    refine a_iald (pc := 253) (dk D 149 rfl) ar_137 ⟨H.1, ?_⟩
    replace H := H.2
    refine a_iast (pc := 254) (dk D 150 rfl) ar_133 ⟨H.1, ?_⟩
    replace H := H.2
    refine a_iinc (pc := 255) (dk D 151 rfl) (by decide) rfl rfl rfl ?_
    refine a_goto (pc := 258) (dk D 152 rfl) (tgt := 227) rfl ?_
    exact a_pick [0, 1, 2] rfl H
set_option maxHeartbeats 40000000 in
theorem T_X12_emit_85_143 {G : GG} {Φ : Int → Hp → Prop} {h : Hp} {x1 : Int} {x3 : Int} {x4 : Int} {x5 : Int} (H : (((h 85 72) ≤ x5 → Call G m_X12_sort [rv 85, iv x4] (up h 85 22 (w32 ((h 85 22) + 1))) (fun r1 h2 => (((w32 (x1.tdiv 4)) ≤ r1 → Call G m_X12_drop [rv 85, iv x4] h2 (fun _ h4 => AT G m_X12_emit 125 [(0, rv 85), (1, iv x1), (3, iv x3)] [] h4 Φ)) ∧ (r1 < (w32 (x1.tdiv 4)) → Φ 0 h2)))) ∧ (x5 < (h 85 72) → Call G m_X12_sort [rv 85, iv x5] h (fun r5 h6 => Call G m_X12_sort [rv 85, iv x4] h6 (fun r7 h8 => ((r5 ≤ r7 → AT G m_X12_emit 143 [(0, rv 85), (1, iv x1), (3, iv x3), (4, iv x4), (5, iv (w32 (x5 + 1)))] [] h8 Φ) ∧ (r7 < r5 → AT G m_X12_emit 143 [(0, rv 85), (1, iv x1), (3, iv x3), (4, iv x5), (5, iv (w32 (x5 + 1)))] [] h8 Φ))))))) : AT G m_X12_emit 143 [(0, rv 85), (1, iv x1), (3, iv x3), (4, iv x4), (5, iv x5)] [] h Φ := by
  have D := dt_X12_emit
  refine a_iload (pc := 143) (dk D 92 rfl) rfl ?_
  refine a_aload_n (pc := 145) (dk D 93 rfl) rfl ?_
  refine a_geti (pc := 146) (dk D 94 rfl) cls_12 fl_RX12_501 cf_85_72 ?_
  refine a_icmp_ge (pc := 149) (dk D 95 rfl) (tgt := 182) rfl ⟨fun c => ?_, fun c => ?_⟩
  · replace H := H.1 c
    refine a_aload_n (pc := 182) (dk D 109 rfl) rfl ?_
    refine a_dup (pc := 183) (dk D 110 rfl) rfl ?_
    refine a_geti (pc := 184) (dk D 111 rfl) cls_12 fl_RX12_426 cf_85_22 ?_
    refine a_iconst (pc := 187) (dk D 112 rfl) (ik rfl) ?_
    refine a_iadd (pc := 188) (dk D 113 rfl) ?_
    refine a_puti (pc := 189) (dk D 114 rfl) cls_12 fl_RX12_426 cf_85_22 rfl rfl ?_
    refine a_aload_n (pc := 192) (dk D 115 rfl) rfl ?_
    refine a_iload (pc := 193) (dk D 116 rfl) rfl ?_
    refine a_callVi (as := [iv x4]) (st := []) (pc := 195) (dk D 117 rfl) cl_RX12_504 ⟨Nat.le_of_ble_eq_true rfl, Nat.le_of_ble_eq_true rfl⟩ ⟨Nat.le_of_ble_eq_true rfl, Nat.le_of_ble_eq_true rfl⟩ cls_12 rfl cc_85 rfl rfl rfl (Nat.le_of_ble_eq_true rfl) (Call.mono H fun r1 h2 H => ?_)
    refine a_iload_n (pc := 198) (dk D 118 rfl) rfl ?_
    refine a_iconst (pc := 199) (dk D 119 rfl) (ik rfl) ?_
    refine a_idiv (pc := 200) (dk D 120 rfl) ⟨by decide, ?_⟩
    refine a_icmp_ge (pc := 201) (dk D 121 rfl) (tgt := 205) rfl ⟨fun c => ?_, fun c => ?_⟩
    · replace H := H.1 c
      refine a_aload_n (pc := 205) (dk D 123 rfl) rfl ?_
      refine a_iload (pc := 206) (dk D 124 rfl) rfl ?_
      refine a_callVv (as := [iv x4]) (st := []) (pc := 208) (dk D 125 rfl) cl_RX12_507 ⟨Nat.le_of_ble_eq_true rfl, Nat.le_of_ble_eq_true rfl⟩ ⟨Nat.le_of_ble_eq_true rfl, Nat.le_of_ble_eq_true rfl⟩ cls_12 rfl cc_85 rfl rfl rfl (Nat.le_of_ble_eq_true rfl) (Call.mono H fun _ h4 H => ?_)
      refine a_goto (pc := 211) (dk D 126 rfl) (tgt := 125) rfl ?_
      exact a_pick [0, 1, 2] rfl H
    · replace H := H.2 c
      exact a_vret (pc := 204) (dk D 122 rfl) rfl rfl H
  · replace H := H.2 c
    refine a_aload_n (pc := 152) (dk D 96 rfl) rfl ?_
    refine a_iload (pc := 153) (dk D 97 rfl) rfl ?_
    refine a_callVi (as := [iv x5]) (st := []) (pc := 155) (dk D 98 rfl) cl_RX12_504 ⟨Nat.le_of_ble_eq_true rfl, Nat.le_of_ble_eq_true rfl⟩ ⟨Nat.le_of_ble_eq_true rfl, Nat.le_of_ble_eq_true rfl⟩ cls_12 rfl cc_85 rfl rfl rfl (Nat.le_of_ble_eq_true rfl) (Call.mono H fun r5 h6 H => ?_)
    refine a_aload_n (pc := 158) (dk D 99 rfl) rfl ?_
    refine a_iload (pc := 159) (dk D 100 rfl) rfl ?_
    refine a_callVi (as := [iv x4]) (st := [iv r5]) (pc := 161) (dk D 101 rfl) cl_RX12_504 ⟨Nat.le_of_ble_eq_true rfl, Nat.le_of_ble_eq_true rfl⟩ ⟨Nat.le_of_ble_eq_true rfl, Nat.le_of_ble_eq_true rfl⟩ cls_12 rfl cc_85 rfl rfl rfl (Nat.le_of_ble_eq_true rfl) (Call.mono H fun r7 h8 H => ?_)
    refine a_icmp_le (pc := 164) (dk D 102 rfl) (tgt := 172) rfl ⟨fun c => ?_, fun c => ?_⟩
    · replace H := H.1 c
      refine a_iload (pc := 172) (dk D 105 rfl) rfl ?_
      refine a_istore (pc := 174) (dk D 106 rfl) (by decide) rfl rfl ?_
      refine a_iinc (pc := 176) (dk D 107 rfl) (by decide) rfl rfl rfl ?_
      refine a_goto (pc := 179) (dk D 108 rfl) (tgt := 143) rfl ?_
      exact a_pick [0, 1, 2, 3, 4] rfl H
    · replace H := H.2 c
      refine a_iload (pc := 167) (dk D 103 rfl) rfl ?_
      refine a_goto (pc := 169) (dk D 104 rfl) (tgt := 174) rfl ?_
      refine a_istore (pc := 174) (dk D 106 rfl) (by decide) rfl rfl ?_
      refine a_iinc (pc := 176) (dk D 107 rfl) (by decide) rfl rfl rfl ?_
      refine a_goto (pc := 179) (dk D 108 rfl) (tgt := 143) rfl ?_
      exact a_pick [0, 1, 2, 3, 4] rfl H
set_option maxHeartbeats 40000000 in
theorem T_X12_isSmall_0 {G : GG} {Φ : Int → Hp → Prop} {h : Hp} {x0 : Int} (H : ((x0 < 97 → Φ 0 h) ∧ (97 ≤ x0 → ((122 < x0 → Φ 0 h) ∧ (x0 ≤ 122 → Φ 1 h))))) : AT G m_X12_isSmall 0 [(0, iv x0)] [] h Φ := by
  have D := dt_X12_isSmall
  refine a_iload_n (pc := 0) (dk D 0 rfl) rfl ?_
  refine a_bipush (pc := 1) (dk D 1 rfl) (ik rfl) (bpk rfl) ?_
  refine a_icmp_lt (pc := 3) (dk D 2 rfl) (tgt := 16) rfl ⟨fun c => ?_, fun c => ?_⟩
  · replace H := H.1 c
    refine a_iconst (pc := 16) (dk D 8 rfl) (ik rfl) ?_
    exact a_zret (pc := 17) (dk D 9 rfl) rfl rfl ⟨by decide, H⟩
  · replace H := H.2 c
    refine a_iload_n (pc := 6) (dk D 3 rfl) rfl ?_
    refine a_bipush (pc := 7) (dk D 4 rfl) (ik rfl) (bpk rfl) ?_
    refine a_icmp_gt (pc := 9) (dk D 5 rfl) (tgt := 16) rfl ⟨fun c => ?_, fun c => ?_⟩
    · replace H := H.1 c
      refine a_iconst (pc := 16) (dk D 8 rfl) (ik rfl) ?_
      exact a_zret (pc := 17) (dk D 9 rfl) rfl rfl ⟨by decide, H⟩
    · replace H := H.2 c
      refine a_iconst (pc := 12) (dk D 6 rfl) (ik rfl) ?_
      refine a_goto (pc := 13) (dk D 7 rfl) (tgt := 17) rfl ?_
      exact a_zret (pc := 17) (dk D 9 rfl) rfl rfl ⟨by decide, H⟩
