set_option maxHeartbeats 40000000 in
theorem T_X12_bar_85_0 {G : GG} {Φ : Int → Hp → Prop} {h : Hp} {x1 : Int} {x2 : Int} {x3 : Int} (H : Call G m_X12_isField [iv x1, iv x2] h (fun r1 h2 => ((r1 ≠ 0 → (0 ≤ (w32 ((w32 (24 * x2)) + x1)) ∧ (w32 ((w32 (24 * x2)) + x1)) < 288) ∧ (((h2 151 (w32 ((w32 (24 * x2)) + x1))) = 0 → (0 ≤ (w32 ((w32 (24 * x2)) + x1)) ∧ (w32 ((w32 (24 * x2)) + x1)) < 288) ∧ (x3 = 0 ∨ x3 = 1) ∧ Φ 0 (up h2 151 (w32 ((w32 (24 * x2)) + x1)) x3)) ∧ ((h2 151 (w32 ((w32 (24 * x2)) + x1))) ≠ 0 → (0 ≤ (w32 ((w32 (24 * x2)) + x1)) ∧ (w32 ((w32 (24 * x2)) + x1)) < 288) ∧ (x3 = 0 ∨ x3 = 1) ∧ Φ 1 (up h2 151 (w32 ((w32 (24 * x2)) + x1)) x3)))) ∧ (r1 = 0 → Φ (-1) h2)))) : AT G m_X12_bar 0 [(0, rv 85), (1, iv x1), (2, iv x2), (3, iv x3)] [] h Φ := by
  have D := dt_X12_bar
  refine a_iload_n (pc := 0) (dk D 0 rfl) rfl ?_
  refine a_iload_n (pc := 1) (dk D 1 rfl) rfl ?_
  refine a_callSi (as := [iv x1, iv x2]) (st := []) (pc := 2) (dk D 2 rfl) cl_RX12_595 ⟨Nat.le_of_ble_eq_true rfl, Nat.le_of_ble_eq_true rfl⟩ ⟨Nat.le_of_ble_eq_true rfl, Nat.le_of_ble_eq_true rfl⟩ rfl rfl rfl (Nat.le_of_ble_eq_true rfl) (Call.mono H fun r1 h2 H => ?_)
  refine a_if_ne (pc := 5) (dk D 3 rfl) (tgt := 10) rfl ⟨fun c => ?_, fun c => ?_⟩
  · replace H := H.1 c
    refine a_aload_n (pc := 10) (dk D 6 rfl) rfl ?_
    refine a_getr (r := 150) (pc := 11) (dk D 7 rfl) cls_12 fl_RX12_286 cf_85_104 ?_
    refine a_bipush (pc := 14) (dk D 8 rfl) (ik rfl) (bpk rfl) ?_
    refine a_iload_n (pc := 16) (dk D 9 rfl) rfl ?_
    refine a_imul (pc := 17) (dk D 10 rfl) ?_
    refine a_iload_n (pc := 18) (dk D 11 rfl) rfl ?_
    refine a_iadd (pc := 19) (dk D 12 rfl) ?_
    refine a_zald (pc := 20) (dk D 13 rfl) ar_151 ⟨H.1, ?_⟩
    replace H := H.2
    refine a_if_eq (pc := 21) (dk D 14 rfl) (tgt := 28) rfl ⟨fun c => ?_, fun c => ?_⟩
    · replace H := H.1 c
      refine a_iconst (pc := 28) (dk D 17 rfl) (ik rfl) ?_
      refine a_istore (pc := 29) (dk D 18 rfl) (by decide) rfl rfl ?_
      refine a_aload_n (pc := 31) (dk D 19 rfl) rfl ?_
      refine a_getr (r := 150) (pc := 32) (dk D 20 rfl) cls_12 fl_RX12_286 cf_85_104 ?_
      refine a_bipush (pc := 35) (dk D 21 rfl) (ik rfl) (bpk rfl) ?_
      refine a_iload_n (pc := 37) (dk D 22 rfl) rfl ?_
      refine a_imul (pc := 38) (dk D 23 rfl) ?_
      refine a_iload_n (pc := 39) (dk D 24 rfl) rfl ?_
      refine a_iadd (pc := 40) (dk D 25 rfl) ?_
      refine a_iload_n (pc := 41) (dk D 26 rfl) rfl ?_
      refine a_zast (pc := 42) (dk D 27 rfl) ar_151 ⟨H.1, H.2.1, ?_⟩
      replace H := H.2.2
      refine a_iload (pc := 43) (dk D 28 rfl) rfl ?_
      exact a_iret (pc := 45) (dk D 29 rfl) rfl rfl H
    · replace H := H.2 c
      refine a_iconst (pc := 24) (dk D 15 rfl) (ik rfl) ?_
      refine a_goto (pc := 25) (dk D 16 rfl) (tgt := 29) rfl ?_
      refine a_istore (pc := 29) (dk D 18 rfl) (by decide) rfl rfl ?_
      refine a_aload_n (pc := 31) (dk D 19 rfl) rfl ?_
      refine a_getr (r := 150) (pc := 32) (dk D 20 rfl) cls_12 fl_RX12_286 cf_85_104 ?_
      refine a_bipush (pc := 35) (dk D 21 rfl) (ik rfl) (bpk rfl) ?_
      refine a_iload_n (pc := 37) (dk D 22 rfl) rfl ?_
      refine a_imul (pc := 38) (dk D 23 rfl) ?_
      refine a_iload_n (pc := 39) (dk D 24 rfl) rfl ?_
      refine a_iadd (pc := 40) (dk D 25 rfl) ?_
      refine a_iload_n (pc := 41) (dk D 26 rfl) rfl ?_
      refine a_zast (pc := 42) (dk D 27 rfl) ar_151 ⟨H.1, H.2.1, ?_⟩
      replace H := H.2.2
      refine a_iload (pc := 43) (dk D 28 rfl) rfl ?_
      exact a_iret (pc := 45) (dk D 29 rfl) rfl rfl H
  · replace H := H.2 c
    refine a_iconst (pc := 8) (dk D 4 rfl) (ik rfl) ?_
    exact a_iret (pc := 9) (dk D 5 rfl) rfl rfl H
set_option maxHeartbeats 40000000 in
theorem T_X12_way_85_0 {G : GG} {Φ : Int → Hp → Prop} {h : Hp} {x1 : Int} {x2 : Int} {x3 : Int} {x4 : Int} (H : Call G m_X12_isField [iv x1, iv x2] h (fun r1 h2 => ((r1 = 0 → Φ (-1) h2) ∧ (r1 ≠ 0 → Call G m_X12_isField [iv x3, iv x4] h2 (fun r3 h4 => ((r3 ≠ 0 → (0 ≤ (w32 ((w32 (24 * x2)) + x1)) ∧ (w32 ((w32 (24 * x2)) + x1)) < 288) ∧ (((h4 151 (w32 ((w32 (24 * x2)) + x1))) ≠ 0 → Φ (-1) h4) ∧ ((h4 151 (w32 ((w32 (24 * x2)) + x1))) = 0 → (0 ≤ (w32 ((w32 (24 * x4)) + x3)) ∧ (w32 ((w32 (24 * x4)) + x3)) < 288) ∧ (((h4 151 (w32 ((w32 (24 * x4)) + x3))) = 0 → AT G m_X12_way 61 [(0, rv 85), (5, iv (w32 ((w32 (24 * x2)) + x1))), (6, iv (w32 ((w32 (24 * x4)) + x3))), (7, iv 0)] [] h4 Φ) ∧ ((h4 151 (w32 ((w32 (24 * x4)) + x3))) ≠ 0 → Φ (-1) h4))))) ∧ (r3 = 0 → Φ (-1) h4))))))) : AT G m_X12_way 0 [(0, rv 85), (1, iv x1), (2, iv x2), (3, iv x3), (4, iv x4)] [] h Φ := by
  have D := dt_X12_way
  refine a_iload_n (pc := 0) (dk D 0 rfl) rfl ?_
  refine a_iload_n (pc := 1) (dk D 1 rfl) rfl ?_
  refine a_callSi (as := [iv x1, iv x2]) (st := []) (pc := 2) (dk D 2 rfl) cl_RX12_595 ⟨Nat.le_of_ble_eq_true rfl, Nat.le_of_ble_eq_true rfl⟩ ⟨Nat.le_of_ble_eq_true rfl, Nat.le_of_ble_eq_true rfl⟩ rfl rfl rfl (Nat.le_of_ble_eq_true rfl) (Call.mono H fun r1 h2 H => ?_)
  refine a_if_eq (pc := 5) (dk D 3 rfl) (tgt := 17) rfl ⟨fun c => ?_, fun c => ?_⟩
  · replace H := H.1 c
    refine a_iconst (pc := 17) (dk D 8 rfl) (ik rfl) ?_
    exact a_iret (pc := 18) (dk D 9 rfl) rfl rfl H
  · replace H := H.2 c
    refine a_iload_n (pc := 8) (dk D 4 rfl) rfl ?_
    refine a_iload (pc := 9) (dk D 5 rfl) rfl ?_
    refine a_callSi (as := [iv x3, iv x4]) (st := []) (pc := 11) (dk D 6 rfl) cl_RX12_595 ⟨Nat.le_of_ble_eq_true rfl, Nat.le_of_ble_eq_true rfl⟩ ⟨Nat.le_of_ble_eq_true rfl, Nat.le_of_ble_eq_true rfl⟩ rfl rfl rfl (Nat.le_of_ble_eq_true rfl) (Call.mono H fun r3 h4 H => ?_)
    refine a_if_ne (pc := 14) (dk D 7 rfl) (tgt := 19) rfl ⟨fun c => ?_, fun c => ?_⟩
    · replace H := H.1 c
      refine a_bipush (pc := 19) (dk D 10 rfl) (ik rfl) (bpk rfl) ?_
      refine a_iload_n (pc := 21) (dk D 11 rfl) rfl ?_
      refine a_imul (pc := 22) (dk D 12 rfl) ?_
      refine a_iload_n (pc := 23) (dk D 13 rfl) rfl ?_
      refine a_iadd (pc := 24) (dk D 14 rfl) ?_
      refine a_istore (pc := 25) (dk D 15 rfl) (by decide) rfl rfl ?_
      refine a_bipush (pc := 27) (dk D 16 rfl) (ik rfl) (bpk rfl) ?_
      refine a_iload (pc := 29) (dk D 17 rfl) rfl ?_
      refine a_imul (pc := 31) (dk D 18 rfl) ?_
      refine a_iload_n (pc := 32) (dk D 19 rfl) rfl ?_
      refine a_iadd (pc := 33) (dk D 20 rfl) ?_
      refine a_istore (pc := 34) (dk D 21 rfl) (by decide) rfl rfl ?_
      refine a_aload_n (pc := 36) (dk D 22 rfl) rfl ?_
      refine a_getr (r := 150) (pc := 37) (dk D 23 rfl) cls_12 fl_RX12_286 cf_85_104 ?_
      refine a_iload (pc := 40) (dk D 24 rfl) rfl ?_
      refine a_zald (pc := 42) (dk D 25 rfl) ar_151 ⟨H.1, ?_⟩
      replace H := H.2
      refine a_if_ne (pc := 43) (dk D 26 rfl) (tgt := 56) rfl ⟨fun c => ?_, fun c => ?_⟩
      · replace H := H.1 c
        refine a_iconst (pc := 56) (dk D 32 rfl) (ik rfl) ?_
        exact a_iret (pc := 57) (dk D 33 rfl) rfl rfl H
      · replace H := H.2 c
        refine a_aload_n (pc := 46) (dk D 27 rfl) rfl ?_
        refine a_getr (r := 150) (pc := 47) (dk D 28 rfl) cls_12 fl_RX12_286 cf_85_104 ?_
        refine a_iload (pc := 50) (dk D 29 rfl) rfl ?_
        refine a_zald (pc := 52) (dk D 30 rfl) ar_151 ⟨H.1, ?_⟩
        replace H := H.2
        refine a_if_eq (pc := 53) (dk D 31 rfl) (tgt := 58) rfl ⟨fun c => ?_, fun c => ?_⟩
        · replace H := H.1 c
          refine a_iconst (pc := 58) (dk D 34 rfl) (ik rfl) ?_
          refine a_istore (pc := 59) (dk D 35 rfl) (by decide) rfl rfl ?_
          exact a_pick [0, 5, 6, 7] rfl H
        · replace H := H.2 c
          refine a_iconst (pc := 56) (dk D 32 rfl) (ik rfl) ?_
          exact a_iret (pc := 57) (dk D 33 rfl) rfl rfl H
    · replace H := H.2 c
      refine a_iconst (pc := 17) (dk D 8 rfl) (ik rfl) ?_
      exact a_iret (pc := 18) (dk D 9 rfl) rfl rfl H
set_option maxHeartbeats 40000000 in
theorem T_X12_way_85_61 {G : GG} {Φ : Int → Hp → Prop} {h : Hp} {x5 : Int} {x6 : Int} {x7 : Int} (H : ((288 ≤ x7 → (0 ≤ x6 ∧ x6 < 288) ∧ AT G m_X12_way 97 [(0, rv 85), (5, iv x5), (6, iv x6), (7, iv 1), (8, iv 0)] [] (up h 152 x6 0) Φ) ∧ (x7 < 288 → (0 ≤ x7 ∧ x7 < 288) ∧ AT G m_X12_way 61 [(0, rv 85), (5, iv x5), (6, iv x6), (7, iv (w32 (x7 + 1)))] [] (up h 152 x7 (-1)) Φ))) : AT G m_X12_way 61 [(0, rv 85), (5, iv x5), (6, iv x6), (7, iv x7)] [] h Φ := by
  have D := dt_X12_way
  refine a_iload (pc := 61) (dk D 36 rfl) rfl ?_
  refine a_sipush (pc := 63) (dk D 37 rfl) (ik rfl) (spk rfl) ?_
  refine a_icmp_ge (pc := 66) (dk D 38 rfl) (tgt := 83) rfl ⟨fun c => ?_, fun c => ?_⟩
  · replace H := H.1 c
    refine a_aload_n (pc := 83) (dk D 46 rfl) rfl ?_
    refine a_getr (r := 151) (pc := 84) (dk D 47 rfl) cls_12 fl_RX12_289 cf_85_105 ?_
    refine a_iload (pc := 87) (dk D 48 rfl) rfl ?_
    refine a_iconst (pc := 89) (dk D 49 rfl) (ik rfl) ?_
    refine a_iast (pc := 90) (dk D 50 rfl) ar_152 ⟨H.1, ?_⟩
    replace H := H.2
    refine a_iconst (pc := 91) (dk D 51 rfl) (ik rfl) ?_
    refine a_istore (pc := 92) (dk D 52 rfl) (by decide) rfl rfl ?_
    refine a_iconst (pc := 94) (dk D 53 rfl) (ik rfl) ?_
    refine a_istore (pc := 95) (dk D 54 rfl) (by decide) rfl rfl ?_
    exact a_pick [0, 1, 2, 3, 4] rfl H
  · replace H := H.2 c
    refine a_aload_n (pc := 69) (dk D 39 rfl) rfl ?_
    refine a_getr (r := 151) (pc := 70) (dk D 40 rfl) cls_12 fl_RX12_289 cf_85_105 ?_
    refine a_iload (pc := 73) (dk D 41 rfl) rfl ?_
    refine a_iconst (pc := 75) (dk D 42 rfl) (ik rfl) ?_
    refine a_iast (pc := 76) (dk D 43 rfl) ar_152 ⟨H.1, ?_⟩
    replace H := H.2
    refine a_iinc (pc := 77) (dk D 44 rfl) (by decide) rfl rfl rfl ?_
    refine a_goto (pc := 80) (dk D 45 rfl) (tgt := 61) rfl ?_
    exact a_pick [0, 1, 2, 3] rfl H
set_option maxHeartbeats 40000000 in
theorem T_X12_way_85_97 {G : GG} {Φ : Int → Hp → Prop} {h : Hp} {x5 : Int} {x6 : Int} {x7 : Int} {x8 : Int} (H : ((x7 = 0 → (0 ≤ x5 ∧ x5 < 288) ∧ (((h 152 x5) ≠ (-1) → (0 ≤ x5 ∧ x5 < 288) ∧ AT G m_X12_way 238 [(0, rv 85), (5, iv x5), (6, iv x6), (8, iv (h 152 x5))] [] (up h 85 7 0) Φ) ∧ ((h 152 x5) = (-1) → Φ (-1) h))) ∧ (x7 ≠ 0 → AT G m_X12_way 108 [(0, rv 85), (5, iv x5), (6, iv x6), (7, iv 0), (8, iv x8), (9, iv 0)] [] h Φ))) : AT G m_X12_way 97 [(0, rv 85), (5, iv x5), (6, iv x6), (7, iv x7), (8, iv x8)] [] h Φ := by
  have D := dt_X12_way
  refine a_iload (pc := 97) (dk D 55 rfl) rfl ?_
  refine a_if_eq (pc := 99) (dk D 56 rfl) (tgt := 211) rfl ⟨fun c => ?_, fun c => ?_⟩
  · replace H := H.1 c
    refine a_aload_n (pc := 211) (dk D 110 rfl) rfl ?_
    refine a_getr (r := 151) (pc := 212) (dk D 111 rfl) cls_12 fl_RX12_289 cf_85_105 ?_
    refine a_iload (pc := 215) (dk D 112 rfl) rfl ?_
    refine a_iald (pc := 217) (dk D 113 rfl) ar_152 ⟨H.1, ?_⟩
    replace H := H.2
    refine a_iconst (pc := 218) (dk D 114 rfl) (ik rfl) ?_
    refine a_icmp_ne (pc := 219) (dk D 115 rfl) (tgt := 224) rfl ⟨fun c => ?_, fun c => ?_⟩
    · replace H := H.1 c
      refine a_aload_n (pc := 224) (dk D 118 rfl) rfl ?_
      refine a_getr (r := 151) (pc := 225) (dk D 119 rfl) cls_12 fl_RX12_289 cf_85_105 ?_
      refine a_iload (pc := 228) (dk D 120 rfl) rfl ?_
      refine a_iald (pc := 230) (dk D 121 rfl) ar_152 ⟨H.1, ?_⟩
      replace H := H.2
      refine a_istore (pc := 231) (dk D 122 rfl) (by decide) rfl rfl ?_
      refine a_aload_n (pc := 233) (dk D 123 rfl) rfl ?_
      refine a_iconst (pc := 234) (dk D 124 rfl) (ik rfl) ?_
      refine a_puti (pc := 235) (dk D 125 rfl) cls_12 fl_RX12_299 cf_85_7 rfl rfl ?_
      exact a_pick [0, 1, 2, 4] rfl H
    · replace H := H.2 c
      refine a_iconst (pc := 222) (dk D 116 rfl) (ik rfl) ?_
      exact a_iret (pc := 223) (dk D 117 rfl) rfl rfl H
  · replace H := H.2 c
    refine a_iconst (pc := 102) (dk D 57 rfl) (ik rfl) ?_
    refine a_istore (pc := 103) (dk D 58 rfl) (by decide) rfl rfl ?_
    refine a_iconst (pc := 105) (dk D 59 rfl) (ik rfl) ?_
    refine a_istore (pc := 106) (dk D 60 rfl) (by decide) rfl rfl ?_
    exact a_pick [0, 1, 2, 3, 4, 5] rfl H
set_option maxHeartbeats 40000000 in
theorem T_X12_way_85_238 {G : GG} {Φ : Int → Hp → Prop} {h : Hp} {x5 : Int} {x6 : Int} {x8 : Int} (H : ((x5 = x6 → Φ x8 h) ∧ (x5 ≠ x6 → AT G m_X12_way 248 [(0, rv 85), (5, iv x5), (6, iv x6), (8, iv x8), (9, iv 0)] [] h Φ))) : AT G m_X12_way 238 [(0, rv 85), (5, iv x5), (6, iv x6), (8, iv x8)] [] h Φ := by
  have D := dt_X12_way
  refine a_iload (pc := 238) (dk D 126 rfl) rfl ?_
  refine a_iload (pc := 240) (dk D 127 rfl) rfl ?_
  refine a_icmp_eq (pc := 242) (dk D 128 rfl) (tgt := 354) rfl ⟨fun c => ?_, fun c => ?_⟩
  · replace H := H.1 c
    refine a_iload (pc := 354) (dk D 180 rfl) rfl ?_
    exact a_iret (pc := 356) (dk D 181 rfl) rfl rfl H
  · replace H := H.2 c
    refine a_iconst (pc := 245) (dk D 129 rfl) (ik rfl) ?_
    refine a_istore (pc := 246) (dk D 130 rfl) (by decide) rfl rfl ?_
    exact a_pick [0, 1, 2, 3, 4] rfl H
set_option maxHeartbeats 40000000 in
theorem T_X12_way_85_108 {G : GG} {Φ : Int → Hp → Prop} {h : Hp} {x5 : Int} {x6 : Int} {x7 : Int} {x8 : Int} {x9 : Int} (H : ((288 ≤ x9 → AT G m_X12_way 97 [(0, rv 85), (5, iv x5), (6, iv x6), (7, iv x7), (8, iv (w32 (x8 + 1)))] [] h Φ) ∧ (x9 < 288 → (0 ≤ x9 ∧ x9 < 288) ∧ (((h 152 x9) = x8 → AT G m_X12_way 134 [(0, rv 85), (5, iv x5), (6, iv x6), (7, iv x7), (8, iv x8), (9, iv x9), (10, iv 0)] [] h Φ) ∧ ((h 152 x9) ≠ x8 → AT G m_X12_way 108 [(0, rv 85), (5, iv x5), (6, iv x6), (7, iv x7), (8, iv x8), (9, iv (w32 (x9 + 1)))] [] h Φ))))) : AT G m_X12_way 108 [(0, rv 85), (5, iv x5), (6, iv x6), (7, iv x7), (8, iv x8), (9, iv x9)] [] h Φ := by
  have D := dt_X12_way
  refine a_iload (pc := 108) (dk D 61 rfl) rfl ?_
  refine a_sipush (pc := 110) (dk D 62 rfl) (ik rfl) (spk rfl) ?_
  refine a_icmp_ge (pc := 113) (dk D 63 rfl) (tgt := 205) rfl ⟨fun c => ?_, fun c => ?_⟩
  · replace H := H.1 c
    refine a_iinc (pc := 205) (dk D 108 rfl) (by decide) rfl rfl rfl ?_
    refine a_goto (pc := 208) (dk D 109 rfl) (tgt := 97) rfl ?_
    exact a_pick [0, 1, 2, 3, 4] rfl H
  · replace H := H.2 c
    refine a_aload_n (pc := 116) (dk D 64 rfl) rfl ?_
    refine a_getr (r := 151) (pc := 117) (dk D 65 rfl) cls_12 fl_RX12_289 cf_85_105 ?_
    refine a_iload (pc := 120) (dk D 66 rfl) rfl ?_
    refine a_iald (pc := 122) (dk D 67 rfl) ar_152 ⟨H.1, ?_⟩
    replace H := H.2
    refine a_iload (pc := 123) (dk D 68 rfl) rfl ?_
    refine a_icmp_eq (pc := 125) (dk D 69 rfl) (tgt := 131) rfl ⟨fun c => ?_, fun c => ?_⟩
    · replace H := H.1 c
      refine a_iconst (pc := 131) (dk D 71 rfl) (ik rfl) ?_
      refine a_istore (pc := 132) (dk D 72 rfl) (by decide) rfl rfl ?_
      exact a_pick [0, 1, 2, 3, 4, 5, 6] rfl H
    · replace H := H.2 c
      refine a_goto (pc := 128) (dk D 70 rfl) (tgt := 199) rfl ?_
      refine a_iinc (pc := 199) (dk D 106 rfl) (by decide) rfl rfl rfl ?_
      refine a_goto (pc := 202) (dk D 107 rfl) (tgt := 108) rfl ?_
      exact a_pick [0, 1, 2, 3, 4, 5] rfl H
set_option maxHeartbeats 40000000 in
theorem T_X12_way_85_248 {G : GG} {Φ : Int → Hp → Prop} {h : Hp} {x5 : Int} {x6 : Int} {x8 : Int} {x9 : Int} (H : Call G m_X12_beside [iv x5, iv x9] h (fun r1 h2 => ((r1 = (-1) → AT G m_X12_way 248 [(0, rv 85), (5, iv x5), (6, iv x6), (8, iv x8), (9, iv (w32 (x9 + 1)))] [] h2 Φ) ∧ (r1 ≠ (-1) → Call G m_X12_beside [iv x5, iv x9] h2 (fun r3 h4 => (0 ≤ r3 ∧ r3 < 288) ∧ (0 ≤ x5 ∧ x5 < 288) ∧ (((h4 152 r3) ≠ (w32 ((h4 152 x5) - 1)) → AT G m_X12_way 248 [(0, rv 85), (5, iv x5), (6, iv x6), (8, iv x8), (9, iv (w32 (x9 + 1)))] [] h4 Φ) ∧ ((h4 152 r3) = (w32 ((h4 152 x5) - 1)) → Call G m_X12_beside [iv x5, iv x9] h4 (fun r5 h6 => (0 ≤ r5 ∧ r5 < 288) ∧ (((h6 151 r5) = 0 → ((x9 ≠ 0 → ((x9 ≠ 1 → ((x9 ≠ 2 → Call G m_X12_add [rv 85, iv 100] h6 (fun _ h8 => Call G m_X12_beside [iv x5, iv x9] h8 (fun r9 h10 => AT G m_X12_way 238 [(0, rv 85), (5, iv r9), (6, iv x6), (8, iv x8)] [] h10 Φ))) ∧ (x9 = 2 → Call G m_X12_add [rv 85, iv 114] h6 (fun _ h12 => Call G m_X12_beside [iv x5, iv x9] h12 (fun r13 h14 => AT G m_X12_way 238 [(0, rv 85), (5, iv r13), (6, iv x6), (8, iv x8)] [] h14 Φ))))) ∧ (x9 = 1 → Call G m_X12_add [rv 85, iv 108] h6 (fun _ h16 => Call G m_X12_beside [iv x5, iv x9] h16 (fun r17 h18 => AT G m_X12_way 238 [(0, rv 85), (5, iv r17), (6, iv x6), (8, iv x8)] [] h18 Φ))))) ∧ (x9 = 0 → Call G m_X12_add [rv 85, iv 117] h6 (fun _ h20 => Call G m_X12_beside [iv x5, iv x9] h20 (fun r21 h22 => AT G m_X12_way 238 [(0, rv 85), (5, iv r21), (6, iv x6), (8, iv x8)] [] h22 Φ))))) ∧ ((h6 151 r5) ≠ 0 → AT G m_X12_way 248 [(0, rv 85), (5, iv x5), (6, iv x6), (8, iv x8), (9, iv (w32 (x9 + 1)))] [] h6 Φ)))))))))) : AT G m_X12_way 248 [(0, rv 85), (5, iv x5), (6, iv x6), (8, iv x8), (9, iv x9)] [] h Φ := by
  have D := dt_X12_way
  refine a_iload (pc := 248) (dk D 131 rfl) rfl ?_
  refine a_iload (pc := 250) (dk D 132 rfl) rfl ?_
  refine a_callSi (as := [iv x5, iv x9]) (st := []) (pc := 252) (dk D 133 rfl) cl_RX12_598 ⟨Nat.le_of_ble_eq_true rfl, Nat.le_of_ble_eq_true rfl⟩ ⟨Nat.le_of_ble_eq_true rfl, Nat.le_of_ble_eq_true rfl⟩ rfl rfl rfl (Nat.le_of_ble_eq_true rfl) (Call.mono H fun r1 h2 H => ?_)
  refine a_iconst (pc := 255) (dk D 134 rfl) (ik rfl) ?_
  refine a_icmp_eq (pc := 256) (dk D 135 rfl) (tgt := 298) rfl ⟨fun c => ?_, fun c => ?_⟩
  · replace H := H.1 c
    refine a_iinc (pc := 298) (dk D 156 rfl) (by decide) rfl rfl rfl ?_
    refine a_goto (pc := 301) (dk D 157 rfl) (tgt := 248) rfl ?_
    exact a_pick [0, 1, 2, 3, 4] rfl H
  · replace H := H.2 c
    refine a_aload_n (pc := 259) (dk D 136 rfl) rfl ?_
    refine a_getr (r := 151) (pc := 260) (dk D 137 rfl) cls_12 fl_RX12_289 cf_85_105 ?_
    refine a_iload (pc := 263) (dk D 138 rfl) rfl ?_
    refine a_iload (pc := 265) (dk D 139 rfl) rfl ?_
    refine a_callSi (as := [iv x5, iv x9]) (st := [rv 152]) (pc := 267) (dk D 140 rfl) cl_RX12_598 ⟨Nat.le_of_ble_eq_true rfl, Nat.le_of_ble_eq_true rfl⟩ ⟨Nat.le_of_ble_eq_true rfl, Nat.le_of_ble_eq_true rfl⟩ rfl rfl rfl (Nat.le_of_ble_eq_true rfl) (Call.mono H fun r3 h4 H => ?_)
    refine a_iald (pc := 270) (dk D 141 rfl) ar_152 ⟨H.1, ?_⟩
    replace H := H.2
    refine a_aload_n (pc := 271) (dk D 142 rfl) rfl ?_
    refine a_getr (r := 151) (pc := 272) (dk D 143 rfl) cls_12 fl_RX12_289 cf_85_105 ?_
    refine a_iload (pc := 275) (dk D 144 rfl) rfl ?_
    refine a_iald (pc := 277) (dk D 145 rfl) ar_152 ⟨H.1, ?_⟩
    replace H := H.2
    refine a_iconst (pc := 278) (dk D 146 rfl) (ik rfl) ?_
    refine a_isub (pc := 279) (dk D 147 rfl) ?_
    refine a_icmp_ne (pc := 280) (dk D 148 rfl) (tgt := 298) rfl ⟨fun c => ?_, fun c => ?_⟩
    · replace H := H.1 c
      refine a_iinc (pc := 298) (dk D 156 rfl) (by decide) rfl rfl rfl ?_
      refine a_goto (pc := 301) (dk D 157 rfl) (tgt := 248) rfl ?_
      exact a_pick [0, 1, 2, 3, 4] rfl H
    · replace H := H.2 c
      refine a_aload_n (pc := 283) (dk D 149 rfl) rfl ?_
      refine a_getr (r := 150) (pc := 284) (dk D 150 rfl) cls_12 fl_RX12_286 cf_85_104 ?_
      refine a_iload (pc := 287) (dk D 151 rfl) rfl ?_
      refine a_iload (pc := 289) (dk D 152 rfl) rfl ?_
      refine a_callSi (as := [iv x5, iv x9]) (st := [rv 151]) (pc := 291) (dk D 153 rfl) cl_RX12_598 ⟨Nat.le_of_ble_eq_true rfl, Nat.le_of_ble_eq_true rfl⟩ ⟨Nat.le_of_ble_eq_true rfl, Nat.le_of_ble_eq_true rfl⟩ rfl rfl rfl (Nat.le_of_ble_eq_true rfl) (Call.mono H fun r5 h6 H => ?_)
      refine a_zald (pc := 294) (dk D 154 rfl) ar_151 ⟨H.1, ?_⟩
      replace H := H.2
      refine a_if_eq (pc := 295) (dk D 155 rfl) (tgt := 304) rfl ⟨fun c => ?_, fun c => ?_⟩
      · replace H := H.1 c
        refine a_aload_n (pc := 304) (dk D 158 rfl) rfl ?_
        refine a_iload (pc := 305) (dk D 159 rfl) rfl ?_
        refine a_if_ne (pc := 307) (dk D 160 rfl) (tgt := 315) rfl ⟨fun c => ?_, fun c => ?_⟩
        · replace H := H.1 c
          refine a_iload (pc := 315) (dk D 163 rfl) rfl ?_
          refine a_iconst (pc := 317) (dk D 164 rfl) (ik rfl) ?_
          refine a_icmp_ne (pc := 318) (dk D 165 rfl) (tgt := 326) rfl ⟨fun c => ?_, fun c => ?_⟩
          · replace H := H.1 c
            refine a_iload (pc := 326) (dk D 168 rfl) rfl ?_
            refine a_iconst (pc := 328) (dk D 169 rfl) (ik rfl) ?_
            refine a_icmp_ne (pc := 329) (dk D 170 rfl) (tgt := 337) rfl ⟨fun c => ?_, fun c => ?_⟩
            · replace H := H.1 c
              refine a_bipush (pc := 337) (dk D 173 rfl) (ik rfl) (bpk rfl) ?_
              refine a_callVv (as := [iv 100]) (st := []) (pc := 339) (dk D 174 rfl) cl_RX12_381 ⟨Nat.le_of_ble_eq_true rfl, Nat.le_of_ble_eq_true rfl⟩ ⟨Nat.le_of_ble_eq_true rfl, Nat.le_of_ble_eq_true rfl⟩ cls_12 rfl cc_85 rfl rfl rfl (Nat.le_of_ble_eq_true rfl) (Call.mono H fun _ h8 H => ?_)
              refine a_iload (pc := 342) (dk D 175 rfl) rfl ?_
              refine a_iload (pc := 344) (dk D 176 rfl) rfl ?_
              refine a_callSi (as := [iv x5, iv x9]) (st := []) (pc := 346) (dk D 177 rfl) cl_RX12_598 ⟨Nat.le_of_ble_eq_true rfl, Nat.le_of_ble_eq_true rfl⟩ ⟨Nat.le_of_ble_eq_true rfl, Nat.le_of_ble_eq_true rfl⟩ rfl rfl rfl (Nat.le_of_ble_eq_true rfl) (Call.mono H fun r9 h10 H => ?_)
              refine a_istore (pc := 349) (dk D 178 rfl) (by decide) rfl rfl ?_
              refine a_goto (pc := 351) (dk D 179 rfl) (tgt := 238) rfl ?_
              exact a_pick [0, 1, 2, 3] rfl H
            · replace H := H.2 c
              refine a_bipush (pc := 332) (dk D 171 rfl) (ik rfl) (bpk rfl) ?_
              refine a_goto (pc := 334) (dk D 172 rfl) (tgt := 339) rfl ?_
              refine a_callVv (as := [iv 114]) (st := []) (pc := 339) (dk D 174 rfl) cl_RX12_381 ⟨Nat.le_of_ble_eq_true rfl, Nat.le_of_ble_eq_true rfl⟩ ⟨Nat.le_of_ble_eq_true rfl, Nat.le_of_ble_eq_true rfl⟩ cls_12 rfl cc_85 rfl rfl rfl (Nat.le_of_ble_eq_true rfl) (Call.mono H fun _ h12 H => ?_)
              refine a_iload (pc := 342) (dk D 175 rfl) rfl ?_
              refine a_iload (pc := 344) (dk D 176 rfl) rfl ?_
              refine a_callSi (as := [iv x5, iv x9]) (st := []) (pc := 346) (dk D 177 rfl) cl_RX12_598 ⟨Nat.le_of_ble_eq_true rfl, Nat.le_of_ble_eq_true rfl⟩ ⟨Nat.le_of_ble_eq_true rfl, Nat.le_of_ble_eq_true rfl⟩ rfl rfl rfl (Nat.le_of_ble_eq_true rfl) (Call.mono H fun r13 h14 H => ?_)
              refine a_istore (pc := 349) (dk D 178 rfl) (by decide) rfl rfl ?_
              refine a_goto (pc := 351) (dk D 179 rfl) (tgt := 238) rfl ?_
              exact a_pick [0, 1, 2, 3] rfl H
          · replace H := H.2 c
            refine a_bipush (pc := 321) (dk D 166 rfl) (ik rfl) (bpk rfl) ?_
            refine a_goto (pc := 323) (dk D 167 rfl) (tgt := 339) rfl ?_
            refine a_callVv (as := [iv 108]) (st := []) (pc := 339) (dk D 174 rfl) cl_RX12_381 ⟨Nat.le_of_ble_eq_true rfl, Nat.le_of_ble_eq_true rfl⟩ ⟨Nat.le_of_ble_eq_true rfl, Nat.le_of_ble_eq_true rfl⟩ cls_12 rfl cc_85 rfl rfl rfl (Nat.le_of_ble_eq_true rfl) (Call.mono H fun _ h16 H => ?_)
            refine a_iload (pc := 342) (dk D 175 rfl) rfl ?_
            refine a_iload (pc := 344) (dk D 176 rfl) rfl ?_
            refine a_callSi (as := [iv x5, iv x9]) (st := []) (pc := 346) (dk D 177 rfl) cl_RX12_598 ⟨Nat.le_of_ble_eq_true rfl, Nat.le_of_ble_eq_true rfl⟩ ⟨Nat.le_of_ble_eq_true rfl, Nat.le_of_ble_eq_true rfl⟩ rfl rfl rfl (Nat.le_of_ble_eq_true rfl) (Call.mono H fun r17 h18 H => ?_)
            refine a_istore (pc := 349) (dk D 178 rfl) (by decide) rfl rfl ?_
            refine a_goto (pc := 351) (dk D 179 rfl) (tgt := 238) rfl ?_
            exact a_pick [0, 1, 2, 3] rfl H
        · replace H := H.2 c
          refine a_bipush (pc := 310) (dk D 161 rfl) (ik rfl) (bpk rfl) ?_
          refine a_goto (pc := 312) (dk D 162 rfl) (tgt := 339) rfl ?_
          refine a_callVv (as := [iv 117]) (st := []) (pc := 339) (dk D 174 rfl) cl_RX12_381 ⟨Nat.le_of_ble_eq_true rfl, Nat.le_of_ble_eq_true rfl⟩ ⟨Nat.le_of_ble_eq_true rfl, Nat.le_of_ble_eq_true rfl⟩ cls_12 rfl cc_85 rfl rfl rfl (Nat.le_of_ble_eq_true rfl) (Call.mono H fun _ h20 H => ?_)
          refine a_iload (pc := 342) (dk D 175 rfl) rfl ?_
          refine a_iload (pc := 344) (dk D 176 rfl) rfl ?_
          refine a_callSi (as := [iv x5, iv x9]) (st := []) (pc := 346) (dk D 177 rfl) cl_RX12_598 ⟨Nat.le_of_ble_eq_true rfl, Nat.le_of_ble_eq_true rfl⟩ ⟨Nat.le_of_ble_eq_true rfl, Nat.le_of_ble_eq_true rfl⟩ rfl rfl rfl (Nat.le_of_ble_eq_true rfl) (Call.mono H fun r21 h22 H => ?_)
          refine a_istore (pc := 349) (dk D 178 rfl) (by decide) rfl rfl ?_
          refine a_goto (pc := 351) (dk D 179 rfl) (tgt := 238) rfl ?_
          exact a_pick [0, 1, 2, 3] rfl H
      · replace H := H.2 c
        refine a_iinc (pc := 298) (dk D 156 rfl) (by decide) rfl rfl rfl ?_
        refine a_goto (pc := 301) (dk D 157 rfl) (tgt := 248) rfl ?_
        exact a_pick [0, 1, 2, 3, 4] rfl H
set_option maxHeartbeats 40000000 in
theorem T_X12_way_85_134 {G : GG} {Φ : Int → Hp → Prop} {h : Hp} {x5 : Int} {x6 : Int} {x7 : Int} {x8 : Int} {x9 : Int} {x10 : Int} (H : ((4 ≤ x10 → AT G m_X12_way 108 [(0, rv 85), (5, iv x5), (6, iv x6), (7, iv x7), (8, iv x8), (9, iv (w32 (x9 + 1)))] [] h Φ) ∧ (x10 < 4 → Call G m_X12_beside [iv x9, iv x10] h (fun r1 h2 => ((r1 = (-1) → AT G m_X12_way 134 [(0, rv 85), (5, iv x5), (6, iv x6), (7, iv x7), (8, iv x8), (9, iv x9), (10, iv (w32 (x10 + 1)))] [] h2 Φ) ∧ (r1 ≠ (-1) → (0 ≤ r1 ∧ r1 < 288) ∧ (((h2 151 r1) ≠ 0 → AT G m_X12_way 134 [(0, rv 85), (5, iv x5), (6, iv x6), (7, iv x7), (8, iv x8), (9, iv x9), (10, iv (w32 (x10 + 1)))] [] h2 Φ) ∧ ((h2 151 r1) = 0 → (0 ≤ r1 ∧ r1 < 288) ∧ (((h2 152 r1) = (-1) → (0 ≤ r1 ∧ r1 < 288) ∧ AT G m_X12_way 134 [(0, rv 85), (5, iv x5), (6, iv x6), (7, iv 1), (8, iv x8), (9, iv x9), (10, iv (w32 (x10 + 1)))] [] (up h2 152 r1 (w32 (x8 + 1))) Φ) ∧ ((h2 152 r1) ≠ (-1) → AT G m_X12_way 134 [(0, rv 85), (5, iv x5), (6, iv x6), (7, iv x7), (8, iv x8), (9, iv x9), (10, iv (w32 (x10 + 1)))] [] h2 Φ)))))))))) : AT G m_X12_way 134 [(0, rv 85), (5, iv x5), (6, iv x6), (7, iv x7), (8, iv x8), (9, iv x9), (10, iv x10)] [] h Φ := by
  have D := dt_X12_way
  refine a_iload (pc := 134) (dk D 73 rfl) rfl ?_
  refine a_iconst (pc := 136) (dk D 74 rfl) (ik rfl) ?_
  refine a_icmp_ge (pc := 137) (dk D 75 rfl) (tgt := 199) rfl ⟨fun c => ?_, fun c => ?_⟩
  · replace H := H.1 c
    refine a_iinc (pc := 199) (dk D 106 rfl) (by decide) rfl rfl rfl ?_
    refine a_goto (pc := 202) (dk D 107 rfl) (tgt := 108) rfl ?_
    exact a_pick [0, 1, 2, 3, 4, 5] rfl H
  · replace H := H.2 c
    refine a_iload (pc := 140) (dk D 76 rfl) rfl ?_
    refine a_iload (pc := 142) (dk D 77 rfl) rfl ?_
    refine a_callSi (as := [iv x9, iv x10]) (st := []) (pc := 144) (dk D 78 rfl) cl_RX12_598 ⟨Nat.le_of_ble_eq_true rfl, Nat.le_of_ble_eq_true rfl⟩ ⟨Nat.le_of_ble_eq_true rfl, Nat.le_of_ble_eq_true rfl⟩ rfl rfl rfl (Nat.le_of_ble_eq_true rfl) (Call.mono H fun r1 h2 H => ?_)
    refine a_istore (pc := 147) (dk D 79 rfl) (by decide) rfl rfl ?_
    refine a_iload (pc := 149) (dk D 80 rfl) rfl ?_
    refine a_iconst (pc := 151) (dk D 81 rfl) (ik rfl) ?_
    refine a_icmp_eq (pc := 152) (dk D 82 rfl) (tgt := 193) rfl ⟨fun c => ?_, fun c => ?_⟩
    · replace H := H.1 c
      refine a_iinc (pc := 193) (dk D 104 rfl) (by decide) rfl rfl rfl ?_
      refine a_goto (pc := 196) (dk D 105 rfl) (tgt := 134) rfl ?_
      exact a_pick [0, 1, 2, 3, 4, 5, 6] rfl H
    · replace H := H.2 c
      refine a_aload_n (pc := 155) (dk D 83 rfl) rfl ?_
      refine a_getr (r := 150) (pc := 156) (dk D 84 rfl) cls_12 fl_RX12_286 cf_85_104 ?_
      refine a_iload (pc := 159) (dk D 85 rfl) rfl ?_
      refine a_zald (pc := 161) (dk D 86 rfl) ar_151 ⟨H.1, ?_⟩
      replace H := H.2
      refine a_if_ne (pc := 162) (dk D 87 rfl) (tgt := 193) rfl ⟨fun c => ?_, fun c => ?_⟩
      · replace H := H.1 c
        refine a_iinc (pc := 193) (dk D 104 rfl) (by decide) rfl rfl rfl ?_
        refine a_goto (pc := 196) (dk D 105 rfl) (tgt := 134) rfl ?_
        exact a_pick [0, 1, 2, 3, 4, 5, 6] rfl H
      · replace H := H.2 c
        refine a_aload_n (pc := 165) (dk D 88 rfl) rfl ?_
        refine a_getr (r := 151) (pc := 166) (dk D 89 rfl) cls_12 fl_RX12_289 cf_85_105 ?_
        refine a_iload (pc := 169) (dk D 90 rfl) rfl ?_
        refine a_iald (pc := 171) (dk D 91 rfl) ar_152 ⟨H.1, ?_⟩
        replace H := H.2
        refine a_iconst (pc := 172) (dk D 92 rfl) (ik rfl) ?_
        refine a_icmp_eq (pc := 173) (dk D 93 rfl) (tgt := 179) rfl ⟨fun c => ?_, fun c => ?_⟩
        · replace H := H.1 c
          refine a_aload_n (pc := 179) (dk D 95 rfl) rfl ?_
          refine a_getr (r := 151) (pc := 180) (dk D 96 rfl) cls_12 fl_RX12_289 cf_85_105 ?_
          refine a_iload (pc := 183) (dk D 97 rfl) rfl ?_
          refine a_iload (pc := 185) (dk D 98 rfl) rfl ?_
          refine a_iconst (pc := 187) (dk D 99 rfl) (ik rfl) ?_
          refine a_iadd (pc := 188) (dk D 100 rfl) ?_
          refine a_iast (pc := 189) (dk D 101 rfl) ar_152 ⟨H.1, ?_⟩
          replace H := H.2
          refine a_iconst (pc := 190) (dk D 102 rfl) (ik rfl) ?_
          refine a_istore (pc := 191) (dk D 103 rfl) (by decide) rfl rfl ?_
          refine a_iinc (pc := 193) (dk D 104 rfl) (by decide) rfl rfl rfl ?_
          refine a_goto (pc := 196) (dk D 105 rfl) (tgt := 134) rfl ?_
          exact a_pick [0, 1, 2, 3, 4, 5, 6] rfl H
        · replace H := H.2 c
          refine a_goto (pc := 176) (dk D 94 rfl) (tgt := 193) rfl ?_
          refine a_iinc (pc := 193) (dk D 104 rfl) (by decide) rfl rfl rfl ?_
          refine a_goto (pc := 196) (dk D 105 rfl) (tgt := 134) rfl ?_
          exact a_pick [0, 1, 2, 3, 4, 5, 6] rfl H
set_option maxHeartbeats 40000000 in
theorem T_X12_four_85_0 {G : GG} {Φ : Int → Hp → Prop} {h : Hp} {x1 : Int} (H : AT G m_X12_four 3 [(0, rv 85), (1, iv x1), (2, iv 24)] [] h Φ) : AT G m_X12_four 0 [(0, rv 85), (1, iv x1)] [] h Φ := by
  have D := dt_X12_four
  refine a_bipush (pc := 0) (dk D 0 rfl) (ik rfl) (bpk rfl) ?_
  refine a_istore_n (pc := 2) (dk D 1 rfl) (by decide) rfl rfl ?_
  exact a_pick [0, 1, 2] rfl H
set_option maxHeartbeats 40000000 in
theorem T_X12_four_85_3 {G : GG} {Φ : Int → Hp → Prop} {h : Hp} {x1 : Int} {x2 : Int} (H : ((x2 < 0 → Φ 0 h) ∧ (0 ≤ x2 → (0 ≤ (h 85 3) ∧ (h 85 3) < 1600) ∧ AT G m_X12_four 3 [(0, rv 85), (1, iv x1), (2, iv (w32 (x2 + (-8))))] [] (up (up h 86 (h 85 3) (band (bshr x1 x2) 255)) 85 3 (w32 ((h 85 3) + 1))) Φ))) : AT G m_X12_four 3 [(0, rv 85), (1, iv x1), (2, iv x2)] [] h Φ := by
  have D := dt_X12_four
  refine a_iload_n (pc := 3) (dk D 2 rfl) rfl ?_
  refine a_if_lt (pc := 4) (dk D 3 rfl) (tgt := 39) rfl ⟨fun c => ?_, fun c => ?_⟩
  · replace H := H.1 c
    exact a_vret (pc := 39) (dk D 22 rfl) rfl rfl H
  · replace H := H.2 c
    refine a_aload_n (pc := 7) (dk D 4 rfl) rfl ?_
    refine a_getr (r := 85) (pc := 8) (dk D 5 rfl) cls_12 fl_RX12_7 cf_85_0 ?_
    refine a_aload_n (pc := 11) (dk D 6 rfl) rfl ?_
    refine a_geti (pc := 12) (dk D 7 rfl) cls_12 fl_RX12_292 cf_85_3 ?_
    refine a_iload_n (pc := 15) (dk D 8 rfl) rfl ?_
    refine a_iload_n (pc := 16) (dk D 9 rfl) rfl ?_
    refine a_ishr (pc := 17) (dk D 10 rfl) ?_
    refine a_sipush (pc := 18) (dk D 11 rfl) (ik rfl) (spk rfl) ?_
    refine a_iand (pc := 21) (dk D 12 rfl) ?_
    refine a_iast (pc := 22) (dk D 13 rfl) ar_86 ⟨H.1, ?_⟩
    replace H := H.2
    refine a_aload_n (pc := 23) (dk D 14 rfl) rfl ?_
    refine a_dup (pc := 24) (dk D 15 rfl) rfl ?_
    refine a_geti (pc := 25) (dk D 16 rfl) cls_12 fl_RX12_292 cf_85_3 ?_
    refine a_top (y := (h 85 3)) (by simp [up, cpy]) ?_
    refine a_iconst (pc := 28) (dk D 17 rfl) (ik rfl) ?_
    refine a_iadd (pc := 29) (dk D 18 rfl) ?_
    refine a_puti (pc := 30) (dk D 19 rfl) cls_12 fl_RX12_292 cf_85_3 rfl rfl ?_
    refine a_iinc (pc := 33) (dk D 20 rfl) (by decide) rfl rfl rfl ?_
    refine a_goto (pc := 36) (dk D 21 rfl) (tgt := 3) rfl ?_
    exact a_pick [0, 1, 2] rfl H
set_option maxHeartbeats 40000000 in
theorem T_X12_is_0 {G : GG} {Φ : Int → Hp → Prop} {h : Hp} {x0 : Int} {x1 : Int} {x2 : Int} (H : ((x0 < x1 → Φ 0 h) ∧ (x1 ≤ x0 → ((x2 < x0 → Φ 0 h) ∧ (x0 ≤ x2 → Φ 1 h))))) : AT G m_X12_is 0 [(0, iv x0), (1, iv x1), (2, iv x2)] [] h Φ := by
  have D := dt_X12_is
  refine a_iload_n (pc := 0) (dk D 0 rfl) rfl ?_
  refine a_iload_n (pc := 1) (dk D 1 rfl) rfl ?_
  refine a_icmp_lt (pc := 2) (dk D 2 rfl) (tgt := 14) rfl ⟨fun c => ?_, fun c => ?_⟩
  · replace H := H.1 c
    refine a_iconst (pc := 14) (dk D 8 rfl) (ik rfl) ?_
    exact a_zret (pc := 15) (dk D 9 rfl) rfl rfl ⟨by decide, H⟩
  · replace H := H.2 c
    refine a_iload_n (pc := 5) (dk D 3 rfl) rfl ?_
    refine a_iload_n (pc := 6) (dk D 4 rfl) rfl ?_
    refine a_icmp_gt (pc := 7) (dk D 5 rfl) (tgt := 14) rfl ⟨fun c => ?_, fun c => ?_⟩
    · replace H := H.1 c
      refine a_iconst (pc := 14) (dk D 8 rfl) (ik rfl) ?_
      exact a_zret (pc := 15) (dk D 9 rfl) rfl rfl ⟨by decide, H⟩
    · replace H := H.2 c
      refine a_iconst (pc := 10) (dk D 6 rfl) (ik rfl) ?_
      refine a_goto (pc := 11) (dk D 7 rfl) (tgt := 15) rfl ?_
      exact a_zret (pc := 15) (dk D 9 rfl) rfl rfl ⟨by decide, H⟩
set_option maxHeartbeats 40000000 in
theorem T_X12_days_0 {G : GG} {Φ : Int → Hp → Prop} {h : Hp} {x0 : Int} {x1 : Int} (H : (((x1 = 2) → Call G m_X12_isLong [iv x0] h (fun r1 h2 => ((r1 = 0 → Φ 28 h2) ∧ (r1 ≠ 0 → Φ 29 h2)))) ∧ ((x1 = 4 ∨ x1 = 6 ∨ x1 = 9 ∨ x1 = 11) → Φ 30 h) ∧ (((x1 < 2 ∨ 11 < x1) ∨ x1 = 3 ∨ x1 = 5 ∨ x1 = 7 ∨ x1 = 8 ∨ x1 = 10) → Φ 31 h))) : AT G m_X12_days 0 [(0, iv x0), (1, iv x1)] [] h Φ := by
  have D := dt_X12_days
  refine a_iload_n (pc := 0) (dk D 0 rfl) rfl ?_
  have B0 : (x1 = 2) → AT G m_X12_days 56 [(0, iv x0), (1, iv x1)] [] h Φ := by
    intro c
    replace H := H.1 c
    refine a_iload_n (pc := 56) (dk D 2 rfl) rfl ?_
    refine a_callSi (as := [iv x0]) (st := []) (pc := 57) (dk D 3 rfl) cl_RX12_350 ⟨Nat.le_of_ble_eq_true rfl, Nat.le_of_ble_eq_true rfl⟩ ⟨Nat.le_of_ble_eq_true rfl, Nat.le_of_ble_eq_true rfl⟩ rfl rfl rfl (Nat.le_of_ble_eq_true rfl) (Call.mono H fun r1 h2 H => ?_)
    refine a_if_eq (pc := 60) (dk D 4 rfl) (tgt := 68) rfl ⟨fun c => ?_, fun c => ?_⟩
    · replace H := H.1 c
      refine a_bipush (pc := 68) (dk D 7 rfl) (ik rfl) (bpk rfl) ?_
      exact a_iret (pc := 70) (dk D 8 rfl) rfl rfl H
    · replace H := H.2 c
      refine a_bipush (pc := 63) (dk D 5 rfl) (ik rfl) (bpk rfl) ?_
      refine a_goto (pc := 65) (dk D 6 rfl) (tgt := 70) rfl ?_
      exact a_iret (pc := 70) (dk D 8 rfl) rfl rfl H
  have B1 : (x1 = 4 ∨ x1 = 6 ∨ x1 = 9 ∨ x1 = 11) → AT G m_X12_days 71 [(0, iv x0), (1, iv x1)] [] h Φ := by
    intro c
    replace H := H.2.1 c
    refine a_bipush (pc := 71) (dk D 9 rfl) (ik rfl) (bpk rfl) ?_
    exact a_iret (pc := 73) (dk D 10 rfl) rfl rfl H
  have BD : ((x1 < 2 ∨ 11 < x1) ∨ x1 = 3 ∨ x1 = 5 ∨ x1 = 7 ∨ x1 = 8 ∨ x1 = 10) → AT G m_X12_days 74 [(0, iv x0), (1, iv x1)] [] h Φ := by
    intro c
    replace H := H.2.2 c
    refine a_bipush (pc := 74) (dk D 11 rfl) (ik rfl) (bpk rfl) ?_
    exact a_iret (pc := 76) (dk D 12 rfl) rfl rfl H
  exact a_tsw [56, 74, 71, 74, 71, 74, 74, 71, 74, 71] (pc := 1) (dk D 1 rfl) (by decide) (dt := 74) rfl (by decide) ⟨⟨fun c => B0 (c), fun c => BD (Or.inr (Or.inl c)), fun c => B1 (Or.inl c), fun c => BD (Or.inr (Or.inr (Or.inl c))), fun c => B1 (Or.inr (Or.inl c)), fun c => BD (Or.inr (Or.inr (Or.inr (Or.inl c)))), fun c => BD (Or.inr (Or.inr (Or.inr (Or.inr (Or.inl c))))), fun c => B1 (Or.inr (Or.inr (Or.inl c))), fun c => BD (Or.inr (Or.inr (Or.inr (Or.inr (Or.inr (c)))))), fun c => B1 (Or.inr (Or.inr (Or.inr (c)))), trivial⟩, fun c => BD (Or.inl c)⟩
set_option maxHeartbeats 40000000 in
theorem T_X12_dayOf_0 {G : GG} {Φ : Int → Hp → Prop} {h : Hp} {x0 : Int} {x1 : Int} (H : AT G m_X12_dayOf 6 [(0, iv x0), (1, iv x1), (2, iv 0), (3, iv 2000)] [] h Φ) : AT G m_X12_dayOf 0 [(0, iv x0), (1, iv x1)] [] h Φ := by
  have D := dt_X12_dayOf
  refine a_iconst (pc := 0) (dk D 0 rfl) (ik rfl) ?_
  refine a_istore_n (pc := 1) (dk D 1 rfl) (by decide) rfl rfl ?_
  refine a_sipush (pc := 2) (dk D 2 rfl) (ik rfl) (spk rfl) ?_
  refine a_istore_n (pc := 5) (dk D 3 rfl) (by decide) rfl rfl ?_
  exact a_pick [0, 1, 2, 3] rfl H
set_option maxHeartbeats 40000000 in
theorem T_X12_dayOf_6 {G : GG} {Φ : Int → Hp → Prop} {h : Hp} {x0 : Int} {x1 : Int} {x2 : Int} {x3 : Int} (H : ((x0 ≤ x3 → AT G m_X12_dayOf 38 [(0, iv x0), (1, iv x1), (2, iv x2), (3, iv 1)] [] h Φ) ∧ (x3 < x0 → Call G m_X12_isLong [iv x3] h (fun r1 h2 => ((r1 = 0 → AT G m_X12_dayOf 6 [(0, iv x0), (1, iv x1), (2, iv (w32 (x2 + 365))), (3, iv (w32 (x3 + 1)))] [] h2 Φ) ∧ (r1 ≠ 0 → AT G m_X12_dayOf 6 [(0, iv x0), (1, iv x1), (2, iv (w32 (x2 + 366))), (3, iv (w32 (x3 + 1)))] [] h2 Φ)))))) : AT G m_X12_dayOf 6 [(0, iv x0), (1, iv x1), (2, iv x2), (3, iv x3)] [] h Φ := by
  have D := dt_X12_dayOf
  refine a_iload_n (pc := 6) (dk D 4 rfl) rfl ?_
  refine a_iload_n (pc := 7) (dk D 5 rfl) rfl ?_
  refine a_icmp_ge (pc := 8) (dk D 6 rfl) (tgt := 36) rfl ⟨fun c => ?_, fun c => ?_⟩
  · replace H := H.1 c
    refine a_iconst (pc := 36) (dk D 18 rfl) (ik rfl) ?_
    refine a_istore_n (pc := 37) (dk D 19 rfl) (by decide) rfl rfl ?_
    exact a_pick [0, 1, 2, 3] rfl H
  · replace H := H.2 c
    refine a_iload_n (pc := 11) (dk D 7 rfl) rfl ?_
    refine a_iload_n (pc := 12) (dk D 8 rfl) rfl ?_
    refine a_callSi (as := [iv x3]) (st := [iv x2]) (pc := 13) (dk D 9 rfl) cl_RX12_350 ⟨Nat.le_of_ble_eq_true rfl, Nat.le_of_ble_eq_true rfl⟩ ⟨Nat.le_of_ble_eq_true rfl, Nat.le_of_ble_eq_true rfl⟩ rfl rfl rfl (Nat.le_of_ble_eq_true rfl) (Call.mono H fun r1 h2 H => ?_)
    refine a_if_eq (pc := 16) (dk D 10 rfl) (tgt := 25) rfl ⟨fun c => ?_, fun c => ?_⟩
    · replace H := H.1 c
      refine a_sipush (pc := 25) (dk D 13 rfl) (ik rfl) (spk rfl) ?_
      refine a_iadd (pc := 28) (dk D 14 rfl) ?_
      refine a_istore_n (pc := 29) (dk D 15 rfl) (by decide) rfl rfl ?_
      refine a_iinc (pc := 30) (dk D 16 rfl) (by decide) rfl rfl rfl ?_
      refine a_goto (pc := 33) (dk D 17 rfl) (tgt := 6) rfl ?_
      exact a_pick [0, 1, 2, 3] rfl H
    · replace H := H.2 c
      refine a_sipush (pc := 19) (dk D 11 rfl) (ik rfl) (spk rfl) ?_
      refine a_goto (pc := 22) (dk D 12 rfl) (tgt := 28) rfl ?_
      refine a_iadd (pc := 28) (dk D 14 rfl) ?_
      refine a_istore_n (pc := 29) (dk D 15 rfl) (by decide) rfl rfl ?_
      refine a_iinc (pc := 30) (dk D 16 rfl) (by decide) rfl rfl rfl ?_
      refine a_goto (pc := 33) (dk D 17 rfl) (tgt := 6) rfl ?_
      exact a_pick [0, 1, 2, 3] rfl H
set_option maxHeartbeats 40000000 in
theorem T_X12_dayOf_38 {G : GG} {Φ : Int → Hp → Prop} {h : Hp} {x0 : Int} {x1 : Int} {x2 : Int} {x3 : Int} (H : ((x1 ≤ x3 → Φ x2 h) ∧ (x3 < x1 → Call G m_X12_days [iv x0, iv x3] h (fun r1 h2 => AT G m_X12_dayOf 38 [(0, iv x0), (1, iv x1), (2, iv (w32 (x2 + r1))), (3, iv (w32 (x3 + 1)))] [] h2 Φ)))) : AT G m_X12_dayOf 38 [(0, iv x0), (1, iv x1), (2, iv x2), (3, iv x3)] [] h Φ := by
  have D := dt_X12_dayOf
  refine a_iload_n (pc := 38) (dk D 20 rfl) rfl ?_
  refine a_iload_n (pc := 39) (dk D 21 rfl) rfl ?_
  refine a_icmp_ge (pc := 40) (dk D 22 rfl) (tgt := 57) rfl ⟨fun c => ?_, fun c => ?_⟩
  · replace H := H.1 c
    refine a_iload_n (pc := 57) (dk D 31 rfl) rfl ?_
    exact a_iret (pc := 58) (dk D 32 rfl) rfl rfl H
  · replace H := H.2 c
    refine a_iload_n (pc := 43) (dk D 23 rfl) rfl ?_
    refine a_iload_n (pc := 44) (dk D 24 rfl) rfl ?_
    refine a_iload_n (pc := 45) (dk D 25 rfl) rfl ?_
    refine a_callSi (as := [iv x0, iv x3]) (st := [iv x2]) (pc := 46) (dk D 26 rfl) cl_RX12_353 ⟨Nat.le_of_ble_eq_true rfl, Nat.le_of_ble_eq_true rfl⟩ ⟨Nat.le_of_ble_eq_true rfl, Nat.le_of_ble_eq_true rfl⟩ rfl rfl rfl (Nat.le_of_ble_eq_true rfl) (Call.mono H fun r1 h2 H => ?_)
    refine a_iadd (pc := 49) (dk D 27 rfl) ?_
    refine a_istore_n (pc := 50) (dk D 28 rfl) (by decide) rfl rfl ?_
    refine a_iinc (pc := 51) (dk D 29 rfl) (by decide) rfl rfl rfl ?_
    refine a_goto (pc := 54) (dk D 30 rfl) (tgt := 38) rfl ?_
    exact a_pick [0, 1, 2, 3] rfl H
set_option maxHeartbeats 40000000 in
theorem T_X12_need_85_0 {G : GG} {Φ : Int → Hp → Prop} {h : Hp} {x1 : Int} (H : Call G m_X12_bad [rv 85] h (fun r1 h2 => ((r1 = 0 → Call G m_X12_here [rv 85] h2 (fun r3 h4 => ((r3 ≠ x1 → Call G m_X12_fail [rv 85, iv (h4 85 5)] h4 (fun _ h6 => Φ 0 h6)) ∧ (r3 = x1 → Φ 0 (up h4 85 5 (w32 ((h4 85 5) + 1))))))) ∧ (r1 ≠ 0 → Φ 0 h2)))) : AT G m_X12_need 0 [(0, rv 85), (1, iv x1)] [] h Φ := by
  have D := dt_X12_need
  refine a_aload_n (pc := 0) (dk D 0 rfl) rfl ?_
  refine a_callVi (as := []) (st := []) (pc := 1) (dk D 1 rfl) cl_RX12_315 ⟨Nat.le_of_ble_eq_true rfl, Nat.le_of_ble_eq_true rfl⟩ ⟨Nat.le_of_ble_eq_true rfl, Nat.le_of_ble_eq_true rfl⟩ cls_12 rfl cc_85 rfl rfl rfl (Nat.le_of_ble_eq_true rfl) (Call.mono H fun r1 h2 H => ?_)
  refine a_if_eq (pc := 4) (dk D 2 rfl) (tgt := 8) rfl ⟨fun c => ?_, fun c => ?_⟩
  · replace H := H.1 c
    refine a_aload_n (pc := 8) (dk D 4 rfl) rfl ?_
    refine a_callVi (as := []) (st := []) (pc := 9) (dk D 5 rfl) cl_RX12_319 ⟨Nat.le_of_ble_eq_true rfl, Nat.le_of_ble_eq_true rfl⟩ ⟨Nat.le_of_ble_eq_true rfl, Nat.le_of_ble_eq_true rfl⟩ cls_12 rfl cc_85 rfl rfl rfl (Nat.le_of_ble_eq_true rfl) (Call.mono H fun r3 h4 H => ?_)
    refine a_iload_n (pc := 12) (dk D 6 rfl) rfl ?_
    refine a_icmp_ne (pc := 13) (dk D 7 rfl) (tgt := 29) rfl ⟨fun c => ?_, fun c => ?_⟩
    · replace H := H.1 c
      refine a_aload_n (pc := 29) (dk D 15 rfl) rfl ?_
      refine a_aload_n (pc := 30) (dk D 16 rfl) rfl ?_
      refine a_geti (pc := 31) (dk D 17 rfl) cls_12 fl_RX12_309 cf_85_5 ?_
      refine a_callVv (as := [iv (h4 85 5)]) (st := []) (pc := 34) (dk D 18 rfl) cl_RX12_323 ⟨Nat.le_of_ble_eq_true rfl, Nat.le_of_ble_eq_true rfl⟩ ⟨Nat.le_of_ble_eq_true rfl, Nat.le_of_ble_eq_true rfl⟩ cls_12 rfl cc_85 rfl rfl rfl (Nat.le_of_ble_eq_true rfl) (Call.mono H fun _ h6 H => ?_)
      exact a_vret (pc := 37) (dk D 19 rfl) rfl rfl H
    · replace H := H.2 c
      refine a_aload_n (pc := 16) (dk D 8 rfl) rfl ?_
      refine a_dup (pc := 17) (dk D 9 rfl) rfl ?_
      refine a_geti (pc := 18) (dk D 10 rfl) cls_12 fl_RX12_309 cf_85_5 ?_
      refine a_iconst (pc := 21) (dk D 11 rfl) (ik rfl) ?_
      refine a_iadd (pc := 22) (dk D 12 rfl) ?_
      refine a_puti (pc := 23) (dk D 13 rfl) cls_12 fl_RX12_309 cf_85_5 rfl rfl ?_
      refine a_goto (pc := 26) (dk D 14 rfl) (tgt := 37) rfl ?_
      exact a_vret (pc := 37) (dk D 19 rfl) rfl rfl H
  · replace H := H.2 c
    exact a_vret (pc := 7) (dk D 3 rfl) rfl rfl H
set_option maxHeartbeats 40000000 in
theorem T_X12_bad_85_0 {G : GG} {Φ : Int → Hp → Prop} {h : Hp} (H : (((h 85 6) < 0 → Φ 0 h) ∧ (0 ≤ (h 85 6) → Φ 1 h))) : AT G m_X12_bad 0 [(0, rv 85)] [] h Φ := by
  have D := dt_X12_bad
  refine a_aload_n (pc := 0) (dk D 0 rfl) rfl ?_
  refine a_geti (pc := 1) (dk D 1 rfl) cls_12 fl_RX12_312 cf_85_6 ?_
  refine a_if_lt (pc := 4) (dk D 2 rfl) (tgt := 11) rfl ⟨fun c => ?_, fun c => ?_⟩
  · replace H := H.1 c
    refine a_iconst (pc := 11) (dk D 5 rfl) (ik rfl) ?_
    exact a_zret (pc := 12) (dk D 6 rfl) rfl rfl ⟨by decide, H⟩
  · replace H := H.2 c
    refine a_iconst (pc := 7) (dk D 3 rfl) (ik rfl) ?_
    refine a_goto (pc := 8) (dk D 4 rfl) (tgt := 12) rfl ?_
    exact a_zret (pc := 12) (dk D 6 rfl) rfl rfl ⟨by decide, H⟩
set_option maxHeartbeats 40000000 in
theorem T_X12_firstSecond_85_0 {G : GG} {Φ : Int → Hp → Prop} {h : Hp} {x1 : Int} (H : AT G m_X12_firstSecond 8 [(0, rv 85), (1, iv x1), (2, iv (w32 (86400 * x1))), (3, iv 0)] [] h Φ) : AT G m_X12_firstSecond 0 [(0, rv 85), (1, iv x1)] [] h Φ := by
  have D := dt_X12_firstSecond
  refine a_ldcw (n := 86400) (pc := 0) (dk D 0 rfl) (ik rfl) co_RX12_363 ?_
  refine a_iload_n (pc := 3) (dk D 1 rfl) rfl ?_
  refine a_imul (pc := 4) (dk D 2 rfl) ?_
  refine a_istore_n (pc := 5) (dk D 3 rfl) (by decide) rfl rfl ?_
  refine a_iconst (pc := 6) (dk D 4 rfl) (ik rfl) ?_
  refine a_istore_n (pc := 7) (dk D 5 rfl) (by decide) rfl rfl ?_
  exact a_pick [0, 1, 2, 3] rfl H
set_option maxHeartbeats 40000000 in
theorem T_X12_firstSecond_85_8 {G : GG} {Φ : Int → Hp → Prop} {h : Hp} {x1 : Int} {x2 : Int} {x3 : Int} (H : (((h 85 9) ≤ x3 → Φ x2 h) ∧ (x3 < (h 85 9) → (0 ≤ x3 ∧ x3 < 10) ∧ ((x1 ≤ (h 89 x3) → AT G m_X12_firstSecond 8 [(0, rv 85), (1, iv x1), (2, iv (w32 (x2 + 0))), (3, iv (w32 (x3 + 1)))] [] h Φ) ∧ ((h 89 x3) < x1 → AT G m_X12_firstSecond 8 [(0, rv 85), (1, iv x1), (2, iv (w32 (x2 + 1))), (3, iv (w32 (x3 + 1)))] [] h Φ))))) : AT G m_X12_firstSecond 8 [(0, rv 85), (1, iv x1), (2, iv x2), (3, iv x3)] [] h Φ := by
  have D := dt_X12_firstSecond
  refine a_iload_n (pc := 8) (dk D 6 rfl) rfl ?_
  refine a_aload_n (pc := 9) (dk D 7 rfl) rfl ?_
  refine a_geti (pc := 10) (dk D 8 rfl) cls_12 fl_RX12_360 cf_85_9 ?_
  refine a_icmp_ge (pc := 13) (dk D 9 rfl) (tgt := 40) rfl ⟨fun c => ?_, fun c => ?_⟩
  · replace H := H.1 c
    refine a_iload_n (pc := 40) (dk D 24 rfl) rfl ?_
    exact a_iret (pc := 41) (dk D 25 rfl) rfl rfl H
  · replace H := H.2 c
    refine a_iload_n (pc := 16) (dk D 10 rfl) rfl ?_
    refine a_aload_n (pc := 17) (dk D 11 rfl) rfl ?_
    refine a_getr (r := 88) (pc := 18) (dk D 12 rfl) cls_12 fl_RX12_19 cf_85_8 ?_
    refine a_iload_n (pc := 21) (dk D 13 rfl) rfl ?_
    refine a_iald (pc := 22) (dk D 14 rfl) ar_89 ⟨H.1, ?_⟩
    replace H := H.2
    refine a_iload_n (pc := 23) (dk D 15 rfl) rfl ?_
    refine a_icmp_ge (pc := 24) (dk D 16 rfl) (tgt := 31) rfl ⟨fun c => ?_, fun c => ?_⟩
    · replace H := H.1 c
      refine a_iconst (pc := 31) (dk D 19 rfl) (ik rfl) ?_
      refine a_iadd (pc := 32) (dk D 20 rfl) ?_
      refine a_istore_n (pc := 33) (dk D 21 rfl) (by decide) rfl rfl ?_
      refine a_iinc (pc := 34) (dk D 22 rfl) (by decide) rfl rfl rfl ?_
      refine a_goto (pc := 37) (dk D 23 rfl) (tgt := 8) rfl ?_
      exact a_pick [0, 1, 2, 3] rfl H
    · replace H := H.2 c
      refine a_iconst (pc := 27) (dk D 17 rfl) (ik rfl) ?_
      refine a_goto (pc := 28) (dk D 18 rfl) (tgt := 32) rfl ?_
      refine a_iadd (pc := 32) (dk D 20 rfl) ?_
      refine a_istore_n (pc := 33) (dk D 21 rfl) (by decide) rfl rfl ?_
      refine a_iinc (pc := 34) (dk D 22 rfl) (by decide) rfl rfl rfl ?_
      refine a_goto (pc := 37) (dk D 23 rfl) (tgt := 8) rfl ?_
      exact a_pick [0, 1, 2, 3] rfl H
set_option maxHeartbeats 40000000 in
theorem T_X12_take_85_0 {G : GG} {Φ : Int → Hp → Prop} {h : Hp} (H : AT G m_X12_take 10 [(0, rv 85), (1, iv 0)] [] (up h 85 4 (h 85 3)) Φ) : AT G m_X12_take 0 [(0, rv 85)] [] h Φ := by
  have D := dt_X12_take
  refine a_aload_n (pc := 0) (dk D 0 rfl) rfl ?_
  refine a_aload_n (pc := 1) (dk D 1 rfl) rfl ?_
  refine a_geti (pc := 2) (dk D 2 rfl) cls_12 fl_RX12_292 cf_85_3 ?_
  refine a_puti (pc := 5) (dk D 3 rfl) cls_12 fl_RX12_306 cf_85_4 rfl rfl ?_
  refine a_iconst (pc := 8) (dk D 4 rfl) (ik rfl) ?_
  refine a_istore_n (pc := 9) (dk D 5 rfl) (by decide) rfl rfl ?_
  exact a_pick [0, 1] rfl H
set_option maxHeartbeats 40000000 in
theorem T_X12_take_85_10 {G : GG} {Φ : Int → Hp → Prop} {h : Hp} {x1 : Int} (H : (((h 85 4) ≤ x1 → Φ 0 (up (up (up h 85 3 0) 85 5 0) 85 6 (-1))) ∧ (x1 < (h 85 4) → (0 ≤ x1 ∧ x1 < 1600) ∧ (0 ≤ x1 ∧ x1 < 1600) ∧ AT G m_X12_take 10 [(0, rv 85), (1, iv (w32 (x1 + 1)))] [] (up h 87 x1 (h 86 x1)) Φ))) : AT G m_X12_take 10 [(0, rv 85), (1, iv x1)] [] h Φ := by
  have D := dt_X12_take
  refine a_iload_n (pc := 10) (dk D 6 rfl) rfl ?_
  refine a_aload_n (pc := 11) (dk D 7 rfl) rfl ?_
  refine a_geti (pc := 12) (dk D 8 rfl) cls_12 fl_RX12_306 cf_85_4 ?_
  refine a_icmp_ge (pc := 15) (dk D 9 rfl) (tgt := 36) rfl ⟨fun c => ?_, fun c => ?_⟩
  · replace H := H.1 c
    refine a_aload_n (pc := 36) (dk D 20 rfl) rfl ?_
    refine a_iconst (pc := 37) (dk D 21 rfl) (ik rfl) ?_
    refine a_puti (pc := 38) (dk D 22 rfl) cls_12 fl_RX12_292 cf_85_3 rfl rfl ?_
    refine a_aload_n (pc := 41) (dk D 23 rfl) rfl ?_
    refine a_iconst (pc := 42) (dk D 24 rfl) (ik rfl) ?_
    refine a_puti (pc := 43) (dk D 25 rfl) cls_12 fl_RX12_309 cf_85_5 rfl rfl ?_
    refine a_aload_n (pc := 46) (dk D 26 rfl) rfl ?_
    refine a_iconst (pc := 47) (dk D 27 rfl) (ik rfl) ?_
    refine a_puti (pc := 48) (dk D 28 rfl) cls_12 fl_RX12_312 cf_85_6 rfl rfl ?_
    exact a_vret (pc := 51) (dk D 29 rfl) rfl rfl H
  · replace H := H.2 c
    refine a_aload_n (pc := 18) (dk D 10 rfl) rfl ?_
    refine a_getr (r := 86) (pc := 19) (dk D 11 rfl) cls_12 fl_RX12_13 cf_85_1 ?_
    refine a_iload_n (pc := 22) (dk D 12 rfl) rfl ?_
    refine a_aload_n (pc := 23) (dk D 13 rfl) rfl ?_
    refine a_getr (r := 85) (pc := 24) (dk D 14 rfl) cls_12 fl_RX12_7 cf_85_0 ?_
    refine a_iload_n (pc := 27) (dk D 15 rfl) rfl ?_
    refine a_iald (pc := 28) (dk D 16 rfl) ar_86 ⟨H.1, ?_⟩
    replace H := H.2
    refine a_iast (pc := 29) (dk D 17 rfl) ar_87 ⟨H.1, ?_⟩
    replace H := H.2
    refine a_iinc (pc := 30) (dk D 18 rfl) (by decide) rfl rfl rfl ?_
    refine a_goto (pc := 33) (dk D 19 rfl) (tgt := 10) rfl ?_
    exact a_pick [0, 1] rfl H
set_option maxHeartbeats 40000000 in
theorem T_X12_digits_85_0 {G : GG} {Φ : Int → Hp → Prop} {h : Hp} {x1 : Int} {x2 : Int} {x3 : Int} (H : Call G m_X12_bad [rv 85] h (fun r1 h2 => ((r1 = 0 → AT G m_X12_digits 21 [(0, rv 85), (1, iv x1), (2, iv x2), (3, iv x3), (4, iv (h2 85 5)), (5, iv 0), (6, iv 0)] [] h2 Φ) ∧ (r1 ≠ 0 → Φ 0 h2)))) : AT G m_X12_digits 0 [(0, rv 85), (1, iv x1), (2, iv x2), (3, iv x3)] [] h Φ := by
  have D := dt_X12_digits
  refine a_aload_n (pc := 0) (dk D 0 rfl) rfl ?_
  refine a_callVi (as := []) (st := []) (pc := 1) (dk D 1 rfl) cl_RX12_315 ⟨Nat.le_of_ble_eq_true rfl, Nat.le_of_ble_eq_true rfl⟩ ⟨Nat.le_of_ble_eq_true rfl, Nat.le_of_ble_eq_true rfl⟩ cls_12 rfl cc_85 rfl rfl rfl (Nat.le_of_ble_eq_true rfl) (Call.mono H fun r1 h2 H => ?_)
  refine a_if_eq (pc := 4) (dk D 2 rfl) (tgt := 9) rfl ⟨fun c => ?_, fun c => ?_⟩
  · replace H := H.1 c
    refine a_aload_n (pc := 9) (dk D 5 rfl) rfl ?_
    refine a_geti (pc := 10) (dk D 6 rfl) cls_12 fl_RX12_309 cf_85_5 ?_
    refine a_istore (pc := 13) (dk D 7 rfl) (by decide) rfl rfl ?_
    refine a_iconst (pc := 15) (dk D 8 rfl) (ik rfl) ?_
    refine a_istore (pc := 16) (dk D 9 rfl) (by decide) rfl rfl ?_
    refine a_iconst (pc := 18) (dk D 10 rfl) (ik rfl) ?_
    refine a_istore (pc := 19) (dk D 11 rfl) (by decide) rfl rfl ?_
    exact a_pick [0, 1, 2, 3, 4, 5, 6] rfl H
  · replace H := H.2 c
    refine a_iconst (pc := 7) (dk D 3 rfl) (ik rfl) ?_
    exact a_iret (pc := 8) (dk D 4 rfl) rfl rfl H
set_option maxHeartbeats 40000000 in
theorem T_X12_digits_85_21 {G : GG} {Φ : Int → Hp → Prop} {h : Hp} {x1 : Int} {x2 : Int} {x3 : Int} {x4 : Int} {x5 : Int} {x6 : Int} (H : ((x1 ≤ x6 → Call G m_X12_bad [rv 85] h (fun r1 h2 => ((r1 ≠ 0 → Φ x5 h2) ∧ (r1 = 0 → Call G m_X12_is [iv x5, iv x2, iv x3] h2 (fun r3 h4 => ((r3 ≠ 0 → Φ x5 h4) ∧ (r3 = 0 → Call G m_X12_fail [rv 85, iv x4] h4 (fun _ h6 => Φ x5 h6)))))))) ∧ (x6 < x1 → Call G m_X12_bad [rv 85] h (fun r7 h8 => ((r7 ≠ 0 → Call G m_X12_bad [rv 85] h8 (fun r9 h10 => ((r9 ≠ 0 → Φ x5 h10) ∧ (r9 = 0 → Call G m_X12_is [iv x5, iv x2, iv x3] h10 (fun r11 h12 => ((r11 ≠ 0 → Φ x5 h12) ∧ (r11 = 0 → Call G m_X12_fail [rv 85, iv x4] h12 (fun _ h14 => Φ x5 h14)))))))) ∧ (r7 = 0 → Call G m_X12_here [rv 85] h8 (fun r15 h16 => Call G m_X12_isDigit [iv r15] h16 (fun r17 h18 => ((r17 ≠ 0 → Call G m_X12_here [rv 85] h18 (fun r19 h20 => AT G m_X12_digits 21 [(0, rv 85), (1, iv x1), (2, iv x2), (3, iv x3), (4, iv x4), (5, iv (w32 ((w32 ((w32 (10 * x5)) + r19)) - 48))), (6, iv (w32 (x6 + 1)))] [] (up h20 85 5 (w32 ((h20 85 5) + 1))) Φ)) ∧ (r17 = 0 → Call G m_X12_fail [rv 85, iv (h18 85 5)] h18 (fun _ h22 => AT G m_X12_digits 21 [(0, rv 85), (1, iv x1), (2, iv x2), (3, iv x3), (4, iv x4), (5, iv x5), (6, iv (w32 (x6 + 1)))] [] h22 Φ))))))))))) : AT G m_X12_digits 21 [(0, rv 85), (1, iv x1), (2, iv x2), (3, iv x3), (4, iv x4), (5, iv x5), (6, iv x6)] [] h Φ := by
  have D := dt_X12_digits
  refine a_iload (pc := 21) (dk D 12 rfl) rfl ?_
  refine a_iload_n (pc := 23) (dk D 13 rfl) rfl ?_
  refine a_icmp_ge (pc := 24) (dk D 14 rfl) (tgt := 86) rfl ⟨fun c => ?_, fun c => ?_⟩
  · replace H := H.1 c
    refine a_aload_n (pc := 86) (dk D 44 rfl) rfl ?_
    refine a_callVi (as := []) (st := []) (pc := 87) (dk D 45 rfl) cl_RX12_315 ⟨Nat.le_of_ble_eq_true rfl, Nat.le_of_ble_eq_true rfl⟩ ⟨Nat.le_of_ble_eq_true rfl, Nat.le_of_ble_eq_true rfl⟩ cls_12 rfl cc_85 rfl rfl rfl (Nat.le_of_ble_eq_true rfl) (Call.mono H fun r1 h2 H => ?_)
    refine a_if_ne (pc := 90) (dk D 46 rfl) (tgt := 109) rfl ⟨fun c => ?_, fun c => ?_⟩
    · replace H := H.1 c
      refine a_iload (pc := 109) (dk D 55 rfl) rfl ?_
      exact a_iret (pc := 111) (dk D 56 rfl) rfl rfl H
    · replace H := H.2 c
      refine a_iload (pc := 93) (dk D 47 rfl) rfl ?_
      refine a_iload_n (pc := 95) (dk D 48 rfl) rfl ?_
      refine a_iload_n (pc := 96) (dk D 49 rfl) rfl ?_
      refine a_callSi (as := [iv x5, iv x2, iv x3]) (st := []) (pc := 97) (dk D 50 rfl) cl_RX12_302 ⟨Nat.le_of_ble_eq_true rfl, Nat.le_of_ble_eq_true rfl⟩ ⟨Nat.le_of_ble_eq_true rfl, Nat.le_of_ble_eq_true rfl⟩ rfl rfl rfl (Nat.le_of_ble_eq_true rfl) (Call.mono H fun r3 h4 H => ?_)
      refine a_if_ne (pc := 100) (dk D 51 rfl) (tgt := 109) rfl ⟨fun c => ?_, fun c => ?_⟩
      · replace H := H.1 c
        refine a_iload (pc := 109) (dk D 55 rfl) rfl ?_
        exact a_iret (pc := 111) (dk D 56 rfl) rfl rfl H
      · replace H := H.2 c
        refine a_aload_n (pc := 103) (dk D 52 rfl) rfl ?_
        refine a_iload (pc := 104) (dk D 53 rfl) rfl ?_
        refine a_callVv (as := [iv x4]) (st := []) (pc := 106) (dk D 54 rfl) cl_RX12_323 ⟨Nat.le_of_ble_eq_true rfl, Nat.le_of_ble_eq_true rfl⟩ ⟨Nat.le_of_ble_eq_true rfl, Nat.le_of_ble_eq_true rfl⟩ cls_12 rfl cc_85 rfl rfl rfl (Nat.le_of_ble_eq_true rfl) (Call.mono H fun _ h6 H => ?_)
        refine a_iload (pc := 109) (dk D 55 rfl) rfl ?_
        exact a_iret (pc := 111) (dk D 56 rfl) rfl rfl H
  · replace H := H.2 c
    refine a_aload_n (pc := 27) (dk D 15 rfl) rfl ?_
    refine a_callVi (as := []) (st := []) (pc := 28) (dk D 16 rfl) cl_RX12_315 ⟨Nat.le_of_ble_eq_true rfl, Nat.le_of_ble_eq_true rfl⟩ ⟨Nat.le_of_ble_eq_true rfl, Nat.le_of_ble_eq_true rfl⟩ cls_12 rfl cc_85 rfl rfl rfl (Nat.le_of_ble_eq_true rfl) (Call.mono H fun r7 h8 H => ?_)
    refine a_if_ne (pc := 31) (dk D 17 rfl) (tgt := 86) rfl ⟨fun c => ?_, fun c => ?_⟩
    · replace H := H.1 c
      refine a_aload_n (pc := 86) (dk D 44 rfl) rfl ?_
      refine a_callVi (as := []) (st := []) (pc := 87) (dk D 45 rfl) cl_RX12_315 ⟨Nat.le_of_ble_eq_true rfl, Nat.le_of_ble_eq_true rfl⟩ ⟨Nat.le_of_ble_eq_true rfl, Nat.le_of_ble_eq_true rfl⟩ cls_12 rfl cc_85 rfl rfl rfl (Nat.le_of_ble_eq_true rfl) (Call.mono H fun r9 h10 H => ?_)
      refine a_if_ne (pc := 90) (dk D 46 rfl) (tgt := 109) rfl ⟨fun c => ?_, fun c => ?_⟩
      · replace H := H.1 c
        refine a_iload (pc := 109) (dk D 55 rfl) rfl ?_
        exact a_iret (pc := 111) (dk D 56 rfl) rfl rfl H
      · replace H := H.2 c
        refine a_iload (pc := 93) (dk D 47 rfl) rfl ?_
        refine a_iload_n (pc := 95) (dk D 48 rfl) rfl ?_
        refine a_iload_n (pc := 96) (dk D 49 rfl) rfl ?_
        refine a_callSi (as := [iv x5, iv x2, iv x3]) (st := []) (pc := 97) (dk D 50 rfl) cl_RX12_302 ⟨Nat.le_of_ble_eq_true rfl, Nat.le_of_ble_eq_true rfl⟩ ⟨Nat.le_of_ble_eq_true rfl, Nat.le_of_ble_eq_true rfl⟩ rfl rfl rfl (Nat.le_of_ble_eq_true rfl) (Call.mono H fun r11 h12 H => ?_)
        refine a_if_ne (pc := 100) (dk D 51 rfl) (tgt := 109) rfl ⟨fun c => ?_, fun c => ?_⟩
        · replace H := H.1 c
          refine a_iload (pc := 109) (dk D 55 rfl) rfl ?_
          exact a_iret (pc := 111) (dk D 56 rfl) rfl rfl H
        · replace H := H.2 c
          refine a_aload_n (pc := 103) (dk D 52 rfl) rfl ?_
          refine a_iload (pc := 104) (dk D 53 rfl) rfl ?_
          refine a_callVv (as := [iv x4]) (st := []) (pc := 106) (dk D 54 rfl) cl_RX12_323 ⟨Nat.le_of_ble_eq_true rfl, Nat.le_of_ble_eq_true rfl⟩ ⟨Nat.le_of_ble_eq_true rfl, Nat.le_of_ble_eq_true rfl⟩ cls_12 rfl cc_85 rfl rfl rfl (Nat.le_of_ble_eq_true rfl) (Call.mono H fun _ h14 H => ?_)
          refine a_iload (pc := 109) (dk D 55 rfl) rfl ?_
          exact a_iret (pc := 111) (dk D 56 rfl) rfl rfl H
    · replace H := H.2 c
      refine a_aload_n (pc := 34) (dk D 18 rfl) rfl ?_
      refine a_callVi (as := []) (st := []) (pc := 35) (dk D 19 rfl) cl_RX12_319 ⟨Nat.le_of_ble_eq_true rfl, Nat.le_of_ble_eq_true rfl⟩ ⟨Nat.le_of_ble_eq_true rfl, Nat.le_of_ble_eq_true rfl⟩ cls_12 rfl cc_85 rfl rfl rfl (Nat.le_of_ble_eq_true rfl) (Call.mono H fun r15 h16 H => ?_)
      refine a_callSi (as := [iv r15]) (st := []) (pc := 38) (dk D 20 rfl) cl_RX12_326 ⟨Nat.le_of_ble_eq_true rfl, Nat.le_of_ble_eq_true rfl⟩ ⟨Nat.le_of_ble_eq_true rfl, Nat.le_of_ble_eq_true rfl⟩ rfl rfl rfl (Nat.le_of_ble_eq_true rfl) (Call.mono H fun r17 h18 H => ?_)
      refine a_if_ne (pc := 41) (dk D 21 rfl) (tgt := 55) rfl ⟨fun c => ?_, fun c => ?_⟩
      · replace H := H.1 c
        refine a_bipush (pc := 55) (dk D 27 rfl) (ik rfl) (bpk rfl) ?_
        refine a_iload (pc := 57) (dk D 28 rfl) rfl ?_
        refine a_imul (pc := 59) (dk D 29 rfl) ?_
        refine a_aload_n (pc := 60) (dk D 30 rfl) rfl ?_
        refine a_callVi (as := []) (st := [iv (w32 (10 * x5))]) (pc := 61) (dk D 31 rfl) cl_RX12_319 ⟨Nat.le_of_ble_eq_true rfl, Nat.le_of_ble_eq_true rfl⟩ ⟨Nat.le_of_ble_eq_true rfl, Nat.le_of_ble_eq_true rfl⟩ cls_12 rfl cc_85 rfl rfl rfl (Nat.le_of_ble_eq_true rfl) (Call.mono H fun r19 h20 H => ?_)
        refine a_iadd (pc := 64) (dk D 32 rfl) ?_
        refine a_bipush (pc := 65) (dk D 33 rfl) (ik rfl) (bpk rfl) ?_
        refine a_isub (pc := 67) (dk D 34 rfl) ?_
        refine a_istore (pc := 68) (dk D 35 rfl) (by decide) rfl rfl ?_
        refine a_aload_n (pc := 70) (dk D 36 rfl) rfl ?_
        refine a_dup (pc := 71) (dk D 37 rfl) rfl ?_
        refine a_geti (pc := 72) (dk D 38 rfl) cls_12 fl_RX12_309 cf_85_5 ?_
        refine a_iconst (pc := 75) (dk D 39 rfl) (ik rfl) ?_
        refine a_iadd (pc := 76) (dk D 40 rfl) ?_
        refine a_puti (pc := 77) (dk D 41 rfl) cls_12 fl_RX12_309 cf_85_5 rfl rfl ?_
        refine a_iinc (pc := 80) (dk D 42 rfl) (by decide) rfl rfl rfl ?_
        refine a_goto (pc := 83) (dk D 43 rfl) (tgt := 21) rfl ?_
        exact a_pick [0, 1, 2, 3, 4, 5, 6] rfl H
      · replace H := H.2 c
        refine a_aload_n (pc := 44) (dk D 22 rfl) rfl ?_
        refine a_aload_n (pc := 45) (dk D 23 rfl) rfl ?_
        refine a_geti (pc := 46) (dk D 24 rfl) cls_12 fl_RX12_309 cf_85_5 ?_
        refine a_callVv (as := [iv (h18 85 5)]) (st := []) (pc := 49) (dk D 25 rfl) cl_RX12_323 ⟨Nat.le_of_ble_eq_true rfl, Nat.le_of_ble_eq_true rfl⟩ ⟨Nat.le_of_ble_eq_true rfl, Nat.le_of_ble_eq_true rfl⟩ cls_12 rfl cc_85 rfl rfl rfl (Nat.le_of_ble_eq_true rfl) (Call.mono H fun _ h22 H => ?_)
        refine a_goto (pc := 52) (dk D 26 rfl) (tgt := 80) rfl ?_
        refine a_iinc (pc := 80) (dk D 42 rfl) (by decide) rfl rfl rfl ?_
        refine a_goto (pc := 83) (dk D 43 rfl) (tgt := 21) rfl ?_
        exact a_pick [0, 1, 2, 3, 4, 5, 6] rfl H
set_option maxHeartbeats 40000000 in
theorem T_X12_done_85_0 {G : GG} {Φ : Int → Hp → Prop} {h : Hp} (H : Call G m_X12_bad [rv 85] h (fun r1 h2 => ((r1 ≠ 0 → Φ 0 h2) ∧ (r1 = 0 → (((h2 85 4) ≤ (h2 85 5) → Φ 0 h2) ∧ ((h2 85 5) < (h2 85 4) → Call G m_X12_fail [rv 85, iv (h2 85 5)] h2 (fun _ h4 => Φ 0 h4))))))) : AT G m_X12_done 0 [(0, rv 85)] [] h Φ := by
  have D := dt_X12_done
  refine a_aload_n (pc := 0) (dk D 0 rfl) rfl ?_
  refine a_callVi (as := []) (st := []) (pc := 1) (dk D 1 rfl) cl_RX12_315 ⟨Nat.le_of_ble_eq_true rfl, Nat.le_of_ble_eq_true rfl⟩ ⟨Nat.le_of_ble_eq_true rfl, Nat.le_of_ble_eq_true rfl⟩ cls_12 rfl cc_85 rfl rfl rfl (Nat.le_of_ble_eq_true rfl) (Call.mono H fun r1 h2 H => ?_)
  refine a_if_ne (pc := 4) (dk D 2 rfl) (tgt := 26) rfl ⟨fun c => ?_, fun c => ?_⟩
  · replace H := H.1 c
    exact a_vret (pc := 26) (dk D 12 rfl) rfl rfl H
  · replace H := H.2 c
    refine a_aload_n (pc := 7) (dk D 3 rfl) rfl ?_
    refine a_geti (pc := 8) (dk D 4 rfl) cls_12 fl_RX12_309 cf_85_5 ?_
    refine a_aload_n (pc := 11) (dk D 5 rfl) rfl ?_
    refine a_geti (pc := 12) (dk D 6 rfl) cls_12 fl_RX12_306 cf_85_4 ?_
    refine a_icmp_ge (pc := 15) (dk D 7 rfl) (tgt := 26) rfl ⟨fun c => ?_, fun c => ?_⟩
    · replace H := H.1 c
      exact a_vret (pc := 26) (dk D 12 rfl) rfl rfl H
    · replace H := H.2 c
      refine a_aload_n (pc := 18) (dk D 8 rfl) rfl ?_
      refine a_aload_n (pc := 19) (dk D 9 rfl) rfl ?_
      refine a_geti (pc := 20) (dk D 10 rfl) cls_12 fl_RX12_309 cf_85_5 ?_
      refine a_callVv (as := [iv (h2 85 5)]) (st := []) (pc := 23) (dk D 11 rfl) cl_RX12_323 ⟨Nat.le_of_ble_eq_true rfl, Nat.le_of_ble_eq_true rfl⟩ ⟨Nat.le_of_ble_eq_true rfl, Nat.le_of_ble_eq_true rfl⟩ cls_12 rfl cc_85 rfl rfl rfl (Nat.le_of_ble_eq_true rfl) (Call.mono H fun _ h4 H => ?_)
      exact a_vret (pc := 26) (dk D 12 rfl) rfl rfl H
set_option maxHeartbeats 40000000 in
theorem T_X12_hasLeap_85_0 {G : GG} {Φ : Int → Hp → Prop} {h : Hp} {x1 : Int} (H : AT G m_X12_hasLeap 4 [(0, rv 85), (1, iv x1), (2, iv 0), (3, iv 0)] [] h Φ) : AT G m_X12_hasLeap 0 [(0, rv 85), (1, iv x1)] [] h Φ := by
  have D := dt_X12_hasLeap
  refine a_iconst (pc := 0) (dk D 0 rfl) (ik rfl) ?_
  refine a_istore_n (pc := 1) (dk D 1 rfl) (by decide) rfl rfl ?_
  refine a_iconst (pc := 2) (dk D 2 rfl) (ik rfl) ?_
  refine a_istore_n (pc := 3) (dk D 3 rfl) (by decide) rfl rfl ?_
  exact a_pick [0, 1, 2, 3] rfl H
set_option maxHeartbeats 40000000 in
theorem T_X12_hasLeap_85_4 {G : GG} {Φ : Int → Hp → Prop} {h : Hp} {x1 : Int} {x2 : Int} {x3 : Int} (H : (((h 85 9) ≤ x3 → (x2 = 0 ∨ x2 = 1) ∧ Φ x2 h) ∧ (x3 < (h 85 9) → ((x2 ≠ 0 → AT G m_X12_hasLeap 4 [(0, rv 85), (1, iv x1), (2, iv 1), (3, iv (w32 (x3 + 1)))] [] h Φ) ∧ (x2 = 0 → (0 ≤ x3 ∧ x3 < 10) ∧ (((h 89 x3) ≠ x1 → AT G m_X12_hasLeap 4 [(0, rv 85), (1, iv x1), (2, iv 0), (3, iv (w32 (x3 + 1)))] [] h Φ) ∧ ((h 89 x3) = x1 → AT G m_X12_hasLeap 4 [(0, rv 85), (1, iv x1), (2, iv 1), (3, iv (w32 (x3 + 1)))] [] h Φ))))))) : AT G m_X12_hasLeap 4 [(0, rv 85), (1, iv x1), (2, iv x2), (3, iv x3)] [] h Φ := by
  have D := dt_X12_hasLeap
  refine a_iload_n (pc := 4) (dk D 4 rfl) rfl ?_
  refine a_aload_n (pc := 5) (dk D 5 rfl) rfl ?_
  refine a_geti (pc := 6) (dk D 6 rfl) cls_12 fl_RX12_360 cf_85_9 ?_
  refine a_icmp_ge (pc := 9) (dk D 7 rfl) (tgt := 38) rfl ⟨fun c => ?_, fun c => ?_⟩
  · replace H := H.1 c
    refine a_iload_n (pc := 38) (dk D 22 rfl) rfl ?_
    exact a_zret (pc := 39) (dk D 23 rfl) rfl rfl H
  · replace H := H.2 c
    refine a_iload_n (pc := 12) (dk D 8 rfl) rfl ?_
    refine a_if_ne (pc := 13) (dk D 9 rfl) (tgt := 26) rfl ⟨fun c => ?_, fun c => ?_⟩
    · replace H := H.1 c
      refine a_iconst (pc := 26) (dk D 16 rfl) (ik rfl) ?_
      refine a_goto (pc := 27) (dk D 17 rfl) (tgt := 31) rfl ?_
      refine a_istore_n (pc := 31) (dk D 19 rfl) (by decide) rfl rfl ?_
      refine a_iinc (pc := 32) (dk D 20 rfl) (by decide) rfl rfl rfl ?_
      refine a_goto (pc := 35) (dk D 21 rfl) (tgt := 4) rfl ?_
      exact a_pick [0, 1, 2, 3] rfl H
    · replace H := H.2 c
      refine a_aload_n (pc := 16) (dk D 10 rfl) rfl ?_
      refine a_getr (r := 88) (pc := 17) (dk D 11 rfl) cls_12 fl_RX12_19 cf_85_8 ?_
      refine a_iload_n (pc := 20) (dk D 12 rfl) rfl ?_
      refine a_iald (pc := 21) (dk D 13 rfl) ar_89 ⟨H.1, ?_⟩
      replace H := H.2
      refine a_iload_n (pc := 22) (dk D 14 rfl) rfl ?_
      refine a_icmp_ne (pc := 23) (dk D 15 rfl) (tgt := 30) rfl ⟨fun c => ?_, fun c => ?_⟩
      · replace H := H.1 c
        refine a_iconst (pc := 30) (dk D 18 rfl) (ik rfl) ?_
        refine a_istore_n (pc := 31) (dk D 19 rfl) (by decide) rfl rfl ?_
        refine a_iinc (pc := 32) (dk D 20 rfl) (by decide) rfl rfl rfl ?_
        refine a_goto (pc := 35) (dk D 21 rfl) (tgt := 4) rfl ?_
        exact a_pick [0, 1, 2, 3] rfl H
      · replace H := H.2 c
        refine a_iconst (pc := 26) (dk D 16 rfl) (ik rfl) ?_
        refine a_goto (pc := 27) (dk D 17 rfl) (tgt := 31) rfl ?_
        refine a_istore_n (pc := 31) (dk D 19 rfl) (by decide) rfl rfl ?_
        refine a_iinc (pc := 32) (dk D 20 rfl) (by decide) rfl rfl rfl ?_
        refine a_goto (pc := 35) (dk D 21 rfl) (tgt := 4) rfl ?_
        exact a_pick [0, 1, 2, 3] rfl H
set_option maxHeartbeats 40000000 in
theorem T_X12_add_85_0 {G : GG} {Φ : Int → Hp → Prop} {h : Hp} {x1 : Int} (H : ((288 ≤ (h 85 7) → Φ 0 h) ∧ ((h 85 7) < 288 → (0 ≤ (h 85 7) ∧ (h 85 7) < 288) ∧ Φ 0 (up (up h 88 (h 85 7) x1) 85 7 (w32 ((h 85 7) + 1)))))) : AT G m_X12_add 0 [(0, rv 85), (1, iv x1)] [] h Φ := by
  have D := dt_X12_add
  refine a_aload_n (pc := 0) (dk D 0 rfl) rfl ?_
  refine a_geti (pc := 1) (dk D 1 rfl) cls_12 fl_RX12_299 cf_85_7 ?_
  refine a_sipush (pc := 4) (dk D 2 rfl) (ik rfl) (spk rfl) ?_
  refine a_icmp_ge (pc := 7) (dk D 3 rfl) (tgt := 30) rfl ⟨fun c => ?_, fun c => ?_⟩
  · replace H := H.1 c
    exact a_vret (pc := 30) (dk D 16 rfl) rfl rfl H
  · replace H := H.2 c
    refine a_aload_n (pc := 10) (dk D 4 rfl) rfl ?_
    refine a_getr (r := 87) (pc := 11) (dk D 5 rfl) cls_12 fl_RX12_16 cf_85_2 ?_
    refine a_aload_n (pc := 14) (dk D 6 rfl) rfl ?_
    refine a_geti (pc := 15) (dk D 7 rfl) cls_12 fl_RX12_299 cf_85_7 ?_
    refine a_iload_n (pc := 18) (dk D 8 rfl) rfl ?_
    refine a_iast (pc := 19) (dk D 9 rfl) ar_88 ⟨H.1, ?_⟩
    replace H := H.2
    refine a_aload_n (pc := 20) (dk D 10 rfl) rfl ?_
    refine a_dup (pc := 21) (dk D 11 rfl) rfl ?_
    refine a_geti (pc := 22) (dk D 12 rfl) cls_12 fl_RX12_299 cf_85_7 ?_
    refine a_top (y := (h 85 7)) (by simp [up, cpy]) ?_
    refine a_iconst (pc := 25) (dk D 13 rfl) (ik rfl) ?_
    refine a_iadd (pc := 26) (dk D 14 rfl) ?_
    refine a_puti (pc := 27) (dk D 15 rfl) cls_12 fl_RX12_299 cf_85_7 rfl rfl ?_
    exact a_vret (pc := 30) (dk D 16 rfl) rfl rfl H
set_option maxHeartbeats 40000000 in
theorem T_X12_digit_85_0 {G : GG} {Φ : Int → Hp → Prop} {h : Hp} {x1 : Int} {x2 : Int} (H : AT G m_X12_digit 5 [(0, rv 85), (1, iv x1), (2, iv x2), (3, iv 1), (4, iv 1)] [] h Φ) : AT G m_X12_digit 0 [(0, rv 85), (1, iv x1), (2, iv x2)] [] h Φ := by
  have D := dt_X12_digit
  refine a_iconst (pc := 0) (dk D 0 rfl) (ik rfl) ?_
  refine a_istore_n (pc := 1) (dk D 1 rfl) (by decide) rfl rfl ?_
  refine a_iconst (pc := 2) (dk D 2 rfl) (ik rfl) ?_
  refine a_istore (pc := 3) (dk D 3 rfl) (by decide) rfl rfl ?_
  exact a_pick [0, 1, 2, 3, 4] rfl H
set_option maxHeartbeats 40000000 in
theorem T_X12_digit_85_5 {G : GG} {Φ : Int → Hp → Prop} {h : Hp} {x1 : Int} {x2 : Int} {x3 : Int} {x4 : Int} (H : ((x2 ≤ x4 → AT G m_X12_digit 22 [(0, rv 85), (1, iv x1), (3, iv x3)] [] h Φ) ∧ (x4 < x2 → AT G m_X12_digit 5 [(0, rv 85), (1, iv x1), (2, iv x2), (3, iv (w32 (x3 * 10))), (4, iv (w32 (x4 + 1)))] [] h Φ))) : AT G m_X12_digit 5 [(0, rv 85), (1, iv x1), (2, iv x2), (3, iv x3), (4, iv x4)] [] h Φ := by
  have D := dt_X12_digit
  refine a_iload (pc := 5) (dk D 4 rfl) rfl ?_
  refine a_iload_n (pc := 7) (dk D 5 rfl) rfl ?_
  refine a_icmp_ge (pc := 8) (dk D 6 rfl) (tgt := 22) rfl ⟨fun c => ?_, fun c => ?_⟩
  · replace H := H.1 c
    exact a_pick [0, 1, 3] rfl H
  · replace H := H.2 c
    refine a_iload_n (pc := 11) (dk D 7 rfl) rfl ?_
    refine a_bipush (pc := 12) (dk D 8 rfl) (ik rfl) (bpk rfl) ?_
    refine a_imul (pc := 14) (dk D 9 rfl) ?_
    refine a_istore_n (pc := 15) (dk D 10 rfl) (by decide) rfl rfl ?_
    refine a_iinc (pc := 16) (dk D 11 rfl) (by decide) rfl rfl rfl ?_
    refine a_goto (pc := 19) (dk D 12 rfl) (tgt := 5) rfl ?_
    exact a_pick [0, 1, 2, 3, 4] rfl H
set_option maxHeartbeats 40000000 in
theorem T_X12_digit_85_22 {G : GG} {Φ : Int → Hp → Prop} {h : Hp} {x1 : Int} {x3 : Int} (H : ((x3 ≤ 0 → Φ 0 h) ∧ (0 < x3 → x3 ≠ 0 ∧ Call G m_X12_add [rv 85, iv (w32 (48 + ((w32 (x1.tdiv x3)).tmod 10)))] h (fun _ h2 => AT G m_X12_digit 22 [(0, rv 85), (1, iv x1), (3, iv (w32 (x3.tdiv 10)))] [] h2 Φ)))) : AT G m_X12_digit 22 [(0, rv 85), (1, iv x1), (3, iv x3)] [] h Φ := by
  have D := dt_X12_digit
  refine a_iload_n (pc := 22) (dk D 13 rfl) rfl ?_
  refine a_if_le (pc := 23) (dk D 14 rfl) (tgt := 47) rfl ⟨fun c => ?_, fun c => ?_⟩
  · replace H := H.1 c
    exact a_vret (pc := 47) (dk D 29 rfl) rfl rfl H
  · replace H := H.2 c
    refine a_aload_n (pc := 26) (dk D 15 rfl) rfl ?_
    refine a_bipush (pc := 27) (dk D 16 rfl) (ik rfl) (bpk rfl) ?_
    refine a_iload_n (pc := 29) (dk D 17 rfl) rfl ?_
    refine a_iload_n (pc := 30) (dk D 18 rfl) rfl ?_
    refine a_idiv (pc := 31) (dk D 19 rfl) ⟨H.1, ?_⟩
    replace H := H.2
    refine a_bipush (pc := 32) (dk D 20 rfl) (ik rfl) (bpk rfl) ?_
    refine a_irem (pc := 34) (dk D 21 rfl) ⟨by decide, ?_⟩
    refine a_iadd (pc := 35) (dk D 22 rfl) ?_
    refine a_callVv (as := [iv (w32 (48 + ((w32 (x1.tdiv x3)).tmod 10)))]) (st := []) (pc := 36) (dk D 23 rfl) cl_RX12_381 ⟨Nat.le_of_ble_eq_true rfl, Nat.le_of_ble_eq_true rfl⟩ ⟨Nat.le_of_ble_eq_true rfl, Nat.le_of_ble_eq_true rfl⟩ cls_12 rfl cc_85 rfl rfl rfl (Nat.le_of_ble_eq_true rfl) (Call.mono H fun _ h2 H => ?_)
    refine a_iload_n (pc := 39) (dk D 24 rfl) rfl ?_
    refine a_bipush (pc := 40) (dk D 25 rfl) (ik rfl) (bpk rfl) ?_
    refine a_idiv (pc := 42) (dk D 26 rfl) ⟨by decide, ?_⟩
    refine a_istore_n (pc := 43) (dk D 27 rfl) (by decide) rfl rfl ?_
    refine a_goto (pc := 44) (dk D 28 rfl) (tgt := 22) rfl ?_
    exact a_pick [0, 1, 2] rfl H
set_option maxHeartbeats 40000000 in
theorem T_X12_isLong_0 {G : GG} {Φ : Int → Hp → Prop} {h : Hp} {x0 : Int} (H : (((x0.tmod 4) ≠ 0 → Φ 0 h) ∧ ((x0.tmod 4) = 0 → (((x0.tmod 100) ≠ 0 → Φ 1 h) ∧ ((x0.tmod 100) = 0 → (((x0.tmod 400) ≠ 0 → Φ 0 h) ∧ ((x0.tmod 400) = 0 → Φ 1 h))))))) : AT G m_X12_isLong 0 [(0, iv x0)] [] h Φ := by
  have D := dt_X12_isLong
  refine a_iload_n (pc := 0) (dk D 0 rfl) rfl ?_
  refine a_iconst (pc := 1) (dk D 1 rfl) (ik rfl) ?_
  refine a_irem (pc := 2) (dk D 2 rfl) ⟨by decide, ?_⟩
  refine a_if_ne (pc := 3) (dk D 3 rfl) (tgt := 25) rfl ⟨fun c => ?_, fun c => ?_⟩
  · replace H := H.1 c
    refine a_iconst (pc := 25) (dk D 14 rfl) (ik rfl) ?_
    exact a_zret (pc := 26) (dk D 15 rfl) rfl rfl ⟨by decide, H⟩
  · replace H := H.2 c
    refine a_iload_n (pc := 6) (dk D 4 rfl) rfl ?_
    refine a_bipush (pc := 7) (dk D 5 rfl) (ik rfl) (bpk rfl) ?_
    refine a_irem (pc := 9) (dk D 6 rfl) ⟨by decide, ?_⟩
    refine a_if_ne (pc := 10) (dk D 7 rfl) (tgt := 21) rfl ⟨fun c => ?_, fun c => ?_⟩
    · replace H := H.1 c
      refine a_iconst (pc := 21) (dk D 12 rfl) (ik rfl) ?_
      refine a_goto (pc := 22) (dk D 13 rfl) (tgt := 26) rfl ?_
      exact a_zret (pc := 26) (dk D 15 rfl) rfl rfl ⟨by decide, H⟩
    · replace H := H.2 c
      refine a_iload_n (pc := 13) (dk D 8 rfl) rfl ?_
      refine a_sipush (pc := 14) (dk D 9 rfl) (ik rfl) (spk rfl) ?_
      refine a_irem (pc := 17) (dk D 10 rfl) ⟨by decide, ?_⟩
      refine a_if_ne (pc := 18) (dk D 11 rfl) (tgt := 25) rfl ⟨fun c => ?_, fun c => ?_⟩
      · replace H := H.1 c
        refine a_iconst (pc := 25) (dk D 14 rfl) (ik rfl) ?_
        exact a_zret (pc := 26) (dk D 15 rfl) rfl rfl ⟨by decide, H⟩
      · replace H := H.2 c
        refine a_iconst (pc := 21) (dk D 12 rfl) (ik rfl) ?_
        refine a_goto (pc := 22) (dk D 13 rfl) (tgt := 26) rfl ?_
        exact a_zret (pc := 26) (dk D 15 rfl) rfl rfl ⟨by decide, H⟩
set_option maxHeartbeats 40000000 in
theorem T_X12_sees_85_0 {G : GG} {Φ : Int → Hp → Prop} {h : Hp} {x1 : Int} {x2 : Int} (H : Call G m_X12_angle [rv 85, iv x2] h (fun r1 h2 => (0 ≤ x1 ∧ x1 < 4) ∧ (h2 85 11) ≠ 0 ∧ (0 ≤ x1 ∧ x1 < 4) ∧ Call G m_X12_round [jv (w64 ((w32 (r1 - (h2 90 x1))) - (w64 ((w32 (x2.tdiv (h2 85 11))) * (h2 92 x1)))))] h2 (fun r3 h4 => (0 ≤ x1 ∧ x1 < 4) ∧ (((h4 91 x1) ≤ r3 → Φ 0 h4) ∧ (r3 < (h4 91 x1) → Φ 1 h4))))) : AT G m_X12_sees 0 [(0, rv 85), (1, iv x1), (2, iv x2)] [] h Φ := by
  have D := dt_X12_sees
  refine a_aload_n (pc := 0) (dk D 0 rfl) rfl ?_
  refine a_iload_n (pc := 1) (dk D 1 rfl) rfl ?_
  refine a_callVi (as := [iv x2]) (st := []) (pc := 2) (dk D 2 rfl) cl_RX12_401 ⟨Nat.le_of_ble_eq_true rfl, Nat.le_of_ble_eq_true rfl⟩ ⟨Nat.le_of_ble_eq_true rfl, Nat.le_of_ble_eq_true rfl⟩ cls_12 rfl cc_85 rfl rfl rfl (Nat.le_of_ble_eq_true rfl) (Call.mono H fun r1 h2 H => ?_)
  refine a_aload_n (pc := 5) (dk D 3 rfl) rfl ?_
  refine a_getr (r := 89) (pc := 6) (dk D 4 rfl) cls_12 fl_RX12_26 cf_85_15 ?_
  refine a_iload_n (pc := 9) (dk D 5 rfl) rfl ?_
  refine a_iald (pc := 10) (dk D 6 rfl) ar_90 ⟨H.1, ?_⟩
  replace H := H.2
  refine a_isub (pc := 11) (dk D 7 rfl) ?_
  refine a_i2l (pc := 12) (dk D 8 rfl) ?_
  refine a_iload_n (pc := 13) (dk D 9 rfl) rfl ?_
  refine a_aload_n (pc := 14) (dk D 10 rfl) rfl ?_
  refine a_geti (pc := 15) (dk D 11 rfl) cls_12 fl_RX12_22 cf_85_11 ?_
  refine a_idiv (pc := 18) (dk D 12 rfl) ⟨H.1, ?_⟩
  replace H := H.2
  refine a_i2l (pc := 19) (dk D 13 rfl) ?_
  refine a_aload_n (pc := 20) (dk D 14 rfl) rfl ?_
  refine a_getr (r := 91) (pc := 21) (dk D 15 rfl) cls_12 fl_RX12_32 cf_85_17 ?_
  refine a_iload_n (pc := 24) (dk D 16 rfl) rfl ?_
  refine a_iald (pc := 25) (dk D 17 rfl) ar_92 ⟨H.1, ?_⟩
  replace H := H.2
  refine a_i2l (pc := 26) (dk D 18 rfl) ?_
  refine a_lmul (pc := 27) (dk D 19 rfl) ?_
  refine a_lsub (pc := 28) (dk D 20 rfl) ?_
  refine a_callSi (as := [jv (w64 ((w32 (r1 - (h2 90 x1))) - (w64 ((w32 (x2.tdiv (h2 85 11))) * (h2 92 x1)))))]) (st := []) (pc := 29) (dk D 21 rfl) cl_RX12_404 ⟨Nat.le_of_ble_eq_true rfl, Nat.le_of_ble_eq_true rfl⟩ ⟨Nat.le_of_ble_eq_true rfl, Nat.le_of_ble_eq_true rfl⟩ rfl rfl rfl (Nat.le_of_ble_eq_true rfl) (Call.mono H fun r3 h4 H => ?_)
  refine a_aload_n (pc := 32) (dk D 22 rfl) rfl ?_
  refine a_getr (r := 90) (pc := 33) (dk D 23 rfl) cls_12 fl_RX12_29 cf_85_16 ?_
  refine a_iload_n (pc := 36) (dk D 24 rfl) rfl ?_
  refine a_iald (pc := 37) (dk D 25 rfl) ar_91 ⟨H.1, ?_⟩
  replace H := H.2
  refine a_icmp_ge (pc := 38) (dk D 26 rfl) (tgt := 45) rfl ⟨fun c => ?_, fun c => ?_⟩
  · replace H := H.1 c
    refine a_iconst (pc := 45) (dk D 29 rfl) (ik rfl) ?_
    exact a_zret (pc := 46) (dk D 30 rfl) rfl rfl ⟨by decide, H⟩
  · replace H := H.2 c
    refine a_iconst (pc := 41) (dk D 27 rfl) (ik rfl) ?_
    refine a_goto (pc := 42) (dk D 28 rfl) (tgt := 46) rfl ?_
    exact a_zret (pc := 46) (dk D 30 rfl) rfl rfl ⟨by decide, H⟩
set_option maxHeartbeats 40000000 in
theorem T_X12_line_85_99_0 {G : GG} {Φ : Int → Hp → Prop} {h : Hp} (H : Call G m_X12_wordOf [rv 85, rv 99] h (fun r1 h2 => (((r1 = 0 ∨ r1 = 1) → Call G m_X12_behind [rv 85, iv 0, iv 7] (up h2 103 240 r1) (fun r3 h4 => Φ 0 (up h4 104 240 r3))) ∧ ((r1 = 2) → Call G m_X12_behind [rv 85, iv 1, iv 9999] (up h2 103 240 r1) (fun r5 h6 => Φ 0 (up h6 105 240 r5))) ∧ ((r1 = 3) → Call G m_X12_need [rv 85, iv 32] (up h2 103 240 r1) (fun _ h8 => Call G m_X12_condition [rv 85, iv 240] h8 (fun _ h10 => Φ 0 h10))) ∧ ((r1 = 4) → Call G m_X12_need [rv 85, iv 32] (up h2 103 240 r1) (fun _ h12 => Call G m_X12_condition [rv 85, iv 240] h12 (fun _ h14 => Call G m_X12_need [rv 85, iv 32] h14 (fun _ h16 => Call G m_X12_wordOf [rv 85, rv 102] h16 (fun r17 h18 => Call G m_X12_behind [rv 85, iv 0, iv 29] h18 (fun r19 h20 => Φ 0 (up h20 105 240 r19))))))) ∧ ((r1 = 5) → Call G m_X12_behind [rv 85, iv 0, iv 29] (up h2 103 240 r1) (fun r21 h22 => Φ 0 (up h22 105 240 r21))) ∧ ((r1 = 6 ∨ r1 = 7) → Call G m_X12_need [rv 85, iv 32] (up h2 103 240 r1) (fun _ h24 => Call G m_X12_wordOf [rv 85, rv 101] h24 (fun r25 h26 => Call G m_X12_behind [rv 85, iv 0, iv 255] (up h26 104 240 r25) (fun r27 h28 => Φ 0 (up h28 105 240 r27))))) ∧ ((r1 = 8) → Call G m_X12_behind [rv 85, iv 0, iv 15] (up h2 103 240 r1) (fun r29 h30 => Φ 0 (up h30 105 240 r29))) ∧ ((r1 = 9) → Call G m_X12_behind [rv 85, iv 0, iv 3] (up h2 103 240 r1) (fun r31 h32 => Φ 0 (up h32 105 240 r31))) ∧ ((r1 = 10 ∨ r1 = 11) → Call G m_X12_behind [rv 85, iv 0, iv 7] (up h2 103 240 r1) (fun r33 h34 => Φ 0 (up h34 104 240 r33))) ∧ (((r1 < 0 ∨ 11 < r1)) → Φ 0 (up h2 103 240 r1))))) : AT G m_X12_line 0 [(0, rv 85), (1, rv 99)] [] h Φ := by
  have D := dt_X12_line
  refine a_aload_n (pc := 0) (dk D 0 rfl) rfl ?_
  refine a_aload_n (pc := 1) (dk D 1 rfl) rfl ?_
  refine a_callVi (as := [rv 99]) (st := []) (pc := 2) (dk D 2 rfl) cl_RX12_450 ⟨Nat.le_of_ble_eq_true rfl, Nat.le_of_ble_eq_true rfl⟩ ⟨Nat.le_of_ble_eq_true rfl, Nat.le_of_ble_eq_true rfl⟩ cls_12 rfl cc_85 rfl rfl rfl (Nat.le_of_ble_eq_true rfl) (Call.mono H fun r1 h2 H => ?_)
  refine a_istore_n (pc := 5) (dk D 3 rfl) (by decide) rfl rfl ?_
  refine a_aload_n (pc := 6) (dk D 4 rfl) rfl ?_
  refine a_getr (r := 102) (pc := 7) (dk D 5 rfl) cls_12 fl_RX12_138 cf_85_36 ?_
  refine a_sipush (pc := 10) (dk D 6 rfl) (ik rfl) (spk rfl) ?_
  refine a_iload_n (pc := 13) (dk D 7 rfl) rfl ?_
  refine a_iast (pc := 14) (dk D 8 rfl) ar_103 ⟨⟨by decide, by decide⟩, ?_⟩
  refine a_iload_n (pc := 15) (dk D 9 rfl) rfl ?_
  have B0 : (r1 = 0 ∨ r1 = 1) → AT G m_X12_line 80 [(0, rv 85), (1, rv 99), (2, iv r1)] [] (up h2 103 240 r1) Φ := by
    intro c
    replace H := H.1 c
    refine a_aload_n (pc := 80) (dk D 11 rfl) rfl ?_
    refine a_getr (r := 103) (pc := 81) (dk D 12 rfl) cls_12 fl_RX12_141 cf_85_37 ?_
    refine a_sipush (pc := 84) (dk D 13 rfl) (ik rfl) (spk rfl) ?_
    refine a_aload_n (pc := 87) (dk D 14 rfl) rfl ?_
    refine a_iconst (pc := 88) (dk D 15 rfl) (ik rfl) ?_
    refine a_bipush (pc := 89) (dk D 16 rfl) (ik rfl) (bpk rfl) ?_
    refine a_callVi (as := [iv 0, iv 7]) (st := [iv 240, rv 104]) (pc := 91) (dk D 17 rfl) cl_RX12_456 ⟨Nat.le_of_ble_eq_true rfl, Nat.le_of_ble_eq_true rfl⟩ ⟨Nat.le_of_ble_eq_true rfl, Nat.le_of_ble_eq_true rfl⟩ cls_12 rfl cc_85 rfl rfl rfl (Nat.le_of_ble_eq_true rfl) (Call.mono H fun r3 h4 H => ?_)
    refine a_iast (pc := 94) (dk D 18 rfl) ar_104 ⟨⟨by decide, by decide⟩, ?_⟩
    refine a_goto (pc := 95) (dk D 19 rfl) (tgt := 291) rfl ?_
    exact a_vret (pc := 291) (dk D 115 rfl) rfl rfl H
  have B1 : (r1 = 2) → AT G m_X12_line 98 [(0, rv 85), (1, rv 99), (2, iv r1)] [] (up h2 103 240 r1) Φ := by
    intro c
    replace H := H.2.1 c
    refine a_aload_n (pc := 98) (dk D 20 rfl) rfl ?_
    refine a_getr (r := 104) (pc := 99) (dk D 21 rfl) cls_12 fl_RX12_144 cf_85_38 ?_
    refine a_sipush (pc := 102) (dk D 22 rfl) (ik rfl) (spk rfl) ?_
    refine a_aload_n (pc := 105) (dk D 23 rfl) rfl ?_
    refine a_iconst (pc := 106) (dk D 24 rfl) (ik rfl) ?_
    refine a_sipush (pc := 107) (dk D 25 rfl) (ik rfl) (spk rfl) ?_
    refine a_callVi (as := [iv 1, iv 9999]) (st := [iv 240, rv 105]) (pc := 110) (dk D 26 rfl) cl_RX12_456 ⟨Nat.le_of_ble_eq_true rfl, Nat.le_of_ble_eq_true rfl⟩ ⟨Nat.le_of_ble_eq_true rfl, Nat.le_of_ble_eq_true rfl⟩ cls_12 rfl cc_85 rfl rfl rfl (Nat.le_of_ble_eq_true rfl) (Call.mono H fun r5 h6 H => ?_)
    refine a_iast (pc := 113) (dk D 27 rfl) ar_105 ⟨⟨by decide, by decide⟩, ?_⟩
    refine a_goto (pc := 114) (dk D 28 rfl) (tgt := 291) rfl ?_
    exact a_vret (pc := 291) (dk D 115 rfl) rfl rfl H
  have B2 : (r1 = 3) → AT G m_X12_line 117 [(0, rv 85), (1, rv 99), (2, iv r1)] [] (up h2 103 240 r1) Φ := by
    intro c
    replace H := H.2.2.1 c
    refine a_aload_n (pc := 117) (dk D 29 rfl) rfl ?_
    refine a_bipush (pc := 118) (dk D 30 rfl) (ik rfl) (bpk rfl) ?_
    refine a_callVv (as := [iv 32]) (st := []) (pc := 120) (dk D 31 rfl) cl_RX12_330 ⟨Nat.le_of_ble_eq_true rfl, Nat.le_of_ble_eq_true rfl⟩ ⟨Nat.le_of_ble_eq_true rfl, Nat.le_of_ble_eq_true rfl⟩ cls_12 rfl cc_85 rfl rfl rfl (Nat.le_of_ble_eq_true rfl) (Call.mono H fun _ h8 H => ?_)
    refine a_aload_n (pc := 123) (dk D 32 rfl) rfl ?_
    refine a_sipush (pc := 124) (dk D 33 rfl) (ik rfl) (spk rfl) ?_
    refine a_callVv (as := [iv 240]) (st := []) (pc := 127) (dk D 34 rfl) cl_RX12_459 ⟨Nat.le_of_ble_eq_true rfl, Nat.le_of_ble_eq_true rfl⟩ ⟨Nat.le_of_ble_eq_true rfl, Nat.le_of_ble_eq_true rfl⟩ cls_12 rfl cc_85 rfl rfl rfl (Nat.le_of_ble_eq_true rfl) (Call.mono H fun _ h10 H => ?_)
    refine a_goto (pc := 130) (dk D 35 rfl) (tgt := 291) rfl ?_
    exact a_vret (pc := 291) (dk D 115 rfl) rfl rfl H
  have B3 : (r1 = 4) → AT G m_X12_line 133 [(0, rv 85), (1, rv 99), (2, iv r1)] [] (up h2 103 240 r1) Φ := by
    intro c
    replace H := H.2.2.2.1 c
    refine a_aload_n (pc := 133) (dk D 36 rfl) rfl ?_
    refine a_bipush (pc := 134) (dk D 37 rfl) (ik rfl) (bpk rfl) ?_
    refine a_callVv (as := [iv 32]) (st := []) (pc := 136) (dk D 38 rfl) cl_RX12_330 ⟨Nat.le_of_ble_eq_true rfl, Nat.le_of_ble_eq_true rfl⟩ ⟨Nat.le_of_ble_eq_true rfl, Nat.le_of_ble_eq_true rfl⟩ cls_12 rfl cc_85 rfl rfl rfl (Nat.le_of_ble_eq_true rfl) (Call.mono H fun _ h12 H => ?_)
    refine a_aload_n (pc := 139) (dk D 39 rfl) rfl ?_
    refine a_sipush (pc := 140) (dk D 40 rfl) (ik rfl) (spk rfl) ?_
    refine a_callVv (as := [iv 240]) (st := []) (pc := 143) (dk D 41 rfl) cl_RX12_459 ⟨Nat.le_of_ble_eq_true rfl, Nat.le_of_ble_eq_true rfl⟩ ⟨Nat.le_of_ble_eq_true rfl, Nat.le_of_ble_eq_true rfl⟩ cls_12 rfl cc_85 rfl rfl rfl (Nat.le_of_ble_eq_true rfl) (Call.mono H fun _ h14 H => ?_)
    refine a_aload_n (pc := 146) (dk D 42 rfl) rfl ?_
    refine a_bipush (pc := 147) (dk D 43 rfl) (ik rfl) (bpk rfl) ?_
    refine a_callVv (as := [iv 32]) (st := []) (pc := 149) (dk D 44 rfl) cl_RX12_330 ⟨Nat.le_of_ble_eq_true rfl, Nat.le_of_ble_eq_true rfl⟩ ⟨Nat.le_of_ble_eq_true rfl, Nat.le_of_ble_eq_true rfl⟩ cls_12 rfl cc_85 rfl rfl rfl (Nat.le_of_ble_eq_true rfl) (Call.mono H fun _ h16 H => ?_)
    refine a_aload_n (pc := 152) (dk D 45 rfl) rfl ?_
    refine a_aload_n (pc := 153) (dk D 46 rfl) rfl ?_
    refine a_getr (r := 101) (pc := 154) (dk D 47 rfl) cls_12 fl_RX12_135 cf_85_35 ?_
    refine a_callVi (as := [rv 102]) (st := []) (pc := 157) (dk D 48 rfl) cl_RX12_450 ⟨Nat.le_of_ble_eq_true rfl, Nat.le_of_ble_eq_true rfl⟩ ⟨Nat.le_of_ble_eq_true rfl, Nat.le_of_ble_eq_true rfl⟩ cls_12 rfl cc_85 rfl rfl rfl (Nat.le_of_ble_eq_true rfl) (Call.mono H fun r17 h18 H => ?_)
    refine a_pop (pc := 160) (dk D 49 rfl) rfl ?_
    refine a_aload_n (pc := 161) (dk D 50 rfl) rfl ?_
    refine a_getr (r := 104) (pc := 162) (dk D 51 rfl) cls_12 fl_RX12_144 cf_85_38 ?_
    refine a_sipush (pc := 165) (dk D 52 rfl) (ik rfl) (spk rfl) ?_
    refine a_aload_n (pc := 168) (dk D 53 rfl) rfl ?_
    refine a_iconst (pc := 169) (dk D 54 rfl) (ik rfl) ?_
    refine a_bipush (pc := 170) (dk D 55 rfl) (ik rfl) (bpk rfl) ?_
    refine a_callVi (as := [iv 0, iv 29]) (st := [iv 240, rv 105]) (pc := 172) (dk D 56 rfl) cl_RX12_456 ⟨Nat.le_of_ble_eq_true rfl, Nat.le_of_ble_eq_true rfl⟩ ⟨Nat.le_of_ble_eq_true rfl, Nat.le_of_ble_eq_true rfl⟩ cls_12 rfl cc_85 rfl rfl rfl (Nat.le_of_ble_eq_true rfl) (Call.mono H fun r19 h20 H => ?_)
    refine a_iast (pc := 175) (dk D 57 rfl) ar_105 ⟨⟨by decide, by decide⟩, ?_⟩
    refine a_goto (pc := 176) (dk D 58 rfl) (tgt := 291) rfl ?_
    exact a_vret (pc := 291) (dk D 115 rfl) rfl rfl H
  have B4 : (r1 = 5) → AT G m_X12_line 179 [(0, rv 85), (1, rv 99), (2, iv r1)] [] (up h2 103 240 r1) Φ := by
    intro c
    replace H := H.2.2.2.2.1 c
    refine a_aload_n (pc := 179) (dk D 59 rfl) rfl ?_
    refine a_getr (r := 104) (pc := 180) (dk D 60 rfl) cls_12 fl_RX12_144 cf_85_38 ?_
    refine a_sipush (pc := 183) (dk D 61 rfl) (ik rfl) (spk rfl) ?_
    refine a_aload_n (pc := 186) (dk D 62 rfl) rfl ?_
    refine a_iconst (pc := 187) (dk D 63 rfl) (ik rfl) ?_
    refine a_bipush (pc := 188) (dk D 64 rfl) (ik rfl) (bpk rfl) ?_
    refine a_callVi (as := [iv 0, iv 29]) (st := [iv 240, rv 105]) (pc := 190) (dk D 65 rfl) cl_RX12_456 ⟨Nat.le_of_ble_eq_true rfl, Nat.le_of_ble_eq_true rfl⟩ ⟨Nat.le_of_ble_eq_true rfl, Nat.le_of_ble_eq_true rfl⟩ cls_12 rfl cc_85 rfl rfl rfl (Nat.le_of_ble_eq_true rfl) (Call.mono H fun r21 h22 H => ?_)
    refine a_iast (pc := 193) (dk D 66 rfl) ar_105 ⟨⟨by decide, by decide⟩, ?_⟩
    refine a_goto (pc := 194) (dk D 67 rfl) (tgt := 291) rfl ?_
    exact a_vret (pc := 291) (dk D 115 rfl) rfl rfl H
  have B5 : (r1 = 6 ∨ r1 = 7) → AT G m_X12_line 197 [(0, rv 85), (1, rv 99), (2, iv r1)] [] (up h2 103 240 r1) Φ := by
    intro c
    replace H := H.2.2.2.2.2.1 c
    refine a_aload_n (pc := 197) (dk D 68 rfl) rfl ?_
    refine a_bipush (pc := 198) (dk D 69 rfl) (ik rfl) (bpk rfl) ?_
    refine a_callVv (as := [iv 32]) (st := []) (pc := 200) (dk D 70 rfl) cl_RX12_330 ⟨Nat.le_of_ble_eq_true rfl, Nat.le_of_ble_eq_true rfl⟩ ⟨Nat.le_of_ble_eq_true rfl, Nat.le_of_ble_eq_true rfl⟩ cls_12 rfl cc_85 rfl rfl rfl (Nat.le_of_ble_eq_true rfl) (Call.mono H fun _ h24 H => ?_)
    refine a_aload_n (pc := 203) (dk D 71 rfl) rfl ?_
    refine a_getr (r := 103) (pc := 204) (dk D 72 rfl) cls_12 fl_RX12_141 cf_85_37 ?_
    refine a_sipush (pc := 207) (dk D 73 rfl) (ik rfl) (spk rfl) ?_
    refine a_aload_n (pc := 210) (dk D 74 rfl) rfl ?_
    refine a_aload_n (pc := 211) (dk D 75 rfl) rfl ?_
    refine a_getr (r := 100) (pc := 212) (dk D 76 rfl) cls_12 fl_RX12_132 cf_85_34 ?_
    refine a_callVi (as := [rv 101]) (st := [iv 240, rv 104]) (pc := 215) (dk D 77 rfl) cl_RX12_450 ⟨Nat.le_of_ble_eq_true rfl, Nat.le_of_ble_eq_true rfl⟩ ⟨Nat.le_of_ble_eq_true rfl, Nat.le_of_ble_eq_true rfl⟩ cls_12 rfl cc_85 rfl rfl rfl (Nat.le_of_ble_eq_true rfl) (Call.mono H fun r25 h26 H => ?_)
    refine a_iast (pc := 218) (dk D 78 rfl) ar_104 ⟨⟨by decide, by decide⟩, ?_⟩
    refine a_aload_n (pc := 219) (dk D 79 rfl) rfl ?_
    refine a_getr (r := 104) (pc := 220) (dk D 80 rfl) cls_12 fl_RX12_144 cf_85_38 ?_
    refine a_sipush (pc := 223) (dk D 81 rfl) (ik rfl) (spk rfl) ?_
    refine a_aload_n (pc := 226) (dk D 82 rfl) rfl ?_
    refine a_iconst (pc := 227) (dk D 83 rfl) (ik rfl) ?_
    refine a_sipush (pc := 228) (dk D 84 rfl) (ik rfl) (spk rfl) ?_
    refine a_callVi (as := [iv 0, iv 255]) (st := [iv 240, rv 105]) (pc := 231) (dk D 85 rfl) cl_RX12_456 ⟨Nat.le_of_ble_eq_true rfl, Nat.le_of_ble_eq_true rfl⟩ ⟨Nat.le_of_ble_eq_true rfl, Nat.le_of_ble_eq_true rfl⟩ cls_12 rfl cc_85 rfl rfl rfl (Nat.le_of_ble_eq_true rfl) (Call.mono H fun r27 h28 H => ?_)
    refine a_iast (pc := 234) (dk D 86 rfl) ar_105 ⟨⟨by decide, by decide⟩, ?_⟩
    refine a_goto (pc := 235) (dk D 87 rfl) (tgt := 291) rfl ?_
    exact a_vret (pc := 291) (dk D 115 rfl) rfl rfl H
  have B6 : (r1 = 8) → AT G m_X12_line 238 [(0, rv 85), (1, rv 99), (2, iv r1)] [] (up h2 103 240 r1) Φ := by
    intro c
    replace H := H.2.2.2.2.2.2.1 c
    refine a_aload_n (pc := 238) (dk D 88 rfl) rfl ?_
    refine a_getr (r := 104) (pc := 239) (dk D 89 rfl) cls_12 fl_RX12_144 cf_85_38 ?_
    refine a_sipush (pc := 242) (dk D 90 rfl) (ik rfl) (spk rfl) ?_
    refine a_aload_n (pc := 245) (dk D 91 rfl) rfl ?_
    refine a_iconst (pc := 246) (dk D 92 rfl) (ik rfl) ?_
    refine a_bipush (pc := 247) (dk D 93 rfl) (ik rfl) (bpk rfl) ?_
    refine a_callVi (as := [iv 0, iv 15]) (st := [iv 240, rv 105]) (pc := 249) (dk D 94 rfl) cl_RX12_456 ⟨Nat.le_of_ble_eq_true rfl, Nat.le_of_ble_eq_true rfl⟩ ⟨Nat.le_of_ble_eq_true rfl, Nat.le_of_ble_eq_true rfl⟩ cls_12 rfl cc_85 rfl rfl rfl (Nat.le_of_ble_eq_true rfl) (Call.mono H fun r29 h30 H => ?_)
    refine a_iast (pc := 252) (dk D 95 rfl) ar_105 ⟨⟨by decide, by decide⟩, ?_⟩
    refine a_goto (pc := 253) (dk D 96 rfl) (tgt := 291) rfl ?_
    exact a_vret (pc := 291) (dk D 115 rfl) rfl rfl H
  have B7 : (r1 = 9) → AT G m_X12_line 256 [(0, rv 85), (1, rv 99), (2, iv r1)] [] (up h2 103 240 r1) Φ := by
    intro c
    replace H := H.2.2.2.2.2.2.2.1 c
    refine a_aload_n (pc := 256) (dk D 97 rfl) rfl ?_
    refine a_getr (r := 104) (pc := 257) (dk D 98 rfl) cls_12 fl_RX12_144 cf_85_38 ?_
    refine a_sipush (pc := 260) (dk D 99 rfl) (ik rfl) (spk rfl) ?_
    refine a_aload_n (pc := 263) (dk D 100 rfl) rfl ?_
    refine a_iconst (pc := 264) (dk D 101 rfl) (ik rfl) ?_
    refine a_iconst (pc := 265) (dk D 102 rfl) (ik rfl) ?_
    refine a_callVi (as := [iv 0, iv 3]) (st := [iv 240, rv 105]) (pc := 266) (dk D 103 rfl) cl_RX12_456 ⟨Nat.le_of_ble_eq_true rfl, Nat.le_of_ble_eq_true rfl⟩ ⟨Nat.le_of_ble_eq_true rfl, Nat.le_of_ble_eq_true rfl⟩ cls_12 rfl cc_85 rfl rfl rfl (Nat.le_of_ble_eq_true rfl) (Call.mono H fun r31 h32 H => ?_)
    refine a_iast (pc := 269) (dk D 104 rfl) ar_105 ⟨⟨by decide, by decide⟩, ?_⟩
    refine a_goto (pc := 270) (dk D 105 rfl) (tgt := 291) rfl ?_
    exact a_vret (pc := 291) (dk D 115 rfl) rfl rfl H
  have B8 : (r1 = 10 ∨ r1 = 11) → AT G m_X12_line 273 [(0, rv 85), (1, rv 99), (2, iv r1)] [] (up h2 103 240 r1) Φ := by
    intro c
    replace H := H.2.2.2.2.2.2.2.2.1 c
    refine a_aload_n (pc := 273) (dk D 106 rfl) rfl ?_
    refine a_getr (r := 103) (pc := 274) (dk D 107 rfl) cls_12 fl_RX12_141 cf_85_37 ?_
    refine a_sipush (pc := 277) (dk D 108 rfl) (ik rfl) (spk rfl) ?_
    refine a_aload_n (pc := 280) (dk D 109 rfl) rfl ?_
    refine a_iconst (pc := 281) (dk D 110 rfl) (ik rfl) ?_
    refine a_bipush (pc := 282) (dk D 111 rfl) (ik rfl) (bpk rfl) ?_
    refine a_callVi (as := [iv 0, iv 7]) (st := [iv 240, rv 104]) (pc := 284) (dk D 112 rfl) cl_RX12_456 ⟨Nat.le_of_ble_eq_true rfl, Nat.le_of_ble_eq_true rfl⟩ ⟨Nat.le_of_ble_eq_true rfl, Nat.le_of_ble_eq_true rfl⟩ cls_12 rfl cc_85 rfl rfl rfl (Nat.le_of_ble_eq_true rfl) (Call.mono H fun r33 h34 H => ?_)
    refine a_iast (pc := 287) (dk D 113 rfl) ar_104 ⟨⟨by decide, by decide⟩, ?_⟩
    refine a_goto (pc := 288) (dk D 114 rfl) (tgt := 291) rfl ?_
    exact a_vret (pc := 291) (dk D 115 rfl) rfl rfl H
  have BD : ((r1 < 0 ∨ 11 < r1)) → AT G m_X12_line 291 [(0, rv 85), (1, rv 99), (2, iv r1)] [] (up h2 103 240 r1) Φ := by
    intro c
    replace H := H.2.2.2.2.2.2.2.2.2 c
    exact a_vret (pc := 291) (dk D 115 rfl) rfl rfl H
  exact a_tsw [80, 80, 98, 117, 133, 179, 197, 197, 238, 256, 273, 273] (pc := 16) (dk D 10 rfl) (by decide) (dt := 291) rfl (by decide) ⟨⟨fun c => B0 (Or.inl c), fun c => B0 (Or.inr (c)), fun c => B1 (c), fun c => B2 (c), fun c => B3 (c), fun c => B4 (c), fun c => B5 (Or.inl c), fun c => B5 (Or.inr (c)), fun c => B6 (c), fun c => B7 (c), fun c => B8 (Or.inl c), fun c => B8 (Or.inr (c)), trivial⟩, fun c => BD (c)⟩
set_option maxHeartbeats 40000000 in
theorem T_X12_fail_85_0 {G : GG} {Φ : Int → Hp → Prop} {h : Hp} {x1 : Int} (H : ((0 ≤ (h 85 6) → Φ 0 h) ∧ ((h 85 6) < 0 → Φ 0 (up h 85 6 x1)))) : AT G m_X12_fail 0 [(0, rv 85), (1, iv x1)] [] h Φ := by
  have D := dt_X12_fail
  refine a_aload_n (pc := 0) (dk D 0 rfl) rfl ?_
  refine a_geti (pc := 1) (dk D 1 rfl) cls_12 fl_RX12_312 cf_85_6 ?_
  refine a_if_ge (pc := 4) (dk D 2 rfl) (tgt := 12) rfl ⟨fun c => ?_, fun c => ?_⟩
  · replace H := H.1 c
    exact a_vret (pc := 12) (dk D 6 rfl) rfl rfl H
  · replace H := H.2 c
    refine a_aload_n (pc := 7) (dk D 3 rfl) rfl ?_
    refine a_iload_n (pc := 8) (dk D 4 rfl) rfl ?_
    refine a_puti (pc := 9) (dk D 5 rfl) cls_12 fl_RX12_312 cf_85_6 rfl rfl ?_
    exact a_vret (pc := 12) (dk D 6 rfl) rfl rfl H
set_option maxHeartbeats 40000000 in
theorem T_X12_copyLine_85_0 {G : GG} {Φ : Int → Hp → Prop} {h : Hp} {x1 : Int} {x2 : Int} (H : (0 ≤ x1 ∧ x1 < 260) ∧ (0 ≤ x2 ∧ x2 < 260) ∧ (0 ≤ x1 ∧ x1 < 260) ∧ (0 ≤ x2 ∧ x2 < 260) ∧ (0 ≤ x1 ∧ x1 < 260) ∧ (0 ≤ x2 ∧ x2 < 260) ∧ (0 ≤ x1 ∧ x1 < 260) ∧ (0 ≤ x2 ∧ x2 < 260) ∧ (0 ≤ x1 ∧ x1 < 260) ∧ (0 ≤ x2 ∧ x2 < 260) ∧ (0 ≤ x1 ∧ x1 < 260) ∧ (0 ≤ x2 ∧ x2 < 260) ∧ Φ 0 (up (up (up (up (up (up h 103 x2 (h 103 x1)) 104 x2 (h 104 x1)) 105 x2 (h 105 x1)) 106 x2 (h 106 x1)) 107 x2 (h 107 x1)) 108 x2 (h 108 x1))) : AT G m_X12_copyLine 0 [(0, rv 85), (1, iv x1), (2, iv x2)] [] h Φ := by
  have D := dt_X12_copyLine
  refine a_aload_n (pc := 0) (dk D 0 rfl) rfl ?_
  refine a_getr (r := 102) (pc := 1) (dk D 1 rfl) cls_12 fl_RX12_138 cf_85_36 ?_
  refine a_iload_n (pc := 4) (dk D 2 rfl) rfl ?_
  refine a_aload_n (pc := 5) (dk D 3 rfl) rfl ?_
  refine a_getr (r := 102) (pc := 6) (dk D 4 rfl) cls_12 fl_RX12_138 cf_85_36 ?_
  refine a_iload_n (pc := 9) (dk D 5 rfl) rfl ?_
  refine a_iald (pc := 10) (dk D 6 rfl) ar_103 ⟨H.1, ?_⟩
  replace H := H.2
  refine a_iast (pc := 11) (dk D 7 rfl) ar_103 ⟨H.1, ?_⟩
  replace H := H.2
  refine a_aload_n (pc := 12) (dk D 8 rfl) rfl ?_
  refine a_getr (r := 103) (pc := 13) (dk D 9 rfl) cls_12 fl_RX12_141 cf_85_37 ?_
  refine a_iload_n (pc := 16) (dk D 10 rfl) rfl ?_
  refine a_aload_n (pc := 17) (dk D 11 rfl) rfl ?_
  refine a_getr (r := 103) (pc := 18) (dk D 12 rfl) cls_12 fl_RX12_141 cf_85_37 ?_
  refine a_iload_n (pc := 21) (dk D 13 rfl) rfl ?_
  refine a_iald (pc := 22) (dk D 14 rfl) ar_104 ⟨H.1, ?_⟩
  replace H := H.2
  refine a_top (y := (h 104 x1)) (by simp [up, cpy]) ?_
  refine a_iast (pc := 23) (dk D 15 rfl) ar_104 ⟨H.1, ?_⟩
  replace H := H.2
  refine a_aload_n (pc := 24) (dk D 16 rfl) rfl ?_
  refine a_getr (r := 104) (pc := 25) (dk D 17 rfl) cls_12 fl_RX12_144 cf_85_38 ?_
  refine a_iload_n (pc := 28) (dk D 18 rfl) rfl ?_
  refine a_aload_n (pc := 29) (dk D 19 rfl) rfl ?_
  refine a_getr (r := 104) (pc := 30) (dk D 20 rfl) cls_12 fl_RX12_144 cf_85_38 ?_
  refine a_iload_n (pc := 33) (dk D 21 rfl) rfl ?_
  refine a_iald (pc := 34) (dk D 22 rfl) ar_105 ⟨H.1, ?_⟩
  replace H := H.2
  refine a_top (y := (h 105 x1)) (by simp [up, cpy]) ?_
  refine a_iast (pc := 35) (dk D 23 rfl) ar_105 ⟨H.1, ?_⟩
  replace H := H.2
  refine a_aload_n (pc := 36) (dk D 24 rfl) rfl ?_
  refine a_getr (r := 105) (pc := 37) (dk D 25 rfl) cls_12 fl_RX12_147 cf_85_39 ?_
  refine a_iload_n (pc := 40) (dk D 26 rfl) rfl ?_
  refine a_aload_n (pc := 41) (dk D 27 rfl) rfl ?_
  refine a_getr (r := 105) (pc := 42) (dk D 28 rfl) cls_12 fl_RX12_147 cf_85_39 ?_
  refine a_iload_n (pc := 45) (dk D 29 rfl) rfl ?_
  refine a_iald (pc := 46) (dk D 30 rfl) ar_106 ⟨H.1, ?_⟩
  replace H := H.2
  refine a_top (y := (h 106 x1)) (by simp [up, cpy]) ?_
  refine a_iast (pc := 47) (dk D 31 rfl) ar_106 ⟨H.1, ?_⟩
  replace H := H.2
  refine a_aload_n (pc := 48) (dk D 32 rfl) rfl ?_
  refine a_getr (r := 106) (pc := 49) (dk D 33 rfl) cls_12 fl_RX12_150 cf_85_40 ?_
  refine a_iload_n (pc := 52) (dk D 34 rfl) rfl ?_
  refine a_aload_n (pc := 53) (dk D 35 rfl) rfl ?_
  refine a_getr (r := 106) (pc := 54) (dk D 36 rfl) cls_12 fl_RX12_150 cf_85_40 ?_
  refine a_iload_n (pc := 57) (dk D 37 rfl) rfl ?_
  refine a_iald (pc := 58) (dk D 38 rfl) ar_107 ⟨H.1, ?_⟩
  replace H := H.2
  refine a_top (y := (h 107 x1)) (by simp [up, cpy]) ?_
  refine a_iast (pc := 59) (dk D 39 rfl) ar_107 ⟨H.1, ?_⟩
  replace H := H.2
  refine a_aload_n (pc := 60) (dk D 40 rfl) rfl ?_
  refine a_getr (r := 107) (pc := 61) (dk D 41 rfl) cls_12 fl_RX12_153 cf_85_41 ?_
  refine a_iload_n (pc := 64) (dk D 42 rfl) rfl ?_
  refine a_aload_n (pc := 65) (dk D 43 rfl) rfl ?_
  refine a_getr (r := 107) (pc := 66) (dk D 44 rfl) cls_12 fl_RX12_153 cf_85_41 ?_
  refine a_iload_n (pc := 69) (dk D 45 rfl) rfl ?_
  refine a_iald (pc := 70) (dk D 46 rfl) ar_108 ⟨H.1, ?_⟩
  replace H := H.2
  refine a_top (y := (h 108 x1)) (by simp [up, cpy]) ?_
  refine a_iast (pc := 71) (dk D 47 rfl) ar_108 ⟨H.1, ?_⟩
  replace H := H.2
  exact a_vret (pc := 72) (dk D 48 rfl) rfl rfl H
set_option maxHeartbeats 40000000 in
theorem T_X12_condition_85_0 {G : GG} {Φ : Int → Hp → Prop} {h : Hp} {x1 : Int} (H : Call G m_X12_wordOf [rv 85, rv 100] h (fun r1 h2 => (0 ≤ x1 ∧ x1 < 260) ∧ Call G m_X12_need [rv 85, iv 32] (up h2 106 x1 r1) (fun _ h4 => Call G m_X12_here [rv 85] h4 (fun r5 h6 => (0 ≤ x1 ∧ x1 < 260) ∧ Call G m_X12_bad [rv 85] (up h6 107 x1 r5) (fun r7 h8 => ((r7 ≠ 0 → Call G m_X12_bad [rv 85] h8 (fun r9 h10 => ((r9 = 0 → Call G m_X12_need [rv 85, iv 32] (up h10 85 5 (w32 ((h8 85 5) + 1))) (fun _ h12 => Call G m_X12_whole [rv 85, iv 1, iv (-99999), iv 99999] h12 (fun r13 h14 => (0 ≤ x1 ∧ x1 < 260) ∧ Φ 0 (up h14 108 x1 r13)))) ∧ (r9 ≠ 0 → Call G m_X12_need [rv 85, iv 32] (up h10 85 5 (w32 ((h8 85 5) + 0))) (fun _ h16 => Call G m_X12_whole [rv 85, iv 1, iv (-99999), iv 99999] h16 (fun r17 h18 => (0 ≤ x1 ∧ x1 < 260) ∧ Φ 0 (up h18 108 x1 r17))))))) ∧ (r7 = 0 → (0 ≤ x1 ∧ x1 < 260) ∧ (((h8 107 x1) = 61 → Call G m_X12_bad [rv 85] h8 (fun r19 h20 => ((r19 = 0 → Call G m_X12_need [rv 85, iv 32] (up h20 85 5 (w32 ((h8 85 5) + 1))) (fun _ h22 => Call G m_X12_whole [rv 85, iv 1, iv (-99999), iv 99999] h22 (fun r23 h24 => (0 ≤ x1 ∧ x1 < 260) ∧ Φ 0 (up h24 108 x1 r23)))) ∧ (r19 ≠ 0 → Call G m_X12_need [rv 85, iv 32] (up h20 85 5 (w32 ((h8 85 5) + 0))) (fun _ h26 => Call G m_X12_whole [rv 85, iv 1, iv (-99999), iv 99999] h26 (fun r27 h28 => (0 ≤ x1 ∧ x1 < 260) ∧ Φ 0 (up h28 108 x1 r27))))))) ∧ ((h8 107 x1) ≠ 61 → (0 ≤ x1 ∧ x1 < 260) ∧ (((h8 107 x1) = 60 → Call G m_X12_bad [rv 85] h8 (fun r29 h30 => ((r29 = 0 → Call G m_X12_need [rv 85, iv 32] (up h30 85 5 (w32 ((h8 85 5) + 1))) (fun _ h32 => Call G m_X12_whole [rv 85, iv 1, iv (-99999), iv 99999] h32 (fun r33 h34 => (0 ≤ x1 ∧ x1 < 260) ∧ Φ 0 (up h34 108 x1 r33)))) ∧ (r29 ≠ 0 → Call G m_X12_need [rv 85, iv 32] (up h30 85 5 (w32 ((h8 85 5) + 0))) (fun _ h36 => Call G m_X12_whole [rv 85, iv 1, iv (-99999), iv 99999] h36 (fun r37 h38 => (0 ≤ x1 ∧ x1 < 260) ∧ Φ 0 (up h38 108 x1 r37))))))) ∧ ((h8 107 x1) ≠ 60 → (0 ≤ x1 ∧ x1 < 260) ∧ (((h8 107 x1) = 62 → Call G m_X12_bad [rv 85] h8 (fun r39 h40 => ((r39 = 0 → Call G m_X12_need [rv 85, iv 32] (up h40 85 5 (w32 ((h8 85 5) + 1))) (fun _ h42 => Call G m_X12_whole [rv 85, iv 1, iv (-99999), iv 99999] h42 (fun r43 h44 => (0 ≤ x1 ∧ x1 < 260) ∧ Φ 0 (up h44 108 x1 r43)))) ∧ (r39 ≠ 0 → Call G m_X12_need [rv 85, iv 32] (up h40 85 5 (w32 ((h8 85 5) + 0))) (fun _ h46 => Call G m_X12_whole [rv 85, iv 1, iv (-99999), iv 99999] h46 (fun r47 h48 => (0 ≤ x1 ∧ x1 < 260) ∧ Φ 0 (up h48 108 x1 r47))))))) ∧ ((h8 107 x1) ≠ 62 → Call G m_X12_fail [rv 85, iv (h8 85 5)] h8 (fun _ h50 => Call G m_X12_bad [rv 85] h50 (fun r51 h52 => ((r51 = 0 → Call G m_X12_need [rv 85, iv 32] (up h52 85 5 (w32 ((h50 85 5) + 1))) (fun _ h54 => Call G m_X12_whole [rv 85, iv 1, iv (-99999), iv 99999] h54 (fun r55 h56 => (0 ≤ x1 ∧ x1 < 260) ∧ Φ 0 (up h56 108 x1 r55)))) ∧ (r51 ≠ 0 → Call G m_X12_need [rv 85, iv 32] (up h52 85 5 (w32 ((h50 85 5) + 0))) (fun _ h58 => Call G m_X12_whole [rv 85, iv 1, iv (-99999), iv 99999] h58 (fun r59 h60 => (0 ≤ x1 ∧ x1 < 260) ∧ Φ 0 (up h60 108 x1 r59)))))))))))))))))))) : AT G m_X12_condition 0 [(0, rv 85), (1, iv x1)] [] h Φ := by
  have D := dt_X12_condition
  refine a_aload_n (pc := 0) (dk D 0 rfl) rfl ?_
  refine a_getr (r := 105) (pc := 1) (dk D 1 rfl) cls_12 fl_RX12_147 cf_85_39 ?_
  refine a_iload_n (pc := 4) (dk D 2 rfl) rfl ?_
  refine a_aload_n (pc := 5) (dk D 3 rfl) rfl ?_
  refine a_aload_n (pc := 6) (dk D 4 rfl) rfl ?_
  refine a_getr (r := 99) (pc := 7) (dk D 5 rfl) cls_12 fl_RX12_129 cf_85_33 ?_
  refine a_callVi (as := [rv 100]) (st := [iv x1, rv 106]) (pc := 10) (dk D 6 rfl) cl_RX12_450 ⟨Nat.le_of_ble_eq_true rfl, Nat.le_of_ble_eq_true rfl⟩ ⟨Nat.le_of_ble_eq_true rfl, Nat.le_of_ble_eq_true rfl⟩ cls_12 rfl cc_85 rfl rfl rfl (Nat.le_of_ble_eq_true rfl) (Call.mono H fun r1 h2 H => ?_)
  refine a_iast (pc := 13) (dk D 7 rfl) ar_106 ⟨H.1, ?_⟩
  replace H := H.2
  refine a_aload_n (pc := 14) (dk D 8 rfl) rfl ?_
  refine a_bipush (pc := 15) (dk D 9 rfl) (ik rfl) (bpk rfl) ?_
  refine a_callVv (as := [iv 32]) (st := []) (pc := 17) (dk D 10 rfl) cl_RX12_330 ⟨Nat.le_of_ble_eq_true rfl, Nat.le_of_ble_eq_true rfl⟩ ⟨Nat.le_of_ble_eq_true rfl, Nat.le_of_ble_eq_true rfl⟩ cls_12 rfl cc_85 rfl rfl rfl (Nat.le_of_ble_eq_true rfl) (Call.mono H fun _ h4 H => ?_)
  refine a_aload_n (pc := 20) (dk D 11 rfl) rfl ?_
  refine a_getr (r := 106) (pc := 21) (dk D 12 rfl) cls_12 fl_RX12_150 cf_85_40 ?_
  refine a_iload_n (pc := 24) (dk D 13 rfl) rfl ?_
  refine a_aload_n (pc := 25) (dk D 14 rfl) rfl ?_
  refine a_callVi (as := []) (st := [iv x1, rv 107]) (pc := 26) (dk D 15 rfl) cl_RX12_319 ⟨Nat.le_of_ble_eq_true rfl, Nat.le_of_ble_eq_true rfl⟩ ⟨Nat.le_of_ble_eq_true rfl, Nat.le_of_ble_eq_true rfl⟩ cls_12 rfl cc_85 rfl rfl rfl (Nat.le_of_ble_eq_true rfl) (Call.mono H fun r5 h6 H => ?_)
  refine a_iast (pc := 29) (dk D 16 rfl) ar_107 ⟨H.1, ?_⟩
  replace H := H.2
  refine a_aload_n (pc := 30) (dk D 17 rfl) rfl ?_
  refine a_callVi (as := []) (st := []) (pc := 31) (dk D 18 rfl) cl_RX12_315 ⟨Nat.le_of_ble_eq_true rfl, Nat.le_of_ble_eq_true rfl⟩ ⟨Nat.le_of_ble_eq_true rfl, Nat.le_of_ble_eq_true rfl⟩ cls_12 rfl cc_85 rfl rfl rfl (Nat.le_of_ble_eq_true rfl) (Call.mono H fun r7 h8 H => ?_)
  refine a_if_ne (pc := 34) (dk D 19 rfl) (tgt := 78) rfl ⟨fun c => ?_, fun c => ?_⟩
  · replace H := H.1 c
    refine a_aload_n (pc := 78) (dk D 42 rfl) rfl ?_
    refine a_dup (pc := 79) (dk D 43 rfl) rfl ?_
    refine a_geti (pc := 80) (dk D 44 rfl) cls_12 fl_RX12_309 cf_85_5 ?_
    refine a_aload_n (pc := 83) (dk D 45 rfl) rfl ?_
    refine a_callVi (as := []) (st := [iv (h8 85 5), rv 85]) (pc := 84) (dk D 46 rfl) cl_RX12_315 ⟨Nat.le_of_ble_eq_true rfl, Nat.le_of_ble_eq_true rfl⟩ ⟨Nat.le_of_ble_eq_true rfl, Nat.le_of_ble_eq_true rfl⟩ cls_12 rfl cc_85 rfl rfl rfl (Nat.le_of_ble_eq_true rfl) (Call.mono H fun r9 h10 H => ?_)
    refine a_if_eq (pc := 87) (dk D 47 rfl) (tgt := 94) rfl ⟨fun c => ?_, fun c => ?_⟩
    · replace H := H.1 c
      refine a_iconst (pc := 94) (dk D 50 rfl) (ik rfl) ?_
      refine a_iadd (pc := 95) (dk D 51 rfl) ?_
      refine a_puti (pc := 96) (dk D 52 rfl) cls_12 fl_RX12_309 cf_85_5 rfl rfl ?_
      refine a_aload_n (pc := 99) (dk D 53 rfl) rfl ?_
      refine a_bipush (pc := 100) (dk D 54 rfl) (ik rfl) (bpk rfl) ?_
      refine a_callVv (as := [iv 32]) (st := []) (pc := 102) (dk D 55 rfl) cl_RX12_330 ⟨Nat.le_of_ble_eq_true rfl, Nat.le_of_ble_eq_true rfl⟩ ⟨Nat.le_of_ble_eq_true rfl, Nat.le_of_ble_eq_true rfl⟩ cls_12 rfl cc_85 rfl rfl rfl (Nat.le_of_ble_eq_true rfl) (Call.mono H fun _ h12 H => ?_)
      refine a_aload_n (pc := 105) (dk D 56 rfl) rfl ?_
      refine a_getr (r := 107) (pc := 106) (dk D 57 rfl) cls_12 fl_RX12_153 cf_85_41 ?_
      refine a_iload_n (pc := 109) (dk D 58 rfl) rfl ?_
      refine a_aload_n (pc := 110) (dk D 59 rfl) rfl ?_
      refine a_iconst (pc := 111) (dk D 60 rfl) (ik rfl) ?_
      refine a_ldcw (n := (-99999)) (pc := 112) (dk D 61 rfl) (ik rfl) co_RX12_454 ?_
      refine a_ldcw (n := 99999) (pc := 115) (dk D 62 rfl) (ik rfl) co_RX12_455 ?_
      refine a_callVi (as := [iv 1, iv (-99999), iv 99999]) (st := [iv x1, rv 108]) (pc := 118) (dk D 63 rfl) cl_RX12_333 ⟨Nat.le_of_ble_eq_true rfl, Nat.le_of_ble_eq_true rfl⟩ ⟨Nat.le_of_ble_eq_true rfl, Nat.le_of_ble_eq_true rfl⟩ cls_12 rfl cc_85 rfl rfl rfl (Nat.le_of_ble_eq_true rfl) (Call.mono H fun r13 h14 H => ?_)
      refine a_iast (pc := 121) (dk D 64 rfl) ar_108 ⟨H.1, ?_⟩
      replace H := H.2
      exact a_vret (pc := 122) (dk D 65 rfl) rfl rfl H
    · replace H := H.2 c
      refine a_iconst (pc := 90) (dk D 48 rfl) (ik rfl) ?_
      refine a_goto (pc := 91) (dk D 49 rfl) (tgt := 95) rfl ?_
      refine a_iadd (pc := 95) (dk D 51 rfl) ?_
      refine a_puti (pc := 96) (dk D 52 rfl) cls_12 fl_RX12_309 cf_85_5 rfl rfl ?_
      refine a_aload_n (pc := 99) (dk D 53 rfl) rfl ?_
      refine a_bipush (pc := 100) (dk D 54 rfl) (ik rfl) (bpk rfl) ?_
      refine a_callVv (as := [iv 32]) (st := []) (pc := 102) (dk D 55 rfl) cl_RX12_330 ⟨Nat.le_of_ble_eq_true rfl, Nat.le_of_ble_eq_true rfl⟩ ⟨Nat.le_of_ble_eq_true rfl, Nat.le_of_ble_eq_true rfl⟩ cls_12 rfl cc_85 rfl rfl rfl (Nat.le_of_ble_eq_true rfl) (Call.mono H fun _ h16 H => ?_)
      refine a_aload_n (pc := 105) (dk D 56 rfl) rfl ?_
      refine a_getr (r := 107) (pc := 106) (dk D 57 rfl) cls_12 fl_RX12_153 cf_85_41 ?_
      refine a_iload_n (pc := 109) (dk D 58 rfl) rfl ?_
      refine a_aload_n (pc := 110) (dk D 59 rfl) rfl ?_
      refine a_iconst (pc := 111) (dk D 60 rfl) (ik rfl) ?_
      refine a_ldcw (n := (-99999)) (pc := 112) (dk D 61 rfl) (ik rfl) co_RX12_454 ?_
      refine a_ldcw (n := 99999) (pc := 115) (dk D 62 rfl) (ik rfl) co_RX12_455 ?_
      refine a_callVi (as := [iv 1, iv (-99999), iv 99999]) (st := [iv x1, rv 108]) (pc := 118) (dk D 63 rfl) cl_RX12_333 ⟨Nat.le_of_ble_eq_true rfl, Nat.le_of_ble_eq_true rfl⟩ ⟨Nat.le_of_ble_eq_true rfl, Nat.le_of_ble_eq_true rfl⟩ cls_12 rfl cc_85 rfl rfl rfl (Nat.le_of_ble_eq_true rfl) (Call.mono H fun r17 h18 H => ?_)
      refine a_iast (pc := 121) (dk D 64 rfl) ar_108 ⟨H.1, ?_⟩
      replace H := H.2
      exact a_vret (pc := 122) (dk D 65 rfl) rfl rfl H
  · replace H := H.2 c
    refine a_aload_n (pc := 37) (dk D 20 rfl) rfl ?_
    refine a_getr (r := 106) (pc := 38) (dk D 21 rfl) cls_12 fl_RX12_150 cf_85_40 ?_
    refine a_iload_n (pc := 41) (dk D 22 rfl) rfl ?_
    refine a_iald (pc := 42) (dk D 23 rfl) ar_107 ⟨H.1, ?_⟩
    replace H := H.2
    refine a_bipush (pc := 43) (dk D 24 rfl) (ik rfl) (bpk rfl) ?_
    refine a_icmp_eq (pc := 45) (dk D 25 rfl) (tgt := 78) rfl ⟨fun c => ?_, fun c => ?_⟩
    · replace H := H.1 c
      refine a_aload_n (pc := 78) (dk D 42 rfl) rfl ?_
      refine a_dup (pc := 79) (dk D 43 rfl) rfl ?_
      refine a_geti (pc := 80) (dk D 44 rfl) cls_12 fl_RX12_309 cf_85_5 ?_
      refine a_aload_n (pc := 83) (dk D 45 rfl) rfl ?_
      refine a_callVi (as := []) (st := [iv (h8 85 5), rv 85]) (pc := 84) (dk D 46 rfl) cl_RX12_315 ⟨Nat.le_of_ble_eq_true rfl, Nat.le_of_ble_eq_true rfl⟩ ⟨Nat.le_of_ble_eq_true rfl, Nat.le_of_ble_eq_true rfl⟩ cls_12 rfl cc_85 rfl rfl rfl (Nat.le_of_ble_eq_true rfl) (Call.mono H fun r19 h20 H => ?_)
      refine a_if_eq (pc := 87) (dk D 47 rfl) (tgt := 94) rfl ⟨fun c => ?_, fun c => ?_⟩
      · replace H := H.1 c
        refine a_iconst (pc := 94) (dk D 50 rfl) (ik rfl) ?_
        refine a_iadd (pc := 95) (dk D 51 rfl) ?_
        refine a_puti (pc := 96) (dk D 52 rfl) cls_12 fl_RX12_309 cf_85_5 rfl rfl ?_
        refine a_aload_n (pc := 99) (dk D 53 rfl) rfl ?_
        refine a_bipush (pc := 100) (dk D 54 rfl) (ik rfl) (bpk rfl) ?_
        refine a_callVv (as := [iv 32]) (st := []) (pc := 102) (dk D 55 rfl) cl_RX12_330 ⟨Nat.le_of_ble_eq_true rfl, Nat.le_of_ble_eq_true rfl⟩ ⟨Nat.le_of_ble_eq_true rfl, Nat.le_of_ble_eq_true rfl⟩ cls_12 rfl cc_85 rfl rfl rfl (Nat.le_of_ble_eq_true rfl) (Call.mono H fun _ h22 H => ?_)
        refine a_aload_n (pc := 105) (dk D 56 rfl) rfl ?_
        refine a_getr (r := 107) (pc := 106) (dk D 57 rfl) cls_12 fl_RX12_153 cf_85_41 ?_
        refine a_iload_n (pc := 109) (dk D 58 rfl) rfl ?_
        refine a_aload_n (pc := 110) (dk D 59 rfl) rfl ?_
        refine a_iconst (pc := 111) (dk D 60 rfl) (ik rfl) ?_
        refine a_ldcw (n := (-99999)) (pc := 112) (dk D 61 rfl) (ik rfl) co_RX12_454 ?_
        refine a_ldcw (n := 99999) (pc := 115) (dk D 62 rfl) (ik rfl) co_RX12_455 ?_
        refine a_callVi (as := [iv 1, iv (-99999), iv 99999]) (st := [iv x1, rv 108]) (pc := 118) (dk D 63 rfl) cl_RX12_333 ⟨Nat.le_of_ble_eq_true rfl, Nat.le_of_ble_eq_true rfl⟩ ⟨Nat.le_of_ble_eq_true rfl, Nat.le_of_ble_eq_true rfl⟩ cls_12 rfl cc_85 rfl rfl rfl (Nat.le_of_ble_eq_true rfl) (Call.mono H fun r23 h24 H => ?_)
        refine a_iast (pc := 121) (dk D 64 rfl) ar_108 ⟨H.1, ?_⟩
        replace H := H.2
        exact a_vret (pc := 122) (dk D 65 rfl) rfl rfl H
      · replace H := H.2 c
        refine a_iconst (pc := 90) (dk D 48 rfl) (ik rfl) ?_
        refine a_goto (pc := 91) (dk D 49 rfl) (tgt := 95) rfl ?_
        refine a_iadd (pc := 95) (dk D 51 rfl) ?_
        refine a_puti (pc := 96) (dk D 52 rfl) cls_12 fl_RX12_309 cf_85_5 rfl rfl ?_
        refine a_aload_n (pc := 99) (dk D 53 rfl) rfl ?_
        refine a_bipush (pc := 100) (dk D 54 rfl) (ik rfl) (bpk rfl) ?_
        refine a_callVv (as := [iv 32]) (st := []) (pc := 102) (dk D 55 rfl) cl_RX12_330 ⟨Nat.le_of_ble_eq_true rfl, Nat.le_of_ble_eq_true rfl⟩ ⟨Nat.le_of_ble_eq_true rfl, Nat.le_of_ble_eq_true rfl⟩ cls_12 rfl cc_85 rfl rfl rfl (Nat.le_of_ble_eq_true rfl) (Call.mono H fun _ h26 H => ?_)
        refine a_aload_n (pc := 105) (dk D 56 rfl) rfl ?_
        refine a_getr (r := 107) (pc := 106) (dk D 57 rfl) cls_12 fl_RX12_153 cf_85_41 ?_
        refine a_iload_n (pc := 109) (dk D 58 rfl) rfl ?_
        refine a_aload_n (pc := 110) (dk D 59 rfl) rfl ?_
        refine a_iconst (pc := 111) (dk D 60 rfl) (ik rfl) ?_
        refine a_ldcw (n := (-99999)) (pc := 112) (dk D 61 rfl) (ik rfl) co_RX12_454 ?_
        refine a_ldcw (n := 99999) (pc := 115) (dk D 62 rfl) (ik rfl) co_RX12_455 ?_
        refine a_callVi (as := [iv 1, iv (-99999), iv 99999]) (st := [iv x1, rv 108]) (pc := 118) (dk D 63 rfl) cl_RX12_333 ⟨Nat.le_of_ble_eq_true rfl, Nat.le_of_ble_eq_true rfl⟩ ⟨Nat.le_of_ble_eq_true rfl, Nat.le_of_ble_eq_true rfl⟩ cls_12 rfl cc_85 rfl rfl rfl (Nat.le_of_ble_eq_true rfl) (Call.mono H fun r27 h28 H => ?_)
        refine a_iast (pc := 121) (dk D 64 rfl) ar_108 ⟨H.1, ?_⟩
        replace H := H.2
        exact a_vret (pc := 122) (dk D 65 rfl) rfl rfl H
    · replace H := H.2 c
      refine a_aload_n (pc := 48) (dk D 26 rfl) rfl ?_
      refine a_getr (r := 106) (pc := 49) (dk D 27 rfl) cls_12 fl_RX12_150 cf_85_40 ?_
      refine a_iload_n (pc := 52) (dk D 28 rfl) rfl ?_
      refine a_iald (pc := 53) (dk D 29 rfl) ar_107 ⟨H.1, ?_⟩
      replace H := H.2
      refine a_bipush (pc := 54) (dk D 30 rfl) (ik rfl) (bpk rfl) ?_
      refine a_icmp_eq (pc := 56) (dk D 31 rfl) (tgt := 78) rfl ⟨fun c => ?_, fun c => ?_⟩
      · replace H := H.1 c
        refine a_aload_n (pc := 78) (dk D 42 rfl) rfl ?_
        refine a_dup (pc := 79) (dk D 43 rfl) rfl ?_
        refine a_geti (pc := 80) (dk D 44 rfl) cls_12 fl_RX12_309 cf_85_5 ?_
        refine a_aload_n (pc := 83) (dk D 45 rfl) rfl ?_
        refine a_callVi (as := []) (st := [iv (h8 85 5), rv 85]) (pc := 84) (dk D 46 rfl) cl_RX12_315 ⟨Nat.le_of_ble_eq_true rfl, Nat.le_of_ble_eq_true rfl⟩ ⟨Nat.le_of_ble_eq_true rfl, Nat.le_of_ble_eq_true rfl⟩ cls_12 rfl cc_85 rfl rfl rfl (Nat.le_of_ble_eq_true rfl) (Call.mono H fun r29 h30 H => ?_)
        refine a_if_eq (pc := 87) (dk D 47 rfl) (tgt := 94) rfl ⟨fun c => ?_, fun c => ?_⟩
        · replace H := H.1 c
          refine a_iconst (pc := 94) (dk D 50 rfl) (ik rfl) ?_
          refine a_iadd (pc := 95) (dk D 51 rfl) ?_
          refine a_puti (pc := 96) (dk D 52 rfl) cls_12 fl_RX12_309 cf_85_5 rfl rfl ?_
          refine a_aload_n (pc := 99) (dk D 53 rfl) rfl ?_
          refine a_bipush (pc := 100) (dk D 54 rfl) (ik rfl) (bpk rfl) ?_
          refine a_callVv (as := [iv 32]) (st := []) (pc := 102) (dk D 55 rfl) cl_RX12_330 ⟨Nat.le_of_ble_eq_true rfl, Nat.le_of_ble_eq_true rfl⟩ ⟨Nat.le_of_ble_eq_true rfl, Nat.le_of_ble_eq_true rfl⟩ cls_12 rfl cc_85 rfl rfl rfl (Nat.le_of_ble_eq_true rfl) (Call.mono H fun _ h32 H => ?_)
          refine a_aload_n (pc := 105) (dk D 56 rfl) rfl ?_
          refine a_getr (r := 107) (pc := 106) (dk D 57 rfl) cls_12 fl_RX12_153 cf_85_41 ?_
          refine a_iload_n (pc := 109) (dk D 58 rfl) rfl ?_
          refine a_aload_n (pc := 110) (dk D 59 rfl) rfl ?_
          refine a_iconst (pc := 111) (dk D 60 rfl) (ik rfl) ?_
          refine a_ldcw (n := (-99999)) (pc := 112) (dk D 61 rfl) (ik rfl) co_RX12_454 ?_
          refine a_ldcw (n := 99999) (pc := 115) (dk D 62 rfl) (ik rfl) co_RX12_455 ?_
          refine a_callVi (as := [iv 1, iv (-99999), iv 99999]) (st := [iv x1, rv 108]) (pc := 118) (dk D 63 rfl) cl_RX12_333 ⟨Nat.le_of_ble_eq_true rfl, Nat.le_of_ble_eq_true rfl⟩ ⟨Nat.le_of_ble_eq_true rfl, Nat.le_of_ble_eq_true rfl⟩ cls_12 rfl cc_85 rfl rfl rfl (Nat.le_of_ble_eq_true rfl) (Call.mono H fun r33 h34 H => ?_)
          refine a_iast (pc := 121) (dk D 64 rfl) ar_108 ⟨H.1, ?_⟩
          replace H := H.2
          exact a_vret (pc := 122) (dk D 65 rfl) rfl rfl H
        · replace H := H.2 c
          refine a_iconst (pc := 90) (dk D 48 rfl) (ik rfl) ?_
          refine a_goto (pc := 91) (dk D 49 rfl) (tgt := 95) rfl ?_
          refine a_iadd (pc := 95) (dk D 51 rfl) ?_
          refine a_puti (pc := 96) (dk D 52 rfl) cls_12 fl_RX12_309 cf_85_5 rfl rfl ?_
          refine a_aload_n (pc := 99) (dk D 53 rfl) rfl ?_
          refine a_bipush (pc := 100) (dk D 54 rfl) (ik rfl) (bpk rfl) ?_
          refine a_callVv (as := [iv 32]) (st := []) (pc := 102) (dk D 55 rfl) cl_RX12_330 ⟨Nat.le_of_ble_eq_true rfl, Nat.le_of_ble_eq_true rfl⟩ ⟨Nat.le_of_ble_eq_true rfl, Nat.le_of_ble_eq_true rfl⟩ cls_12 rfl cc_85 rfl rfl rfl (Nat.le_of_ble_eq_true rfl) (Call.mono H fun _ h36 H => ?_)
          refine a_aload_n (pc := 105) (dk D 56 rfl) rfl ?_
          refine a_getr (r := 107) (pc := 106) (dk D 57 rfl) cls_12 fl_RX12_153 cf_85_41 ?_
          refine a_iload_n (pc := 109) (dk D 58 rfl) rfl ?_
          refine a_aload_n (pc := 110) (dk D 59 rfl) rfl ?_
          refine a_iconst (pc := 111) (dk D 60 rfl) (ik rfl) ?_
          refine a_ldcw (n := (-99999)) (pc := 112) (dk D 61 rfl) (ik rfl) co_RX12_454 ?_
          refine a_ldcw (n := 99999) (pc := 115) (dk D 62 rfl) (ik rfl) co_RX12_455 ?_
          refine a_callVi (as := [iv 1, iv (-99999), iv 99999]) (st := [iv x1, rv 108]) (pc := 118) (dk D 63 rfl) cl_RX12_333 ⟨Nat.le_of_ble_eq_true rfl, Nat.le_of_ble_eq_true rfl⟩ ⟨Nat.le_of_ble_eq_true rfl, Nat.le_of_ble_eq_true rfl⟩ cls_12 rfl cc_85 rfl rfl rfl (Nat.le_of_ble_eq_true rfl) (Call.mono H fun r37 h38 H => ?_)
          refine a_iast (pc := 121) (dk D 64 rfl) ar_108 ⟨H.1, ?_⟩
          replace H := H.2
          exact a_vret (pc := 122) (dk D 65 rfl) rfl rfl H
      · replace H := H.2 c
        refine a_aload_n (pc := 59) (dk D 32 rfl) rfl ?_
        refine a_getr (r := 106) (pc := 60) (dk D 33 rfl) cls_12 fl_RX12_150 cf_85_40 ?_
        refine a_iload_n (pc := 63) (dk D 34 rfl) rfl ?_
        refine a_iald (pc := 64) (dk D 35 rfl) ar_107 ⟨H.1, ?_⟩
        replace H := H.2
        refine a_bipush (pc := 65) (dk D 36 rfl) (ik rfl) (bpk rfl) ?_
        refine a_icmp_eq (pc := 67) (dk D 37 rfl) (tgt := 78) rfl ⟨fun c => ?_, fun c => ?_⟩
        · replace H := H.1 c
          refine a_aload_n (pc := 78) (dk D 42 rfl) rfl ?_
          refine a_dup (pc := 79) (dk D 43 rfl) rfl ?_
          refine a_geti (pc := 80) (dk D 44 rfl) cls_12 fl_RX12_309 cf_85_5 ?_
          refine a_aload_n (pc := 83) (dk D 45 rfl) rfl ?_
          refine a_callVi (as := []) (st := [iv (h8 85 5), rv 85]) (pc := 84) (dk D 46 rfl) cl_RX12_315 ⟨Nat.le_of_ble_eq_true rfl, Nat.le_of_ble_eq_true rfl⟩ ⟨Nat.le_of_ble_eq_true rfl, Nat.le_of_ble_eq_true rfl⟩ cls_12 rfl cc_85 rfl rfl rfl (Nat.le_of_ble_eq_true rfl) (Call.mono H fun r39 h40 H => ?_)
          refine a_if_eq (pc := 87) (dk D 47 rfl) (tgt := 94) rfl ⟨fun c => ?_, fun c => ?_⟩
          · replace H := H.1 c
            refine a_iconst (pc := 94) (dk D 50 rfl) (ik rfl) ?_
            refine a_iadd (pc := 95) (dk D 51 rfl) ?_
            refine a_puti (pc := 96) (dk D 52 rfl) cls_12 fl_RX12_309 cf_85_5 rfl rfl ?_
            refine a_aload_n (pc := 99) (dk D 53 rfl) rfl ?_
            refine a_bipush (pc := 100) (dk D 54 rfl) (ik rfl) (bpk rfl) ?_
            refine a_callVv (as := [iv 32]) (st := []) (pc := 102) (dk D 55 rfl) cl_RX12_330 ⟨Nat.le_of_ble_eq_true rfl, Nat.le_of_ble_eq_true rfl⟩ ⟨Nat.le_of_ble_eq_true rfl, Nat.le_of_ble_eq_true rfl⟩ cls_12 rfl cc_85 rfl rfl rfl (Nat.le_of_ble_eq_true rfl) (Call.mono H fun _ h42 H => ?_)
            refine a_aload_n (pc := 105) (dk D 56 rfl) rfl ?_
            refine a_getr (r := 107) (pc := 106) (dk D 57 rfl) cls_12 fl_RX12_153 cf_85_41 ?_
            refine a_iload_n (pc := 109) (dk D 58 rfl) rfl ?_
            refine a_aload_n (pc := 110) (dk D 59 rfl) rfl ?_
            refine a_iconst (pc := 111) (dk D 60 rfl) (ik rfl) ?_
            refine a_ldcw (n := (-99999)) (pc := 112) (dk D 61 rfl) (ik rfl) co_RX12_454 ?_
            refine a_ldcw (n := 99999) (pc := 115) (dk D 62 rfl) (ik rfl) co_RX12_455 ?_
            refine a_callVi (as := [iv 1, iv (-99999), iv 99999]) (st := [iv x1, rv 108]) (pc := 118) (dk D 63 rfl) cl_RX12_333 ⟨Nat.le_of_ble_eq_true rfl, Nat.le_of_ble_eq_true rfl⟩ ⟨Nat.le_of_ble_eq_true rfl, Nat.le_of_ble_eq_true rfl⟩ cls_12 rfl cc_85 rfl rfl rfl (Nat.le_of_ble_eq_true rfl) (Call.mono H fun r43 h44 H => ?_)
            refine a_iast (pc := 121) (dk D 64 rfl) ar_108 ⟨H.1, ?_⟩
            replace H := H.2
            exact a_vret (pc := 122) (dk D 65 rfl) rfl rfl H
          · replace H := H.2 c
            refine a_iconst (pc := 90) (dk D 48 rfl) (ik rfl) ?_
            refine a_goto (pc := 91) (dk D 49 rfl) (tgt := 95) rfl ?_
            refine a_iadd (pc := 95) (dk D 51 rfl) ?_
            refine a_puti (pc := 96) (dk D 52 rfl) cls_12 fl_RX12_309 cf_85_5 rfl rfl ?_
            refine a_aload_n (pc := 99) (dk D 53 rfl) rfl ?_
            refine a_bipush (pc := 100) (dk D 54 rfl) (ik rfl) (bpk rfl) ?_
            refine a_callVv (as := [iv 32]) (st := []) (pc := 102) (dk D 55 rfl) cl_RX12_330 ⟨Nat.le_of_ble_eq_true rfl, Nat.le_of_ble_eq_true rfl⟩ ⟨Nat.le_of_ble_eq_true rfl, Nat.le_of_ble_eq_true rfl⟩ cls_12 rfl cc_85 rfl rfl rfl (Nat.le_of_ble_eq_true rfl) (Call.mono H fun _ h46 H => ?_)
            refine a_aload_n (pc := 105) (dk D 56 rfl) rfl ?_
            refine a_getr (r := 107) (pc := 106) (dk D 57 rfl) cls_12 fl_RX12_153 cf_85_41 ?_
            refine a_iload_n (pc := 109) (dk D 58 rfl) rfl ?_
            refine a_aload_n (pc := 110) (dk D 59 rfl) rfl ?_
            refine a_iconst (pc := 111) (dk D 60 rfl) (ik rfl) ?_
            refine a_ldcw (n := (-99999)) (pc := 112) (dk D 61 rfl) (ik rfl) co_RX12_454 ?_
            refine a_ldcw (n := 99999) (pc := 115) (dk D 62 rfl) (ik rfl) co_RX12_455 ?_
            refine a_callVi (as := [iv 1, iv (-99999), iv 99999]) (st := [iv x1, rv 108]) (pc := 118) (dk D 63 rfl) cl_RX12_333 ⟨Nat.le_of_ble_eq_true rfl, Nat.le_of_ble_eq_true rfl⟩ ⟨Nat.le_of_ble_eq_true rfl, Nat.le_of_ble_eq_true rfl⟩ cls_12 rfl cc_85 rfl rfl rfl (Nat.le_of_ble_eq_true rfl) (Call.mono H fun r47 h48 H => ?_)
            refine a_iast (pc := 121) (dk D 64 rfl) ar_108 ⟨H.1, ?_⟩
            replace H := H.2
            exact a_vret (pc := 122) (dk D 65 rfl) rfl rfl H
        · replace H := H.2 c
          refine a_aload_n (pc := 70) (dk D 38 rfl) rfl ?_
          refine a_aload_n (pc := 71) (dk D 39 rfl) rfl ?_
          refine a_geti (pc := 72) (dk D 40 rfl) cls_12 fl_RX12_309 cf_85_5 ?_
          refine a_callVv (as := [iv (h8 85 5)]) (st := []) (pc := 75) (dk D 41 rfl) cl_RX12_323 ⟨Nat.le_of_ble_eq_true rfl, Nat.le_of_ble_eq_true rfl⟩ ⟨Nat.le_of_ble_eq_true rfl, Nat.le_of_ble_eq_true rfl⟩ cls_12 rfl cc_85 rfl rfl rfl (Nat.le_of_ble_eq_true rfl) (Call.mono H fun _ h50 H => ?_)
          refine a_aload_n (pc := 78) (dk D 42 rfl) rfl ?_
          refine a_dup (pc := 79) (dk D 43 rfl) rfl ?_
          refine a_geti (pc := 80) (dk D 44 rfl) cls_12 fl_RX12_309 cf_85_5 ?_
          refine a_aload_n (pc := 83) (dk D 45 rfl) rfl ?_
          refine a_callVi (as := []) (st := [iv (h50 85 5), rv 85]) (pc := 84) (dk D 46 rfl) cl_RX12_315 ⟨Nat.le_of_ble_eq_true rfl, Nat.le_of_ble_eq_true rfl⟩ ⟨Nat.le_of_ble_eq_true rfl, Nat.le_of_ble_eq_true rfl⟩ cls_12 rfl cc_85 rfl rfl rfl (Nat.le_of_ble_eq_true rfl) (Call.mono H fun r51 h52 H => ?_)
          refine a_if_eq (pc := 87) (dk D 47 rfl) (tgt := 94) rfl ⟨fun c => ?_, fun c => ?_⟩
          · replace H := H.1 c
            refine a_iconst (pc := 94) (dk D 50 rfl) (ik rfl) ?_
            refine a_iadd (pc := 95) (dk D 51 rfl) ?_
            refine a_puti (pc := 96) (dk D 52 rfl) cls_12 fl_RX12_309 cf_85_5 rfl rfl ?_
            refine a_aload_n (pc := 99) (dk D 53 rfl) rfl ?_
            refine a_bipush (pc := 100) (dk D 54 rfl) (ik rfl) (bpk rfl) ?_
            refine a_callVv (as := [iv 32]) (st := []) (pc := 102) (dk D 55 rfl) cl_RX12_330 ⟨Nat.le_of_ble_eq_true rfl, Nat.le_of_ble_eq_true rfl⟩ ⟨Nat.le_of_ble_eq_true rfl, Nat.le_of_ble_eq_true rfl⟩ cls_12 rfl cc_85 rfl rfl rfl (Nat.le_of_ble_eq_true rfl) (Call.mono H fun _ h54 H => ?_)
            refine a_aload_n (pc := 105) (dk D 56 rfl) rfl ?_
            refine a_getr (r := 107) (pc := 106) (dk D 57 rfl) cls_12 fl_RX12_153 cf_85_41 ?_
            refine a_iload_n (pc := 109) (dk D 58 rfl) rfl ?_
            refine a_aload_n (pc := 110) (dk D 59 rfl) rfl ?_
            refine a_iconst (pc := 111) (dk D 60 rfl) (ik rfl) ?_
            refine a_ldcw (n := (-99999)) (pc := 112) (dk D 61 rfl) (ik rfl) co_RX12_454 ?_
            refine a_ldcw (n := 99999) (pc := 115) (dk D 62 rfl) (ik rfl) co_RX12_455 ?_
            refine a_callVi (as := [iv 1, iv (-99999), iv 99999]) (st := [iv x1, rv 108]) (pc := 118) (dk D 63 rfl) cl_RX12_333 ⟨Nat.le_of_ble_eq_true rfl, Nat.le_of_ble_eq_true rfl⟩ ⟨Nat.le_of_ble_eq_true rfl, Nat.le_of_ble_eq_true rfl⟩ cls_12 rfl cc_85 rfl rfl rfl (Nat.le_of_ble_eq_true rfl) (Call.mono H fun r55 h56 H => ?_)
            refine a_iast (pc := 121) (dk D 64 rfl) ar_108 ⟨H.1, ?_⟩
            replace H := H.2
            exact a_vret (pc := 122) (dk D 65 rfl) rfl rfl H
          · replace H := H.2 c
            refine a_iconst (pc := 90) (dk D 48 rfl) (ik rfl) ?_
            refine a_goto (pc := 91) (dk D 49 rfl) (tgt := 95) rfl ?_
            refine a_iadd (pc := 95) (dk D 51 rfl) ?_
            refine a_puti (pc := 96) (dk D 52 rfl) cls_12 fl_RX12_309 cf_85_5 rfl rfl ?_
            refine a_aload_n (pc := 99) (dk D 53 rfl) rfl ?_
            refine a_bipush (pc := 100) (dk D 54 rfl) (ik rfl) (bpk rfl) ?_
            refine a_callVv (as := [iv 32]) (st := []) (pc := 102) (dk D 55 rfl) cl_RX12_330 ⟨Nat.le_of_ble_eq_true rfl, Nat.le_of_ble_eq_true rfl⟩ ⟨Nat.le_of_ble_eq_true rfl, Nat.le_of_ble_eq_true rfl⟩ cls_12 rfl cc_85 rfl rfl rfl (Nat.le_of_ble_eq_true rfl) (Call.mono H fun _ h58 H => ?_)
            refine a_aload_n (pc := 105) (dk D 56 rfl) rfl ?_
            refine a_getr (r := 107) (pc := 106) (dk D 57 rfl) cls_12 fl_RX12_153 cf_85_41 ?_
            refine a_iload_n (pc := 109) (dk D 58 rfl) rfl ?_
            refine a_aload_n (pc := 110) (dk D 59 rfl) rfl ?_
            refine a_iconst (pc := 111) (dk D 60 rfl) (ik rfl) ?_
            refine a_ldcw (n := (-99999)) (pc := 112) (dk D 61 rfl) (ik rfl) co_RX12_454 ?_
            refine a_ldcw (n := 99999) (pc := 115) (dk D 62 rfl) (ik rfl) co_RX12_455 ?_
            refine a_callVi (as := [iv 1, iv (-99999), iv 99999]) (st := [iv x1, rv 108]) (pc := 118) (dk D 63 rfl) cl_RX12_333 ⟨Nat.le_of_ble_eq_true rfl, Nat.le_of_ble_eq_true rfl⟩ ⟨Nat.le_of_ble_eq_true rfl, Nat.le_of_ble_eq_true rfl⟩ cls_12 rfl cc_85 rfl rfl rfl (Nat.le_of_ble_eq_true rfl) (Call.mono H fun r59 h60 H => ?_)
            refine a_iast (pc := 121) (dk D 64 rfl) ar_108 ⟨H.1, ?_⟩
            replace H := H.2
            exact a_vret (pc := 122) (dk D 65 rfl) rfl rfl H
set_option maxHeartbeats 40000000 in
theorem T_X12_watch_85_0 {G : GG} {Φ : Int → Hp → Prop} {h : Hp} (H : AT G m_X12_watch 2 [(0, rv 85), (1, iv 0)] [] h Φ) : AT G m_X12_watch 0 [(0, rv 85)] [] h Φ := by
  have D := dt_X12_watch
  refine a_iconst (pc := 0) (dk D 0 rfl) (ik rfl) ?_
  refine a_istore_n (pc := 1) (dk D 1 rfl) (by decide) rfl rfl ?_
  exact a_pick [0, 1] rfl H
set_option maxHeartbeats 40000000 in
theorem T_X12_watch_85_2 {G : GG} {Φ : Int → Hp → Prop} {h : Hp} {x1 : Int} (H : ((8 ≤ x1 → Φ 0 h) ∧ (x1 < 8 → (0 ≤ x1 ∧ x1 < 8) ∧ (((h 132 x1) ≠ 0 → Call G m_X12_holds [rv 85, iv (w32 (241 + x1))] (up h 85 57 0) (fun r1 h2 => ((r1 = 0 → (0 ≤ x1 ∧ x1 < 8) ∧ (0 ≤ x1 ∧ x1 < 8) ∧ (0 ≤ x1 ∧ x1 < 8) ∧ ((0 = (h2 128 x1) → (0 ≤ x1 ∧ x1 < 8) ∧ (((h2 131 x1) = (-1) → (0 ≤ x1 ∧ x1 < 8) ∧ (0 ≤ x1 ∧ x1 < 8) ∧ (((h2 129 x1) ≠ 8 → (0 ≤ x1 ∧ x1 < 8) ∧ Call G m_X12_begin [rv 85, iv (h2 129 x1)] (up (up (up h2 130 x1 0) 85 22 (w32 ((h2 85 22) + 1))) 131 x1 (h2 85 10)) (fun _ h4 => AT G m_X12_watch 2 [(0, rv 85), (1, iv (w32 (x1 + 1)))] [] h4 Φ)) ∧ ((h2 129 x1) = 8 → Call G m_X12_goTo [rv 85, iv 0] (up (up (up h2 130 x1 0) 85 22 (w32 ((h2 85 22) + 1))) 131 x1 (h2 85 10)) (fun _ h6 => AT G m_X12_watch 2 [(0, rv 85), (1, iv (w32 (x1 + 1)))] [] h6 Φ)))) ∧ ((h2 131 x1) ≠ (-1) → (0 ≤ x1 ∧ x1 < 8) ∧ ((60 ≤ (w32 ((h2 85 10) - (h2 131 x1))) → (0 ≤ x1 ∧ x1 < 8) ∧ (0 ≤ x1 ∧ x1 < 8) ∧ (((h2 129 x1) ≠ 8 → (0 ≤ x1 ∧ x1 < 8) ∧ Call G m_X12_begin [rv 85, iv (h2 129 x1)] (up (up (up h2 130 x1 0) 85 22 (w32 ((h2 85 22) + 1))) 131 x1 (h2 85 10)) (fun _ h8 => AT G m_X12_watch 2 [(0, rv 85), (1, iv (w32 (x1 + 1)))] [] h8 Φ)) ∧ ((h2 129 x1) = 8 → Call G m_X12_goTo [rv 85, iv 0] (up (up (up h2 130 x1 0) 85 22 (w32 ((h2 85 22) + 1))) 131 x1 (h2 85 10)) (fun _ h10 => AT G m_X12_watch 2 [(0, rv 85), (1, iv (w32 (x1 + 1)))] [] h10 Φ)))) ∧ ((w32 ((h2 85 10) - (h2 131 x1))) < 60 → (0 ≤ x1 ∧ x1 < 8) ∧ Call G m_X12_goTo [rv 85, iv 0] (up (up (up h2 130 x1 0) 85 22 (w32 ((h2 85 22) + 1))) 131 x1 (h2 85 10)) (fun _ h12 => AT G m_X12_watch 2 [(0, rv 85), (1, iv (w32 (x1 + 1)))] [] h12 Φ)))))) ∧ (0 ≠ (h2 128 x1) → AT G m_X12_watch 2 [(0, rv 85), (1, iv (w32 (x1 + 1)))] [] (up h2 130 x1 0) Φ))) ∧ (r1 ≠ 0 → (((h2 85 57) ≠ 0 → (0 ≤ x1 ∧ x1 < 8) ∧ (0 ≤ x1 ∧ x1 < 8) ∧ (0 ≤ x1 ∧ x1 < 8) ∧ ((0 = (h2 128 x1) → (0 ≤ x1 ∧ x1 < 8) ∧ (((h2 131 x1) = (-1) → (0 ≤ x1 ∧ x1 < 8) ∧ (0 ≤ x1 ∧ x1 < 8) ∧ (((h2 129 x1) ≠ 8 → (0 ≤ x1 ∧ x1 < 8) ∧ Call G m_X12_begin [rv 85, iv (h2 129 x1)] (up (up (up h2 130 x1 0) 85 22 (w32 ((h2 85 22) + 1))) 131 x1 (h2 85 10)) (fun _ h14 => AT G m_X12_watch 2 [(0, rv 85), (1, iv (w32 (x1 + 1)))] [] h14 Φ)) ∧ ((h2 129 x1) = 8 → Call G m_X12_goTo [rv 85, iv 0] (up (up (up h2 130 x1 0) 85 22 (w32 ((h2 85 22) + 1))) 131 x1 (h2 85 10)) (fun _ h16 => AT G m_X12_watch 2 [(0, rv 85), (1, iv (w32 (x1 + 1)))] [] h16 Φ)))) ∧ ((h2 131 x1) ≠ (-1) → (0 ≤ x1 ∧ x1 < 8) ∧ ((60 ≤ (w32 ((h2 85 10) - (h2 131 x1))) → (0 ≤ x1 ∧ x1 < 8) ∧ (0 ≤ x1 ∧ x1 < 8) ∧ (((h2 129 x1) ≠ 8 → (0 ≤ x1 ∧ x1 < 8) ∧ Call G m_X12_begin [rv 85, iv (h2 129 x1)] (up (up (up h2 130 x1 0) 85 22 (w32 ((h2 85 22) + 1))) 131 x1 (h2 85 10)) (fun _ h18 => AT G m_X12_watch 2 [(0, rv 85), (1, iv (w32 (x1 + 1)))] [] h18 Φ)) ∧ ((h2 129 x1) = 8 → Call G m_X12_goTo [rv 85, iv 0] (up (up (up h2 130 x1 0) 85 22 (w32 ((h2 85 22) + 1))) 131 x1 (h2 85 10)) (fun _ h20 => AT G m_X12_watch 2 [(0, rv 85), (1, iv (w32 (x1 + 1)))] [] h20 Φ)))) ∧ ((w32 ((h2 85 10) - (h2 131 x1))) < 60 → (0 ≤ x1 ∧ x1 < 8) ∧ Call G m_X12_goTo [rv 85, iv 0] (up (up (up h2 130 x1 0) 85 22 (w32 ((h2 85 22) + 1))) 131 x1 (h2 85 10)) (fun _ h22 => AT G m_X12_watch 2 [(0, rv 85), (1, iv (w32 (x1 + 1)))] [] h22 Φ)))))) ∧ (0 ≠ (h2 128 x1) → AT G m_X12_watch 2 [(0, rv 85), (1, iv (w32 (x1 + 1)))] [] (up h2 130 x1 0) Φ))) ∧ ((h2 85 57) = 0 → (0 ≤ x1 ∧ x1 < 8) ∧ (0 ≤ x1 ∧ x1 < 8) ∧ (0 ≤ x1 ∧ x1 < 8) ∧ (0 ≤ x1 ∧ x1 < 8) ∧ (((w32 ((h2 130 x1) + 1)) = (h2 128 x1) → (0 ≤ x1 ∧ x1 < 8) ∧ (((h2 131 x1) = (-1) → (0 ≤ x1 ∧ x1 < 8) ∧ (0 ≤ x1 ∧ x1 < 8) ∧ (((h2 129 x1) ≠ 8 → (0 ≤ x1 ∧ x1 < 8) ∧ Call G m_X12_begin [rv 85, iv (h2 129 x1)] (up (up (up h2 130 x1 (w32 ((h2 130 x1) + 1))) 85 22 (w32 ((h2 85 22) + 1))) 131 x1 (h2 85 10)) (fun _ h24 => AT G m_X12_watch 2 [(0, rv 85), (1, iv (w32 (x1 + 1)))] [] h24 Φ)) ∧ ((h2 129 x1) = 8 → Call G m_X12_goTo [rv 85, iv 0] (up (up (up h2 130 x1 (w32 ((h2 130 x1) + 1))) 85 22 (w32 ((h2 85 22) + 1))) 131 x1 (h2 85 10)) (fun _ h26 => AT G m_X12_watch 2 [(0, rv 85), (1, iv (w32 (x1 + 1)))] [] h26 Φ)))) ∧ ((h2 131 x1) ≠ (-1) → (0 ≤ x1 ∧ x1 < 8) ∧ ((60 ≤ (w32 ((h2 85 10) - (h2 131 x1))) → (0 ≤ x1 ∧ x1 < 8) ∧ (0 ≤ x1 ∧ x1 < 8) ∧ (((h2 129 x1) ≠ 8 → (0 ≤ x1 ∧ x1 < 8) ∧ Call G m_X12_begin [rv 85, iv (h2 129 x1)] (up (up (up h2 130 x1 (w32 ((h2 130 x1) + 1))) 85 22 (w32 ((h2 85 22) + 1))) 131 x1 (h2 85 10)) (fun _ h28 => AT G m_X12_watch 2 [(0, rv 85), (1, iv (w32 (x1 + 1)))] [] h28 Φ)) ∧ ((h2 129 x1) = 8 → Call G m_X12_goTo [rv 85, iv 0] (up (up (up h2 130 x1 (w32 ((h2 130 x1) + 1))) 85 22 (w32 ((h2 85 22) + 1))) 131 x1 (h2 85 10)) (fun _ h30 => AT G m_X12_watch 2 [(0, rv 85), (1, iv (w32 (x1 + 1)))] [] h30 Φ)))) ∧ ((w32 ((h2 85 10) - (h2 131 x1))) < 60 → (0 ≤ x1 ∧ x1 < 8) ∧ Call G m_X12_goTo [rv 85, iv 0] (up (up (up h2 130 x1 (w32 ((h2 130 x1) + 1))) 85 22 (w32 ((h2 85 22) + 1))) 131 x1 (h2 85 10)) (fun _ h32 => AT G m_X12_watch 2 [(0, rv 85), (1, iv (w32 (x1 + 1)))] [] h32 Φ)))))) ∧ ((w32 ((h2 130 x1) + 1)) ≠ (h2 128 x1) → AT G m_X12_watch 2 [(0, rv 85), (1, iv (w32 (x1 + 1)))] [] (up h2 130 x1 (w32 ((h2 130 x1) + 1))) Φ)))))))) ∧ ((h 132 x1) = 0 → AT G m_X12_watch 2 [(0, rv 85), (1, iv (w32 (x1 + 1)))] [] h Φ))))) : AT G m_X12_watch 2 [(0, rv 85), (1, iv x1)] [] h Φ := by
  have D := dt_X12_watch
  refine a_iload_n (pc := 2) (dk D 2 rfl) rfl ?_
  refine a_bipush (pc := 3) (dk D 3 rfl) (ik rfl) (bpk rfl) ?_
  refine a_icmp_ge (pc := 5) (dk D 4 rfl) (tgt := 181) rfl ⟨fun c => ?_, fun c => ?_⟩
  · replace H := H.1 c
    exact a_vret (pc := 181) (dk D 102 rfl) rfl rfl H
  · replace H := H.2 c
    refine a_aload_n (pc := 8) (dk D 5 rfl) rfl ?_
    refine a_getr (r := 131) (pc := 9) (dk D 6 rfl) cls_12 fl_RX12_225 cf_85_67 ?_
    refine a_iload_n (pc := 12) (dk D 7 rfl) rfl ?_
    refine a_zald (pc := 13) (dk D 8 rfl) ar_132 ⟨H.1, ?_⟩
    replace H := H.2
    refine a_if_ne (pc := 14) (dk D 9 rfl) (tgt := 20) rfl ⟨fun c => ?_, fun c => ?_⟩
    · replace H := H.1 c
      refine a_aload_n (pc := 20) (dk D 11 rfl) rfl ?_
      refine a_iconst (pc := 21) (dk D 12 rfl) (ik rfl) ?_
      refine a_putz (pc := 22) (dk D 13 rfl) cls_12 fl_RX12_474 cf_85_57 rfl rfl ⟨by decide, ?_⟩
      refine a_aload_n (pc := 25) (dk D 14 rfl) rfl ?_
      refine a_sipush (pc := 26) (dk D 15 rfl) (ik rfl) (spk rfl) ?_
      refine a_iload_n (pc := 29) (dk D 16 rfl) rfl ?_
      refine a_iadd (pc := 30) (dk D 17 rfl) ?_
      refine a_callVi (as := [iv (w32 (241 + x1))]) (st := []) (pc := 31) (dk D 18 rfl) cl_RX12_489 ⟨Nat.le_of_ble_eq_true rfl, Nat.le_of_ble_eq_true rfl⟩ ⟨Nat.le_of_ble_eq_true rfl, Nat.le_of_ble_eq_true rfl⟩ cls_12 rfl cc_85 rfl rfl rfl (Nat.le_of_ble_eq_true rfl) (Call.mono H fun r1 h2 H => ?_)
      refine a_if_eq (pc := 34) (dk D 19 rfl) (tgt := 48) rfl ⟨fun c => ?_, fun c => ?_⟩
      · replace H := H.1 c
        refine a_iconst (pc := 48) (dk D 25 rfl) (ik rfl) ?_
        refine a_istore_n (pc := 49) (dk D 26 rfl) (by decide) rfl rfl ?_
        refine a_aload_n (pc := 50) (dk D 27 rfl) rfl ?_
        refine a_getr (r := 129) (pc := 51) (dk D 28 rfl) cls_12 fl_RX12_219 cf_85_65 ?_
        refine a_iload_n (pc := 54) (dk D 29 rfl) rfl ?_
        refine a_iload_n (pc := 55) (dk D 30 rfl) rfl ?_
        refine a_if_eq (pc := 56) (dk D 31 rfl) (tgt := 70) rfl ⟨fun _ => ?_, fun c => absurd c (by decide)⟩
        refine a_iconst (pc := 70) (dk D 39 rfl) (ik rfl) ?_
        refine a_iast (pc := 71) (dk D 40 rfl) ar_130 ⟨H.1, ?_⟩
        replace H := H.2
        refine a_aload_n (pc := 72) (dk D 41 rfl) rfl ?_
        refine a_getr (r := 129) (pc := 73) (dk D 42 rfl) cls_12 fl_RX12_219 cf_85_65 ?_
        refine a_iload_n (pc := 76) (dk D 43 rfl) rfl ?_
        refine a_iald (pc := 77) (dk D 44 rfl) ar_130 ⟨H.1, ?_⟩
        replace H := H.2
        refine a_top (y := 0) (by simp [up, cpy]) ?_
        refine a_aload_n (pc := 78) (dk D 45 rfl) rfl ?_
        refine a_getr (r := 127) (pc := 79) (dk D 46 rfl) cls_12 fl_RX12_213 cf_85_63 ?_
        refine a_iload_n (pc := 82) (dk D 47 rfl) rfl ?_
        refine a_iald (pc := 83) (dk D 48 rfl) ar_128 ⟨H.1, ?_⟩
        replace H := H.2
        refine a_top (y := (h2 128 x1)) (by simp [up, cpy]) ?_
        refine a_icmp_eq (pc := 84) (dk D 49 rfl) (tgt := 90) rfl ⟨fun c => ?_, fun c => ?_⟩
        · replace H := H.1 c
          refine a_aload_n (pc := 90) (dk D 51 rfl) rfl ?_
          refine a_dup (pc := 91) (dk D 52 rfl) rfl ?_
          refine a_geti (pc := 92) (dk D 53 rfl) cls_12 fl_RX12_426 cf_85_22 ?_
          refine a_top (y := (h2 85 22)) (by simp [up, cpy]) ?_
          refine a_iconst (pc := 95) (dk D 54 rfl) (ik rfl) ?_
          refine a_iadd (pc := 96) (dk D 55 rfl) ?_
          refine a_puti (pc := 97) (dk D 56 rfl) cls_12 fl_RX12_426 cf_85_22 rfl rfl ?_
          refine a_aload_n (pc := 100) (dk D 57 rfl) rfl ?_
          refine a_getr (r := 130) (pc := 101) (dk D 58 rfl) cls_12 fl_RX12_222 cf_85_66 ?_
          refine a_iload_n (pc := 104) (dk D 59 rfl) rfl ?_
          refine a_iald (pc := 105) (dk D 60 rfl) ar_131 ⟨H.1, ?_⟩
          replace H := H.2
          refine a_top (y := (h2 131 x1)) (by simp [up, cpy]) ?_
          refine a_iconst (pc := 106) (dk D 61 rfl) (ik rfl) ?_
          refine a_icmp_eq (pc := 107) (dk D 62 rfl) (tgt := 130) rfl ⟨fun c => ?_, fun c => ?_⟩
          · replace H := H.1 c
            refine a_iconst (pc := 130) (dk D 74 rfl) (ik rfl) ?_
            refine a_istore_n (pc := 131) (dk D 75 rfl) (by decide) rfl rfl ?_
            refine a_aload_n (pc := 132) (dk D 76 rfl) rfl ?_
            refine a_getr (r := 130) (pc := 133) (dk D 77 rfl) cls_12 fl_RX12_222 cf_85_66 ?_
            refine a_iload_n (pc := 136) (dk D 78 rfl) rfl ?_
            refine a_aload_n (pc := 137) (dk D 79 rfl) rfl ?_
            refine a_geti (pc := 138) (dk D 80 rfl) cls_12 fl_RX12_398 cf_85_10 ?_
            refine a_top (y := (h2 85 10)) (by simp [up, cpy]) ?_
            refine a_iast (pc := 141) (dk D 81 rfl) ar_131 ⟨H.1, ?_⟩
            replace H := H.2
            refine a_iload_n (pc := 142) (dk D 82 rfl) rfl ?_
            refine a_if_ne (pc := 143) (dk D 83 rfl) (tgt := 157) rfl ⟨fun c => absurd c (by decide), fun _ => ?_⟩
            refine a_aload_n (pc := 146) (dk D 84 rfl) rfl ?_
            refine a_getr (r := 128) (pc := 147) (dk D 85 rfl) cls_12 fl_RX12_216 cf_85_64 ?_
            refine a_iload_n (pc := 150) (dk D 86 rfl) rfl ?_
            refine a_iald (pc := 151) (dk D 87 rfl) ar_129 ⟨H.1, ?_⟩
            replace H := H.2
            refine a_top (y := (h2 129 x1)) (by simp [up, cpy]) ?_
            refine a_bipush (pc := 152) (dk D 88 rfl) (ik rfl) (bpk rfl) ?_
            refine a_icmp_ne (pc := 154) (dk D 89 rfl) (tgt := 165) rfl ⟨fun c => ?_, fun c => ?_⟩
            · replace H := H.1 c
              refine a_aload_n (pc := 165) (dk D 94 rfl) rfl ?_
              refine a_aload_n (pc := 166) (dk D 95 rfl) rfl ?_
              refine a_getr (r := 128) (pc := 167) (dk D 96 rfl) cls_12 fl_RX12_216 cf_85_64 ?_
              refine a_iload_n (pc := 170) (dk D 97 rfl) rfl ?_
              refine a_iald (pc := 171) (dk D 98 rfl) ar_129 ⟨H.1, ?_⟩
              replace H := H.2
              refine a_top (y := (h2 129 x1)) (by simp [up, cpy]) ?_
              refine a_callVv (as := [iv (h2 129 x1)]) (st := []) (pc := 172) (dk D 99 rfl) cl_RX12_486 ⟨Nat.le_of_ble_eq_true rfl, Nat.le_of_ble_eq_true rfl⟩ ⟨Nat.le_of_ble_eq_true rfl, Nat.le_of_ble_eq_true rfl⟩ cls_12 rfl cc_85 rfl rfl rfl (Nat.le_of_ble_eq_true rfl) (Call.mono H fun _ h4 H => ?_)
              refine a_iinc (pc := 175) (dk D 100 rfl) (by decide) rfl rfl rfl ?_
              refine a_goto (pc := 178) (dk D 101 rfl) (tgt := 2) rfl ?_
              exact a_pick [0, 1] rfl H
            · replace H := H.2 c
              refine a_aload_n (pc := 157) (dk D 90 rfl) rfl ?_
              refine a_iconst (pc := 158) (dk D 91 rfl) (ik rfl) ?_
              refine a_callVv (as := [iv 0]) (st := []) (pc := 159) (dk D 92 rfl) cl_RX12_483 ⟨Nat.le_of_ble_eq_true rfl, Nat.le_of_ble_eq_true rfl⟩ ⟨Nat.le_of_ble_eq_true rfl, Nat.le_of_ble_eq_true rfl⟩ cls_12 rfl cc_85 rfl rfl rfl (Nat.le_of_ble_eq_true rfl) (Call.mono H fun _ h6 H => ?_)
              refine a_goto (pc := 162) (dk D 93 rfl) (tgt := 175) rfl ?_
              refine a_iinc (pc := 175) (dk D 100 rfl) (by decide) rfl rfl rfl ?_
              refine a_goto (pc := 178) (dk D 101 rfl) (tgt := 2) rfl ?_
              exact a_pick [0, 1] rfl H
          · replace H := H.2 c
            refine a_aload_n (pc := 110) (dk D 63 rfl) rfl ?_
            refine a_geti (pc := 111) (dk D 64 rfl) cls_12 fl_RX12_398 cf_85_10 ?_
            refine a_top (y := (h2 85 10)) (by simp [up, cpy]) ?_
            refine a_aload_n (pc := 114) (dk D 65 rfl) rfl ?_
            refine a_getr (r := 130) (pc := 115) (dk D 66 rfl) cls_12 fl_RX12_222 cf_85_66 ?_
            refine a_iload_n (pc := 118) (dk D 67 rfl) rfl ?_
            refine a_iald (pc := 119) (dk D 68 rfl) ar_131 ⟨H.1, ?_⟩
            replace H := H.2
            refine a_top (y := (h2 131 x1)) (by simp [up, cpy]) ?_
            refine a_isub (pc := 120) (dk D 69 rfl) ?_
            refine a_bipush (pc := 121) (dk D 70 rfl) (ik rfl) (bpk rfl) ?_
            refine a_icmp_ge (pc := 123) (dk D 71 rfl) (tgt := 130) rfl ⟨fun c => ?_, fun c => ?_⟩
            · replace H := H.1 c
              refine a_iconst (pc := 130) (dk D 74 rfl) (ik rfl) ?_
              refine a_istore_n (pc := 131) (dk D 75 rfl) (by decide) rfl rfl ?_
              refine a_aload_n (pc := 132) (dk D 76 rfl) rfl ?_
              refine a_getr (r := 130) (pc := 133) (dk D 77 rfl) cls_12 fl_RX12_222 cf_85_66 ?_
              refine a_iload_n (pc := 136) (dk D 78 rfl) rfl ?_
              refine a_aload_n (pc := 137) (dk D 79 rfl) rfl ?_
              refine a_geti (pc := 138) (dk D 80 rfl) cls_12 fl_RX12_398 cf_85_10 ?_
              refine a_top (y := (h2 85 10)) (by simp [up, cpy]) ?_
              refine a_iast (pc := 141) (dk D 81 rfl) ar_131 ⟨H.1, ?_⟩
              replace H := H.2
              refine a_iload_n (pc := 142) (dk D 82 rfl) rfl ?_
              refine a_if_ne (pc := 143) (dk D 83 rfl) (tgt := 157) rfl ⟨fun c => absurd c (by decide), fun _ => ?_⟩
              refine a_aload_n (pc := 146) (dk D 84 rfl) rfl ?_
              refine a_getr (r := 128) (pc := 147) (dk D 85 rfl) cls_12 fl_RX12_216 cf_85_64 ?_
              refine a_iload_n (pc := 150) (dk D 86 rfl) rfl ?_
              refine a_iald (pc := 151) (dk D 87 rfl) ar_129 ⟨H.1, ?_⟩
              replace H := H.2
              refine a_top (y := (h2 129 x1)) (by simp [up, cpy]) ?_
              refine a_bipush (pc := 152) (dk D 88 rfl) (ik rfl) (bpk rfl) ?_
              refine a_icmp_ne (pc := 154) (dk D 89 rfl) (tgt := 165) rfl ⟨fun c => ?_, fun c => ?_⟩
              · replace H := H.1 c
                refine a_aload_n (pc := 165) (dk D 94 rfl) rfl ?_
                refine a_aload_n (pc := 166) (dk D 95 rfl) rfl ?_
                refine a_getr (r := 128) (pc := 167) (dk D 96 rfl) cls_12 fl_RX12_216 cf_85_64 ?_
                refine a_iload_n (pc := 170) (dk D 97 rfl) rfl ?_
                refine a_iald (pc := 171) (dk D 98 rfl) ar_129 ⟨H.1, ?_⟩
                replace H := H.2
                refine a_top (y := (h2 129 x1)) (by simp [up, cpy]) ?_
                refine a_callVv (as := [iv (h2 129 x1)]) (st := []) (pc := 172) (dk D 99 rfl) cl_RX12_486 ⟨Nat.le_of_ble_eq_true rfl, Nat.le_of_ble_eq_true rfl⟩ ⟨Nat.le_of_ble_eq_true rfl, Nat.le_of_ble_eq_true rfl⟩ cls_12 rfl cc_85 rfl rfl rfl (Nat.le_of_ble_eq_true rfl) (Call.mono H fun _ h8 H => ?_)
                refine a_iinc (pc := 175) (dk D 100 rfl) (by decide) rfl rfl rfl ?_
                refine a_goto (pc := 178) (dk D 101 rfl) (tgt := 2) rfl ?_
                exact a_pick [0, 1] rfl H
              · replace H := H.2 c
                refine a_aload_n (pc := 157) (dk D 90 rfl) rfl ?_
                refine a_iconst (pc := 158) (dk D 91 rfl) (ik rfl) ?_
                refine a_callVv (as := [iv 0]) (st := []) (pc := 159) (dk D 92 rfl) cl_RX12_483 ⟨Nat.le_of_ble_eq_true rfl, Nat.le_of_ble_eq_true rfl⟩ ⟨Nat.le_of_ble_eq_true rfl, Nat.le_of_ble_eq_true rfl⟩ cls_12 rfl cc_85 rfl rfl rfl (Nat.le_of_ble_eq_true rfl) (Call.mono H fun _ h10 H => ?_)
                refine a_goto (pc := 162) (dk D 93 rfl) (tgt := 175) rfl ?_
                refine a_iinc (pc := 175) (dk D 100 rfl) (by decide) rfl rfl rfl ?_
                refine a_goto (pc := 178) (dk D 101 rfl) (tgt := 2) rfl ?_
                exact a_pick [0, 1] rfl H
            · replace H := H.2 c
              refine a_iconst (pc := 126) (dk D 72 rfl) (ik rfl) ?_
              refine a_goto (pc := 127) (dk D 73 rfl) (tgt := 131) rfl ?_
              refine a_istore_n (pc := 131) (dk D 75 rfl) (by decide) rfl rfl ?_
              refine a_aload_n (pc := 132) (dk D 76 rfl) rfl ?_
              refine a_getr (r := 130) (pc := 133) (dk D 77 rfl) cls_12 fl_RX12_222 cf_85_66 ?_
              refine a_iload_n (pc := 136) (dk D 78 rfl) rfl ?_
              refine a_aload_n (pc := 137) (dk D 79 rfl) rfl ?_
              refine a_geti (pc := 138) (dk D 80 rfl) cls_12 fl_RX12_398 cf_85_10 ?_
              refine a_top (y := (h2 85 10)) (by simp [up, cpy]) ?_
              refine a_iast (pc := 141) (dk D 81 rfl) ar_131 ⟨H.1, ?_⟩
              replace H := H.2
              refine a_iload_n (pc := 142) (dk D 82 rfl) rfl ?_
              refine a_if_ne (pc := 143) (dk D 83 rfl) (tgt := 157) rfl ⟨fun _ => ?_, fun c => absurd c (by decide)⟩
              refine a_aload_n (pc := 157) (dk D 90 rfl) rfl ?_
              refine a_iconst (pc := 158) (dk D 91 rfl) (ik rfl) ?_
              refine a_callVv (as := [iv 0]) (st := []) (pc := 159) (dk D 92 rfl) cl_RX12_483 ⟨Nat.le_of_ble_eq_true rfl, Nat.le_of_ble_eq_true rfl⟩ ⟨Nat.le_of_ble_eq_true rfl, Nat.le_of_ble_eq_true rfl⟩ cls_12 rfl cc_85 rfl rfl rfl (Nat.le_of_ble_eq_true rfl) (Call.mono H fun _ h12 H => ?_)
              refine a_goto (pc := 162) (dk D 93 rfl) (tgt := 175) rfl ?_
              refine a_iinc (pc := 175) (dk D 100 rfl) (by decide) rfl rfl rfl ?_
              refine a_goto (pc := 178) (dk D 101 rfl) (tgt := 2) rfl ?_
              exact a_pick [0, 1] rfl H
        · replace H := H.2 c
          refine a_goto (pc := 87) (dk D 50 rfl) (tgt := 175) rfl ?_
          refine a_iinc (pc := 175) (dk D 100 rfl) (by decide) rfl rfl rfl ?_
          refine a_goto (pc := 178) (dk D 101 rfl) (tgt := 2) rfl ?_
          exact a_pick [0, 1] rfl H
      · replace H := H.2 c
        refine a_aload_n (pc := 37) (dk D 20 rfl) rfl ?_
        refine a_geti (pc := 38) (dk D 21 rfl) cls_12 fl_RX12_474 cf_85_57 ?_
        refine a_if_ne (pc := 41) (dk D 22 rfl) (tgt := 48) rfl ⟨fun c => ?_, fun c => ?_⟩
        · replace H := H.1 c
          refine a_iconst (pc := 48) (dk D 25 rfl) (ik rfl) ?_
          refine a_istore_n (pc := 49) (dk D 26 rfl) (by decide) rfl rfl ?_
          refine a_aload_n (pc := 50) (dk D 27 rfl) rfl ?_
          refine a_getr (r := 129) (pc := 51) (dk D 28 rfl) cls_12 fl_RX12_219 cf_85_65 ?_
          refine a_iload_n (pc := 54) (dk D 29 rfl) rfl ?_
          refine a_iload_n (pc := 55) (dk D 30 rfl) rfl ?_
          refine a_if_eq (pc := 56) (dk D 31 rfl) (tgt := 70) rfl ⟨fun _ => ?_, fun c => absurd c (by decide)⟩
          refine a_iconst (pc := 70) (dk D 39 rfl) (ik rfl) ?_
          refine a_iast (pc := 71) (dk D 40 rfl) ar_130 ⟨H.1, ?_⟩
          replace H := H.2
          refine a_aload_n (pc := 72) (dk D 41 rfl) rfl ?_
          refine a_getr (r := 129) (pc := 73) (dk D 42 rfl) cls_12 fl_RX12_219 cf_85_65 ?_
          refine a_iload_n (pc := 76) (dk D 43 rfl) rfl ?_
          refine a_iald (pc := 77) (dk D 44 rfl) ar_130 ⟨H.1, ?_⟩
          replace H := H.2
          refine a_top (y := 0) (by simp [up, cpy]) ?_
          refine a_aload_n (pc := 78) (dk D 45 rfl) rfl ?_
          refine a_getr (r := 127) (pc := 79) (dk D 46 rfl) cls_12 fl_RX12_213 cf_85_63 ?_
          refine a_iload_n (pc := 82) (dk D 47 rfl) rfl ?_
          refine a_iald (pc := 83) (dk D 48 rfl) ar_128 ⟨H.1, ?_⟩
          replace H := H.2
          refine a_top (y := (h2 128 x1)) (by simp [up, cpy]) ?_
          refine a_icmp_eq (pc := 84) (dk D 49 rfl) (tgt := 90) rfl ⟨fun c => ?_, fun c => ?_⟩
          · replace H := H.1 c
            refine a_aload_n (pc := 90) (dk D 51 rfl) rfl ?_
            refine a_dup (pc := 91) (dk D 52 rfl) rfl ?_
            refine a_geti (pc := 92) (dk D 53 rfl) cls_12 fl_RX12_426 cf_85_22 ?_
            refine a_top (y := (h2 85 22)) (by simp [up, cpy]) ?_
            refine a_iconst (pc := 95) (dk D 54 rfl) (ik rfl) ?_
            refine a_iadd (pc := 96) (dk D 55 rfl) ?_
            refine a_puti (pc := 97) (dk D 56 rfl) cls_12 fl_RX12_426 cf_85_22 rfl rfl ?_
            refine a_aload_n (pc := 100) (dk D 57 rfl) rfl ?_
            refine a_getr (r := 130) (pc := 101) (dk D 58 rfl) cls_12 fl_RX12_222 cf_85_66 ?_
            refine a_iload_n (pc := 104) (dk D 59 rfl) rfl ?_
            refine a_iald (pc := 105) (dk D 60 rfl) ar_131 ⟨H.1, ?_⟩
            replace H := H.2
            refine a_top (y := (h2 131 x1)) (by simp [up, cpy]) ?_
            refine a_iconst (pc := 106) (dk D 61 rfl) (ik rfl) ?_
            refine a_icmp_eq (pc := 107) (dk D 62 rfl) (tgt := 130) rfl ⟨fun c => ?_, fun c => ?_⟩
            · replace H := H.1 c
              refine a_iconst (pc := 130) (dk D 74 rfl) (ik rfl) ?_
              refine a_istore_n (pc := 131) (dk D 75 rfl) (by decide) rfl rfl ?_
              refine a_aload_n (pc := 132) (dk D 76 rfl) rfl ?_
              refine a_getr (r := 130) (pc := 133) (dk D 77 rfl) cls_12 fl_RX12_222 cf_85_66 ?_
              refine a_iload_n (pc := 136) (dk D 78 rfl) rfl ?_
              refine a_aload_n (pc := 137) (dk D 79 rfl) rfl ?_
              refine a_geti (pc := 138) (dk D 80 rfl) cls_12 fl_RX12_398 cf_85_10 ?_
              refine a_top (y := (h2 85 10)) (by simp [up, cpy]) ?_
              refine a_iast (pc := 141) (dk D 81 rfl) ar_131 ⟨H.1, ?_⟩
              replace H := H.2
              refine a_iload_n (pc := 142) (dk D 82 rfl) rfl ?_
              refine a_if_ne (pc := 143) (dk D 83 rfl) (tgt := 157) rfl ⟨fun c => absurd c (by decide), fun _ => ?_⟩
              refine a_aload_n (pc := 146) (dk D 84 rfl) rfl ?_
              refine a_getr (r := 128) (pc := 147) (dk D 85 rfl) cls_12 fl_RX12_216 cf_85_64 ?_
              refine a_iload_n (pc := 150) (dk D 86 rfl) rfl ?_
              refine a_iald (pc := 151) (dk D 87 rfl) ar_129 ⟨H.1, ?_⟩
              replace H := H.2
              refine a_top (y := (h2 129 x1)) (by simp [up, cpy]) ?_
              refine a_bipush (pc := 152) (dk D 88 rfl) (ik rfl) (bpk rfl) ?_
              refine a_icmp_ne (pc := 154) (dk D 89 rfl) (tgt := 165) rfl ⟨fun c => ?_, fun c => ?_⟩
              · replace H := H.1 c
                refine a_aload_n (pc := 165) (dk D 94 rfl) rfl ?_
                refine a_aload_n (pc := 166) (dk D 95 rfl) rfl ?_
                refine a_getr (r := 128) (pc := 167) (dk D 96 rfl) cls_12 fl_RX12_216 cf_85_64 ?_
                refine a_iload_n (pc := 170) (dk D 97 rfl) rfl ?_
                refine a_iald (pc := 171) (dk D 98 rfl) ar_129 ⟨H.1, ?_⟩
                replace H := H.2
                refine a_top (y := (h2 129 x1)) (by simp [up, cpy]) ?_
                refine a_callVv (as := [iv (h2 129 x1)]) (st := []) (pc := 172) (dk D 99 rfl) cl_RX12_486 ⟨Nat.le_of_ble_eq_true rfl, Nat.le_of_ble_eq_true rfl⟩ ⟨Nat.le_of_ble_eq_true rfl, Nat.le_of_ble_eq_true rfl⟩ cls_12 rfl cc_85 rfl rfl rfl (Nat.le_of_ble_eq_true rfl) (Call.mono H fun _ h14 H => ?_)
                refine a_iinc (pc := 175) (dk D 100 rfl) (by decide) rfl rfl rfl ?_
                refine a_goto (pc := 178) (dk D 101 rfl) (tgt := 2) rfl ?_
                exact a_pick [0, 1] rfl H
              · replace H := H.2 c
                refine a_aload_n (pc := 157) (dk D 90 rfl) rfl ?_
                refine a_iconst (pc := 158) (dk D 91 rfl) (ik rfl) ?_
                refine a_callVv (as := [iv 0]) (st := []) (pc := 159) (dk D 92 rfl) cl_RX12_483 ⟨Nat.le_of_ble_eq_true rfl, Nat.le_of_ble_eq_true rfl⟩ ⟨Nat.le_of_ble_eq_true rfl, Nat.le_of_ble_eq_true rfl⟩ cls_12 rfl cc_85 rfl rfl rfl (Nat.le_of_ble_eq_true rfl) (Call.mono H fun _ h16 H => ?_)
                refine a_goto (pc := 162) (dk D 93 rfl) (tgt := 175) rfl ?_
                refine a_iinc (pc := 175) (dk D 100 rfl) (by decide) rfl rfl rfl ?_
                refine a_goto (pc := 178) (dk D 101 rfl) (tgt := 2) rfl ?_
                exact a_pick [0, 1] rfl H
            · replace H := H.2 c
              refine a_aload_n (pc := 110) (dk D 63 rfl) rfl ?_
              refine a_geti (pc := 111) (dk D 64 rfl) cls_12 fl_RX12_398 cf_85_10 ?_
              refine a_top (y := (h2 85 10)) (by simp [up, cpy]) ?_
              refine a_aload_n (pc := 114) (dk D 65 rfl) rfl ?_
              refine a_getr (r := 130) (pc := 115) (dk D 66 rfl) cls_12 fl_RX12_222 cf_85_66 ?_
              refine a_iload_n (pc := 118) (dk D 67 rfl) rfl ?_
              refine a_iald (pc := 119) (dk D 68 rfl) ar_131 ⟨H.1, ?_⟩
              replace H := H.2
              refine a_top (y := (h2 131 x1)) (by simp [up, cpy]) ?_
              refine a_isub (pc := 120) (dk D 69 rfl) ?_
              refine a_bipush (pc := 121) (dk D 70 rfl) (ik rfl) (bpk rfl) ?_
              refine a_icmp_ge (pc := 123) (dk D 71 rfl) (tgt := 130) rfl ⟨fun c => ?_, fun c => ?_⟩
              · replace H := H.1 c
                refine a_iconst (pc := 130) (dk D 74 rfl) (ik rfl) ?_
                refine a_istore_n (pc := 131) (dk D 75 rfl) (by decide) rfl rfl ?_
                refine a_aload_n (pc := 132) (dk D 76 rfl) rfl ?_
                refine a_getr (r := 130) (pc := 133) (dk D 77 rfl) cls_12 fl_RX12_222 cf_85_66 ?_
                refine a_iload_n (pc := 136) (dk D 78 rfl) rfl ?_
                refine a_aload_n (pc := 137) (dk D 79 rfl) rfl ?_
                refine a_geti (pc := 138) (dk D 80 rfl) cls_12 fl_RX12_398 cf_85_10 ?_
                refine a_top (y := (h2 85 10)) (by simp [up, cpy]) ?_
                refine a_iast (pc := 141) (dk D 81 rfl) ar_131 ⟨H.1, ?_⟩
                replace H := H.2
                refine a_iload_n (pc := 142) (dk D 82 rfl) rfl ?_
                refine a_if_ne (pc := 143) (dk D 83 rfl) (tgt := 157) rfl ⟨fun c => absurd c (by decide), fun _ => ?_⟩
                refine a_aload_n (pc := 146) (dk D 84 rfl) rfl ?_
                refine a_getr (r := 128) (pc := 147) (dk D 85 rfl) cls_12 fl_RX12_216 cf_85_64 ?_
                refine a_iload_n (pc := 150) (dk D 86 rfl) rfl ?_
                refine a_iald (pc := 151) (dk D 87 rfl) ar_129 ⟨H.1, ?_⟩
                replace H := H.2
                refine a_top (y := (h2 129 x1)) (by simp [up, cpy]) ?_
                refine a_bipush (pc := 152) (dk D 88 rfl) (ik rfl) (bpk rfl) ?_
                refine a_icmp_ne (pc := 154) (dk D 89 rfl) (tgt := 165) rfl ⟨fun c => ?_, fun c => ?_⟩
                · replace H := H.1 c
                  refine a_aload_n (pc := 165) (dk D 94 rfl) rfl ?_
                  refine a_aload_n (pc := 166) (dk D 95 rfl) rfl ?_
                  refine a_getr (r := 128) (pc := 167) (dk D 96 rfl) cls_12 fl_RX12_216 cf_85_64 ?_
                  refine a_iload_n (pc := 170) (dk D 97 rfl) rfl ?_
                  refine a_iald (pc := 171) (dk D 98 rfl) ar_129 ⟨H.1, ?_⟩
                  replace H := H.2
                  refine a_top (y := (h2 129 x1)) (by simp [up, cpy]) ?_
                  refine a_callVv (as := [iv (h2 129 x1)]) (st := []) (pc := 172) (dk D 99 rfl) cl_RX12_486 ⟨Nat.le_of_ble_eq_true rfl, Nat.le_of_ble_eq_true rfl⟩ ⟨Nat.le_of_ble_eq_true rfl, Nat.le_of_ble_eq_true rfl⟩ cls_12 rfl cc_85 rfl rfl rfl (Nat.le_of_ble_eq_true rfl) (Call.mono H fun _ h18 H => ?_)
                  refine a_iinc (pc := 175) (dk D 100 rfl) (by decide) rfl rfl rfl ?_
                  refine a_goto (pc := 178) (dk D 101 rfl) (tgt := 2) rfl ?_
                  exact a_pick [0, 1] rfl H
                · replace H := H.2 c
                  refine a_aload_n (pc := 157) (dk D 90 rfl) rfl ?_
                  refine a_iconst (pc := 158) (dk D 91 rfl) (ik rfl) ?_
                  refine a_callVv (as := [iv 0]) (st := []) (pc := 159) (dk D 92 rfl) cl_RX12_483 ⟨Nat.le_of_ble_eq_true rfl, Nat.le_of_ble_eq_true rfl⟩ ⟨Nat.le_of_ble_eq_true rfl, Nat.le_of_ble_eq_true rfl⟩ cls_12 rfl cc_85 rfl rfl rfl (Nat.le_of_ble_eq_true rfl) (Call.mono H fun _ h20 H => ?_)
                  refine a_goto (pc := 162) (dk D 93 rfl) (tgt := 175) rfl ?_
                  refine a_iinc (pc := 175) (dk D 100 rfl) (by decide) rfl rfl rfl ?_
                  refine a_goto (pc := 178) (dk D 101 rfl) (tgt := 2) rfl ?_
                  exact a_pick [0, 1] rfl H
              · replace H := H.2 c
                refine a_iconst (pc := 126) (dk D 72 rfl) (ik rfl) ?_
                refine a_goto (pc := 127) (dk D 73 rfl) (tgt := 131) rfl ?_
                refine a_istore_n (pc := 131) (dk D 75 rfl) (by decide) rfl rfl ?_
                refine a_aload_n (pc := 132) (dk D 76 rfl) rfl ?_
                refine a_getr (r := 130) (pc := 133) (dk D 77 rfl) cls_12 fl_RX12_222 cf_85_66 ?_
                refine a_iload_n (pc := 136) (dk D 78 rfl) rfl ?_
                refine a_aload_n (pc := 137) (dk D 79 rfl) rfl ?_
                refine a_geti (pc := 138) (dk D 80 rfl) cls_12 fl_RX12_398 cf_85_10 ?_
                refine a_top (y := (h2 85 10)) (by simp [up, cpy]) ?_
                refine a_iast (pc := 141) (dk D 81 rfl) ar_131 ⟨H.1, ?_⟩
                replace H := H.2
                refine a_iload_n (pc := 142) (dk D 82 rfl) rfl ?_
                refine a_if_ne (pc := 143) (dk D 83 rfl) (tgt := 157) rfl ⟨fun _ => ?_, fun c => absurd c (by decide)⟩
                refine a_aload_n (pc := 157) (dk D 90 rfl) rfl ?_
                refine a_iconst (pc := 158) (dk D 91 rfl) (ik rfl) ?_
                refine a_callVv (as := [iv 0]) (st := []) (pc := 159) (dk D 92 rfl) cl_RX12_483 ⟨Nat.le_of_ble_eq_true rfl, Nat.le_of_ble_eq_true rfl⟩ ⟨Nat.le_of_ble_eq_true rfl, Nat.le_of_ble_eq_true rfl⟩ cls_12 rfl cc_85 rfl rfl rfl (Nat.le_of_ble_eq_true rfl) (Call.mono H fun _ h22 H => ?_)
                refine a_goto (pc := 162) (dk D 93 rfl) (tgt := 175) rfl ?_
                refine a_iinc (pc := 175) (dk D 100 rfl) (by decide) rfl rfl rfl ?_
                refine a_goto (pc := 178) (dk D 101 rfl) (tgt := 2) rfl ?_
                exact a_pick [0, 1] rfl H
          · replace H := H.2 c
            refine a_goto (pc := 87) (dk D 50 rfl) (tgt := 175) rfl ?_
            refine a_iinc (pc := 175) (dk D 100 rfl) (by decide) rfl rfl rfl ?_
            refine a_goto (pc := 178) (dk D 101 rfl) (tgt := 2) rfl ?_
            exact a_pick [0, 1] rfl H
        · replace H := H.2 c
          refine a_iconst (pc := 44) (dk D 23 rfl) (ik rfl) ?_
          refine a_goto (pc := 45) (dk D 24 rfl) (tgt := 49) rfl ?_
          refine a_istore_n (pc := 49) (dk D 26 rfl) (by decide) rfl rfl ?_
          refine a_aload_n (pc := 50) (dk D 27 rfl) rfl ?_
          refine a_getr (r := 129) (pc := 51) (dk D 28 rfl) cls_12 fl_RX12_219 cf_85_65 ?_
          refine a_iload_n (pc := 54) (dk D 29 rfl) rfl ?_
          refine a_iload_n (pc := 55) (dk D 30 rfl) rfl ?_
          refine a_if_eq (pc := 56) (dk D 31 rfl) (tgt := 70) rfl ⟨fun c => absurd c (by decide), fun _ => ?_⟩
          refine a_aload_n (pc := 59) (dk D 32 rfl) rfl ?_
          refine a_getr (r := 129) (pc := 60) (dk D 33 rfl) cls_12 fl_RX12_219 cf_85_65 ?_
          refine a_iload_n (pc := 63) (dk D 34 rfl) rfl ?_
          refine a_iald (pc := 64) (dk D 35 rfl) ar_130 ⟨H.1, ?_⟩
          replace H := H.2
          refine a_iconst (pc := 65) (dk D 36 rfl) (ik rfl) ?_
          refine a_iadd (pc := 66) (dk D 37 rfl) ?_
          refine a_goto (pc := 67) (dk D 38 rfl) (tgt := 71) rfl ?_
          refine a_iast (pc := 71) (dk D 40 rfl) ar_130 ⟨H.1, ?_⟩
          replace H := H.2
          refine a_aload_n (pc := 72) (dk D 41 rfl) rfl ?_
          refine a_getr (r := 129) (pc := 73) (dk D 42 rfl) cls_12 fl_RX12_219 cf_85_65 ?_
          refine a_iload_n (pc := 76) (dk D 43 rfl) rfl ?_
          refine a_iald (pc := 77) (dk D 44 rfl) ar_130 ⟨H.1, ?_⟩
          replace H := H.2
          refine a_top (y := (w32 ((h2 130 x1) + 1))) (by simp [up, cpy]) ?_
          refine a_aload_n (pc := 78) (dk D 45 rfl) rfl ?_
          refine a_getr (r := 127) (pc := 79) (dk D 46 rfl) cls_12 fl_RX12_213 cf_85_63 ?_
          refine a_iload_n (pc := 82) (dk D 47 rfl) rfl ?_
          refine a_iald (pc := 83) (dk D 48 rfl) ar_128 ⟨H.1, ?_⟩
          replace H := H.2
          refine a_top (y := (h2 128 x1)) (by simp [up, cpy]) ?_
          refine a_icmp_eq (pc := 84) (dk D 49 rfl) (tgt := 90) rfl ⟨fun c => ?_, fun c => ?_⟩
          · replace H := H.1 c
            refine a_aload_n (pc := 90) (dk D 51 rfl) rfl ?_
            refine a_dup (pc := 91) (dk D 52 rfl) rfl ?_
            refine a_geti (pc := 92) (dk D 53 rfl) cls_12 fl_RX12_426 cf_85_22 ?_
            refine a_top (y := (h2 85 22)) (by simp [up, cpy]) ?_
            refine a_iconst (pc := 95) (dk D 54 rfl) (ik rfl) ?_
            refine a_iadd (pc := 96) (dk D 55 rfl) ?_
            refine a_puti (pc := 97) (dk D 56 rfl) cls_12 fl_RX12_426 cf_85_22 rfl rfl ?_
            refine a_aload_n (pc := 100) (dk D 57 rfl) rfl ?_
            refine a_getr (r := 130) (pc := 101) (dk D 58 rfl) cls_12 fl_RX12_222 cf_85_66 ?_
            refine a_iload_n (pc := 104) (dk D 59 rfl) rfl ?_
            refine a_iald (pc := 105) (dk D 60 rfl) ar_131 ⟨H.1, ?_⟩
            replace H := H.2
            refine a_top (y := (h2 131 x1)) (by simp [up, cpy]) ?_
            refine a_iconst (pc := 106) (dk D 61 rfl) (ik rfl) ?_
            refine a_icmp_eq (pc := 107) (dk D 62 rfl) (tgt := 130) rfl ⟨fun c => ?_, fun c => ?_⟩
            · replace H := H.1 c
              refine a_iconst (pc := 130) (dk D 74 rfl) (ik rfl) ?_
              refine a_istore_n (pc := 131) (dk D 75 rfl) (by decide) rfl rfl ?_
              refine a_aload_n (pc := 132) (dk D 76 rfl) rfl ?_
              refine a_getr (r := 130) (pc := 133) (dk D 77 rfl) cls_12 fl_RX12_222 cf_85_66 ?_
              refine a_iload_n (pc := 136) (dk D 78 rfl) rfl ?_
              refine a_aload_n (pc := 137) (dk D 79 rfl) rfl ?_
              refine a_geti (pc := 138) (dk D 80 rfl) cls_12 fl_RX12_398 cf_85_10 ?_
              refine a_top (y := (h2 85 10)) (by simp [up, cpy]) ?_
              refine a_iast (pc := 141) (dk D 81 rfl) ar_131 ⟨H.1, ?_⟩
              replace H := H.2
              refine a_iload_n (pc := 142) (dk D 82 rfl) rfl ?_
              refine a_if_ne (pc := 143) (dk D 83 rfl) (tgt := 157) rfl ⟨fun c => absurd c (by decide), fun _ => ?_⟩
              refine a_aload_n (pc := 146) (dk D 84 rfl) rfl ?_
              refine a_getr (r := 128) (pc := 147) (dk D 85 rfl) cls_12 fl_RX12_216 cf_85_64 ?_
              refine a_iload_n (pc := 150) (dk D 86 rfl) rfl ?_
              refine a_iald (pc := 151) (dk D 87 rfl) ar_129 ⟨H.1, ?_⟩
              replace H := H.2
              refine a_top (y := (h2 129 x1)) (by simp [up, cpy]) ?_
              refine a_bipush (pc := 152) (dk D 88 rfl) (ik rfl) (bpk rfl) ?_
              refine a_icmp_ne (pc := 154) (dk D 89 rfl) (tgt := 165) rfl ⟨fun c => ?_, fun c => ?_⟩
              · replace H := H.1 c
                refine a_aload_n (pc := 165) (dk D 94 rfl) rfl ?_
                refine a_aload_n (pc := 166) (dk D 95 rfl) rfl ?_
                refine a_getr (r := 128) (pc := 167) (dk D 96 rfl) cls_12 fl_RX12_216 cf_85_64 ?_
                refine a_iload_n (pc := 170) (dk D 97 rfl) rfl ?_
                refine a_iald (pc := 171) (dk D 98 rfl) ar_129 ⟨H.1, ?_⟩
                replace H := H.2
                refine a_top (y := (h2 129 x1)) (by simp [up, cpy]) ?_
                refine a_callVv (as := [iv (h2 129 x1)]) (st := []) (pc := 172) (dk D 99 rfl) cl_RX12_486 ⟨Nat.le_of_ble_eq_true rfl, Nat.le_of_ble_eq_true rfl⟩ ⟨Nat.le_of_ble_eq_true rfl, Nat.le_of_ble_eq_true rfl⟩ cls_12 rfl cc_85 rfl rfl rfl (Nat.le_of_ble_eq_true rfl) (Call.mono H fun _ h24 H => ?_)
                refine a_iinc (pc := 175) (dk D 100 rfl) (by decide) rfl rfl rfl ?_
                refine a_goto (pc := 178) (dk D 101 rfl) (tgt := 2) rfl ?_
                exact a_pick [0, 1] rfl H
              · replace H := H.2 c
                refine a_aload_n (pc := 157) (dk D 90 rfl) rfl ?_
                refine a_iconst (pc := 158) (dk D 91 rfl) (ik rfl) ?_
                refine a_callVv (as := [iv 0]) (st := []) (pc := 159) (dk D 92 rfl) cl_RX12_483 ⟨Nat.le_of_ble_eq_true rfl, Nat.le_of_ble_eq_true rfl⟩ ⟨Nat.le_of_ble_eq_true rfl, Nat.le_of_ble_eq_true rfl⟩ cls_12 rfl cc_85 rfl rfl rfl (Nat.le_of_ble_eq_true rfl) (Call.mono H fun _ h26 H => ?_)
                refine a_goto (pc := 162) (dk D 93 rfl) (tgt := 175) rfl ?_
                refine a_iinc (pc := 175) (dk D 100 rfl) (by decide) rfl rfl rfl ?_
                refine a_goto (pc := 178) (dk D 101 rfl) (tgt := 2) rfl ?_
                exact a_pick [0, 1] rfl H
            · replace H := H.2 c
              refine a_aload_n (pc := 110) (dk D 63 rfl) rfl ?_
              refine a_geti (pc := 111) (dk D 64 rfl) cls_12 fl_RX12_398 cf_85_10 ?_
              refine a_top (y := (h2 85 10)) (by simp [up, cpy]) ?_
              refine a_aload_n (pc := 114) (dk D 65 rfl) rfl ?_
              refine a_getr (r := 130) (pc := 115) (dk D 66 rfl) cls_12 fl_RX12_222 cf_85_66 ?_
              refine a_iload_n (pc := 118) (dk D 67 rfl) rfl ?_
              refine a_iald (pc := 119) (dk D 68 rfl) ar_131 ⟨H.1, ?_⟩
              replace H := H.2
              refine a_top (y := (h2 131 x1)) (by simp [up, cpy]) ?_
              refine a_isub (pc := 120) (dk D 69 rfl) ?_
              refine a_bipush (pc := 121) (dk D 70 rfl) (ik rfl) (bpk rfl) ?_
              refine a_icmp_ge (pc := 123) (dk D 71 rfl) (tgt := 130) rfl ⟨fun c => ?_, fun c => ?_⟩
              · replace H := H.1 c
                refine a_iconst (pc := 130) (dk D 74 rfl) (ik rfl) ?_
                refine a_istore_n (pc := 131) (dk D 75 rfl) (by decide) rfl rfl ?_
                refine a_aload_n (pc := 132) (dk D 76 rfl) rfl ?_
                refine a_getr (r := 130) (pc := 133) (dk D 77 rfl) cls_12 fl_RX12_222 cf_85_66 ?_
                refine a_iload_n (pc := 136) (dk D 78 rfl) rfl ?_
                refine a_aload_n (pc := 137) (dk D 79 rfl) rfl ?_
                refine a_geti (pc := 138) (dk D 80 rfl) cls_12 fl_RX12_398 cf_85_10 ?_
                refine a_top (y := (h2 85 10)) (by simp [up, cpy]) ?_
                refine a_iast (pc := 141) (dk D 81 rfl) ar_131 ⟨H.1, ?_⟩
                replace H := H.2
                refine a_iload_n (pc := 142) (dk D 82 rfl) rfl ?_
                refine a_if_ne (pc := 143) (dk D 83 rfl) (tgt := 157) rfl ⟨fun c => absurd c (by decide), fun _ => ?_⟩
                refine a_aload_n (pc := 146) (dk D 84 rfl) rfl ?_
                refine a_getr (r := 128) (pc := 147) (dk D 85 rfl) cls_12 fl_RX12_216 cf_85_64 ?_
                refine a_iload_n (pc := 150) (dk D 86 rfl) rfl ?_
                refine a_iald (pc := 151) (dk D 87 rfl) ar_129 ⟨H.1, ?_⟩
                replace H := H.2
                refine a_top (y := (h2 129 x1)) (by simp [up, cpy]) ?_
                refine a_bipush (pc := 152) (dk D 88 rfl) (ik rfl) (bpk rfl) ?_
                refine a_icmp_ne (pc := 154) (dk D 89 rfl) (tgt := 165) rfl ⟨fun c => ?_, fun c => ?_⟩
                · replace H := H.1 c
                  refine a_aload_n (pc := 165) (dk D 94 rfl) rfl ?_
                  refine a_aload_n (pc := 166) (dk D 95 rfl) rfl ?_
                  refine a_getr (r := 128) (pc := 167) (dk D 96 rfl) cls_12 fl_RX12_216 cf_85_64 ?_
                  refine a_iload_n (pc := 170) (dk D 97 rfl) rfl ?_
                  refine a_iald (pc := 171) (dk D 98 rfl) ar_129 ⟨H.1, ?_⟩
                  replace H := H.2
                  refine a_top (y := (h2 129 x1)) (by simp [up, cpy]) ?_
                  refine a_callVv (as := [iv (h2 129 x1)]) (st := []) (pc := 172) (dk D 99 rfl) cl_RX12_486 ⟨Nat.le_of_ble_eq_true rfl, Nat.le_of_ble_eq_true rfl⟩ ⟨Nat.le_of_ble_eq_true rfl, Nat.le_of_ble_eq_true rfl⟩ cls_12 rfl cc_85 rfl rfl rfl (Nat.le_of_ble_eq_true rfl) (Call.mono H fun _ h28 H => ?_)
                  refine a_iinc (pc := 175) (dk D 100 rfl) (by decide) rfl rfl rfl ?_
                  refine a_goto (pc := 178) (dk D 101 rfl) (tgt := 2) rfl ?_
                  exact a_pick [0, 1] rfl H
                · replace H := H.2 c
                  refine a_aload_n (pc := 157) (dk D 90 rfl) rfl ?_
                  refine a_iconst (pc := 158) (dk D 91 rfl) (ik rfl) ?_
                  refine a_callVv (as := [iv 0]) (st := []) (pc := 159) (dk D 92 rfl) cl_RX12_483 ⟨Nat.le_of_ble_eq_true rfl, Nat.le_of_ble_eq_true rfl⟩ ⟨Nat.le_of_ble_eq_true rfl, Nat.le_of_ble_eq_true rfl⟩ cls_12 rfl cc_85 rfl rfl rfl (Nat.le_of_ble_eq_true rfl) (Call.mono H fun _ h30 H => ?_)
                  refine a_goto (pc := 162) (dk D 93 rfl) (tgt := 175) rfl ?_
                  refine a_iinc (pc := 175) (dk D 100 rfl) (by decide) rfl rfl rfl ?_
                  refine a_goto (pc := 178) (dk D 101 rfl) (tgt := 2) rfl ?_
                  exact a_pick [0, 1] rfl H
              · replace H := H.2 c
                refine a_iconst (pc := 126) (dk D 72 rfl) (ik rfl) ?_
                refine a_goto (pc := 127) (dk D 73 rfl) (tgt := 131) rfl ?_
                refine a_istore_n (pc := 131) (dk D 75 rfl) (by decide) rfl rfl ?_
                refine a_aload_n (pc := 132) (dk D 76 rfl) rfl ?_
                refine a_getr (r := 130) (pc := 133) (dk D 77 rfl) cls_12 fl_RX12_222 cf_85_66 ?_
                refine a_iload_n (pc := 136) (dk D 78 rfl) rfl ?_
                refine a_aload_n (pc := 137) (dk D 79 rfl) rfl ?_
                refine a_geti (pc := 138) (dk D 80 rfl) cls_12 fl_RX12_398 cf_85_10 ?_
                refine a_top (y := (h2 85 10)) (by simp [up, cpy]) ?_
                refine a_iast (pc := 141) (dk D 81 rfl) ar_131 ⟨H.1, ?_⟩
                replace H := H.2
                refine a_iload_n (pc := 142) (dk D 82 rfl) rfl ?_
                refine a_if_ne (pc := 143) (dk D 83 rfl) (tgt := 157) rfl ⟨fun _ => ?_, fun c => absurd c (by decide)⟩
                refine a_aload_n (pc := 157) (dk D 90 rfl) rfl ?_
                refine a_iconst (pc := 158) (dk D 91 rfl) (ik rfl) ?_
                refine a_callVv (as := [iv 0]) (st := []) (pc := 159) (dk D 92 rfl) cl_RX12_483 ⟨Nat.le_of_ble_eq_true rfl, Nat.le_of_ble_eq_true rfl⟩ ⟨Nat.le_of_ble_eq_true rfl, Nat.le_of_ble_eq_true rfl⟩ cls_12 rfl cc_85 rfl rfl rfl (Nat.le_of_ble_eq_true rfl) (Call.mono H fun _ h32 H => ?_)
                refine a_goto (pc := 162) (dk D 93 rfl) (tgt := 175) rfl ?_
                refine a_iinc (pc := 175) (dk D 100 rfl) (by decide) rfl rfl rfl ?_
                refine a_goto (pc := 178) (dk D 101 rfl) (tgt := 2) rfl ?_
                exact a_pick [0, 1] rfl H
          · replace H := H.2 c
            refine a_goto (pc := 87) (dk D 50 rfl) (tgt := 175) rfl ?_
            refine a_iinc (pc := 175) (dk D 100 rfl) (by decide) rfl rfl rfl ?_
            refine a_goto (pc := 178) (dk D 101 rfl) (tgt := 2) rfl ?_
            exact a_pick [0, 1] rfl H
    · replace H := H.2 c
      refine a_goto (pc := 17) (dk D 10 rfl) (tgt := 175) rfl ?_
      refine a_iinc (pc := 175) (dk D 100 rfl) (by decide) rfl rfl rfl ?_
      refine a_goto (pc := 178) (dk D 101 rfl) (tgt := 2) rfl ?_
      exact a_pick [0, 1] rfl H
set_option maxHeartbeats 40000000 in
theorem T_X12_serve_85_0 {G : GG} {Φ : Int → Hp → Prop} {h : Hp} (H : Call G m_X12_sunNow [rv 85] h (fun r1 h2 => AT G m_X12_serve 19 [(0, rv 85), (1, iv r1), (2, iv (w32 (r1 + (h2 85 19)))), (3, iv 0)] [] (up h2 85 21 0) Φ)) : AT G m_X12_serve 0 [(0, rv 85)] [] h Φ := by
  have D := dt_X12_serve
  refine a_aload_n (pc := 0) (dk D 0 rfl) rfl ?_
  refine a_callVi (as := []) (st := []) (pc := 1) (dk D 1 rfl) cl_RX12_421 ⟨Nat.le_of_ble_eq_true rfl, Nat.le_of_ble_eq_true rfl⟩ ⟨Nat.le_of_ble_eq_true rfl, Nat.le_of_ble_eq_true rfl⟩ cls_12 rfl cc_85 rfl rfl rfl (Nat.le_of_ble_eq_true rfl) (Call.mono H fun r1 h2 H => ?_)
  refine a_istore_n (pc := 4) (dk D 2 rfl) (by decide) rfl rfl ?_
  refine a_iload_n (pc := 5) (dk D 3 rfl) rfl ?_
  refine a_aload_n (pc := 6) (dk D 4 rfl) rfl ?_
  refine a_geti (pc := 7) (dk D 5 rfl) cls_12 fl_RX12_38 cf_85_19 ?_
  refine a_iadd (pc := 10) (dk D 6 rfl) ?_
  refine a_istore_n (pc := 11) (dk D 7 rfl) (by decide) rfl rfl ?_
  refine a_aload_n (pc := 12) (dk D 8 rfl) rfl ?_
  refine a_iconst (pc := 13) (dk D 9 rfl) (ik rfl) ?_
  refine a_puti (pc := 14) (dk D 10 rfl) cls_12 fl_RX12_424 cf_85_21 rfl rfl ?_
  refine a_iconst (pc := 17) (dk D 11 rfl) (ik rfl) ?_
  refine a_istore_n (pc := 18) (dk D 12 rfl) (by decide) rfl rfl ?_
  exact a_pick [0, 1, 2, 3] rfl H
set_option maxHeartbeats 40000000 in
theorem T_X12_serve_85_19 {G : GG} {Φ : Int → Hp → Prop} {h : Hp} {x1 : Int} {x2 : Int} {x3 : Int} (H : ((8 ≤ x3 → AT G m_X12_serve 40 [(0, rv 85), (1, iv x1), (2, iv x2), (3, iv 0)] [] h Φ) ∧ (x3 < 8 → (0 ≤ x3 ∧ x3 < 8) ∧ AT G m_X12_serve 19 [(0, rv 85), (1, iv x1), (2, iv x2), (3, iv (w32 (x3 + 1)))] [] (up h 96 x3 0) Φ))) : AT G m_X12_serve 19 [(0, rv 85), (1, iv x1), (2, iv x2), (3, iv x3)] [] h Φ := by
  have D := dt_X12_serve
  refine a_iload_n (pc := 19) (dk D 13 rfl) rfl ?_
  refine a_bipush (pc := 20) (dk D 14 rfl) (ik rfl) (bpk rfl) ?_
  refine a_icmp_ge (pc := 22) (dk D 15 rfl) (tgt := 38) rfl ⟨fun c => ?_, fun c => ?_⟩
  · replace H := H.1 c
    refine a_iconst (pc := 38) (dk D 23 rfl) (ik rfl) ?_
    refine a_istore_n (pc := 39) (dk D 24 rfl) (by decide) rfl rfl ?_
    exact a_pick [0, 1, 2, 3] rfl H
  · replace H := H.2 c
    refine a_aload_n (pc := 25) (dk D 16 rfl) rfl ?_
    refine a_getr (r := 95) (pc := 26) (dk D 17 rfl) cls_12 fl_RX12_54 cf_85_27 ?_
    refine a_iload_n (pc := 29) (dk D 18 rfl) rfl ?_
    refine a_iconst (pc := 30) (dk D 19 rfl) (ik rfl) ?_
    refine a_zast (pc := 31) (dk D 20 rfl) ar_96 ⟨H.1, by decide, ?_⟩
    replace H := H.2
    refine a_iinc (pc := 32) (dk D 21 rfl) (by decide) rfl rfl rfl ?_
    refine a_goto (pc := 35) (dk D 22 rfl) (tgt := 19) rfl ?_
    exact a_pick [0, 1, 2, 3] rfl H
set_option maxHeartbeats 40000000 in
theorem T_X12_serve_85_40 {G : GG} {Φ : Int → Hp → Prop} {h : Hp} {x1 : Int} {x2 : Int} {x3 : Int} (H : ((10 ≤ x3 → Call G m_J9_min_7cf53 [iv (h 85 18), iv (w32 ((w32 ((h 85 19) + x1)) - (h 85 21)))] h (fun r1 h2 => Φ 0 (up h2 85 19 r1))) ∧ (x3 < 10 → AT G m_X12_serve 49 [(0, rv 85), (1, iv x1), (2, iv x2), (3, iv x3), (4, iv 0)] [] h Φ))) : AT G m_X12_serve 40 [(0, rv 85), (1, iv x1), (2, iv x2), (3, iv x3)] [] h Φ := by
  have D := dt_X12_serve
  refine a_iload_n (pc := 40) (dk D 25 rfl) rfl ?_
  refine a_bipush (pc := 41) (dk D 26 rfl) (ik rfl) (bpk rfl) ?_
  refine a_icmp_ge (pc := 43) (dk D 27 rfl) (tgt := 158) rfl ⟨fun c => ?_, fun c => ?_⟩
  · replace H := H.1 c
    refine a_aload_n (pc := 158) (dk D 88 rfl) rfl ?_
    refine a_aload_n (pc := 159) (dk D 89 rfl) rfl ?_
    refine a_geti (pc := 160) (dk D 90 rfl) cls_12 fl_RX12_35 cf_85_18 ?_
    refine a_aload_n (pc := 163) (dk D 91 rfl) rfl ?_
    refine a_geti (pc := 164) (dk D 92 rfl) cls_12 fl_RX12_38 cf_85_19 ?_
    refine a_iload_n (pc := 167) (dk D 93 rfl) rfl ?_
    refine a_iadd (pc := 168) (dk D 94 rfl) ?_
    refine a_aload_n (pc := 169) (dk D 95 rfl) rfl ?_
    refine a_geti (pc := 170) (dk D 96 rfl) cls_12 fl_RX12_424 cf_85_21 ?_
    refine a_isub (pc := 173) (dk D 97 rfl) ?_
    refine a_callSi (as := [iv (h 85 18), iv (w32 ((w32 ((h 85 19) + x1)) - (h 85 21)))]) (st := [rv 85]) (pc := 174) (dk D 98 rfl) cl_RX12_413 ⟨Nat.le_of_ble_eq_true rfl, Nat.le_of_ble_eq_true rfl⟩ ⟨Nat.le_of_ble_eq_true rfl, Nat.le_of_ble_eq_true rfl⟩ rfl rfl rfl (Nat.le_of_ble_eq_true rfl) (Call.mono H fun r1 h2 H => ?_)
    refine a_puti (pc := 177) (dk D 99 rfl) cls_12 fl_RX12_38 cf_85_19 rfl rfl ?_
    exact a_vret (pc := 180) (dk D 100 rfl) rfl rfl H
  · replace H := H.2 c
    refine a_iconst (pc := 46) (dk D 28 rfl) (ik rfl) ?_
    refine a_istore (pc := 47) (dk D 29 rfl) (by decide) rfl rfl ?_
    exact a_pick [0, 1, 2, 3, 4] rfl H
set_option maxHeartbeats 40000000 in
theorem T_X12_serve_85_49 {G : GG} {Φ : Int → Hp → Prop} {h : Hp} {x1 : Int} {x2 : Int} {x3 : Int} {x4 : Int} (H : ((8 ≤ x4 → AT G m_X12_serve 40 [(0, rv 85), (1, iv x1), (2, iv x2), (3, iv (w32 (x3 + 1)))] [] h Φ) ∧ (x4 < 8 → (0 ≤ x4 ∧ x4 < 8) ∧ (((h 94 x4) ≠ x3 → AT G m_X12_serve 49 [(0, rv 85), (1, iv x1), (2, iv x2), (3, iv x3), (4, iv (w32 (x4 + 1)))] [] h Φ) ∧ ((h 94 x4) = x3 → (0 ≤ x4 ∧ x4 < 8) ∧ (((h 95 x4) ≠ 0 → (0 ≤ x4 ∧ x4 < 8) ∧ ((x2 < (h 93 x4) → (0 ≤ x4 ∧ x4 < 8) ∧ AT G m_X12_serve 49 [(0, rv 85), (1, iv x1), (2, iv x2), (3, iv x3), (4, iv (w32 (x4 + 1)))] [] (up (up h 95 x4 0) 85 22 (w32 ((h 85 22) + 1))) Φ) ∧ ((h 93 x4) ≤ x2 → (0 ≤ x4 ∧ x4 < 8) ∧ (0 ≤ x4 ∧ x4 < 8) ∧ (0 ≤ x4 ∧ x4 < 8) ∧ AT G m_X12_serve 49 [(0, rv 85), (1, iv x1), (2, iv (w32 (x2 - (h 93 x4)))), (3, iv x3), (4, iv (w32 (x4 + 1)))] [] (up (up h 96 x4 1) 85 21 (w32 ((h 85 21) + (h 93 x4)))) Φ))) ∧ ((h 95 x4) = 0 → AT G m_X12_serve 49 [(0, rv 85), (1, iv x1), (2, iv x2), (3, iv x3), (4, iv (w32 (x4 + 1)))] [] h Φ))))))) : AT G m_X12_serve 49 [(0, rv 85), (1, iv x1), (2, iv x2), (3, iv x3), (4, iv x4)] [] h Φ := by
  have D := dt_X12_serve
  refine a_iload (pc := 49) (dk D 30 rfl) rfl ?_
  refine a_bipush (pc := 51) (dk D 31 rfl) (ik rfl) (bpk rfl) ?_
  refine a_icmp_ge (pc := 53) (dk D 32 rfl) (tgt := 152) rfl ⟨fun c => ?_, fun c => ?_⟩
  · replace H := H.1 c
    refine a_iinc (pc := 152) (dk D 86 rfl) (by decide) rfl rfl rfl ?_
    refine a_goto (pc := 155) (dk D 87 rfl) (tgt := 40) rfl ?_
    exact a_pick [0, 1, 2, 3] rfl H
  · replace H := H.2 c
    refine a_aload_n (pc := 56) (dk D 33 rfl) rfl ?_
    refine a_getr (r := 93) (pc := 57) (dk D 34 rfl) cls_12 fl_RX12_47 cf_85_25 ?_
    refine a_iload (pc := 60) (dk D 35 rfl) rfl ?_
    refine a_iald (pc := 62) (dk D 36 rfl) ar_94 ⟨H.1, ?_⟩
    replace H := H.2
    refine a_iload_n (pc := 63) (dk D 37 rfl) rfl ?_
    refine a_icmp_ne (pc := 64) (dk D 38 rfl) (tgt := 146) rfl ⟨fun c => ?_, fun c => ?_⟩
    · replace H := H.1 c
      refine a_iinc (pc := 146) (dk D 84 rfl) (by decide) rfl rfl rfl ?_
      refine a_goto (pc := 149) (dk D 85 rfl) (tgt := 49) rfl ?_
      exact a_pick [0, 1, 2, 3, 4] rfl H
    · replace H := H.2 c
      refine a_aload_n (pc := 67) (dk D 39 rfl) rfl ?_
      refine a_getr (r := 94) (pc := 68) (dk D 40 rfl) cls_12 fl_RX12_50 cf_85_26 ?_
      refine a_iload (pc := 71) (dk D 41 rfl) rfl ?_
      refine a_zald (pc := 73) (dk D 42 rfl) ar_95 ⟨H.1, ?_⟩
      replace H := H.2
      refine a_if_ne (pc := 74) (dk D 43 rfl) (tgt := 80) rfl ⟨fun c => ?_, fun c => ?_⟩
      · replace H := H.1 c
        refine a_aload_n (pc := 80) (dk D 45 rfl) rfl ?_
        refine a_getr (r := 92) (pc := 81) (dk D 46 rfl) cls_12 fl_RX12_44 cf_85_24 ?_
        refine a_iload (pc := 84) (dk D 47 rfl) rfl ?_
        refine a_iald (pc := 86) (dk D 48 rfl) ar_93 ⟨H.1, ?_⟩
        replace H := H.2
        refine a_iload_n (pc := 87) (dk D 49 rfl) rfl ?_
        refine a_icmp_gt (pc := 88) (dk D 50 rfl) (tgt := 128) rfl ⟨fun c => ?_, fun c => ?_⟩
        · replace H := H.1 c
          refine a_aload_n (pc := 128) (dk D 73 rfl) rfl ?_
          refine a_getr (r := 94) (pc := 129) (dk D 74 rfl) cls_12 fl_RX12_50 cf_85_26 ?_
          refine a_iload (pc := 132) (dk D 75 rfl) rfl ?_
          refine a_iconst (pc := 134) (dk D 76 rfl) (ik rfl) ?_
          refine a_zast (pc := 135) (dk D 77 rfl) ar_95 ⟨H.1, by decide, ?_⟩
          replace H := H.2
          refine a_aload_n (pc := 136) (dk D 78 rfl) rfl ?_
          refine a_dup (pc := 137) (dk D 79 rfl) rfl ?_
          refine a_geti (pc := 138) (dk D 80 rfl) cls_12 fl_RX12_426 cf_85_22 ?_
          refine a_top (y := (h 85 22)) (by simp [up, cpy]) ?_
          refine a_iconst (pc := 141) (dk D 81 rfl) (ik rfl) ?_
          refine a_iadd (pc := 142) (dk D 82 rfl) ?_
          refine a_puti (pc := 143) (dk D 83 rfl) cls_12 fl_RX12_426 cf_85_22 rfl rfl ?_
          refine a_iinc (pc := 146) (dk D 84 rfl) (by decide) rfl rfl rfl ?_
          refine a_goto (pc := 149) (dk D 85 rfl) (tgt := 49) rfl ?_
          exact a_pick [0, 1, 2, 3, 4] rfl H
        · replace H := H.2 c
          refine a_aload_n (pc := 91) (dk D 51 rfl) rfl ?_
          refine a_getr (r := 95) (pc := 92) (dk D 52 rfl) cls_12 fl_RX12_54 cf_85_27 ?_
          refine a_iload (pc := 95) (dk D 53 rfl) rfl ?_
          refine a_iconst (pc := 97) (dk D 54 rfl) (ik rfl) ?_
          refine a_zast (pc := 98) (dk D 55 rfl) ar_96 ⟨H.1, by decide, ?_⟩
          replace H := H.2
          refine a_iload_n (pc := 99) (dk D 56 rfl) rfl ?_
          refine a_aload_n (pc := 100) (dk D 57 rfl) rfl ?_
          refine a_getr (r := 92) (pc := 101) (dk D 58 rfl) cls_12 fl_RX12_44 cf_85_24 ?_
          refine a_iload (pc := 104) (dk D 59 rfl) rfl ?_
          refine a_iald (pc := 106) (dk D 60 rfl) ar_93 ⟨H.1, ?_⟩
          replace H := H.2
          refine a_top (y := (h 93 x4)) (by simp [up, cpy]) ?_
          refine a_isub (pc := 107) (dk D 61 rfl) ?_
          refine a_istore_n (pc := 108) (dk D 62 rfl) (by decide) rfl rfl ?_
          refine a_aload_n (pc := 109) (dk D 63 rfl) rfl ?_
          refine a_dup (pc := 110) (dk D 64 rfl) rfl ?_
          refine a_geti (pc := 111) (dk D 65 rfl) cls_12 fl_RX12_424 cf_85_21 ?_
          refine a_top (y := (h 85 21)) (by simp [up, cpy]) ?_
          refine a_aload_n (pc := 114) (dk D 66 rfl) rfl ?_
          refine a_getr (r := 92) (pc := 115) (dk D 67 rfl) cls_12 fl_RX12_44 cf_85_24 ?_
          refine a_iload (pc := 118) (dk D 68 rfl) rfl ?_
          refine a_iald (pc := 120) (dk D 69 rfl) ar_93 ⟨H.1, ?_⟩
          replace H := H.2
          refine a_top (y := (h 93 x4)) (by simp [up, cpy]) ?_
          refine a_iadd (pc := 121) (dk D 70 rfl) ?_
          refine a_puti (pc := 122) (dk D 71 rfl) cls_12 fl_RX12_424 cf_85_21 rfl rfl ?_
          refine a_goto (pc := 125) (dk D 72 rfl) (tgt := 146) rfl ?_
          refine a_iinc (pc := 146) (dk D 84 rfl) (by decide) rfl rfl rfl ?_
          refine a_goto (pc := 149) (dk D 85 rfl) (tgt := 49) rfl ?_
          exact a_pick [0, 1, 2, 3, 4] rfl H
      · replace H := H.2 c
        refine a_goto (pc := 77) (dk D 44 rfl) (tgt := 146) rfl ?_
        refine a_iinc (pc := 146) (dk D 84 rfl) (by decide) rfl rfl rfl ?_
        refine a_goto (pc := 149) (dk D 85 rfl) (tgt := 49) rfl ?_
        exact a_pick [0, 1, 2, 3, 4] rfl H
set_option maxHeartbeats 40000000 in
theorem T_X12_starts_85_0 {G : GG} {Φ : Int → Hp → Prop} {h : Hp} (H : AT G m_X12_starts 4 [(0, rv 85), (1, iv 0), (2, iv 0)] [] h Φ) : AT G m_X12_starts 0 [(0, rv 85)] [] h Φ := by
  have D := dt_X12_starts
  refine a_iconst (pc := 0) (dk D 0 rfl) (ik rfl) ?_
  refine a_istore_n (pc := 1) (dk D 1 rfl) (by decide) rfl rfl ?_
  refine a_iconst (pc := 2) (dk D 2 rfl) (ik rfl) ?_
  refine a_istore_n (pc := 3) (dk D 3 rfl) (by decide) rfl rfl ?_
  exact a_pick [0, 1, 2] rfl H
set_option maxHeartbeats 40000000 in
theorem T_X12_starts_85_4 {G : GG} {Φ : Int → Hp → Prop} {h : Hp} {x1 : Int} {x2 : Int} (H : (((h 85 62) ≤ x2 → Φ 0 (up h 85 62 x1)) ∧ (x2 < (h 85 62) → (0 ≤ x2 ∧ x2 < 10) ∧ (((h 126 x2) ≠ (h 85 10) → (0 ≤ x2 ∧ x2 < 10) ∧ (0 ≤ x1 ∧ x1 < 10) ∧ (0 ≤ x2 ∧ x2 < 10) ∧ (0 ≤ x1 ∧ x1 < 10) ∧ AT G m_X12_starts 4 [(0, rv 85), (1, iv (w32 (x1 + 1))), (2, iv (w32 (x2 + 1)))] [] (up (up h 126 x1 (h 126 x2)) 127 x1 (h 127 x2)) Φ) ∧ ((h 126 x2) = (h 85 10) → (0 ≤ x2 ∧ x2 < 10) ∧ Call G m_X12_begin [rv 85, iv (h 127 x2)] h (fun _ h2 => AT G m_X12_starts 4 [(0, rv 85), (1, iv x1), (2, iv (w32 (x2 + 1)))] [] h2 Φ)))))) : AT G m_X12_starts 4 [(0, rv 85), (1, iv x1), (2, iv x2)] [] h Φ := by
  have D := dt_X12_starts
  refine a_iload_n (pc := 4) (dk D 4 rfl) rfl ?_
  refine a_aload_n (pc := 5) (dk D 5 rfl) rfl ?_
  refine a_geti (pc := 6) (dk D 6 rfl) cls_12 fl_RX12_495 cf_85_62 ?_
  refine a_icmp_ge (pc := 9) (dk D 7 rfl) (tgt := 71) rfl ⟨fun c => ?_, fun c => ?_⟩
  · replace H := H.1 c
    refine a_aload_n (pc := 71) (dk D 41 rfl) rfl ?_
    refine a_iload_n (pc := 72) (dk D 42 rfl) rfl ?_
    refine a_puti (pc := 73) (dk D 43 rfl) cls_12 fl_RX12_495 cf_85_62 rfl rfl ?_
    exact a_vret (pc := 76) (dk D 44 rfl) rfl rfl H
  · replace H := H.2 c
    refine a_aload_n (pc := 12) (dk D 8 rfl) rfl ?_
    refine a_getr (r := 125) (pc := 13) (dk D 9 rfl) cls_12 fl_RX12_207 cf_85_60 ?_
    refine a_iload_n (pc := 16) (dk D 10 rfl) rfl ?_
    refine a_iald (pc := 17) (dk D 11 rfl) ar_126 ⟨H.1, ?_⟩
    replace H := H.2
    refine a_aload_n (pc := 18) (dk D 12 rfl) rfl ?_
    refine a_geti (pc := 19) (dk D 13 rfl) cls_12 fl_RX12_398 cf_85_10 ?_
    refine a_icmp_ne (pc := 22) (dk D 14 rfl) (tgt := 38) rfl ⟨fun c => ?_, fun c => ?_⟩
    · replace H := H.1 c
      refine a_aload_n (pc := 38) (dk D 22 rfl) rfl ?_
      refine a_getr (r := 125) (pc := 39) (dk D 23 rfl) cls_12 fl_RX12_207 cf_85_60 ?_
      refine a_iload_n (pc := 42) (dk D 24 rfl) rfl ?_
      refine a_aload_n (pc := 43) (dk D 25 rfl) rfl ?_
      refine a_getr (r := 125) (pc := 44) (dk D 26 rfl) cls_12 fl_RX12_207 cf_85_60 ?_
      refine a_iload_n (pc := 47) (dk D 27 rfl) rfl ?_
      refine a_iald (pc := 48) (dk D 28 rfl) ar_126 ⟨H.1, ?_⟩
      replace H := H.2
      refine a_iast (pc := 49) (dk D 29 rfl) ar_126 ⟨H.1, ?_⟩
      replace H := H.2
      refine a_aload_n (pc := 50) (dk D 30 rfl) rfl ?_
      refine a_getr (r := 126) (pc := 51) (dk D 31 rfl) cls_12 fl_RX12_210 cf_85_61 ?_
      refine a_iload_n (pc := 54) (dk D 32 rfl) rfl ?_
      refine a_aload_n (pc := 55) (dk D 33 rfl) rfl ?_
      refine a_getr (r := 126) (pc := 56) (dk D 34 rfl) cls_12 fl_RX12_210 cf_85_61 ?_
      refine a_iload_n (pc := 59) (dk D 35 rfl) rfl ?_
      refine a_iald (pc := 60) (dk D 36 rfl) ar_127 ⟨H.1, ?_⟩
      replace H := H.2
      refine a_top (y := (h 127 x2)) (by simp [up, cpy]) ?_
      refine a_iast (pc := 61) (dk D 37 rfl) ar_127 ⟨H.1, ?_⟩
      replace H := H.2
      refine a_iinc (pc := 62) (dk D 38 rfl) (by decide) rfl rfl rfl ?_
      refine a_iinc (pc := 65) (dk D 39 rfl) (by decide) rfl rfl rfl ?_
      refine a_goto (pc := 68) (dk D 40 rfl) (tgt := 4) rfl ?_
      exact a_pick [0, 1, 2] rfl H
    · replace H := H.2 c
      refine a_aload_n (pc := 25) (dk D 15 rfl) rfl ?_
      refine a_aload_n (pc := 26) (dk D 16 rfl) rfl ?_
      refine a_getr (r := 126) (pc := 27) (dk D 17 rfl) cls_12 fl_RX12_210 cf_85_61 ?_
      refine a_iload_n (pc := 30) (dk D 18 rfl) rfl ?_
      refine a_iald (pc := 31) (dk D 19 rfl) ar_127 ⟨H.1, ?_⟩
      replace H := H.2
      refine a_callVv (as := [iv (h 127 x2)]) (st := []) (pc := 32) (dk D 20 rfl) cl_RX12_486 ⟨Nat.le_of_ble_eq_true rfl, Nat.le_of_ble_eq_true rfl⟩ ⟨Nat.le_of_ble_eq_true rfl, Nat.le_of_ble_eq_true rfl⟩ cls_12 rfl cc_85 rfl rfl rfl (Nat.le_of_ble_eq_true rfl) (Call.mono H fun _ h2 H => ?_)
      refine a_goto (pc := 35) (dk D 21 rfl) (tgt := 65) rfl ?_
      refine a_iinc (pc := 65) (dk D 39 rfl) (by decide) rfl rfl rfl ?_
      refine a_goto (pc := 68) (dk D 40 rfl) (tgt := 4) rfl ?_
      exact a_pick [0, 1, 2] rfl H
set_option maxHeartbeats 40000000 in
theorem T_X12_mend_85_0 {G : GG} {Φ : Int → Hp → Prop} {h : Hp} (H : Call G m_X12_read [rv 85, iv ((h 85 10).tmod 64)] h (fun r1 h2 => ((r1 ≠ (-1) → (0 ≤ ((h 85 10).tmod 64) ∧ ((h 85 10).tmod 64) < 64) ∧ Call G m_X12_encoded [iv r1] h2 (fun r3 h4 => (((h2 97 ((h 85 10).tmod 64)) = r3 → Φ 0 h4) ∧ ((h2 97 ((h 85 10).tmod 64)) ≠ r3 → Call G m_X12_encoded [iv r1] h4 (fun r5 h6 => (0 ≤ ((h 85 10).tmod 64) ∧ ((h 85 10).tmod 64) < 64) ∧ Φ 0 (up (up h6 97 ((h 85 10).tmod 64) r5) 85 29 (w32 ((h6 85 29) + 1)))))))) ∧ (r1 = (-1) → Call G m_X12_encoded [iv 0] h2 (fun r7 h8 => (0 ≤ ((h 85 10).tmod 64) ∧ ((h 85 10).tmod 64) < 64) ∧ Φ 0 (up (up (up h8 97 ((h 85 10).tmod 64) r7) 85 30 (w32 ((h8 85 30) + 1))) 85 22 (w32 ((h8 85 22) + 1)))))))) : AT G m_X12_mend 0 [(0, rv 85)] [] h Φ := by
  have D := dt_X12_mend
  refine a_aload_n (pc := 0) (dk D 0 rfl) rfl ?_
  refine a_geti (pc := 1) (dk D 1 rfl) cls_12 fl_RX12_398 cf_85_10 ?_
  refine a_bipush (pc := 4) (dk D 2 rfl) (ik rfl) (bpk rfl) ?_
  refine a_irem (pc := 6) (dk D 3 rfl) ⟨by decide, ?_⟩
  refine a_istore_n (pc := 7) (dk D 4 rfl) (by decide) rfl rfl ?_
  refine a_aload_n (pc := 8) (dk D 5 rfl) rfl ?_
  refine a_iload_n (pc := 9) (dk D 6 rfl) rfl ?_
  refine a_callVi (as := [iv ((h 85 10).tmod 64)]) (st := []) (pc := 10) (dk D 7 rfl) cl_RX12_438 ⟨Nat.le_of_ble_eq_true rfl, Nat.le_of_ble_eq_true rfl⟩ ⟨Nat.le_of_ble_eq_true rfl, Nat.le_of_ble_eq_true rfl⟩ cls_12 rfl cc_85 rfl rfl rfl (Nat.le_of_ble_eq_true rfl) (Call.mono H fun r1 h2 H => ?_)
  refine a_istore_n (pc := 13) (dk D 8 rfl) (by decide) rfl rfl ?_
  refine a_iload_n (pc := 14) (dk D 9 rfl) rfl ?_
  refine a_iconst (pc := 15) (dk D 10 rfl) (ik rfl) ?_
  refine a_icmp_ne (pc := 16) (dk D 11 rfl) (tgt := 52) rfl ⟨fun c => ?_, fun c => ?_⟩
  · replace H := H.1 c
    refine a_aload_n (pc := 52) (dk D 31 rfl) rfl ?_
    refine a_getr (r := 96) (pc := 53) (dk D 32 rfl) cls_12 fl_RX12_57 cf_85_28 ?_
    refine a_iload_n (pc := 56) (dk D 33 rfl) rfl ?_
    refine a_iald (pc := 57) (dk D 34 rfl) ar_97 ⟨H.1, ?_⟩
    replace H := H.2
    refine a_iload_n (pc := 58) (dk D 35 rfl) rfl ?_
    refine a_callSi (as := [iv r1]) (st := [iv (h2 97 ((h 85 10).tmod 64))]) (pc := 59) (dk D 36 rfl) cl_RX12_441 ⟨Nat.le_of_ble_eq_true rfl, Nat.le_of_ble_eq_true rfl⟩ ⟨Nat.le_of_ble_eq_true rfl, Nat.le_of_ble_eq_true rfl⟩ rfl rfl rfl (Nat.le_of_ble_eq_true rfl) (Call.mono H fun r3 h4 H => ?_)
    refine a_icmp_eq (pc := 62) (dk D 37 rfl) (tgt := 85) rfl ⟨fun c => ?_, fun c => ?_⟩
    · replace H := H.1 c
      exact a_vret (pc := 85) (dk D 50 rfl) rfl rfl H
    · replace H := H.2 c
      refine a_aload_n (pc := 65) (dk D 38 rfl) rfl ?_
      refine a_getr (r := 96) (pc := 66) (dk D 39 rfl) cls_12 fl_RX12_57 cf_85_28 ?_
      refine a_iload_n (pc := 69) (dk D 40 rfl) rfl ?_
      refine a_iload_n (pc := 70) (dk D 41 rfl) rfl ?_
      refine a_callSi (as := [iv r1]) (st := [iv ((h 85 10).tmod 64), rv 97]) (pc := 71) (dk D 42 rfl) cl_RX12_441 ⟨Nat.le_of_ble_eq_true rfl, Nat.le_of_ble_eq_true rfl⟩ ⟨Nat.le_of_ble_eq_true rfl, Nat.le_of_ble_eq_true rfl⟩ rfl rfl rfl (Nat.le_of_ble_eq_true rfl) (Call.mono H fun r5 h6 H => ?_)
      refine a_iast (pc := 74) (dk D 43 rfl) ar_97 ⟨H.1, ?_⟩
      replace H := H.2
      refine a_aload_n (pc := 75) (dk D 44 rfl) rfl ?_
      refine a_dup (pc := 76) (dk D 45 rfl) rfl ?_
      refine a_geti (pc := 77) (dk D 46 rfl) cls_12 fl_RX12_447 cf_85_29 ?_
      refine a_top (y := (h6 85 29)) (by simp [up, cpy]) ?_
      refine a_iconst (pc := 80) (dk D 47 rfl) (ik rfl) ?_
      refine a_iadd (pc := 81) (dk D 48 rfl) ?_
      refine a_puti (pc := 82) (dk D 49 rfl) cls_12 fl_RX12_447 cf_85_29 rfl rfl ?_
      exact a_vret (pc := 85) (dk D 50 rfl) rfl rfl H
  · replace H := H.2 c
    refine a_aload_n (pc := 19) (dk D 12 rfl) rfl ?_
    refine a_getr (r := 96) (pc := 20) (dk D 13 rfl) cls_12 fl_RX12_57 cf_85_28 ?_
    refine a_iload_n (pc := 23) (dk D 14 rfl) rfl ?_
    refine a_iconst (pc := 24) (dk D 15 rfl) (ik rfl) ?_
    refine a_callSi (as := [iv 0]) (st := [iv ((h 85 10).tmod 64), rv 97]) (pc := 25) (dk D 16 rfl) cl_RX12_441 ⟨Nat.le_of_ble_eq_true rfl, Nat.le_of_ble_eq_true rfl⟩ ⟨Nat.le_of_ble_eq_true rfl, Nat.le_of_ble_eq_true rfl⟩ rfl rfl rfl (Nat.le_of_ble_eq_true rfl) (Call.mono H fun r7 h8 H => ?_)
    refine a_iast (pc := 28) (dk D 17 rfl) ar_97 ⟨H.1, ?_⟩
    replace H := H.2
    refine a_aload_n (pc := 29) (dk D 18 rfl) rfl ?_
    refine a_dup (pc := 30) (dk D 19 rfl) rfl ?_
    refine a_geti (pc := 31) (dk D 20 rfl) cls_12 fl_RX12_444 cf_85_30 ?_
    refine a_top (y := (h8 85 30)) (by simp [up, cpy]) ?_
    refine a_iconst (pc := 34) (dk D 21 rfl) (ik rfl) ?_
    refine a_iadd (pc := 35) (dk D 22 rfl) ?_
    refine a_puti (pc := 36) (dk D 23 rfl) cls_12 fl_RX12_444 cf_85_30 rfl rfl ?_
    refine a_aload_n (pc := 39) (dk D 24 rfl) rfl ?_
    refine a_dup (pc := 40) (dk D 25 rfl) rfl ?_
    refine a_geti (pc := 41) (dk D 26 rfl) cls_12 fl_RX12_426 cf_85_22 ?_
    refine a_top (y := (h8 85 22)) (by simp [up, cpy]) ?_
    refine a_iconst (pc := 44) (dk D 27 rfl) (ik rfl) ?_
    refine a_iadd (pc := 45) (dk D 28 rfl) ?_
    refine a_puti (pc := 46) (dk D 29 rfl) cls_12 fl_RX12_426 cf_85_22 rfl rfl ?_
    refine a_goto (pc := 49) (dk D 30 rfl) (tgt := 85) rfl ?_
    exact a_vret (pc := 85) (dk D 50 rfl) rfl rfl H
set_option maxHeartbeats 40000000 in
theorem T_X12_goes_85_0 {G : GG} {Φ : Int → Hp → Prop} {h : Hp} {x1 : Int} (H : (0 ≤ x1 ∧ x1 < 8) ∧ (((h 116 x1) ≠ (-1) → (0 ≤ x1 ∧ x1 < 8) ∧ (((h 117 x1) ≤ 0 → AT G m_X12_goes 42 [(0, rv 85), (1, iv x1), (2, iv 0)] [] h Φ) ∧ (0 < (h 117 x1) → (0 ≤ x1 ∧ x1 < 8) ∧ (0 ≤ x1 ∧ x1 < 8) ∧ (0 ≤ x1 ∧ x1 < 8) ∧ (((w32 ((h 117 x1) - 1)) ≤ 0 → AT G m_X12_goes 42 [(0, rv 85), (1, iv x1), (2, iv 0)] [] (up h 117 x1 (w32 ((h 117 x1) - 1))) Φ) ∧ (0 < (w32 ((h 117 x1) - 1)) → Φ 0 (up h 117 x1 (w32 ((h 117 x1) - 1)))))))) ∧ ((h 116 x1) = (-1) → Φ 0 h))) : AT G m_X12_goes 0 [(0, rv 85), (1, iv x1)] [] h Φ := by
  have D := dt_X12_goes
  refine a_aload_n (pc := 0) (dk D 0 rfl) rfl ?_
  refine a_getr (r := 115) (pc := 1) (dk D 1 rfl) cls_12 fl_RX12_177 cf_85_49 ?_
  refine a_iload_n (pc := 4) (dk D 2 rfl) rfl ?_
  refine a_iald (pc := 5) (dk D 3 rfl) ar_116 ⟨H.1, ?_⟩
  replace H := H.2
  refine a_iconst (pc := 6) (dk D 4 rfl) (ik rfl) ?_
  refine a_icmp_ne (pc := 7) (dk D 5 rfl) (tgt := 11) rfl ⟨fun c => ?_, fun c => ?_⟩
  · replace H := H.1 c
    refine a_aload_n (pc := 11) (dk D 7 rfl) rfl ?_
    refine a_getr (r := 116) (pc := 12) (dk D 8 rfl) cls_12 fl_RX12_180 cf_85_50 ?_
    refine a_iload_n (pc := 15) (dk D 9 rfl) rfl ?_
    refine a_iald (pc := 16) (dk D 10 rfl) ar_117 ⟨H.1, ?_⟩
    replace H := H.2
    refine a_if_le (pc := 17) (dk D 11 rfl) (tgt := 40) rfl ⟨fun c => ?_, fun c => ?_⟩
    · replace H := H.1 c
      refine a_iconst (pc := 40) (dk D 26 rfl) (ik rfl) ?_
      refine a_istore_n (pc := 41) (dk D 27 rfl) (by decide) rfl rfl ?_
      exact a_pick [0, 1, 2] rfl H
    · replace H := H.2 c
      refine a_aload_n (pc := 20) (dk D 12 rfl) rfl ?_
      refine a_getr (r := 116) (pc := 21) (dk D 13 rfl) cls_12 fl_RX12_180 cf_85_50 ?_
      refine a_iload_n (pc := 24) (dk D 14 rfl) rfl ?_
      refine a_dup2 (pc := 25) (dk D 15 rfl) rfl rfl ?_
      refine a_iald (pc := 26) (dk D 16 rfl) ar_117 ⟨H.1, ?_⟩
      replace H := H.2
      refine a_iconst (pc := 27) (dk D 17 rfl) (ik rfl) ?_
      refine a_isub (pc := 28) (dk D 18 rfl) ?_
      refine a_iast (pc := 29) (dk D 19 rfl) ar_117 ⟨H.1, ?_⟩
      replace H := H.2
      refine a_aload_n (pc := 30) (dk D 20 rfl) rfl ?_
      refine a_getr (r := 116) (pc := 31) (dk D 21 rfl) cls_12 fl_RX12_180 cf_85_50 ?_
      refine a_iload_n (pc := 34) (dk D 22 rfl) rfl ?_
      refine a_iald (pc := 35) (dk D 23 rfl) ar_117 ⟨H.1, ?_⟩
      replace H := H.2
      refine a_top (y := (w32 ((h 117 x1) - 1))) (by simp [up, cpy]) ?_
      refine a_if_le (pc := 36) (dk D 24 rfl) (tgt := 40) rfl ⟨fun c => ?_, fun c => ?_⟩
      · replace H := H.1 c
        refine a_iconst (pc := 40) (dk D 26 rfl) (ik rfl) ?_
        refine a_istore_n (pc := 41) (dk D 27 rfl) (by decide) rfl rfl ?_
        exact a_pick [0, 1, 2] rfl H
      · replace H := H.2 c
        exact a_vret (pc := 39) (dk D 25 rfl) rfl rfl H
  · replace H := H.2 c
    exact a_vret (pc := 10) (dk D 6 rfl) rfl rfl H
set_option maxHeartbeats 40000000 in
theorem T_X12_goes_85_42 {G : GG} {Φ : Int → Hp → Prop} {h : Hp} {x1 : Int} {x2 : Int} (H : ((8 ≤ x2 → Φ 0 h) ∧ (x2 < 8 → (0 ≤ x1 ∧ x1 < 8) ∧ (((h 116 x1) = (-1) → Φ 0 h) ∧ ((h 116 x1) ≠ (-1) → (0 ≤ x1 ∧ x1 < 8) ∧ (((h 117 x1) ≠ 0 → Φ 0 h) ∧ ((h 117 x1) = 0 → (0 ≤ x1 ∧ x1 < 8) ∧ (0 ≤ x1 ∧ x1 < 8) ∧ (0 ≤ x1 ∧ x1 < 8) ∧ (((h 115 x1) ≤ (h 116 x1) → (0 ≤ x1 ∧ x1 < 8) ∧ AT G m_X12_goes 42 [(0, rv 85), (1, iv x1), (2, iv (w32 (x2 + 1)))] [] (up h 116 x1 (-1)) Φ) ∧ ((h 116 x1) < (h 115 x1) → (0 ≤ (w32 ((w32 (30 * x1)) + (h 116 x1))) ∧ (w32 ((w32 (30 * x1)) + (h 116 x1))) < 260) ∧ (((h 103 (w32 ((w32 (30 * x1)) + (h 116 x1)))) ≠ 12 → (0 ≤ x1 ∧ x1 < 8) ∧ (0 ≤ (w32 ((w32 (30 * x1)) + (h 116 x1))) ∧ (w32 ((w32 (30 * x1)) + (h 116 x1))) < 260) ∧ (((h 103 (w32 ((w32 (30 * x1)) + (h 116 x1)))) = 3 → Call G m_X12_holds [rv 85, iv (w32 ((w32 (30 * x1)) + (h 116 x1)))] (up h 85 57 0) (fun r1 h2 => (((h2 85 57) = 0 → (0 ≤ (w32 ((w32 (30 * x1)) + (h 116 x1))) ∧ (w32 ((w32 (30 * x1)) + (h 116 x1))) < 260) ∧ ((((h2 103 (w32 ((w32 (30 * x1)) + (h 116 x1)))) = 2) → (0 ≤ x1 ∧ x1 < 8) ∧ (0 ≤ (w32 ((w32 (30 * x1)) + (h 116 x1))) ∧ (w32 ((w32 (30 * x1)) + (h 116 x1))) < 260) ∧ (0 ≤ x1 ∧ x1 < 8) ∧ AT G m_X12_goes 42 [(0, rv 85), (1, iv x1), (2, iv (w32 (x2 + 1)))] [] (up (up h2 116 x1 (w32 ((h 116 x1) + 1))) 117 x1 (h2 105 (w32 ((w32 (30 * x1)) + (h 116 x1))))) Φ) ∧ (((h2 103 (w32 ((w32 (30 * x1)) + (h 116 x1)))) = 3) → ((r1 ≠ 0 → (0 ≤ x1 ∧ x1 < 8) ∧ AT G m_X12_goes 42 [(0, rv 85), (1, iv x1), (2, iv (w32 (x2 + 1)))] [] (up h2 116 x1 (w32 ((h 116 x1) + 1))) Φ) ∧ (r1 = 0 → Φ 0 h2))) ∧ (((h2 103 (w32 ((w32 (30 * x1)) + (h 116 x1)))) = 4) → ((r1 = 0 → (0 ≤ x1 ∧ x1 < 8) ∧ AT G m_X12_goes 42 [(0, rv 85), (1, iv x1), (2, iv (w32 (x2 + 1)))] [] (up h2 116 x1 (w32 ((h 116 x1) + 1))) Φ) ∧ (r1 ≠ 0 → (0 ≤ (w32 ((w32 (30 * x1)) + (h 116 x1))) ∧ (w32 ((w32 (30 * x1)) + (h 116 x1))) < 260) ∧ (0 ≤ x1 ∧ x1 < 8) ∧ AT G m_X12_goes 42 [(0, rv 85), (1, iv x1), (2, iv (w32 (x2 + 1)))] [] (up h2 116 x1 (h2 105 (w32 ((w32 (30 * x1)) + (h 116 x1))))) Φ))) ∧ (((h2 103 (w32 ((w32 (30 * x1)) + (h 116 x1)))) = 5) → (0 ≤ (w32 ((w32 (30 * x1)) + (h 116 x1))) ∧ (w32 ((w32 (30 * x1)) + (h 116 x1))) < 260) ∧ (0 ≤ x1 ∧ x1 < 8) ∧ AT G m_X12_goes 42 [(0, rv 85), (1, iv x1), (2, iv (w32 (x2 + 1)))] [] (up h2 116 x1 (h2 105 (w32 ((w32 (30 * x1)) + (h 116 x1))))) Φ) ∧ ((((h2 103 (w32 ((w32 (30 * x1)) + (h 116 x1)))) < 2 ∨ 5 < (h2 103 (w32 ((w32 (30 * x1)) + (h 116 x1)))))) → (0 ≤ x1 ∧ x1 < 8) ∧ Call G m_X12_act [rv 85, iv (w32 ((w32 (30 * x1)) + (h 116 x1)))] (up h2 116 x1 (w32 ((h 116 x1) + 1))) (fun r3 h4 => ((r3 ≠ 0 → AT G m_X12_goes 42 [(0, rv 85), (1, iv x1), (2, iv (w32 (x2 + 1)))] [] h4 Φ) ∧ (r3 = 0 → (0 ≤ x1 ∧ x1 < 8) ∧ AT G m_X12_goes 42 [(0, rv 85), (1, iv x1), (2, iv (w32 (x2 + 1)))] [] (up h4 116 x1 (-1)) Φ)))))) ∧ ((h2 85 57) ≠ 0 → (0 ≤ x1 ∧ x1 < 8) ∧ AT G m_X12_goes 42 [(0, rv 85), (1, iv x1), (2, iv (w32 (x2 + 1)))] [] (up (up h2 85 22 (w32 ((h2 85 22) + 1))) 116 x1 (-1)) Φ)))) ∧ ((h 103 (w32 ((w32 (30 * x1)) + (h 116 x1)))) ≠ 3 → (0 ≤ (w32 ((w32 (30 * x1)) + (h 116 x1))) ∧ (w32 ((w32 (30 * x1)) + (h 116 x1))) < 260) ∧ (((h 103 (w32 ((w32 (30 * x1)) + (h 116 x1)))) ≠ 4 → (0 ≤ (w32 ((w32 (30 * x1)) + (h 116 x1))) ∧ (w32 ((w32 (30 * x1)) + (h 116 x1))) < 260) ∧ ((((h 103 (w32 ((w32 (30 * x1)) + (h 116 x1)))) = 2) → (0 ≤ x1 ∧ x1 < 8) ∧ (0 ≤ (w32 ((w32 (30 * x1)) + (h 116 x1))) ∧ (w32 ((w32 (30 * x1)) + (h 116 x1))) < 260) ∧ (0 ≤ x1 ∧ x1 < 8) ∧ AT G m_X12_goes 42 [(0, rv 85), (1, iv x1), (2, iv (w32 (x2 + 1)))] [] (up (up (up h 85 57 0) 116 x1 (w32 ((h 116 x1) + 1))) 117 x1 (h 105 (w32 ((w32 (30 * x1)) + (h 116 x1))))) Φ) ∧ (((h 103 (w32 ((w32 (30 * x1)) + (h 116 x1)))) = 3) → Φ 0 (up h 85 57 0)) ∧ (((h 103 (w32 ((w32 (30 * x1)) + (h 116 x1)))) = 4) → (0 ≤ x1 ∧ x1 < 8) ∧ AT G m_X12_goes 42 [(0, rv 85), (1, iv x1), (2, iv (w32 (x2 + 1)))] [] (up (up h 85 57 0) 116 x1 (w32 ((h 116 x1) + 1))) Φ) ∧ (((h 103 (w32 ((w32 (30 * x1)) + (h 116 x1)))) = 5) → (0 ≤ (w32 ((w32 (30 * x1)) + (h 116 x1))) ∧ (w32 ((w32 (30 * x1)) + (h 116 x1))) < 260) ∧ (0 ≤ x1 ∧ x1 < 8) ∧ AT G m_X12_goes 42 [(0, rv 85), (1, iv x1), (2, iv (w32 (x2 + 1)))] [] (up (up h 85 57 0) 116 x1 (h 105 (w32 ((w32 (30 * x1)) + (h 116 x1))))) Φ) ∧ ((((h 103 (w32 ((w32 (30 * x1)) + (h 116 x1)))) < 2 ∨ 5 < (h 103 (w32 ((w32 (30 * x1)) + (h 116 x1)))))) → (0 ≤ x1 ∧ x1 < 8) ∧ Call G m_X12_act [rv 85, iv (w32 ((w32 (30 * x1)) + (h 116 x1)))] (up (up h 85 57 0) 116 x1 (w32 ((h 116 x1) + 1))) (fun r5 h6 => ((r5 ≠ 0 → AT G m_X12_goes 42 [(0, rv 85), (1, iv x1), (2, iv (w32 (x2 + 1)))] [] h6 Φ) ∧ (r5 = 0 → (0 ≤ x1 ∧ x1 < 8) ∧ AT G m_X12_goes 42 [(0, rv 85), (1, iv x1), (2, iv (w32 (x2 + 1)))] [] (up h6 116 x1 (-1)) Φ)))))) ∧ ((h 103 (w32 ((w32 (30 * x1)) + (h 116 x1)))) = 4 → Call G m_X12_holds [rv 85, iv (w32 ((w32 (30 * x1)) + (h 116 x1)))] (up h 85 57 0) (fun r7 h8 => (((h8 85 57) = 0 → (0 ≤ (w32 ((w32 (30 * x1)) + (h 116 x1))) ∧ (w32 ((w32 (30 * x1)) + (h 116 x1))) < 260) ∧ ((((h8 103 (w32 ((w32 (30 * x1)) + (h 116 x1)))) = 2) → (0 ≤ x1 ∧ x1 < 8) ∧ (0 ≤ (w32 ((w32 (30 * x1)) + (h 116 x1))) ∧ (w32 ((w32 (30 * x1)) + (h 116 x1))) < 260) ∧ (0 ≤ x1 ∧ x1 < 8) ∧ AT G m_X12_goes 42 [(0, rv 85), (1, iv x1), (2, iv (w32 (x2 + 1)))] [] (up (up h8 116 x1 (w32 ((h 116 x1) + 1))) 117 x1 (h8 105 (w32 ((w32 (30 * x1)) + (h 116 x1))))) Φ) ∧ (((h8 103 (w32 ((w32 (30 * x1)) + (h 116 x1)))) = 3) → ((r7 ≠ 0 → (0 ≤ x1 ∧ x1 < 8) ∧ AT G m_X12_goes 42 [(0, rv 85), (1, iv x1), (2, iv (w32 (x2 + 1)))] [] (up h8 116 x1 (w32 ((h 116 x1) + 1))) Φ) ∧ (r7 = 0 → Φ 0 h8))) ∧ (((h8 103 (w32 ((w32 (30 * x1)) + (h 116 x1)))) = 4) → ((r7 = 0 → (0 ≤ x1 ∧ x1 < 8) ∧ AT G m_X12_goes 42 [(0, rv 85), (1, iv x1), (2, iv (w32 (x2 + 1)))] [] (up h8 116 x1 (w32 ((h 116 x1) + 1))) Φ) ∧ (r7 ≠ 0 → (0 ≤ (w32 ((w32 (30 * x1)) + (h 116 x1))) ∧ (w32 ((w32 (30 * x1)) + (h 116 x1))) < 260) ∧ (0 ≤ x1 ∧ x1 < 8) ∧ AT G m_X12_goes 42 [(0, rv 85), (1, iv x1), (2, iv (w32 (x2 + 1)))] [] (up h8 116 x1 (h8 105 (w32 ((w32 (30 * x1)) + (h 116 x1))))) Φ))) ∧ (((h8 103 (w32 ((w32 (30 * x1)) + (h 116 x1)))) = 5) → (0 ≤ (w32 ((w32 (30 * x1)) + (h 116 x1))) ∧ (w32 ((w32 (30 * x1)) + (h 116 x1))) < 260) ∧ (0 ≤ x1 ∧ x1 < 8) ∧ AT G m_X12_goes 42 [(0, rv 85), (1, iv x1), (2, iv (w32 (x2 + 1)))] [] (up h8 116 x1 (h8 105 (w32 ((w32 (30 * x1)) + (h 116 x1))))) Φ) ∧ ((((h8 103 (w32 ((w32 (30 * x1)) + (h 116 x1)))) < 2 ∨ 5 < (h8 103 (w32 ((w32 (30 * x1)) + (h 116 x1)))))) → (0 ≤ x1 ∧ x1 < 8) ∧ Call G m_X12_act [rv 85, iv (w32 ((w32 (30 * x1)) + (h 116 x1)))] (up h8 116 x1 (w32 ((h 116 x1) + 1))) (fun r9 h10 => ((r9 ≠ 0 → AT G m_X12_goes 42 [(0, rv 85), (1, iv x1), (2, iv (w32 (x2 + 1)))] [] h10 Φ) ∧ (r9 = 0 → (0 ≤ x1 ∧ x1 < 8) ∧ AT G m_X12_goes 42 [(0, rv 85), (1, iv x1), (2, iv (w32 (x2 + 1)))] [] (up h10 116 x1 (-1)) Φ)))))) ∧ ((h8 85 57) ≠ 0 → (0 ≤ x1 ∧ x1 < 8) ∧ AT G m_X12_goes 42 [(0, rv 85), (1, iv x1), (2, iv (w32 (x2 + 1)))] [] (up (up h8 85 22 (w32 ((h8 85 22) + 1))) 116 x1 (-1)) Φ)))))))) ∧ ((h 103 (w32 ((w32 (30 * x1)) + (h 116 x1)))) = 12 → (0 ≤ x1 ∧ x1 < 8) ∧ AT G m_X12_goes 42 [(0, rv 85), (1, iv x1), (2, iv (w32 (x2 + 1)))] [] (up h 116 x1 (-1)) Φ))))))))))) : AT G m_X12_goes 42 [(0, rv 85), (1, iv x1), (2, iv x2)] [] h Φ := by
  have D := dt_X12_goes
  refine a_iload_n (pc := 42) (dk D 28 rfl) rfl ?_
  refine a_bipush (pc := 43) (dk D 29 rfl) (ik rfl) (bpk rfl) ?_
  refine a_icmp_ge (pc := 45) (dk D 30 rfl) (tgt := 337) rfl ⟨fun c => ?_, fun c => ?_⟩
  · replace H := H.1 c
    exact a_vret (pc := 337) (dk D 187 rfl) rfl rfl H
  · replace H := H.2 c
    refine a_aload_n (pc := 48) (dk D 31 rfl) rfl ?_
    refine a_getr (r := 115) (pc := 49) (dk D 32 rfl) cls_12 fl_RX12_177 cf_85_49 ?_
    refine a_iload_n (pc := 52) (dk D 33 rfl) rfl ?_
    refine a_iald (pc := 53) (dk D 34 rfl) ar_116 ⟨H.1, ?_⟩
    replace H := H.2
    refine a_iconst (pc := 54) (dk D 35 rfl) (ik rfl) ?_
    refine a_icmp_eq (pc := 55) (dk D 36 rfl) (tgt := 337) rfl ⟨fun c => ?_, fun c => ?_⟩
    · replace H := H.1 c
      exact a_vret (pc := 337) (dk D 187 rfl) rfl rfl H
    · replace H := H.2 c
      refine a_aload_n (pc := 58) (dk D 37 rfl) rfl ?_
      refine a_getr (r := 116) (pc := 59) (dk D 38 rfl) cls_12 fl_RX12_180 cf_85_50 ?_
      refine a_iload_n (pc := 62) (dk D 39 rfl) rfl ?_
      refine a_iald (pc := 63) (dk D 40 rfl) ar_117 ⟨H.1, ?_⟩
      replace H := H.2
      refine a_if_ne (pc := 64) (dk D 41 rfl) (tgt := 337) rfl ⟨fun c => ?_, fun c => ?_⟩
      · replace H := H.1 c
        exact a_vret (pc := 337) (dk D 187 rfl) rfl rfl H
      · replace H := H.2 c
        refine a_bipush (pc := 67) (dk D 42 rfl) (ik rfl) (bpk rfl) ?_
        refine a_iload_n (pc := 69) (dk D 43 rfl) rfl ?_
        refine a_imul (pc := 70) (dk D 44 rfl) ?_
        refine a_aload_n (pc := 71) (dk D 45 rfl) rfl ?_
        refine a_getr (r := 115) (pc := 72) (dk D 46 rfl) cls_12 fl_RX12_177 cf_85_49 ?_
        refine a_iload_n (pc := 75) (dk D 47 rfl) rfl ?_
        refine a_iald (pc := 76) (dk D 48 rfl) ar_116 ⟨H.1, ?_⟩
        replace H := H.2
        refine a_iadd (pc := 77) (dk D 49 rfl) ?_
        refine a_istore_n (pc := 78) (dk D 50 rfl) (by decide) rfl rfl ?_
        refine a_aload_n (pc := 79) (dk D 51 rfl) rfl ?_
        refine a_getr (r := 115) (pc := 80) (dk D 52 rfl) cls_12 fl_RX12_177 cf_85_49 ?_
        refine a_iload_n (pc := 83) (dk D 53 rfl) rfl ?_
        refine a_iald (pc := 84) (dk D 54 rfl) ar_116 ⟨H.1, ?_⟩
        replace H := H.2
        refine a_aload_n (pc := 85) (dk D 55 rfl) rfl ?_
        refine a_getr (r := 114) (pc := 86) (dk D 56 rfl) cls_12 fl_RX12_174 cf_85_48 ?_
        refine a_iload_n (pc := 89) (dk D 57 rfl) rfl ?_
        refine a_iald (pc := 90) (dk D 58 rfl) ar_115 ⟨H.1, ?_⟩
        replace H := H.2
        refine a_icmp_ge (pc := 91) (dk D 59 rfl) (tgt := 105) rfl ⟨fun c => ?_, fun c => ?_⟩
        · replace H := H.1 c
          refine a_aload_n (pc := 105) (dk D 66 rfl) rfl ?_
          refine a_getr (r := 115) (pc := 106) (dk D 67 rfl) cls_12 fl_RX12_177 cf_85_49 ?_
          refine a_iload_n (pc := 109) (dk D 68 rfl) rfl ?_
          refine a_iconst (pc := 110) (dk D 69 rfl) (ik rfl) ?_
          refine a_iast (pc := 111) (dk D 70 rfl) ar_116 ⟨H.1, ?_⟩
          replace H := H.2
          refine a_goto (pc := 112) (dk D 71 rfl) (tgt := 331) rfl ?_
          refine a_iinc (pc := 331) (dk D 185 rfl) (by decide) rfl rfl rfl ?_
          refine a_goto (pc := 334) (dk D 186 rfl) (tgt := 42) rfl ?_
          exact a_pick [0, 1, 2] rfl H
        · replace H := H.2 c
          refine a_aload_n (pc := 94) (dk D 60 rfl) rfl ?_
          refine a_getr (r := 102) (pc := 95) (dk D 61 rfl) cls_12 fl_RX12_138 cf_85_36 ?_
          refine a_iload_n (pc := 98) (dk D 62 rfl) rfl ?_
          refine a_iald (pc := 99) (dk D 63 rfl) ar_103 ⟨H.1, ?_⟩
          replace H := H.2
          refine a_bipush (pc := 100) (dk D 64 rfl) (ik rfl) (bpk rfl) ?_
          refine a_icmp_ne (pc := 102) (dk D 65 rfl) (tgt := 115) rfl ⟨fun c => ?_, fun c => ?_⟩
          · replace H := H.1 c
            refine a_aload_n (pc := 115) (dk D 72 rfl) rfl ?_
            refine a_getr (r := 115) (pc := 116) (dk D 73 rfl) cls_12 fl_RX12_177 cf_85_49 ?_
            refine a_iload_n (pc := 119) (dk D 74 rfl) rfl ?_
            refine a_iald (pc := 120) (dk D 75 rfl) ar_116 ⟨H.1, ?_⟩
            replace H := H.2
            refine a_istore (pc := 121) (dk D 76 rfl) (by decide) rfl rfl ?_
            refine a_iconst (pc := 123) (dk D 77 rfl) (ik rfl) ?_
            refine a_istore (pc := 124) (dk D 78 rfl) (by decide) rfl rfl ?_
            refine a_aload_n (pc := 126) (dk D 79 rfl) rfl ?_
            refine a_iconst (pc := 127) (dk D 80 rfl) (ik rfl) ?_
            refine a_putz (pc := 128) (dk D 81 rfl) cls_12 fl_RX12_474 cf_85_57 rfl rfl ⟨by decide, ?_⟩
            refine a_aload_n (pc := 131) (dk D 82 rfl) rfl ?_
            refine a_getr (r := 102) (pc := 132) (dk D 83 rfl) cls_12 fl_RX12_138 cf_85_36 ?_
            refine a_iload_n (pc := 135) (dk D 84 rfl) rfl ?_
            refine a_iald (pc := 136) (dk D 85 rfl) ar_103 ⟨H.1, ?_⟩
            replace H := H.2
            refine a_top (y := (h 103 (w32 ((w32 (30 * x1)) + (h 116 x1))))) (by simp [up, cpy]) ?_
            refine a_iconst (pc := 137) (dk D 86 rfl) (ik rfl) ?_
            refine a_icmp_eq (pc := 138) (dk D 87 rfl) (tgt := 151) rfl ⟨fun c => ?_, fun c => ?_⟩
            · replace H := H.1 c
              refine a_aload_n (pc := 151) (dk D 94 rfl) rfl ?_
              refine a_iload_n (pc := 152) (dk D 95 rfl) rfl ?_
              refine a_callVi (as := [iv (w32 ((w32 (30 * x1)) + (h 116 x1)))]) (st := []) (pc := 153) (dk D 96 rfl) cl_RX12_489 ⟨Nat.le_of_ble_eq_true rfl, Nat.le_of_ble_eq_true rfl⟩ ⟨Nat.le_of_ble_eq_true rfl, Nat.le_of_ble_eq_true rfl⟩ cls_12 rfl cc_85 rfl rfl rfl (Nat.le_of_ble_eq_true rfl) (Call.mono H fun r1 h2 H => ?_)
              refine a_istore (pc := 156) (dk D 97 rfl) (by decide) rfl rfl ?_
              refine a_aload_n (pc := 158) (dk D 98 rfl) rfl ?_
              refine a_geti (pc := 159) (dk D 99 rfl) cls_12 fl_RX12_474 cf_85_57 ?_
              refine a_if_eq (pc := 162) (dk D 100 rfl) (tgt := 185) rfl ⟨fun c => ?_, fun c => ?_⟩
              · replace H := H.1 c
                refine a_aload_n (pc := 185) (dk D 113 rfl) rfl ?_
                refine a_getr (r := 102) (pc := 186) (dk D 114 rfl) cls_12 fl_RX12_138 cf_85_36 ?_
                refine a_iload_n (pc := 189) (dk D 115 rfl) rfl ?_
                refine a_iald (pc := 190) (dk D 116 rfl) ar_103 ⟨H.1, ?_⟩
                replace H := H.2
                have B0 : ((h2 103 (w32 ((w32 (30 * x1)) + (h 116 x1)))) = 2) → AT G m_X12_goes 220 [(0, rv 85), (1, iv x1), (2, iv x2), (3, iv (w32 ((w32 (30 * x1)) + (h 116 x1)))), (4, iv (h 116 x1)), (5, iv r1)] [] h2 Φ := by
                  intro c
                  replace H := H.1 c
                  refine a_aload_n (pc := 220) (dk D 118 rfl) rfl ?_
                  refine a_getr (r := 115) (pc := 221) (dk D 119 rfl) cls_12 fl_RX12_177 cf_85_49 ?_
                  refine a_iload_n (pc := 224) (dk D 120 rfl) rfl ?_
                  refine a_iload (pc := 225) (dk D 121 rfl) rfl ?_
                  refine a_iconst (pc := 227) (dk D 122 rfl) (ik rfl) ?_
                  refine a_iadd (pc := 228) (dk D 123 rfl) ?_
                  refine a_iast (pc := 229) (dk D 124 rfl) ar_116 ⟨H.1, ?_⟩
                  replace H := H.2
                  refine a_aload_n (pc := 230) (dk D 125 rfl) rfl ?_
                  refine a_getr (r := 116) (pc := 231) (dk D 126 rfl) cls_12 fl_RX12_180 cf_85_50 ?_
                  refine a_iload_n (pc := 234) (dk D 127 rfl) rfl ?_
                  refine a_aload_n (pc := 235) (dk D 128 rfl) rfl ?_
                  refine a_getr (r := 104) (pc := 236) (dk D 129 rfl) cls_12 fl_RX12_144 cf_85_38 ?_
                  refine a_iload_n (pc := 239) (dk D 130 rfl) rfl ?_
                  refine a_iald (pc := 240) (dk D 131 rfl) ar_105 ⟨H.1, ?_⟩
                  replace H := H.2
                  refine a_top (y := (h2 105 (w32 ((w32 (30 * x1)) + (h 116 x1))))) (by simp [up, cpy]) ?_
                  refine a_iast (pc := 241) (dk D 132 rfl) ar_117 ⟨H.1, ?_⟩
                  replace H := H.2
                  refine a_goto (pc := 242) (dk D 133 rfl) (tgt := 331) rfl ?_
                  refine a_iinc (pc := 331) (dk D 185 rfl) (by decide) rfl rfl rfl ?_
                  refine a_goto (pc := 334) (dk D 186 rfl) (tgt := 42) rfl ?_
                  exact a_pick [0, 1, 2] rfl H
                have B1 : ((h2 103 (w32 ((w32 (30 * x1)) + (h 116 x1)))) = 3) → AT G m_X12_goes 245 [(0, rv 85), (1, iv x1), (2, iv x2), (3, iv (w32 ((w32 (30 * x1)) + (h 116 x1)))), (4, iv (h 116 x1)), (5, iv r1)] [] h2 Φ := by
                  intro c
                  replace H := H.2.1 c
                  refine a_iload (pc := 245) (dk D 134 rfl) rfl ?_
                  refine a_if_ne (pc := 247) (dk D 135 rfl) (tgt := 251) rfl ⟨fun c => ?_, fun c => ?_⟩
                  · replace H := H.1 c
                    refine a_aload_n (pc := 251) (dk D 137 rfl) rfl ?_
                    refine a_getr (r := 115) (pc := 252) (dk D 138 rfl) cls_12 fl_RX12_177 cf_85_49 ?_
                    refine a_iload_n (pc := 255) (dk D 139 rfl) rfl ?_
                    refine a_iload (pc := 256) (dk D 140 rfl) rfl ?_
                    refine a_iconst (pc := 258) (dk D 141 rfl) (ik rfl) ?_
                    refine a_iadd (pc := 259) (dk D 142 rfl) ?_
                    refine a_iast (pc := 260) (dk D 143 rfl) ar_116 ⟨H.1, ?_⟩
                    replace H := H.2
                    refine a_goto (pc := 261) (dk D 144 rfl) (tgt := 331) rfl ?_
                    refine a_iinc (pc := 331) (dk D 185 rfl) (by decide) rfl rfl rfl ?_
                    refine a_goto (pc := 334) (dk D 186 rfl) (tgt := 42) rfl ?_
                    exact a_pick [0, 1, 2] rfl H
                  · replace H := H.2 c
                    exact a_vret (pc := 250) (dk D 136 rfl) rfl rfl H
                have B2 : ((h2 103 (w32 ((w32 (30 * x1)) + (h 116 x1)))) = 4) → AT G m_X12_goes 264 [(0, rv 85), (1, iv x1), (2, iv x2), (3, iv (w32 ((w32 (30 * x1)) + (h 116 x1)))), (4, iv (h 116 x1)), (5, iv r1)] [] h2 Φ := by
                  intro c
                  replace H := H.2.2.1 c
                  refine a_aload_n (pc := 264) (dk D 145 rfl) rfl ?_
                  refine a_getr (r := 115) (pc := 265) (dk D 146 rfl) cls_12 fl_RX12_177 cf_85_49 ?_
                  refine a_iload_n (pc := 268) (dk D 147 rfl) rfl ?_
                  refine a_iload (pc := 269) (dk D 148 rfl) rfl ?_
                  refine a_if_eq (pc := 271) (dk D 149 rfl) (tgt := 283) rfl ⟨fun c => ?_, fun c => ?_⟩
                  · replace H := H.1 c
                    refine a_iload (pc := 283) (dk D 155 rfl) rfl ?_
                    refine a_iconst (pc := 285) (dk D 156 rfl) (ik rfl) ?_
                    refine a_iadd (pc := 286) (dk D 157 rfl) ?_
                    refine a_iast (pc := 287) (dk D 158 rfl) ar_116 ⟨H.1, ?_⟩
                    replace H := H.2
                    refine a_goto (pc := 288) (dk D 159 rfl) (tgt := 331) rfl ?_
                    refine a_iinc (pc := 331) (dk D 185 rfl) (by decide) rfl rfl rfl ?_
                    refine a_goto (pc := 334) (dk D 186 rfl) (tgt := 42) rfl ?_
                    exact a_pick [0, 1, 2] rfl H
                  · replace H := H.2 c
                    refine a_aload_n (pc := 274) (dk D 150 rfl) rfl ?_
                    refine a_getr (r := 104) (pc := 275) (dk D 151 rfl) cls_12 fl_RX12_144 cf_85_38 ?_
                    refine a_iload_n (pc := 278) (dk D 152 rfl) rfl ?_
                    refine a_iald (pc := 279) (dk D 153 rfl) ar_105 ⟨H.1, ?_⟩
                    replace H := H.2
                    refine a_goto (pc := 280) (dk D 154 rfl) (tgt := 287) rfl ?_
                    refine a_iast (pc := 287) (dk D 158 rfl) ar_116 ⟨H.1, ?_⟩
                    replace H := H.2
                    refine a_goto (pc := 288) (dk D 159 rfl) (tgt := 331) rfl ?_
                    refine a_iinc (pc := 331) (dk D 185 rfl) (by decide) rfl rfl rfl ?_
                    refine a_goto (pc := 334) (dk D 186 rfl) (tgt := 42) rfl ?_
                    exact a_pick [0, 1, 2] rfl H
                have B3 : ((h2 103 (w32 ((w32 (30 * x1)) + (h 116 x1)))) = 5) → AT G m_X12_goes 291 [(0, rv 85), (1, iv x1), (2, iv x2), (3, iv (w32 ((w32 (30 * x1)) + (h 116 x1)))), (4, iv (h 116 x1)), (5, iv r1)] [] h2 Φ := by
                  intro c
                  replace H := H.2.2.2.1 c
                  refine a_aload_n (pc := 291) (dk D 160 rfl) rfl ?_
                  refine a_getr (r := 115) (pc := 292) (dk D 161 rfl) cls_12 fl_RX12_177 cf_85_49 ?_
                  refine a_iload_n (pc := 295) (dk D 162 rfl) rfl ?_
                  refine a_aload_n (pc := 296) (dk D 163 rfl) rfl ?_
                  refine a_getr (r := 104) (pc := 297) (dk D 164 rfl) cls_12 fl_RX12_144 cf_85_38 ?_
                  refine a_iload_n (pc := 300) (dk D 165 rfl) rfl ?_
                  refine a_iald (pc := 301) (dk D 166 rfl) ar_105 ⟨H.1, ?_⟩
                  replace H := H.2
                  refine a_iast (pc := 302) (dk D 167 rfl) ar_116 ⟨H.1, ?_⟩
                  replace H := H.2
                  refine a_goto (pc := 303) (dk D 168 rfl) (tgt := 331) rfl ?_
                  refine a_iinc (pc := 331) (dk D 185 rfl) (by decide) rfl rfl rfl ?_
                  refine a_goto (pc := 334) (dk D 186 rfl) (tgt := 42) rfl ?_
                  exact a_pick [0, 1, 2] rfl H
                have BD : (((h2 103 (w32 ((w32 (30 * x1)) + (h 116 x1)))) < 2 ∨ 5 < (h2 103 (w32 ((w32 (30 * x1)) + (h 116 x1)))))) → AT G m_X12_goes 306 [(0, rv 85), (1, iv x1), (2, iv x2), (3, iv (w32 ((w32 (30 * x1)) + (h 116 x1)))), (4, iv (h 116 x1)), (5, iv r1)] [] h2 Φ := by
                  intro c
                  replace H := H.2.2.2.2 c
                  refine a_aload_n (pc := 306) (dk D 169 rfl) rfl ?_
                  refine a_getr (r := 115) (pc := 307) (dk D 170 rfl) cls_12 fl_RX12_177 cf_85_49 ?_
                  refine a_iload_n (pc := 310) (dk D 171 rfl) rfl ?_
                  refine a_iload (pc := 311) (dk D 172 rfl) rfl ?_
                  refine a_iconst (pc := 313) (dk D 173 rfl) (ik rfl) ?_
                  refine a_iadd (pc := 314) (dk D 174 rfl) ?_
                  refine a_iast (pc := 315) (dk D 175 rfl) ar_116 ⟨H.1, ?_⟩
                  replace H := H.2
                  refine a_aload_n (pc := 316) (dk D 176 rfl) rfl ?_
                  refine a_iload_n (pc := 317) (dk D 177 rfl) rfl ?_
                  refine a_callVi (as := [iv (w32 ((w32 (30 * x1)) + (h 116 x1)))]) (st := []) (pc := 318) (dk D 178 rfl) cl_RX12_492 ⟨Nat.le_of_ble_eq_true rfl, Nat.le_of_ble_eq_true rfl⟩ ⟨Nat.le_of_ble_eq_true rfl, Nat.le_of_ble_eq_true rfl⟩ cls_12 rfl cc_85 rfl rfl rfl (Nat.le_of_ble_eq_true rfl) (Call.mono H fun r3 h4 H => ?_)
                  refine a_if_ne (pc := 321) (dk D 179 rfl) (tgt := 331) rfl ⟨fun c => ?_, fun c => ?_⟩
                  · replace H := H.1 c
                    refine a_iinc (pc := 331) (dk D 185 rfl) (by decide) rfl rfl rfl ?_
                    refine a_goto (pc := 334) (dk D 186 rfl) (tgt := 42) rfl ?_
                    exact a_pick [0, 1, 2] rfl H
                  · replace H := H.2 c
                    refine a_aload_n (pc := 324) (dk D 180 rfl) rfl ?_
                    refine a_getr (r := 115) (pc := 325) (dk D 181 rfl) cls_12 fl_RX12_177 cf_85_49 ?_
                    refine a_iload_n (pc := 328) (dk D 182 rfl) rfl ?_
                    refine a_iconst (pc := 329) (dk D 183 rfl) (ik rfl) ?_
                    refine a_iast (pc := 330) (dk D 184 rfl) ar_116 ⟨H.1, ?_⟩
                    replace H := H.2
                    refine a_iinc (pc := 331) (dk D 185 rfl) (by decide) rfl rfl rfl ?_
                    refine a_goto (pc := 334) (dk D 186 rfl) (tgt := 42) rfl ?_
                    exact a_pick [0, 1, 2] rfl H
                exact a_tsw [220, 245, 264, 291] (pc := 191) (dk D 117 rfl) (by decide) (dt := 306) rfl (by decide) ⟨⟨fun c => B0 (c), fun c => B1 (c), fun c => B2 (c), fun c => B3 (c), trivial⟩, fun c => BD (c)⟩
              · replace H := H.2 c
                refine a_aload_n (pc := 165) (dk D 101 rfl) rfl ?_
                refine a_dup (pc := 166) (dk D 102 rfl) rfl ?_
                refine a_geti (pc := 167) (dk D 103 rfl) cls_12 fl_RX12_426 cf_85_22 ?_
                refine a_iconst (pc := 170) (dk D 104 rfl) (ik rfl) ?_
                refine a_iadd (pc := 171) (dk D 105 rfl) ?_
                refine a_puti (pc := 172) (dk D 106 rfl) cls_12 fl_RX12_426 cf_85_22 rfl rfl ?_
                refine a_aload_n (pc := 175) (dk D 107 rfl) rfl ?_
                refine a_getr (r := 115) (pc := 176) (dk D 108 rfl) cls_12 fl_RX12_177 cf_85_49 ?_
                refine a_iload_n (pc := 179) (dk D 109 rfl) rfl ?_
                refine a_iconst (pc := 180) (dk D 110 rfl) (ik rfl) ?_
                refine a_iast (pc := 181) (dk D 111 rfl) ar_116 ⟨H.1, ?_⟩
                replace H := H.2
                refine a_goto (pc := 182) (dk D 112 rfl) (tgt := 331) rfl ?_
                refine a_iinc (pc := 331) (dk D 185 rfl) (by decide) rfl rfl rfl ?_
                refine a_goto (pc := 334) (dk D 186 rfl) (tgt := 42) rfl ?_
                exact a_pick [0, 1, 2] rfl H
            · replace H := H.2 c
              refine a_aload_n (pc := 141) (dk D 88 rfl) rfl ?_
              refine a_getr (r := 102) (pc := 142) (dk D 89 rfl) cls_12 fl_RX12_138 cf_85_36 ?_
              refine a_iload_n (pc := 145) (dk D 90 rfl) rfl ?_
              refine a_iald (pc := 146) (dk D 91 rfl) ar_103 ⟨H.1, ?_⟩
              replace H := H.2
              refine a_top (y := (h 103 (w32 ((w32 (30 * x1)) + (h 116 x1))))) (by simp [up, cpy]) ?_
              refine a_iconst (pc := 147) (dk D 92 rfl) (ik rfl) ?_
              refine a_icmp_ne (pc := 148) (dk D 93 rfl) (tgt := 185) rfl ⟨fun c => ?_, fun c => ?_⟩
              · replace H := H.1 c
                refine a_aload_n (pc := 185) (dk D 113 rfl) rfl ?_
                refine a_getr (r := 102) (pc := 186) (dk D 114 rfl) cls_12 fl_RX12_138 cf_85_36 ?_
                refine a_iload_n (pc := 189) (dk D 115 rfl) rfl ?_
                refine a_iald (pc := 190) (dk D 116 rfl) ar_103 ⟨H.1, ?_⟩
                replace H := H.2
                refine a_top (y := (h 103 (w32 ((w32 (30 * x1)) + (h 116 x1))))) (by simp [up, cpy]) ?_
                have B0 : ((h 103 (w32 ((w32 (30 * x1)) + (h 116 x1)))) = 2) → AT G m_X12_goes 220 [(0, rv 85), (1, iv x1), (2, iv x2), (3, iv (w32 ((w32 (30 * x1)) + (h 116 x1)))), (4, iv (h 116 x1)), (5, iv 0)] [] (up h 85 57 0) Φ := by
                  intro c
                  replace H := H.1 c
                  refine a_aload_n (pc := 220) (dk D 118 rfl) rfl ?_
                  refine a_getr (r := 115) (pc := 221) (dk D 119 rfl) cls_12 fl_RX12_177 cf_85_49 ?_
                  refine a_iload_n (pc := 224) (dk D 120 rfl) rfl ?_
                  refine a_iload (pc := 225) (dk D 121 rfl) rfl ?_
                  refine a_iconst (pc := 227) (dk D 122 rfl) (ik rfl) ?_
                  refine a_iadd (pc := 228) (dk D 123 rfl) ?_
                  refine a_iast (pc := 229) (dk D 124 rfl) ar_116 ⟨H.1, ?_⟩
                  replace H := H.2
                  refine a_aload_n (pc := 230) (dk D 125 rfl) rfl ?_
                  refine a_getr (r := 116) (pc := 231) (dk D 126 rfl) cls_12 fl_RX12_180 cf_85_50 ?_
                  refine a_iload_n (pc := 234) (dk D 127 rfl) rfl ?_
                  refine a_aload_n (pc := 235) (dk D 128 rfl) rfl ?_
                  refine a_getr (r := 104) (pc := 236) (dk D 129 rfl) cls_12 fl_RX12_144 cf_85_38 ?_
                  refine a_iload_n (pc := 239) (dk D 130 rfl) rfl ?_
                  refine a_iald (pc := 240) (dk D 131 rfl) ar_105 ⟨H.1, ?_⟩
                  replace H := H.2
                  refine a_top (y := (h 105 (w32 ((w32 (30 * x1)) + (h 116 x1))))) (by simp [up, cpy]) ?_
                  refine a_iast (pc := 241) (dk D 132 rfl) ar_117 ⟨H.1, ?_⟩
                  replace H := H.2
                  refine a_goto (pc := 242) (dk D 133 rfl) (tgt := 331) rfl ?_
                  refine a_iinc (pc := 331) (dk D 185 rfl) (by decide) rfl rfl rfl ?_
                  refine a_goto (pc := 334) (dk D 186 rfl) (tgt := 42) rfl ?_
                  exact a_pick [0, 1, 2] rfl H
                have B1 : ((h 103 (w32 ((w32 (30 * x1)) + (h 116 x1)))) = 3) → AT G m_X12_goes 245 [(0, rv 85), (1, iv x1), (2, iv x2), (3, iv (w32 ((w32 (30 * x1)) + (h 116 x1)))), (4, iv (h 116 x1)), (5, iv 0)] [] (up h 85 57 0) Φ := by
                  intro c
                  replace H := H.2.1 c
                  refine a_iload (pc := 245) (dk D 134 rfl) rfl ?_
                  refine a_if_ne (pc := 247) (dk D 135 rfl) (tgt := 251) rfl ⟨fun c => absurd c (by decide), fun _ => ?_⟩
                  exact a_vret (pc := 250) (dk D 136 rfl) rfl rfl H
                have B2 : ((h 103 (w32 ((w32 (30 * x1)) + (h 116 x1)))) = 4) → AT G m_X12_goes 264 [(0, rv 85), (1, iv x1), (2, iv x2), (3, iv (w32 ((w32 (30 * x1)) + (h 116 x1)))), (4, iv (h 116 x1)), (5, iv 0)] [] (up h 85 57 0) Φ := by
                  intro c
                  replace H := H.2.2.1 c
                  refine a_aload_n (pc := 264) (dk D 145 rfl) rfl ?_
                  refine a_getr (r := 115) (pc := 265) (dk D 146 rfl) cls_12 fl_RX12_177 cf_85_49 ?_
                  refine a_iload_n (pc := 268) (dk D 147 rfl) rfl ?_
                  refine a_iload (pc := 269) (dk D 148 rfl) rfl ?_
                  refine a_if_eq (pc := 271) (dk D 149 rfl) (tgt := 283) rfl ⟨fun _ => ?_, fun c => absurd c (by decide)⟩
                  refine a_iload (pc := 283) (dk D 155 rfl) rfl ?_
                  refine a_iconst (pc := 285) (dk D 156 rfl) (ik rfl) ?_
                  refine a_iadd (pc := 286) (dk D 157 rfl) ?_
                  refine a_iast (pc := 287) (dk D 158 rfl) ar_116 ⟨H.1, ?_⟩
                  replace H := H.2
                  refine a_goto (pc := 288) (dk D 159 rfl) (tgt := 331) rfl ?_
                  refine a_iinc (pc := 331) (dk D 185 rfl) (by decide) rfl rfl rfl ?_
                  refine a_goto (pc := 334) (dk D 186 rfl) (tgt := 42) rfl ?_
                  exact a_pick [0, 1, 2] rfl H
                have B3 : ((h 103 (w32 ((w32 (30 * x1)) + (h 116 x1)))) = 5) → AT G m_X12_goes 291 [(0, rv 85), (1, iv x1), (2, iv x2), (3, iv (w32 ((w32 (30 * x1)) + (h 116 x1)))), (4, iv (h 116 x1)), (5, iv 0)] [] (up h 85 57 0) Φ := by
                  intro c
                  replace H := H.2.2.2.1 c
                  refine a_aload_n (pc := 291) (dk D 160 rfl) rfl ?_
                  refine a_getr (r := 115) (pc := 292) (dk D 161 rfl) cls_12 fl_RX12_177 cf_85_49 ?_
                  refine a_iload_n (pc := 295) (dk D 162 rfl) rfl ?_
                  refine a_aload_n (pc := 296) (dk D 163 rfl) rfl ?_
                  refine a_getr (r := 104) (pc := 297) (dk D 164 rfl) cls_12 fl_RX12_144 cf_85_38 ?_
                  refine a_iload_n (pc := 300) (dk D 165 rfl) rfl ?_
                  refine a_iald (pc := 301) (dk D 166 rfl) ar_105 ⟨H.1, ?_⟩
                  replace H := H.2
                  refine a_top (y := (h 105 (w32 ((w32 (30 * x1)) + (h 116 x1))))) (by simp [up, cpy]) ?_
                  refine a_iast (pc := 302) (dk D 167 rfl) ar_116 ⟨H.1, ?_⟩
                  replace H := H.2
                  refine a_goto (pc := 303) (dk D 168 rfl) (tgt := 331) rfl ?_
                  refine a_iinc (pc := 331) (dk D 185 rfl) (by decide) rfl rfl rfl ?_
                  refine a_goto (pc := 334) (dk D 186 rfl) (tgt := 42) rfl ?_
                  exact a_pick [0, 1, 2] rfl H
                have BD : (((h 103 (w32 ((w32 (30 * x1)) + (h 116 x1)))) < 2 ∨ 5 < (h 103 (w32 ((w32 (30 * x1)) + (h 116 x1)))))) → AT G m_X12_goes 306 [(0, rv 85), (1, iv x1), (2, iv x2), (3, iv (w32 ((w32 (30 * x1)) + (h 116 x1)))), (4, iv (h 116 x1)), (5, iv 0)] [] (up h 85 57 0) Φ := by
                  intro c
                  replace H := H.2.2.2.2 c
                  refine a_aload_n (pc := 306) (dk D 169 rfl) rfl ?_
                  refine a_getr (r := 115) (pc := 307) (dk D 170 rfl) cls_12 fl_RX12_177 cf_85_49 ?_
                  refine a_iload_n (pc := 310) (dk D 171 rfl) rfl ?_
                  refine a_iload (pc := 311) (dk D 172 rfl) rfl ?_
                  refine a_iconst (pc := 313) (dk D 173 rfl) (ik rfl) ?_
                  refine a_iadd (pc := 314) (dk D 174 rfl) ?_
                  refine a_iast (pc := 315) (dk D 175 rfl) ar_116 ⟨H.1, ?_⟩
                  replace H := H.2
                  refine a_aload_n (pc := 316) (dk D 176 rfl) rfl ?_
                  refine a_iload_n (pc := 317) (dk D 177 rfl) rfl ?_
                  refine a_callVi (as := [iv (w32 ((w32 (30 * x1)) + (h 116 x1)))]) (st := []) (pc := 318) (dk D 178 rfl) cl_RX12_492 ⟨Nat.le_of_ble_eq_true rfl, Nat.le_of_ble_eq_true rfl⟩ ⟨Nat.le_of_ble_eq_true rfl, Nat.le_of_ble_eq_true rfl⟩ cls_12 rfl cc_85 rfl rfl rfl (Nat.le_of_ble_eq_true rfl) (Call.mono H fun r5 h6 H => ?_)
                  refine a_if_ne (pc := 321) (dk D 179 rfl) (tgt := 331) rfl ⟨fun c => ?_, fun c => ?_⟩
                  · replace H := H.1 c
                    refine a_iinc (pc := 331) (dk D 185 rfl) (by decide) rfl rfl rfl ?_
                    refine a_goto (pc := 334) (dk D 186 rfl) (tgt := 42) rfl ?_
                    exact a_pick [0, 1, 2] rfl H
                  · replace H := H.2 c
                    refine a_aload_n (pc := 324) (dk D 180 rfl) rfl ?_
                    refine a_getr (r := 115) (pc := 325) (dk D 181 rfl) cls_12 fl_RX12_177 cf_85_49 ?_
                    refine a_iload_n (pc := 328) (dk D 182 rfl) rfl ?_
                    refine a_iconst (pc := 329) (dk D 183 rfl) (ik rfl) ?_
                    refine a_iast (pc := 330) (dk D 184 rfl) ar_116 ⟨H.1, ?_⟩
                    replace H := H.2
                    refine a_iinc (pc := 331) (dk D 185 rfl) (by decide) rfl rfl rfl ?_
                    refine a_goto (pc := 334) (dk D 186 rfl) (tgt := 42) rfl ?_
                    exact a_pick [0, 1, 2] rfl H
                exact a_tsw [220, 245, 264, 291] (pc := 191) (dk D 117 rfl) (by decide) (dt := 306) rfl (by decide) ⟨⟨fun c => B0 (c), fun c => B1 (c), fun c => B2 (c), fun c => B3 (c), trivial⟩, fun c => BD (c)⟩
              · replace H := H.2 c
                refine a_aload_n (pc := 151) (dk D 94 rfl) rfl ?_
                refine a_iload_n (pc := 152) (dk D 95 rfl) rfl ?_
                refine a_callVi (as := [iv (w32 ((w32 (30 * x1)) + (h 116 x1)))]) (st := []) (pc := 153) (dk D 96 rfl) cl_RX12_489 ⟨Nat.le_of_ble_eq_true rfl, Nat.le_of_ble_eq_true rfl⟩ ⟨Nat.le_of_ble_eq_true rfl, Nat.le_of_ble_eq_true rfl⟩ cls_12 rfl cc_85 rfl rfl rfl (Nat.le_of_ble_eq_true rfl) (Call.mono H fun r7 h8 H => ?_)
                refine a_istore (pc := 156) (dk D 97 rfl) (by decide) rfl rfl ?_
                refine a_aload_n (pc := 158) (dk D 98 rfl) rfl ?_
                refine a_geti (pc := 159) (dk D 99 rfl) cls_12 fl_RX12_474 cf_85_57 ?_
                refine a_if_eq (pc := 162) (dk D 100 rfl) (tgt := 185) rfl ⟨fun c => ?_, fun c => ?_⟩
                · replace H := H.1 c
                  refine a_aload_n (pc := 185) (dk D 113 rfl) rfl ?_
                  refine a_getr (r := 102) (pc := 186) (dk D 114 rfl) cls_12 fl_RX12_138 cf_85_36 ?_
                  refine a_iload_n (pc := 189) (dk D 115 rfl) rfl ?_
                  refine a_iald (pc := 190) (dk D 116 rfl) ar_103 ⟨H.1, ?_⟩
                  replace H := H.2
                  have B0 : ((h8 103 (w32 ((w32 (30 * x1)) + (h 116 x1)))) = 2) → AT G m_X12_goes 220 [(0, rv 85), (1, iv x1), (2, iv x2), (3, iv (w32 ((w32 (30 * x1)) + (h 116 x1)))), (4, iv (h 116 x1)), (5, iv r7)] [] h8 Φ := by
                    intro c
                    replace H := H.1 c
                    refine a_aload_n (pc := 220) (dk D 118 rfl) rfl ?_
                    refine a_getr (r := 115) (pc := 221) (dk D 119 rfl) cls_12 fl_RX12_177 cf_85_49 ?_
                    refine a_iload_n (pc := 224) (dk D 120 rfl) rfl ?_
                    refine a_iload (pc := 225) (dk D 121 rfl) rfl ?_
                    refine a_iconst (pc := 227) (dk D 122 rfl) (ik rfl) ?_
                    refine a_iadd (pc := 228) (dk D 123 rfl) ?_
                    refine a_iast (pc := 229) (dk D 124 rfl) ar_116 ⟨H.1, ?_⟩
                    replace H := H.2
                    refine a_aload_n (pc := 230) (dk D 125 rfl) rfl ?_
                    refine a_getr (r := 116) (pc := 231) (dk D 126 rfl) cls_12 fl_RX12_180 cf_85_50 ?_
                    refine a_iload_n (pc := 234) (dk D 127 rfl) rfl ?_
                    refine a_aload_n (pc := 235) (dk D 128 rfl) rfl ?_
                    refine a_getr (r := 104) (pc := 236) (dk D 129 rfl) cls_12 fl_RX12_144 cf_85_38 ?_
                    refine a_iload_n (pc := 239) (dk D 130 rfl) rfl ?_
                    refine a_iald (pc := 240) (dk D 131 rfl) ar_105 ⟨H.1, ?_⟩
                    replace H := H.2
                    refine a_top (y := (h8 105 (w32 ((w32 (30 * x1)) + (h 116 x1))))) (by simp [up, cpy]) ?_
                    refine a_iast (pc := 241) (dk D 132 rfl) ar_117 ⟨H.1, ?_⟩
                    replace H := H.2
                    refine a_goto (pc := 242) (dk D 133 rfl) (tgt := 331) rfl ?_
                    refine a_iinc (pc := 331) (dk D 185 rfl) (by decide) rfl rfl rfl ?_
                    refine a_goto (pc := 334) (dk D 186 rfl) (tgt := 42) rfl ?_
                    exact a_pick [0, 1, 2] rfl H
                  have B1 : ((h8 103 (w32 ((w32 (30 * x1)) + (h 116 x1)))) = 3) → AT G m_X12_goes 245 [(0, rv 85), (1, iv x1), (2, iv x2), (3, iv (w32 ((w32 (30 * x1)) + (h 116 x1)))), (4, iv (h 116 x1)), (5, iv r7)] [] h8 Φ := by
                    intro c
                    replace H := H.2.1 c
                    refine a_iload (pc := 245) (dk D 134 rfl) rfl ?_
                    refine a_if_ne (pc := 247) (dk D 135 rfl) (tgt := 251) rfl ⟨fun c => ?_, fun c => ?_⟩
                    · replace H := H.1 c
                      refine a_aload_n (pc := 251) (dk D 137 rfl) rfl ?_
                      refine a_getr (r := 115) (pc := 252) (dk D 138 rfl) cls_12 fl_RX12_177 cf_85_49 ?_
                      refine a_iload_n (pc := 255) (dk D 139 rfl) rfl ?_
                      refine a_iload (pc := 256) (dk D 140 rfl) rfl ?_
                      refine a_iconst (pc := 258) (dk D 141 rfl) (ik rfl) ?_
                      refine a_iadd (pc := 259) (dk D 142 rfl) ?_
                      refine a_iast (pc := 260) (dk D 143 rfl) ar_116 ⟨H.1, ?_⟩
                      replace H := H.2
                      refine a_goto (pc := 261) (dk D 144 rfl) (tgt := 331) rfl ?_
                      refine a_iinc (pc := 331) (dk D 185 rfl) (by decide) rfl rfl rfl ?_
                      refine a_goto (pc := 334) (dk D 186 rfl) (tgt := 42) rfl ?_
                      exact a_pick [0, 1, 2] rfl H
                    · replace H := H.2 c
                      exact a_vret (pc := 250) (dk D 136 rfl) rfl rfl H
                  have B2 : ((h8 103 (w32 ((w32 (30 * x1)) + (h 116 x1)))) = 4) → AT G m_X12_goes 264 [(0, rv 85), (1, iv x1), (2, iv x2), (3, iv (w32 ((w32 (30 * x1)) + (h 116 x1)))), (4, iv (h 116 x1)), (5, iv r7)] [] h8 Φ := by
                    intro c
                    replace H := H.2.2.1 c
                    refine a_aload_n (pc := 264) (dk D 145 rfl) rfl ?_
                    refine a_getr (r := 115) (pc := 265) (dk D 146 rfl) cls_12 fl_RX12_177 cf_85_49 ?_
                    refine a_iload_n (pc := 268) (dk D 147 rfl) rfl ?_
                    refine a_iload (pc := 269) (dk D 148 rfl) rfl ?_
                    refine a_if_eq (pc := 271) (dk D 149 rfl) (tgt := 283) rfl ⟨fun c => ?_, fun c => ?_⟩
                    · replace H := H.1 c
                      refine a_iload (pc := 283) (dk D 155 rfl) rfl ?_
                      refine a_iconst (pc := 285) (dk D 156 rfl) (ik rfl) ?_
                      refine a_iadd (pc := 286) (dk D 157 rfl) ?_
                      refine a_iast (pc := 287) (dk D 158 rfl) ar_116 ⟨H.1, ?_⟩
                      replace H := H.2
                      refine a_goto (pc := 288) (dk D 159 rfl) (tgt := 331) rfl ?_
                      refine a_iinc (pc := 331) (dk D 185 rfl) (by decide) rfl rfl rfl ?_
                      refine a_goto (pc := 334) (dk D 186 rfl) (tgt := 42) rfl ?_
                      exact a_pick [0, 1, 2] rfl H
                    · replace H := H.2 c
                      refine a_aload_n (pc := 274) (dk D 150 rfl) rfl ?_
                      refine a_getr (r := 104) (pc := 275) (dk D 151 rfl) cls_12 fl_RX12_144 cf_85_38 ?_
                      refine a_iload_n (pc := 278) (dk D 152 rfl) rfl ?_
                      refine a_iald (pc := 279) (dk D 153 rfl) ar_105 ⟨H.1, ?_⟩
                      replace H := H.2
                      refine a_goto (pc := 280) (dk D 154 rfl) (tgt := 287) rfl ?_
                      refine a_iast (pc := 287) (dk D 158 rfl) ar_116 ⟨H.1, ?_⟩
                      replace H := H.2
                      refine a_goto (pc := 288) (dk D 159 rfl) (tgt := 331) rfl ?_
                      refine a_iinc (pc := 331) (dk D 185 rfl) (by decide) rfl rfl rfl ?_
                      refine a_goto (pc := 334) (dk D 186 rfl) (tgt := 42) rfl ?_
                      exact a_pick [0, 1, 2] rfl H
                  have B3 : ((h8 103 (w32 ((w32 (30 * x1)) + (h 116 x1)))) = 5) → AT G m_X12_goes 291 [(0, rv 85), (1, iv x1), (2, iv x2), (3, iv (w32 ((w32 (30 * x1)) + (h 116 x1)))), (4, iv (h 116 x1)), (5, iv r7)] [] h8 Φ := by
                    intro c
                    replace H := H.2.2.2.1 c
                    refine a_aload_n (pc := 291) (dk D 160 rfl) rfl ?_
                    refine a_getr (r := 115) (pc := 292) (dk D 161 rfl) cls_12 fl_RX12_177 cf_85_49 ?_
                    refine a_iload_n (pc := 295) (dk D 162 rfl) rfl ?_
                    refine a_aload_n (pc := 296) (dk D 163 rfl) rfl ?_
                    refine a_getr (r := 104) (pc := 297) (dk D 164 rfl) cls_12 fl_RX12_144 cf_85_38 ?_
                    refine a_iload_n (pc := 300) (dk D 165 rfl) rfl ?_
                    refine a_iald (pc := 301) (dk D 166 rfl) ar_105 ⟨H.1, ?_⟩
                    replace H := H.2
                    refine a_iast (pc := 302) (dk D 167 rfl) ar_116 ⟨H.1, ?_⟩
                    replace H := H.2
                    refine a_goto (pc := 303) (dk D 168 rfl) (tgt := 331) rfl ?_
                    refine a_iinc (pc := 331) (dk D 185 rfl) (by decide) rfl rfl rfl ?_
                    refine a_goto (pc := 334) (dk D 186 rfl) (tgt := 42) rfl ?_
                    exact a_pick [0, 1, 2] rfl H
                  have BD : (((h8 103 (w32 ((w32 (30 * x1)) + (h 116 x1)))) < 2 ∨ 5 < (h8 103 (w32 ((w32 (30 * x1)) + (h 116 x1)))))) → AT G m_X12_goes 306 [(0, rv 85), (1, iv x1), (2, iv x2), (3, iv (w32 ((w32 (30 * x1)) + (h 116 x1)))), (4, iv (h 116 x1)), (5, iv r7)] [] h8 Φ := by
                    intro c
                    replace H := H.2.2.2.2 c
                    refine a_aload_n (pc := 306) (dk D 169 rfl) rfl ?_
                    refine a_getr (r := 115) (pc := 307) (dk D 170 rfl) cls_12 fl_RX12_177 cf_85_49 ?_
                    refine a_iload_n (pc := 310) (dk D 171 rfl) rfl ?_
                    refine a_iload (pc := 311) (dk D 172 rfl) rfl ?_
                    refine a_iconst (pc := 313) (dk D 173 rfl) (ik rfl) ?_
                    refine a_iadd (pc := 314) (dk D 174 rfl) ?_
                    refine a_iast (pc := 315) (dk D 175 rfl) ar_116 ⟨H.1, ?_⟩
                    replace H := H.2
                    refine a_aload_n (pc := 316) (dk D 176 rfl) rfl ?_
                    refine a_iload_n (pc := 317) (dk D 177 rfl) rfl ?_
                    refine a_callVi (as := [iv (w32 ((w32 (30 * x1)) + (h 116 x1)))]) (st := []) (pc := 318) (dk D 178 rfl) cl_RX12_492 ⟨Nat.le_of_ble_eq_true rfl, Nat.le_of_ble_eq_true rfl⟩ ⟨Nat.le_of_ble_eq_true rfl, Nat.le_of_ble_eq_true rfl⟩ cls_12 rfl cc_85 rfl rfl rfl (Nat.le_of_ble_eq_true rfl) (Call.mono H fun r9 h10 H => ?_)
                    refine a_if_ne (pc := 321) (dk D 179 rfl) (tgt := 331) rfl ⟨fun c => ?_, fun c => ?_⟩
                    · replace H := H.1 c
                      refine a_iinc (pc := 331) (dk D 185 rfl) (by decide) rfl rfl rfl ?_
                      refine a_goto (pc := 334) (dk D 186 rfl) (tgt := 42) rfl ?_
                      exact a_pick [0, 1, 2] rfl H
                    · replace H := H.2 c
                      refine a_aload_n (pc := 324) (dk D 180 rfl) rfl ?_
                      refine a_getr (r := 115) (pc := 325) (dk D 181 rfl) cls_12 fl_RX12_177 cf_85_49 ?_
                      refine a_iload_n (pc := 328) (dk D 182 rfl) rfl ?_
                      refine a_iconst (pc := 329) (dk D 183 rfl) (ik rfl) ?_
                      refine a_iast (pc := 330) (dk D 184 rfl) ar_116 ⟨H.1, ?_⟩
                      replace H := H.2
                      refine a_iinc (pc := 331) (dk D 185 rfl) (by decide) rfl rfl rfl ?_
                      refine a_goto (pc := 334) (dk D 186 rfl) (tgt := 42) rfl ?_
                      exact a_pick [0, 1, 2] rfl H
                  exact a_tsw [220, 245, 264, 291] (pc := 191) (dk D 117 rfl) (by decide) (dt := 306) rfl (by decide) ⟨⟨fun c => B0 (c), fun c => B1 (c), fun c => B2 (c), fun c => B3 (c), trivial⟩, fun c => BD (c)⟩
                · replace H := H.2 c
                  refine a_aload_n (pc := 165) (dk D 101 rfl) rfl ?_
                  refine a_dup (pc := 166) (dk D 102 rfl) rfl ?_
                  refine a_geti (pc := 167) (dk D 103 rfl) cls_12 fl_RX12_426 cf_85_22 ?_
                  refine a_iconst (pc := 170) (dk D 104 rfl) (ik rfl) ?_
                  refine a_iadd (pc := 171) (dk D 105 rfl) ?_
                  refine a_puti (pc := 172) (dk D 106 rfl) cls_12 fl_RX12_426 cf_85_22 rfl rfl ?_
                  refine a_aload_n (pc := 175) (dk D 107 rfl) rfl ?_
                  refine a_getr (r := 115) (pc := 176) (dk D 108 rfl) cls_12 fl_RX12_177 cf_85_49 ?_
                  refine a_iload_n (pc := 179) (dk D 109 rfl) rfl ?_
                  refine a_iconst (pc := 180) (dk D 110 rfl) (ik rfl) ?_
                  refine a_iast (pc := 181) (dk D 111 rfl) ar_116 ⟨H.1, ?_⟩
                  replace H := H.2
                  refine a_goto (pc := 182) (dk D 112 rfl) (tgt := 331) rfl ?_
                  refine a_iinc (pc := 331) (dk D 185 rfl) (by decide) rfl rfl rfl ?_
                  refine a_goto (pc := 334) (dk D 186 rfl) (tgt := 42) rfl ?_
                  exact a_pick [0, 1, 2] rfl H
          · replace H := H.2 c
            refine a_aload_n (pc := 105) (dk D 66 rfl) rfl ?_
            refine a_getr (r := 115) (pc := 106) (dk D 67 rfl) cls_12 fl_RX12_177 cf_85_49 ?_
            refine a_iload_n (pc := 109) (dk D 68 rfl) rfl ?_
            refine a_iconst (pc := 110) (dk D 69 rfl) (ik rfl) ?_
            refine a_iast (pc := 111) (dk D 70 rfl) ar_116 ⟨H.1, ?_⟩
            replace H := H.2
            refine a_goto (pc := 112) (dk D 71 rfl) (tgt := 331) rfl ?_
            refine a_iinc (pc := 331) (dk D 185 rfl) (by decide) rfl rfl rfl ?_
            refine a_goto (pc := 334) (dk D 186 rfl) (tgt := 42) rfl ?_
            exact a_pick [0, 1, 2] rfl H
set_option maxHeartbeats 40000000 in
theorem T_X12_link_85_0 {G : GG} {Φ : Int → Hp → Prop} {h : Hp} (H : (((h 96 0) = 0 → Φ 0 h) ∧ ((h 96 0) ≠ 0 → Call G m_X12_isSeen [rv 85] h (fun r1 h2 => ((r1 ≠ 0 → AT G m_X12_link 23 [(0, rv 85), (1, iv 255), (2, iv 0)] [] h2 Φ) ∧ (r1 = 0 → Φ 0 h2)))))) : AT G m_X12_link 0 [(0, rv 85)] [] h Φ := by
  have D := dt_X12_link
  refine a_aload_n (pc := 0) (dk D 0 rfl) rfl ?_
  refine a_getr (r := 95) (pc := 1) (dk D 1 rfl) cls_12 fl_RX12_54 cf_85_27 ?_
  refine a_iconst (pc := 4) (dk D 2 rfl) (ik rfl) ?_
  refine a_zald (pc := 5) (dk D 3 rfl) ar_96 ⟨⟨by decide, by decide⟩, ?_⟩
  refine a_if_eq (pc := 6) (dk D 4 rfl) (tgt := 16) rfl ⟨fun c => ?_, fun c => ?_⟩
  · replace H := H.1 c
    exact a_vret (pc := 16) (dk D 8 rfl) rfl rfl H
  · replace H := H.2 c
    refine a_aload_n (pc := 9) (dk D 5 rfl) rfl ?_
    refine a_callVi (as := []) (st := []) (pc := 10) (dk D 6 rfl) cl_RX12_471 ⟨Nat.le_of_ble_eq_true rfl, Nat.le_of_ble_eq_true rfl⟩ ⟨Nat.le_of_ble_eq_true rfl, Nat.le_of_ble_eq_true rfl⟩ cls_12 rfl cc_85 rfl rfl rfl (Nat.le_of_ble_eq_true rfl) (Call.mono H fun r1 h2 H => ?_)
    refine a_if_ne (pc := 13) (dk D 7 rfl) (tgt := 17) rfl ⟨fun c => ?_, fun c => ?_⟩
    · replace H := H.1 c
      refine a_sipush (pc := 17) (dk D 9 rfl) (ik rfl) (spk rfl) ?_
      refine a_istore_n (pc := 20) (dk D 10 rfl) (by decide) rfl rfl ?_
      refine a_iconst (pc := 21) (dk D 11 rfl) (ik rfl) ?_
      refine a_istore_n (pc := 22) (dk D 12 rfl) (by decide) rfl rfl ?_
      exact a_pick [0, 1, 2] rfl H
    · replace H := H.2 c
      exact a_vret (pc := 16) (dk D 8 rfl) rfl rfl H
set_option maxHeartbeats 40000000 in
theorem T_X12_link_85_23 {G : GG} {Φ : Int → Hp → Prop} {h : Hp} {x1 : Int} {x2 : Int} (H : ((18 ≤ x2 → Call G m_X12_check [rv 139, iv 0] (up (up (up (up h 139 0 (h 85 79)) 139 1 (h 85 81)) 139 2 (h 85 80)) 139 3 x1) (fun r1 h2 => (((h2 85 78) ≠ 30 → AT G m_X12_link 305 [(0, rv 85), (4, iv 0)] [] (up (up (up h2 139 22 (bshr r1 8)) 139 23 (band r1 255)) 85 79 (band (w32 ((h2 85 79) + 1)) 255)) Φ) ∧ ((h2 85 78) = 30 → Φ 0 (up (up (up h2 139 22 (bshr r1 8)) 139 23 (band r1 255)) 85 79 (band (w32 ((h2 85 79) + 1)) 255)))))) ∧ (x2 < 18 → (((h 85 74) ≠ (h 85 73) → (0 ≤ (h 85 74) ∧ (h 85 74) < 9) ∧ (0 ≤ (w32 (4 + x2)) ∧ (w32 (4 + x2)) < 24) ∧ AT G m_X12_link 23 [(0, rv 85), (1, iv x1), (2, iv (w32 (x2 + 1)))] [] (up (up h 139 (w32 (4 + x2)) (h 136 (h 85 74))) 85 74 (w32 ((h 85 74) + 1))) Φ) ∧ ((h 85 74) = (h 85 73) → AT G m_X12_link 45 [(0, rv 85), (1, iv x1), (2, iv x2), (3, iv (-1)), (4, iv 0)] [] h Φ))))) : AT G m_X12_link 23 [(0, rv 85), (1, iv x1), (2, iv x2)] [] h Φ := by
  have D := dt_X12_link
  refine a_iload_n (pc := 23) (dk D 13 rfl) rfl ?_
  refine a_bipush (pc := 24) (dk D 14 rfl) (ik rfl) (bpk rfl) ?_
  refine a_icmp_ge (pc := 26) (dk D 15 rfl) (tgt := 209) rfl ⟨fun c => ?_, fun c => ?_⟩
  · replace H := H.1 c
    refine a_aload_n (pc := 209) (dk D 115 rfl) rfl ?_
    refine a_getr (r := 138) (pc := 210) (dk D 116 rfl) cls_12 fl_RX12_244 cf_85_77 ?_
    refine a_iconst (pc := 213) (dk D 117 rfl) (ik rfl) ?_
    refine a_aload_n (pc := 214) (dk D 118 rfl) rfl ?_
    refine a_geti (pc := 215) (dk D 119 rfl) cls_12 fl_RX12_517 cf_85_79 ?_
    refine a_iast (pc := 218) (dk D 120 rfl) ar_139 ⟨⟨by decide, by decide⟩, ?_⟩
    refine a_aload_n (pc := 219) (dk D 121 rfl) rfl ?_
    refine a_getr (r := 138) (pc := 220) (dk D 122 rfl) cls_12 fl_RX12_244 cf_85_77 ?_
    refine a_iconst (pc := 223) (dk D 123 rfl) (ik rfl) ?_
    refine a_aload_n (pc := 224) (dk D 124 rfl) rfl ?_
    refine a_geti (pc := 225) (dk D 125 rfl) cls_12 fl_RX12_520 cf_85_81 ?_
    refine a_top (y := (h 85 81)) (by simp [up, cpy]) ?_
    refine a_iast (pc := 228) (dk D 126 rfl) ar_139 ⟨⟨by decide, by decide⟩, ?_⟩
    refine a_aload_n (pc := 229) (dk D 127 rfl) rfl ?_
    refine a_getr (r := 138) (pc := 230) (dk D 128 rfl) cls_12 fl_RX12_244 cf_85_77 ?_
    refine a_iconst (pc := 233) (dk D 129 rfl) (ik rfl) ?_
    refine a_aload_n (pc := 234) (dk D 130 rfl) rfl ?_
    refine a_geti (pc := 235) (dk D 131 rfl) cls_12 fl_RX12_523 cf_85_80 ?_
    refine a_top (y := (h 85 80)) (by simp [up, cpy]) ?_
    refine a_iast (pc := 238) (dk D 132 rfl) ar_139 ⟨⟨by decide, by decide⟩, ?_⟩
    refine a_aload_n (pc := 239) (dk D 133 rfl) rfl ?_
    refine a_getr (r := 138) (pc := 240) (dk D 134 rfl) cls_12 fl_RX12_244 cf_85_77 ?_
    refine a_iconst (pc := 243) (dk D 135 rfl) (ik rfl) ?_
    refine a_iload_n (pc := 244) (dk D 136 rfl) rfl ?_
    refine a_iast (pc := 245) (dk D 137 rfl) ar_139 ⟨⟨by decide, by decide⟩, ?_⟩
    refine a_aload_n (pc := 246) (dk D 138 rfl) rfl ?_
    refine a_getr (r := 138) (pc := 247) (dk D 139 rfl) cls_12 fl_RX12_244 cf_85_77 ?_
    refine a_iconst (pc := 250) (dk D 140 rfl) (ik rfl) ?_
    refine a_callSi (as := [rv 139, iv 0]) (st := []) (pc := 251) (dk D 141 rfl) cl_RX12_526 ⟨Nat.le_of_ble_eq_true rfl, Nat.le_of_ble_eq_true rfl⟩ ⟨Nat.le_of_ble_eq_true rfl, Nat.le_of_ble_eq_true rfl⟩ rfl rfl rfl (Nat.le_of_ble_eq_true rfl) (Call.mono H fun r1 h2 H => ?_)
    refine a_istore_n (pc := 254) (dk D 142 rfl) (by decide) rfl rfl ?_
    refine a_aload_n (pc := 255) (dk D 143 rfl) rfl ?_
    refine a_getr (r := 138) (pc := 256) (dk D 144 rfl) cls_12 fl_RX12_244 cf_85_77 ?_
    refine a_bipush (pc := 259) (dk D 145 rfl) (ik rfl) (bpk rfl) ?_
    refine a_iload_n (pc := 261) (dk D 146 rfl) rfl ?_
    refine a_bipush (pc := 262) (dk D 147 rfl) (ik rfl) (bpk rfl) ?_
    refine a_ishr (pc := 264) (dk D 148 rfl) ?_
    refine a_iast (pc := 265) (dk D 149 rfl) ar_139 ⟨⟨by decide, by decide⟩, ?_⟩
    refine a_aload_n (pc := 266) (dk D 150 rfl) rfl ?_
    refine a_getr (r := 138) (pc := 267) (dk D 151 rfl) cls_12 fl_RX12_244 cf_85_77 ?_
    refine a_bipush (pc := 270) (dk D 152 rfl) (ik rfl) (bpk rfl) ?_
    refine a_iload_n (pc := 272) (dk D 153 rfl) rfl ?_
    refine a_sipush (pc := 273) (dk D 154 rfl) (ik rfl) (spk rfl) ?_
    refine a_iand (pc := 276) (dk D 155 rfl) ?_
    refine a_iast (pc := 277) (dk D 156 rfl) ar_139 ⟨⟨by decide, by decide⟩, ?_⟩
    refine a_aload_n (pc := 278) (dk D 157 rfl) rfl ?_
    refine a_aload_n (pc := 279) (dk D 158 rfl) rfl ?_
    refine a_geti (pc := 280) (dk D 159 rfl) cls_12 fl_RX12_517 cf_85_79 ?_
    refine a_top (y := (h2 85 79)) (by simp [up, cpy]) ?_
    refine a_iconst (pc := 283) (dk D 160 rfl) (ik rfl) ?_
    refine a_iadd (pc := 284) (dk D 161 rfl) ?_
    refine a_sipush (pc := 285) (dk D 162 rfl) (ik rfl) (spk rfl) ?_
    refine a_iand (pc := 288) (dk D 163 rfl) ?_
    refine a_puti (pc := 289) (dk D 164 rfl) cls_12 fl_RX12_517 cf_85_79 rfl rfl ?_
    refine a_aload_n (pc := 292) (dk D 165 rfl) rfl ?_
    refine a_geti (pc := 293) (dk D 166 rfl) cls_12 fl_RX12_530 cf_85_78 ?_
    refine a_top (y := (h2 85 78)) (by simp [up, cpy]) ?_
    refine a_bipush (pc := 296) (dk D 167 rfl) (ik rfl) (bpk rfl) ?_
    refine a_icmp_ne (pc := 298) (dk D 168 rfl) (tgt := 302) rfl ⟨fun c => ?_, fun c => ?_⟩
    · replace H := H.1 c
      refine a_iconst (pc := 302) (dk D 170 rfl) (ik rfl) ?_
      refine a_istore (pc := 303) (dk D 171 rfl) (by decide) rfl rfl ?_
      exact a_pick [0, 4] rfl H
    · replace H := H.2 c
      exact a_vret (pc := 301) (dk D 169 rfl) rfl rfl H
  · replace H := H.2 c
    refine a_aload_n (pc := 29) (dk D 16 rfl) rfl ?_
    refine a_geti (pc := 30) (dk D 17 rfl) cls_12 fl_RX12_511 cf_85_74 ?_
    refine a_aload_n (pc := 33) (dk D 18 rfl) rfl ?_
    refine a_geti (pc := 34) (dk D 19 rfl) cls_12 fl_RX12_514 cf_85_73 ?_
    refine a_icmp_ne (pc := 37) (dk D 20 rfl) (tgt := 176) rfl ⟨fun c => ?_, fun c => ?_⟩
    · replace H := H.1 c
      refine a_aload_n (pc := 176) (dk D 96 rfl) rfl ?_
      refine a_getr (r := 138) (pc := 177) (dk D 97 rfl) cls_12 fl_RX12_244 cf_85_77 ?_
      refine a_iconst (pc := 180) (dk D 98 rfl) (ik rfl) ?_
      refine a_iload_n (pc := 181) (dk D 99 rfl) rfl ?_
      refine a_iadd (pc := 182) (dk D 100 rfl) ?_
      refine a_aload_n (pc := 183) (dk D 101 rfl) rfl ?_
      refine a_getr (r := 135) (pc := 184) (dk D 102 rfl) cls_12 fl_RX12_235 cf_85_71 ?_
      refine a_aload_n (pc := 187) (dk D 103 rfl) rfl ?_
      refine a_geti (pc := 188) (dk D 104 rfl) cls_12 fl_RX12_511 cf_85_74 ?_
      refine a_iald (pc := 191) (dk D 105 rfl) ar_136 ⟨H.1, ?_⟩
      replace H := H.2
      refine a_iast (pc := 192) (dk D 106 rfl) ar_139 ⟨H.1, ?_⟩
      replace H := H.2
      refine a_aload_n (pc := 193) (dk D 107 rfl) rfl ?_
      refine a_dup (pc := 194) (dk D 108 rfl) rfl ?_
      refine a_geti (pc := 195) (dk D 109 rfl) cls_12 fl_RX12_511 cf_85_74 ?_
      refine a_top (y := (h 85 74)) (by simp [up, cpy]) ?_
      refine a_iconst (pc := 198) (dk D 110 rfl) (ik rfl) ?_
      refine a_iadd (pc := 199) (dk D 111 rfl) ?_
      refine a_puti (pc := 200) (dk D 112 rfl) cls_12 fl_RX12_511 cf_85_74 rfl rfl ?_
      refine a_iinc (pc := 203) (dk D 113 rfl) (by decide) rfl rfl rfl ?_
      refine a_goto (pc := 206) (dk D 114 rfl) (tgt := 23) rfl ?_
      exact a_pick [0, 1, 2] rfl H
    · replace H := H.2 c
      refine a_iconst (pc := 40) (dk D 21 rfl) (ik rfl) ?_
      refine a_istore_n (pc := 41) (dk D 22 rfl) (by decide) rfl rfl ?_
      refine a_iconst (pc := 42) (dk D 23 rfl) (ik rfl) ?_
      refine a_istore (pc := 43) (dk D 24 rfl) (by decide) rfl rfl ?_
      exact a_pick [0, 1, 2, 3, 4] rfl H
set_option maxHeartbeats 40000000 in
theorem T_X12_link_85_305 {G : GG} {Φ : Int → Hp → Prop} {h : Hp} {x4 : Int} (H : ((24 ≤ x4 → Φ 0 (up h 85 78 (w32 ((h 85 78) + 1)))) ∧ (x4 < 24 → (0 ≤ x4 ∧ x4 < 24) ∧ (0 ≤ (w32 ((w32 (24 * (h 85 78))) + x4)) ∧ (w32 ((w32 (24 * (h 85 78))) + x4)) < 720) ∧ AT G m_X12_link 305 [(0, rv 85), (4, iv (w32 (x4 + 1)))] [] (up h 138 (w32 ((w32 (24 * (h 85 78))) + x4)) (h 139 x4)) Φ))) : AT G m_X12_link 305 [(0, rv 85), (4, iv x4)] [] h Φ := by
  have D := dt_X12_link
  refine a_iload (pc := 305) (dk D 172 rfl) rfl ?_
  refine a_bipush (pc := 307) (dk D 173 rfl) (ik rfl) (bpk rfl) ?_
  refine a_icmp_ge (pc := 309) (dk D 174 rfl) (tgt := 340) rfl ⟨fun c => ?_, fun c => ?_⟩
  · replace H := H.1 c
    refine a_aload_n (pc := 340) (dk D 190 rfl) rfl ?_
    refine a_dup (pc := 341) (dk D 191 rfl) rfl ?_
    refine a_geti (pc := 342) (dk D 192 rfl) cls_12 fl_RX12_530 cf_85_78 ?_
    refine a_iconst (pc := 345) (dk D 193 rfl) (ik rfl) ?_
    refine a_iadd (pc := 346) (dk D 194 rfl) ?_
    refine a_puti (pc := 347) (dk D 195 rfl) cls_12 fl_RX12_530 cf_85_78 rfl rfl ?_
    exact a_vret (pc := 350) (dk D 196 rfl) rfl rfl H
  · replace H := H.2 c
    refine a_aload_n (pc := 312) (dk D 175 rfl) rfl ?_
    refine a_getr (r := 137) (pc := 313) (dk D 176 rfl) cls_12 fl_RX12_241 cf_85_76 ?_
    refine a_bipush (pc := 316) (dk D 177 rfl) (ik rfl) (bpk rfl) ?_
    refine a_aload_n (pc := 318) (dk D 178 rfl) rfl ?_
    refine a_geti (pc := 319) (dk D 179 rfl) cls_12 fl_RX12_530 cf_85_78 ?_
    refine a_imul (pc := 322) (dk D 180 rfl) ?_
    refine a_iload (pc := 323) (dk D 181 rfl) rfl ?_
    refine a_iadd (pc := 325) (dk D 182 rfl) ?_
    refine a_aload_n (pc := 326) (dk D 183 rfl) rfl ?_
    refine a_getr (r := 138) (pc := 327) (dk D 184 rfl) cls_12 fl_RX12_244 cf_85_77 ?_
    refine a_iload (pc := 330) (dk D 185 rfl) rfl ?_
    refine a_iald (pc := 332) (dk D 186 rfl) ar_139 ⟨H.1, ?_⟩
    replace H := H.2
    refine a_iast (pc := 333) (dk D 187 rfl) ar_138 ⟨H.1, ?_⟩
    replace H := H.2
    refine a_iinc (pc := 334) (dk D 188 rfl) (by decide) rfl rfl rfl ?_
    refine a_goto (pc := 337) (dk D 189 rfl) (tgt := 305) rfl ?_
    exact a_pick [0, 1] rfl H
set_option maxHeartbeats 40000000 in
theorem T_X12_link_85_45 {G : GG} {Φ : Int → Hp → Prop} {h : Hp} {x1 : Int} {x2 : Int} {x3 : Int} {x4 : Int} (H : (((h 85 72) ≤ x4 → ((x3 ≠ (-1) → (0 ≤ x3 ∧ x3 < 50) ∧ AT G m_X12_link 124 [(0, rv 85), (1, iv x1), (2, iv x2), (3, iv x3), (4, iv 0)] [] (up (up h 85 73 (h 134 x3)) 85 74 0) Φ) ∧ (x3 = (-1) → (0 ≤ (w32 (4 + x2)) ∧ (w32 (4 + x2)) < 24) ∧ AT G m_X12_link 23 [(0, rv 85), (1, iv x1), (2, iv (w32 (x2 + 1)))] [] (up h 139 (w32 (4 + x2)) 0) Φ))) ∧ (x4 < (h 85 72) → ((x3 = (-1) → AT G m_X12_link 45 [(0, rv 85), (1, iv x1), (2, iv x2), (3, iv x4), (4, iv (w32 (x4 + 1)))] [] h Φ) ∧ (x3 ≠ (-1) → Call G m_X12_sort [rv 85, iv x4] h (fun r1 h2 => Call G m_X12_sort [rv 85, iv x3] h2 (fun r3 h4 => ((r3 ≤ r1 → AT G m_X12_link 45 [(0, rv 85), (1, iv x1), (2, iv x2), (3, iv x3), (4, iv (w32 (x4 + 1)))] [] h4 Φ) ∧ (r1 < r3 → AT G m_X12_link 45 [(0, rv 85), (1, iv x1), (2, iv x2), (3, iv x4), (4, iv (w32 (x4 + 1)))] [] h4 Φ))))))))) : AT G m_X12_link 45 [(0, rv 85), (1, iv x1), (2, iv x2), (3, iv x3), (4, iv x4)] [] h Φ := by
  have D := dt_X12_link
  refine a_iload (pc := 45) (dk D 25 rfl) rfl ?_
  refine a_aload_n (pc := 47) (dk D 26 rfl) rfl ?_
  refine a_geti (pc := 48) (dk D 27 rfl) cls_12 fl_RX12_501 cf_85_72 ?_
  refine a_icmp_ge (pc := 51) (dk D 28 rfl) (tgt := 86) rfl ⟨fun c => ?_, fun c => ?_⟩
  · replace H := H.1 c
    refine a_iload_n (pc := 86) (dk D 45 rfl) rfl ?_
    refine a_iconst (pc := 87) (dk D 46 rfl) (ik rfl) ?_
    refine a_icmp_ne (pc := 88) (dk D 47 rfl) (tgt := 106) rfl ⟨fun c => ?_, fun c => ?_⟩
    · replace H := H.1 c
      refine a_aload_n (pc := 106) (dk D 57 rfl) rfl ?_
      refine a_aload_n (pc := 107) (dk D 58 rfl) rfl ?_
      refine a_getr (r := 133) (pc := 108) (dk D 59 rfl) cls_12 fl_RX12_229 cf_85_69 ?_
      refine a_iload_n (pc := 111) (dk D 60 rfl) rfl ?_
      refine a_iald (pc := 112) (dk D 61 rfl) ar_134 ⟨H.1, ?_⟩
      replace H := H.2
      refine a_puti (pc := 113) (dk D 62 rfl) cls_12 fl_RX12_514 cf_85_73 rfl rfl ?_
      refine a_aload_n (pc := 116) (dk D 63 rfl) rfl ?_
      refine a_iconst (pc := 117) (dk D 64 rfl) (ik rfl) ?_
      refine a_puti (pc := 118) (dk D 65 rfl) cls_12 fl_RX12_511 cf_85_74 rfl rfl ?_
      refine a_iconst (pc := 121) (dk D 66 rfl) (ik rfl) ?_
      refine a_istore (pc := 122) (dk D 67 rfl) (by decide) rfl rfl ?_
      exact a_pick [0, 1, 2, 3, 4] rfl H
    · replace H := H.2 c
      refine a_aload_n (pc := 91) (dk D 48 rfl) rfl ?_
      refine a_getr (r := 138) (pc := 92) (dk D 49 rfl) cls_12 fl_RX12_244 cf_85_77 ?_
      refine a_iconst (pc := 95) (dk D 50 rfl) (ik rfl) ?_
      refine a_iload_n (pc := 96) (dk D 51 rfl) rfl ?_
      refine a_iadd (pc := 97) (dk D 52 rfl) ?_
      refine a_iconst (pc := 98) (dk D 53 rfl) (ik rfl) ?_
      refine a_iast (pc := 99) (dk D 54 rfl) ar_139 ⟨H.1, ?_⟩
      replace H := H.2
      refine a_iinc (pc := 100) (dk D 55 rfl) (by decide) rfl rfl rfl ?_
      refine a_goto (pc := 103) (dk D 56 rfl) (tgt := 23) rfl ?_
      exact a_pick [0, 1, 2] rfl H
  · replace H := H.2 c
    refine a_iload_n (pc := 54) (dk D 29 rfl) rfl ?_
    refine a_iconst (pc := 55) (dk D 30 rfl) (ik rfl) ?_
    refine a_icmp_eq (pc := 56) (dk D 31 rfl) (tgt := 73) rfl ⟨fun c => ?_, fun c => ?_⟩
    · replace H := H.1 c
      refine a_iload (pc := 73) (dk D 39 rfl) rfl ?_
      refine a_goto (pc := 75) (dk D 40 rfl) (tgt := 79) rfl ?_
      refine a_istore_n (pc := 79) (dk D 42 rfl) (by decide) rfl rfl ?_
      refine a_iinc (pc := 80) (dk D 43 rfl) (by decide) rfl rfl rfl ?_
      refine a_goto (pc := 83) (dk D 44 rfl) (tgt := 45) rfl ?_
      exact a_pick [0, 1, 2, 3, 4] rfl H
    · replace H := H.2 c
      refine a_aload_n (pc := 59) (dk D 32 rfl) rfl ?_
      refine a_iload (pc := 60) (dk D 33 rfl) rfl ?_
      refine a_callVi (as := [iv x4]) (st := []) (pc := 62) (dk D 34 rfl) cl_RX12_504 ⟨Nat.le_of_ble_eq_true rfl, Nat.le_of_ble_eq_true rfl⟩ ⟨Nat.le_of_ble_eq_true rfl, Nat.le_of_ble_eq_true rfl⟩ cls_12 rfl cc_85 rfl rfl rfl (Nat.le_of_ble_eq_true rfl) (Call.mono H fun r1 h2 H => ?_)
      refine a_aload_n (pc := 65) (dk D 35 rfl) rfl ?_
      refine a_iload_n (pc := 66) (dk D 36 rfl) rfl ?_
      refine a_callVi (as := [iv x3]) (st := [iv r1]) (pc := 67) (dk D 37 rfl) cl_RX12_504 ⟨Nat.le_of_ble_eq_true rfl, Nat.le_of_ble_eq_true rfl⟩ ⟨Nat.le_of_ble_eq_true rfl, Nat.le_of_ble_eq_true rfl⟩ cls_12 rfl cc_85 rfl rfl rfl (Nat.le_of_ble_eq_true rfl) (Call.mono H fun r3 h4 H => ?_)
      refine a_icmp_ge (pc := 70) (dk D 38 rfl) (tgt := 78) rfl ⟨fun c => ?_, fun c => ?_⟩
      · replace H := H.1 c
        refine a_iload_n (pc := 78) (dk D 41 rfl) rfl ?_
        refine a_istore_n (pc := 79) (dk D 42 rfl) (by decide) rfl rfl ?_
        refine a_iinc (pc := 80) (dk D 43 rfl) (by decide) rfl rfl rfl ?_
        refine a_goto (pc := 83) (dk D 44 rfl) (tgt := 45) rfl ?_
        exact a_pick [0, 1, 2, 3, 4] rfl H
      · replace H := H.2 c
        refine a_iload (pc := 73) (dk D 39 rfl) rfl ?_
        refine a_goto (pc := 75) (dk D 40 rfl) (tgt := 79) rfl ?_
        refine a_istore_n (pc := 79) (dk D 42 rfl) (by decide) rfl rfl ?_
        refine a_iinc (pc := 80) (dk D 43 rfl) (by decide) rfl rfl rfl ?_
        refine a_goto (pc := 83) (dk D 44 rfl) (tgt := 45) rfl ?_
        exact a_pick [0, 1, 2, 3, 4] rfl H
set_option maxHeartbeats 40000000 in
theorem T_X12_link_85_124 {G : GG} {Φ : Int → Hp → Prop} {h : Hp} {x1 : Int} {x2 : Int} {x3 : Int} {x4 : Int} (H : (((h 85 73) ≤ x4 → Call G m_X12_drop [rv 85, iv x3] h (fun _ h2 => ((x1 ≠ 255 → (0 ≤ (h2 85 74) ∧ (h2 85 74) < 9) ∧ (0 ≤ (w32 (4 + x2)) ∧ (w32 (4 + x2)) < 24) ∧ AT G m_X12_link 23 [(0, rv 85), (1, iv x1), (2, iv (w32 (x2 + 1)))] [] (up (up h2 139 (w32 (4 + x2)) (h2 136 (h2 85 74))) 85 74 (w32 ((h2 85 74) + 1))) Φ) ∧ (x1 = 255 → (0 ≤ (h2 85 74) ∧ (h2 85 74) < 9) ∧ (0 ≤ (w32 (4 + x2)) ∧ (w32 (4 + x2)) < 24) ∧ AT G m_X12_link 23 [(0, rv 85), (1, iv x2), (2, iv (w32 (x2 + 1)))] [] (up (up h2 139 (w32 (4 + x2)) (h2 136 (h2 85 74))) 85 74 (w32 ((h2 85 74) + 1))) Φ)))) ∧ (x4 < (h 85 73) → (0 ≤ (w32 ((w32 (9 * x3)) + x4)) ∧ (w32 ((w32 (9 * x3)) + x4)) < 450) ∧ (0 ≤ x4 ∧ x4 < 9) ∧ AT G m_X12_link 124 [(0, rv 85), (1, iv x1), (2, iv x2), (3, iv x3), (4, iv (w32 (x4 + 1)))] [] (up h 136 x4 (h 133 (w32 ((w32 (9 * x3)) + x4)))) Φ))) : AT G m_X12_link 124 [(0, rv 85), (1, iv x1), (2, iv x2), (3, iv x3), (4, iv x4)] [] h Φ := by
  have D := dt_X12_link
  refine a_iload (pc := 124) (dk D 68 rfl) rfl ?_
  refine a_aload_n (pc := 126) (dk D 69 rfl) rfl ?_
  refine a_geti (pc := 127) (dk D 70 rfl) cls_12 fl_RX12_514 cf_85_73 ?_
  refine a_icmp_ge (pc := 130) (dk D 71 rfl) (tgt := 158) rfl ⟨fun c => ?_, fun c => ?_⟩
  · replace H := H.1 c
    refine a_aload_n (pc := 158) (dk D 86 rfl) rfl ?_
    refine a_iload_n (pc := 159) (dk D 87 rfl) rfl ?_
    refine a_callVv (as := [iv x3]) (st := []) (pc := 160) (dk D 88 rfl) cl_RX12_507 ⟨Nat.le_of_ble_eq_true rfl, Nat.le_of_ble_eq_true rfl⟩ ⟨Nat.le_of_ble_eq_true rfl, Nat.le_of_ble_eq_true rfl⟩ cls_12 rfl cc_85 rfl rfl rfl (Nat.le_of_ble_eq_true rfl) (Call.mono H fun _ h2 H => ?_)
    refine a_iload_n (pc := 163) (dk D 89 rfl) rfl ?_
    refine a_sipush (pc := 164) (dk D 90 rfl) (ik rfl) (spk rfl) ?_
    refine a_icmp_ne (pc := 167) (dk D 91 rfl) (tgt := 174) rfl ⟨fun c => ?_, fun c => ?_⟩
    · replace H := H.1 c
      refine a_iload_n (pc := 174) (dk D 94 rfl) rfl ?_
      refine a_istore_n (pc := 175) (dk D 95 rfl) (by decide) rfl rfl ?_
      refine a_aload_n (pc := 176) (dk D 96 rfl) rfl ?_
      refine a_getr (r := 138) (pc := 177) (dk D 97 rfl) cls_12 fl_RX12_244 cf_85_77 ?_
      refine a_iconst (pc := 180) (dk D 98 rfl) (ik rfl) ?_
      refine a_iload_n (pc := 181) (dk D 99 rfl) rfl ?_
      refine a_iadd (pc := 182) (dk D 100 rfl) ?_
      refine a_aload_n (pc := 183) (dk D 101 rfl) rfl ?_
      refine a_getr (r := 135) (pc := 184) (dk D 102 rfl) cls_12 fl_RX12_235 cf_85_71 ?_
      refine a_aload_n (pc := 187) (dk D 103 rfl) rfl ?_
      refine a_geti (pc := 188) (dk D 104 rfl) cls_12 fl_RX12_511 cf_85_74 ?_
      refine a_iald (pc := 191) (dk D 105 rfl) ar_136 ⟨H.1, ?_⟩
      replace H := H.2
      refine a_iast (pc := 192) (dk D 106 rfl) ar_139 ⟨H.1, ?_⟩
      replace H := H.2
      refine a_aload_n (pc := 193) (dk D 107 rfl) rfl ?_
      refine a_dup (pc := 194) (dk D 108 rfl) rfl ?_
      refine a_geti (pc := 195) (dk D 109 rfl) cls_12 fl_RX12_511 cf_85_74 ?_
      refine a_top (y := (h2 85 74)) (by simp [up, cpy]) ?_
      refine a_iconst (pc := 198) (dk D 110 rfl) (ik rfl) ?_
      refine a_iadd (pc := 199) (dk D 111 rfl) ?_
      refine a_puti (pc := 200) (dk D 112 rfl) cls_12 fl_RX12_511 cf_85_74 rfl rfl ?_
      refine a_iinc (pc := 203) (dk D 113 rfl) (by decide) rfl rfl rfl ?_
      refine a_goto (pc := 206) (dk D 114 rfl) (tgt := 23) rfl ?_
      exact a_pick [0, 1, 2] rfl H
    · replace H := H.2 c
      refine a_iload_n (pc := 170) (dk D 92 rfl) rfl ?_
      refine a_goto (pc := 171) (dk D 93 rfl) (tgt := 175) rfl ?_
      refine a_istore_n (pc := 175) (dk D 95 rfl) (by decide) rfl rfl ?_
      refine a_aload_n (pc := 176) (dk D 96 rfl) rfl ?_
      refine a_getr (r := 138) (pc := 177) (dk D 97 rfl) cls_12 fl_RX12_244 cf_85_77 ?_
      refine a_iconst (pc := 180) (dk D 98 rfl) (ik rfl) ?_
      refine a_iload_n (pc := 181) (dk D 99 rfl) rfl ?_
      refine a_iadd (pc := 182) (dk D 100 rfl) ?_
      refine a_aload_n (pc := 183) (dk D 101 rfl) rfl ?_
      refine a_getr (r := 135) (pc := 184) (dk D 102 rfl) cls_12 fl_RX12_235 cf_85_71 ?_
      refine a_aload_n (pc := 187) (dk D 103 rfl) rfl ?_
      refine a_geti (pc := 188) (dk D 104 rfl) cls_12 fl_RX12_511 cf_85_74 ?_
      refine a_iald (pc := 191) (dk D 105 rfl) ar_136 ⟨H.1, ?_⟩
      replace H := H.2
      refine a_iast (pc := 192) (dk D 106 rfl) ar_139 ⟨H.1, ?_⟩
      replace H := H.2
      refine a_aload_n (pc := 193) (dk D 107 rfl) rfl ?_
      refine a_dup (pc := 194) (dk D 108 rfl) rfl ?_
      refine a_geti (pc := 195) (dk D 109 rfl) cls_12 fl_RX12_511 cf_85_74 ?_
      refine a_top (y := (h2 85 74)) (by simp [up, cpy]) ?_
      refine a_iconst (pc := 198) (dk D 110 rfl) (ik rfl) ?_
      refine a_iadd (pc := 199) (dk D 111 rfl) ?_
      refine a_puti (pc := 200) (dk D 112 rfl) cls_12 fl_RX12_511 cf_85_74 rfl rfl ?_
      refine a_iinc (pc := 203) (dk D 113 rfl) (by decide) rfl rfl rfl ?_
      refine a_goto (pc := 206) (dk D 114 rfl) (tgt := 23) rfl ?_
      exact a_pick [0, 1, 2] rfl H
  · replace H := H.2 c
    refine a_aload_n (pc := 133) (dk D 72 rfl) rfl ?_
    refine a_getr (r := 135) (pc := 134) (dk D 73 rfl) cls_12 fl_RX12_235 cf_85_71 ?_
    refine a_iload (pc := 137) (dk D 74 rfl) rfl ?_
    refine a_aload_n (pc := 139) (dk D 75 rfl) rfl ?_
    refine a_getr (r := 132) (pc := 140) (dk D 76 rfl) cls_12 fl_RX12_227 cf_85_68 ?_
    refine a_bipush (pc := 143) (dk D 77 rfl) (ik rfl) (bpk rfl) ?_
    refine a_iload_n (pc := 145) (dk D 78 rfl) rfl ?_
    refine a_imul (pc := 146) (dk D 79 rfl) ?_
    refine a_iload (pc := 147) (dk D 80 rfl) rfl ?_
    refine a_iadd (pc := 149) (dk D 81 rfl) ?_
    refine a_iald (pc := 150) (dk D 82 rfl) ar_133 ⟨H.1, ?_⟩
    replace H := H.2
    refine a_iast (pc := 151) (dk D 83 rfl) ar_136 ⟨H.1, ?_⟩
    replace H := H.2
    refine a_iinc (pc := 152) (dk D 84 rfl) (by decide) rfl rfl rfl ?_
    refine a_goto (pc := 155) (dk D 85 rfl) (tgt := 124) rfl ?_
    exact a_pick [0, 1, 2, 3, 4] rfl H
set_option maxHeartbeats 40000000 in
theorem T_X12_isShadow_85_0 {G : GG} {Φ : Int → Hp → Prop} {h : Hp} (H : Call G m_X12_angle [rv 85, iv (h 85 10)] h (fun r1 h2 => Call G m_X12_round [jv (w32 (r1 - (h2 85 13)))] h2 (fun r3 h4 => (((h4 85 14) ≤ r3 → Φ 0 h4) ∧ (r3 < (h4 85 14) → Φ 1 h4))))) : AT G m_X12_isShadow 0 [(0, rv 85)] [] h Φ := by
  have D := dt_X12_isShadow
  refine a_aload_n (pc := 0) (dk D 0 rfl) rfl ?_
  refine a_aload_n (pc := 1) (dk D 1 rfl) rfl ?_
  refine a_geti (pc := 2) (dk D 2 rfl) cls_12 fl_RX12_398 cf_85_10 ?_
  refine a_callVi (as := [iv (h 85 10)]) (st := []) (pc := 5) (dk D 3 rfl) cl_RX12_401 ⟨Nat.le_of_ble_eq_true rfl, Nat.le_of_ble_eq_true rfl⟩ ⟨Nat.le_of_ble_eq_true rfl, Nat.le_of_ble_eq_true rfl⟩ cls_12 rfl cc_85 rfl rfl rfl (Nat.le_of_ble_eq_true rfl) (Call.mono H fun r1 h2 H => ?_)
  refine a_aload_n (pc := 8) (dk D 4 rfl) rfl ?_
  refine a_geti (pc := 9) (dk D 5 rfl) cls_12 fl_RX12_390 cf_85_13 ?_
  refine a_isub (pc := 12) (dk D 6 rfl) ?_
  refine a_i2l (pc := 13) (dk D 7 rfl) ?_
  refine a_callSi (as := [jv (w32 (r1 - (h2 85 13)))]) (st := []) (pc := 14) (dk D 8 rfl) cl_RX12_404 ⟨Nat.le_of_ble_eq_true rfl, Nat.le_of_ble_eq_true rfl⟩ ⟨Nat.le_of_ble_eq_true rfl, Nat.le_of_ble_eq_true rfl⟩ rfl rfl rfl (Nat.le_of_ble_eq_true rfl) (Call.mono H fun r3 h4 H => ?_)
  refine a_aload_n (pc := 17) (dk D 9 rfl) rfl ?_
  refine a_geti (pc := 18) (dk D 10 rfl) cls_12 fl_RX12_393 cf_85_14 ?_
  refine a_icmp_ge (pc := 21) (dk D 11 rfl) (tgt := 28) rfl ⟨fun c => ?_, fun c => ?_⟩
  · replace H := H.1 c
    refine a_iconst (pc := 28) (dk D 14 rfl) (ik rfl) ?_
    exact a_zret (pc := 29) (dk D 15 rfl) rfl rfl ⟨by decide, H⟩
  · replace H := H.2 c
    refine a_iconst (pc := 24) (dk D 12 rfl) (ik rfl) ?_
    refine a_goto (pc := 25) (dk D 13 rfl) (tgt := 29) rfl ?_
    exact a_zret (pc := 29) (dk D 15 rfl) rfl rfl ⟨by decide, H⟩
set_option maxHeartbeats 40000000 in
theorem T_X12_recorded_85_0 {G : GG} {Φ : Int → Hp → Prop} {h : Hp} (H : AT G m_X12_recorded 4 [(0, rv 85), (1, iv 0), (2, iv 0)] [] h Φ) : AT G m_X12_recorded 0 [(0, rv 85)] [] h Φ := by
  have D := dt_X12_recorded
  refine a_iconst (pc := 0) (dk D 0 rfl) (ik rfl) ?_
  refine a_istore_n (pc := 1) (dk D 1 rfl) (by decide) rfl rfl ?_
  refine a_iconst (pc := 2) (dk D 2 rfl) (ik rfl) ?_
  refine a_istore_n (pc := 3) (dk D 3 rfl) (by decide) rfl rfl ?_
  exact a_pick [0, 1, 2] rfl H
set_option maxHeartbeats 40000000 in
theorem T_X12_recorded_85_4 {G : GG} {Φ : Int → Hp → Prop} {h : Hp} {x1 : Int} {x2 : Int} (H : (((h 85 72) ≤ x2 → Φ x1 h) ∧ (x2 < (h 85 72) → (0 ≤ x2 ∧ x2 < 50) ∧ AT G m_X12_recorded 4 [(0, rv 85), (1, iv (w32 (x1 + (h 134 x2)))), (2, iv (w32 (x2 + 1)))] [] h Φ))) : AT G m_X12_recorded 4 [(0, rv 85), (1, iv x1), (2, iv x2)] [] h Φ := by
  have D := dt_X12_recorded
  refine a_iload_n (pc := 4) (dk D 4 rfl) rfl ?_
  refine a_aload_n (pc := 5) (dk D 5 rfl) rfl ?_
  refine a_geti (pc := 6) (dk D 6 rfl) cls_12 fl_RX12_501 cf_85_72 ?_
  refine a_icmp_ge (pc := 9) (dk D 7 rfl) (tgt := 27) rfl ⟨fun c => ?_, fun c => ?_⟩
  · replace H := H.1 c
    refine a_iload_n (pc := 27) (dk D 17 rfl) rfl ?_
    exact a_iret (pc := 28) (dk D 18 rfl) rfl rfl H
  · replace H := H.2 c
    refine a_iload_n (pc := 12) (dk D 8 rfl) rfl ?_
    refine a_aload_n (pc := 13) (dk D 9 rfl) rfl ?_
    refine a_getr (r := 133) (pc := 14) (dk D 10 rfl) cls_12 fl_RX12_229 cf_85_69 ?_
    refine a_iload_n (pc := 17) (dk D 11 rfl) rfl ?_
    refine a_iald (pc := 18) (dk D 12 rfl) ar_134 ⟨H.1, ?_⟩
    replace H := H.2
    refine a_iadd (pc := 19) (dk D 13 rfl) ?_
    refine a_istore_n (pc := 20) (dk D 14 rfl) (by decide) rfl rfl ?_
    refine a_iinc (pc := 21) (dk D 15 rfl) (by decide) rfl rfl rfl ?_
    refine a_goto (pc := 24) (dk D 16 rfl) (tgt := 4) rfl ?_
    exact a_pick [0, 1, 2] rfl H
set_option maxHeartbeats 40000000 in
theorem T_X12_angle_85_0 {G : GG} {Φ : Int → Hp → Prop} {h : Hp} {x1 : Int} (H : (h 85 11) ≠ 0 ∧ (h 85 11) ≠ 0 ∧ Φ ((w32 ((h 85 12) + (w32 ((w32 (3600 * (x1.tmod (h 85 11)))).tdiv (h 85 11))))).tmod 3600) h) : AT G m_X12_angle 0 [(0, rv 85), (1, iv x1)] [] h Φ := by
  have D := dt_X12_angle
  refine a_aload_n (pc := 0) (dk D 0 rfl) rfl ?_
  refine a_geti (pc := 1) (dk D 1 rfl) cls_12 fl_RX12_387 cf_85_12 ?_
  refine a_sipush (pc := 4) (dk D 2 rfl) (ik rfl) (spk rfl) ?_
  refine a_iload_n (pc := 7) (dk D 3 rfl) rfl ?_
  refine a_aload_n (pc := 8) (dk D 4 rfl) rfl ?_
  refine a_geti (pc := 9) (dk D 5 rfl) cls_12 fl_RX12_22 cf_85_11 ?_
  refine a_irem (pc := 12) (dk D 6 rfl) ⟨H.1, ?_⟩
  replace H := H.2
  refine a_imul (pc := 13) (dk D 7 rfl) ?_
  refine a_aload_n (pc := 14) (dk D 8 rfl) rfl ?_
  refine a_geti (pc := 15) (dk D 9 rfl) cls_12 fl_RX12_22 cf_85_11 ?_
  refine a_idiv (pc := 18) (dk D 10 rfl) ⟨H.1, ?_⟩
  replace H := H.2
  refine a_iadd (pc := 19) (dk D 11 rfl) ?_
  refine a_sipush (pc := 20) (dk D 12 rfl) (ik rfl) (spk rfl) ?_
  refine a_irem (pc := 23) (dk D 13 rfl) ⟨by decide, ?_⟩
  exact a_iret (pc := 24) (dk D 14 rfl) rfl rfl H
set_option maxHeartbeats 40000000 in
theorem T_X12_read_85_0 {G : GG} {Φ : Int → Hp → Prop} {h : Hp} {x1 : Int} (H : (0 ≤ x1 ∧ x1 < 64) ∧ Call G m_X12_places [iv (h 97 x1)] h (fun r1 h2 => Call G m_X12_odd [iv (h 97 x1)] h2 (fun r3 h4 => ((r3 ≠ 0 → ((r1 ≤ 12 → Call G m_X12_plain [iv (bxor (h 97 x1) (bshl 1 r1))] h4 (fun r5 h6 => Φ r5 h6)) ∧ (12 < r1 → Φ (-1) h4))) ∧ (r3 = 0 → ((r1 ≠ 0 → Φ (-1) h4) ∧ (r1 = 0 → Call G m_X12_plain [iv (h 97 x1)] h4 (fun r7 h8 => Φ r7 h8)))))))) : AT G m_X12_read 0 [(0, rv 85), (1, iv x1)] [] h Φ := by
  have D := dt_X12_read
  refine a_aload_n (pc := 0) (dk D 0 rfl) rfl ?_
  refine a_getr (r := 96) (pc := 1) (dk D 1 rfl) cls_12 fl_RX12_57 cf_85_28 ?_
  refine a_iload_n (pc := 4) (dk D 2 rfl) rfl ?_
  refine a_iald (pc := 5) (dk D 3 rfl) ar_97 ⟨H.1, ?_⟩
  replace H := H.2
  refine a_istore_n (pc := 6) (dk D 4 rfl) (by decide) rfl rfl ?_
  refine a_iload_n (pc := 7) (dk D 5 rfl) rfl ?_
  refine a_callSi (as := [iv (h 97 x1)]) (st := []) (pc := 8) (dk D 6 rfl) cl_RX12_429 ⟨Nat.le_of_ble_eq_true rfl, Nat.le_of_ble_eq_true rfl⟩ ⟨Nat.le_of_ble_eq_true rfl, Nat.le_of_ble_eq_true rfl⟩ rfl rfl rfl (Nat.le_of_ble_eq_true rfl) (Call.mono H fun r1 h2 H => ?_)
  refine a_istore_n (pc := 11) (dk D 7 rfl) (by decide) rfl rfl ?_
  refine a_iload_n (pc := 12) (dk D 8 rfl) rfl ?_
  refine a_callSi (as := [iv (h 97 x1)]) (st := []) (pc := 13) (dk D 9 rfl) cl_RX12_432 ⟨Nat.le_of_ble_eq_true rfl, Nat.le_of_ble_eq_true rfl⟩ ⟨Nat.le_of_ble_eq_true rfl, Nat.le_of_ble_eq_true rfl⟩ rfl rfl rfl (Nat.le_of_ble_eq_true rfl) (Call.mono H fun r3 h4 H => ?_)
  refine a_if_ne (pc := 16) (dk D 10 rfl) (tgt := 32) rfl ⟨fun c => ?_, fun c => ?_⟩
  · replace H := H.1 c
    refine a_iload_n (pc := 32) (dk D 18 rfl) rfl ?_
    refine a_bipush (pc := 33) (dk D 19 rfl) (ik rfl) (bpk rfl) ?_
    refine a_icmp_le (pc := 35) (dk D 20 rfl) (tgt := 42) rfl ⟨fun c => ?_, fun c => ?_⟩
    · replace H := H.1 c
      refine a_iload_n (pc := 42) (dk D 23 rfl) rfl ?_
      refine a_iconst (pc := 43) (dk D 24 rfl) (ik rfl) ?_
      refine a_iload_n (pc := 44) (dk D 25 rfl) rfl ?_
      refine a_ishl (pc := 45) (dk D 26 rfl) ?_
      refine a_ixor (pc := 46) (dk D 27 rfl) ?_
      refine a_callSi (as := [iv (bxor (h 97 x1) (bshl 1 r1))]) (st := []) (pc := 47) (dk D 28 rfl) cl_RX12_435 ⟨Nat.le_of_ble_eq_true rfl, Nat.le_of_ble_eq_true rfl⟩ ⟨Nat.le_of_ble_eq_true rfl, Nat.le_of_ble_eq_true rfl⟩ rfl rfl rfl (Nat.le_of_ble_eq_true rfl) (Call.mono H fun r5 h6 H => ?_)
      exact a_iret (pc := 50) (dk D 29 rfl) rfl rfl H
    · replace H := H.2 c
      refine a_iconst (pc := 38) (dk D 21 rfl) (ik rfl) ?_
      refine a_goto (pc := 39) (dk D 22 rfl) (tgt := 50) rfl ?_
      exact a_iret (pc := 50) (dk D 29 rfl) rfl rfl H
  · replace H := H.2 c
    refine a_iload_n (pc := 19) (dk D 11 rfl) rfl ?_
    refine a_if_ne (pc := 20) (dk D 12 rfl) (tgt := 30) rfl ⟨fun c => ?_, fun c => ?_⟩
    · replace H := H.1 c
      refine a_iconst (pc := 30) (dk D 16 rfl) (ik rfl) ?_
      exact a_iret (pc := 31) (dk D 17 rfl) rfl rfl H
    · replace H := H.2 c
      refine a_iload_n (pc := 23) (dk D 13 rfl) rfl ?_
      refine a_callSi (as := [iv (h 97 x1)]) (st := []) (pc := 24) (dk D 14 rfl) cl_RX12_435 ⟨Nat.le_of_ble_eq_true rfl, Nat.le_of_ble_eq_true rfl⟩ ⟨Nat.le_of_ble_eq_true rfl, Nat.le_of_ble_eq_true rfl⟩ rfl rfl rfl (Nat.le_of_ble_eq_true rfl) (Call.mono H fun r7 h8 H => ?_)
      refine a_goto (pc := 27) (dk D 15 rfl) (tgt := 31) rfl ?_
      exact a_iret (pc := 31) (dk D 17 rfl) rfl rfl H
set_option maxHeartbeats 40000000 in
theorem T_X12_shift_85_0 {G : GG} {Φ : Int → Hp → Prop} {h : Hp} (H : AT G m_X12_shift 12 [(0, rv 85), (1, iv 0)] [] (up h 85 78 (w32 ((h 85 78) - 1))) Φ) : AT G m_X12_shift 0 [(0, rv 85)] [] h Φ := by
  have D := dt_X12_shift
  refine a_aload_n (pc := 0) (dk D 0 rfl) rfl ?_
  refine a_dup (pc := 1) (dk D 1 rfl) rfl ?_
  refine a_geti (pc := 2) (dk D 2 rfl) cls_12 fl_RX12_530 cf_85_78 ?_
  refine a_iconst (pc := 5) (dk D 3 rfl) (ik rfl) ?_
  refine a_isub (pc := 6) (dk D 4 rfl) ?_
  refine a_puti (pc := 7) (dk D 5 rfl) cls_12 fl_RX12_530 cf_85_78 rfl rfl ?_
  refine a_iconst (pc := 10) (dk D 6 rfl) (ik rfl) ?_
  refine a_istore_n (pc := 11) (dk D 7 rfl) (by decide) rfl rfl ?_
  exact a_pick [0, 1] rfl H
set_option maxHeartbeats 40000000 in
theorem T_X12_shift_85_12 {G : GG} {Φ : Int → Hp → Prop} {h : Hp} {x1 : Int} (H : (((w32 (24 * (h 85 78))) ≤ x1 → Φ 0 h) ∧ (x1 < (w32 (24 * (h 85 78))) → (0 ≤ (w32 (x1 + 24)) ∧ (w32 (x1 + 24)) < 720) ∧ (0 ≤ x1 ∧ x1 < 720) ∧ AT G m_X12_shift 12 [(0, rv 85), (1, iv (w32 (x1 + 1)))] [] (up h 138 x1 (h 138 (w32 (x1 + 24)))) Φ))) : AT G m_X12_shift 12 [(0, rv 85), (1, iv x1)] [] h Φ := by
  have D := dt_X12_shift
  refine a_iload_n (pc := 12) (dk D 8 rfl) rfl ?_
  refine a_bipush (pc := 13) (dk D 9 rfl) (ik rfl) (bpk rfl) ?_
  refine a_aload_n (pc := 15) (dk D 10 rfl) rfl ?_
  refine a_geti (pc := 16) (dk D 11 rfl) cls_12 fl_RX12_530 cf_85_78 ?_
  refine a_imul (pc := 19) (dk D 12 rfl) ?_
  refine a_icmp_ge (pc := 20) (dk D 13 rfl) (tgt := 44) rfl ⟨fun c => ?_, fun c => ?_⟩
  · replace H := H.1 c
    exact a_vret (pc := 44) (dk D 26 rfl) rfl rfl H
  · replace H := H.2 c
    refine a_aload_n (pc := 23) (dk D 14 rfl) rfl ?_
    refine a_getr (r := 137) (pc := 24) (dk D 15 rfl) cls_12 fl_RX12_241 cf_85_76 ?_
    refine a_iload_n (pc := 27) (dk D 16 rfl) rfl ?_
    refine a_aload_n (pc := 28) (dk D 17 rfl) rfl ?_
    refine a_getr (r := 137) (pc := 29) (dk D 18 rfl) cls_12 fl_RX12_241 cf_85_76 ?_
    refine a_iload_n (pc := 32) (dk D 19 rfl) rfl ?_
    refine a_bipush (pc := 33) (dk D 20 rfl) (ik rfl) (bpk rfl) ?_
    refine a_iadd (pc := 35) (dk D 21 rfl) ?_
    refine a_iald (pc := 36) (dk D 22 rfl) ar_138 ⟨H.1, ?_⟩
    replace H := H.2
    refine a_iast (pc := 37) (dk D 23 rfl) ar_138 ⟨H.1, ?_⟩
    replace H := H.2
    refine a_iinc (pc := 38) (dk D 24 rfl) (by decide) rfl rfl rfl ?_
    refine a_goto (pc := 41) (dk D 25 rfl) (tgt := 12) rfl ?_
    exact a_pick [0, 1] rfl H
