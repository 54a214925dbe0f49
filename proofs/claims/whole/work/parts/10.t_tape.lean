theorem T_X11_within_0 {G : GG} {Φ : Int → Hp → Prop} {h : Hp} {x0 : Int} {x1 : Int} {x2 : Int} (H : ((x0 < x1 → Φ 0 h) ∧ (x1 ≤ x0 → ((x2 < x0 → Φ 0 h) ∧ (x0 ≤ x2 → Φ 1 h))))) : AT G m_X11_within 0 [(0, iv x0), (1, iv x1), (2, iv x2)] [] h Φ := by
  have D := dt_X11_within
  refine a_iload_n (dk D 0 rfl) rfl ?_
  refine a_iload_n (dk D 1 rfl) rfl ?_
  refine a_icmp_lt (dk D 2 rfl) (tgt := 14) rfl ⟨fun c => ?_, fun c => ?_⟩
  · replace H := H.1 c
    refine a_iconst (dk D 8 rfl) (ik rfl) ?_
    exact a_zret (dk D 9 rfl) rfl rfl ⟨by decide, H⟩
  · replace H := H.2 c
    refine a_iload_n (dk D 3 rfl) rfl ?_
    refine a_iload_n (dk D 4 rfl) rfl ?_
    refine a_icmp_gt (dk D 5 rfl) (tgt := 14) rfl ⟨fun c => ?_, fun c => ?_⟩
    · replace H := H.1 c
      refine a_iconst (dk D 8 rfl) (ik rfl) ?_
      exact a_zret (dk D 9 rfl) rfl rfl ⟨by decide, H⟩
    · replace H := H.2 c
      refine a_iconst (dk D 6 rfl) (ik rfl) ?_
      refine a_goto (dk D 7 rfl) (tgt := 15) rfl ?_
      exact a_zret (dk D 9 rfl) rfl rfl ⟨by decide, H⟩
theorem T_X11_bit_0 {G : GG} {Φ : Int → Hp → Prop} {h : Hp} {x0 : Int} (H : ((x0 = 0 → Φ 0 h) ∧ (x0 ≠ 0 → Φ 1 h))) : AT G m_X11_bit 0 [(0, iv x0)] [] h Φ := by
  have D := dt_X11_bit
  refine a_iload_n (dk D 0 rfl) rfl ?_
  refine a_if_eq (dk D 1 rfl) (tgt := 8) rfl ⟨fun c => ?_, fun c => ?_⟩
  · replace H := H.1 c
    refine a_iconst (dk D 4 rfl) (ik rfl) ?_
    exact a_iret (dk D 5 rfl) rfl rfl H
  · replace H := H.2 c
    refine a_iconst (dk D 2 rfl) (ik rfl) ?_
    refine a_goto (dk D 3 rfl) (tgt := 9) rfl ?_
    exact a_iret (dk D 5 rfl) rfl rfl H
theorem T_X10_append_2_0 {G : GG} {Φ : Int → Hp → Prop} {h : Hp} {x1 : Int} (H : AT G m_X10_append 3 [(0, rv 2), (1, iv x1), (2, iv 24)] [] h Φ) : AT G m_X10_append 0 [(0, rv 2), (1, iv x1)] [] h Φ := by
  have D := dt_X10_append
  refine a_bipush (dk D 0 rfl) (ik rfl) (bpk rfl) ?_
  refine a_istore_n (dk D 1 rfl) (by decide) rfl rfl ?_
  exact a_pick [0, 1, 2] rfl H
theorem T_X10_append_2_3 {G : GG} {Φ : Int → Hp → Prop} {h : Hp} {x1 : Int} {x2 : Int} (H : ((x2 < 0 → Φ 0 h) ∧ (0 ≤ x2 → ((1600 ≤ (h 2 1) → Φ 0 h) ∧ ((h 2 1) < 1600 → (0 ≤ (h 2 1) ∧ (h 2 1) < 1600) ∧ AT G m_X10_append 3 [(0, rv 2), (1, iv x1), (2, iv (w32 (x2 + (-8))))] [] (up (up h 3 (h 2 1) (band (bushr x1 x2) 255)) 2 1 (w32 ((h 2 1) + 1))) Φ))))) : AT G m_X10_append 3 [(0, rv 2), (1, iv x1), (2, iv x2)] [] h Φ := by
  have D := dt_X10_append
  refine a_iload_n (dk D 2 rfl) rfl ?_
  refine a_if_lt (dk D 3 rfl) (tgt := 49) rfl ⟨fun c => ?_, fun c => ?_⟩
  · replace H := H.1 c
    exact a_vret (dk D 26 rfl) rfl rfl H
  · replace H := H.2 c
    refine a_aload_n (dk D 4 rfl) rfl ?_
    refine a_geti (dk D 5 rfl) cls_10 fl_RX10_19 cf_2_1 ?_
    refine a_sipush (dk D 6 rfl) (ik rfl) (spk rfl) ?_
    refine a_icmp_ge (dk D 7 rfl) (tgt := 49) rfl ⟨fun c => ?_, fun c => ?_⟩
    · replace H := H.1 c
      exact a_vret (dk D 26 rfl) rfl rfl H
    · replace H := H.2 c
      refine a_aload_n (dk D 8 rfl) rfl ?_
      refine a_getr (r := 2) (dk D 9 rfl) cls_10 fl_RX10_11 cf_2_0 ?_
      refine a_aload_n (dk D 10 rfl) rfl ?_
      refine a_geti (dk D 11 rfl) cls_10 fl_RX10_19 cf_2_1 ?_
      refine a_iload_n (dk D 12 rfl) rfl ?_
      refine a_iload_n (dk D 13 rfl) rfl ?_
      refine a_iushr (dk D 14 rfl) ?_
      refine a_sipush (dk D 15 rfl) (ik rfl) (spk rfl) ?_
      refine a_iand (dk D 16 rfl) ?_
      refine a_iast (dk D 17 rfl) ar_3 ⟨H.1, ?_⟩
      replace H := H.2
      refine a_aload_n (dk D 18 rfl) rfl ?_
      refine a_dup (dk D 19 rfl) rfl ?_
      refine a_geti (dk D 20 rfl) cls_10 fl_RX10_19 cf_2_1 ?_
      refine a_top (y := (h 2 1)) (by simp [up]) ?_
      refine a_iconst (dk D 21 rfl) (ik rfl) ?_
      refine a_iadd (dk D 22 rfl) ?_
      refine a_puti (dk D 23 rfl) cls_10 fl_RX10_19 cf_2_1 rfl rfl ?_
      refine a_iinc (dk D 24 rfl) (by decide) rfl rfl rfl ?_
      refine a_goto (dk D 25 rfl) (tgt := 3) rfl ?_
      exact a_pick [0, 1, 2] rfl H
theorem T_X10_open_2_0 {G : GG} {Φ : Int → Hp → Prop} {h : Hp} (H : Φ 0 (up (up h 2 2 0) 2 3 (-1))) : AT G m_X10_open 0 [(0, rv 2)] [] h Φ := by
  have D := dt_X10_open
  refine a_aload_n (dk D 0 rfl) rfl ?_
  refine a_iconst (dk D 1 rfl) (ik rfl) ?_
  refine a_puti (dk D 2 rfl) cls_10 fl_RX10_22 cf_2_2 rfl rfl ?_
  refine a_aload_n (dk D 3 rfl) rfl ?_
  refine a_iconst (dk D 4 rfl) (ik rfl) ?_
  refine a_puti (dk D 5 rfl) cls_10 fl_RX10_15 cf_2_3 rfl rfl ?_
  exact a_vret (dk D 6 rfl) rfl rfl H
theorem T_X10_isRight_2_0 {G : GG} {Φ : Int → Hp → Prop} {h : Hp} (H : (((h 2 3) ≠ (-1) → Φ 0 h) ∧ ((h 2 3) = (-1) → Φ 1 h))) : AT G m_X10_isRight 0 [(0, rv 2)] [] h Φ := by
  have D := dt_X10_isRight
  refine a_aload_n (dk D 0 rfl) rfl ?_
  refine a_geti (dk D 1 rfl) cls_10 fl_RX10_15 cf_2_3 ?_
  refine a_iconst (dk D 2 rfl) (ik rfl) ?_
  refine a_icmp_ne (dk D 3 rfl) (tgt := 12) rfl ⟨fun c => ?_, fun c => ?_⟩
  · replace H := H.1 c
    refine a_iconst (dk D 6 rfl) (ik rfl) ?_
    exact a_zret (dk D 7 rfl) rfl rfl ⟨by decide, H⟩
  · replace H := H.2 c
    refine a_iconst (dk D 4 rfl) (ik rfl) ?_
    refine a_goto (dk D 5 rfl) (tgt := 13) rfl ?_
    exact a_zret (dk D 7 rfl) rfl rfl ⟨by decide, H⟩
theorem T_X10_isAtEnd_2_0 {G : GG} {Φ : Int → Hp → Prop} {h : Hp} (H : (((h 2 2) < (h 2 1) → Φ 0 h) ∧ ((h 2 1) ≤ (h 2 2) → Φ 1 h))) : AT G m_X10_isAtEnd 0 [(0, rv 2)] [] h Φ := by
  have D := dt_X10_isAtEnd
  refine a_aload_n (dk D 0 rfl) rfl ?_
  refine a_geti (dk D 1 rfl) cls_10 fl_RX10_22 cf_2_2 ?_
  refine a_aload_n (dk D 2 rfl) rfl ?_
  refine a_geti (dk D 3 rfl) cls_10 fl_RX10_19 cf_2_1 ?_
  refine a_icmp_lt (dk D 4 rfl) (tgt := 15) rfl ⟨fun c => ?_, fun c => ?_⟩
  · replace H := H.1 c
    refine a_iconst (dk D 7 rfl) (ik rfl) ?_
    exact a_zret (dk D 8 rfl) rfl rfl ⟨by decide, H⟩
  · replace H := H.2 c
    refine a_iconst (dk D 5 rfl) (ik rfl) ?_
    refine a_goto (dk D 6 rfl) (tgt := 16) rfl ?_
    exact a_zret (dk D 8 rfl) rfl rfl ⟨by decide, H⟩
theorem T_X10_closes_2_0 {G : GG} {Φ : Int → Hp → Prop} {h : Hp} (H : Call G m_X10_isRight [rv 2] h (fun r1 h2 => ((r1 = 0 → Call G m_X10_isRight [rv 2] (up h2 2 1 0) (fun r3 h4 => (r3 = 0 ∨ r3 = 1) ∧ Φ r3 h4)) ∧ (r1 ≠ 0 → Call G m_X10_isAtEnd [rv 2] h2 (fun r5 h6 => ((r5 ≠ 0 → Call G m_X10_isRight [rv 2] (up h6 2 1 0) (fun r7 h8 => (r7 = 0 ∨ r7 = 1) ∧ Φ r7 h8)) ∧ (r5 = 0 → Call G m_X10_isRight [rv 2] (up (up h6 2 3 (h6 2 2)) 2 1 0) (fun r9 h10 => (r9 = 0 ∨ r9 = 1) ∧ Φ r9 h10)))))))) : AT G m_X10_closes 0 [(0, rv 2)] [] h Φ := by
  have D := dt_X10_closes
  refine a_aload_n (dk D 0 rfl) rfl ?_
  refine a_callVi (as := []) (st := []) (dk D 1 rfl) cl_RX10_25 ⟨Nat.le_of_ble_eq_true rfl, Nat.le_of_ble_eq_true rfl⟩ ⟨Nat.le_of_ble_eq_true rfl, Nat.le_of_ble_eq_true rfl⟩ cls_10 rfl cc_2 rfl rfl rfl (Nat.le_of_ble_eq_true rfl) (Call.mono H fun r1 h2 H => ?_)
  refine a_if_eq (dk D 2 rfl) (tgt := 22) rfl ⟨fun c => ?_, fun c => ?_⟩
  · replace H := H.1 c
    refine a_aload_n (dk D 10 rfl) rfl ?_
    refine a_iconst (dk D 11 rfl) (ik rfl) ?_
    refine a_puti (dk D 12 rfl) cls_10 fl_RX10_19 cf_2_1 rfl rfl ?_
    refine a_aload_n (dk D 13 rfl) rfl ?_
    refine a_callVi (as := []) (st := []) (dk D 14 rfl) cl_RX10_25 ⟨Nat.le_of_ble_eq_true rfl, Nat.le_of_ble_eq_true rfl⟩ ⟨Nat.le_of_ble_eq_true rfl, Nat.le_of_ble_eq_true rfl⟩ cls_10 rfl cc_2 rfl rfl rfl (Nat.le_of_ble_eq_true rfl) (Call.mono H fun r3 h4 H => ?_)
    exact a_zret (dk D 15 rfl) rfl rfl H
  · replace H := H.2 c
    refine a_aload_n (dk D 3 rfl) rfl ?_
    refine a_callVi (as := []) (st := []) (dk D 4 rfl) cl_RX10_29 ⟨Nat.le_of_ble_eq_true rfl, Nat.le_of_ble_eq_true rfl⟩ ⟨Nat.le_of_ble_eq_true rfl, Nat.le_of_ble_eq_true rfl⟩ cls_10 rfl cc_2 rfl rfl rfl (Nat.le_of_ble_eq_true rfl) (Call.mono H fun r5 h6 H => ?_)
    refine a_if_ne (dk D 5 rfl) (tgt := 22) rfl ⟨fun c => ?_, fun c => ?_⟩
    · replace H := H.1 c
      refine a_aload_n (dk D 10 rfl) rfl ?_
      refine a_iconst (dk D 11 rfl) (ik rfl) ?_
      refine a_puti (dk D 12 rfl) cls_10 fl_RX10_19 cf_2_1 rfl rfl ?_
      refine a_aload_n (dk D 13 rfl) rfl ?_
      refine a_callVi (as := []) (st := []) (dk D 14 rfl) cl_RX10_25 ⟨Nat.le_of_ble_eq_true rfl, Nat.le_of_ble_eq_true rfl⟩ ⟨Nat.le_of_ble_eq_true rfl, Nat.le_of_ble_eq_true rfl⟩ cls_10 rfl cc_2 rfl rfl rfl (Nat.le_of_ble_eq_true rfl) (Call.mono H fun r7 h8 H => ?_)
      exact a_zret (dk D 15 rfl) rfl rfl H
    · replace H := H.2 c
      refine a_aload_n (dk D 6 rfl) rfl ?_
      refine a_aload_n (dk D 7 rfl) rfl ?_
      refine a_geti (dk D 8 rfl) cls_10 fl_RX10_22 cf_2_2 ?_
      refine a_puti (dk D 9 rfl) cls_10 fl_RX10_15 cf_2_3 rfl rfl ?_
      refine a_aload_n (dk D 10 rfl) rfl ?_
      refine a_iconst (dk D 11 rfl) (ik rfl) ?_
      refine a_puti (dk D 12 rfl) cls_10 fl_RX10_19 cf_2_1 rfl rfl ?_
      refine a_aload_n (dk D 13 rfl) rfl ?_
      refine a_callVi (as := []) (st := []) (dk D 14 rfl) cl_RX10_25 ⟨Nat.le_of_ble_eq_true rfl, Nat.le_of_ble_eq_true rfl⟩ ⟨Nat.le_of_ble_eq_true rfl, Nat.le_of_ble_eq_true rfl⟩ cls_10 rfl cc_2 rfl rfl rfl (Nat.le_of_ble_eq_true rfl) (Call.mono H fun r9 h10 H => ?_)
      exact a_zret (dk D 15 rfl) rfl rfl H
theorem T_X10_wrong_2_0 {G : GG} {Φ : Int → Hp → Prop} {h : Hp} (H : Φ (w32 ((-1000) - (h 2 3))) h) : AT G m_X10_wrong 0 [(0, rv 2)] [] h Φ := by
  have D := dt_X10_wrong
  refine a_sipush (dk D 0 rfl) (ik rfl) (spk rfl) ?_
  refine a_aload_n (dk D 1 rfl) rfl ?_
  refine a_geti (dk D 2 rfl) cls_10 fl_RX10_15 cf_2_3 ?_
  refine a_isub (dk D 3 rfl) ?_
  exact a_iret (dk D 4 rfl) rfl rfl H
theorem T_X10_byteAt_2_0 {G : GG} {Φ : Int → Hp → Prop} {h : Hp} {x1 : Int} (H : ((x1 < 0 → Φ (-1) h) ∧ (0 ≤ x1 → (((h 2 1) ≤ x1 → Φ (-1) h) ∧ (x1 < (h 2 1) → (0 ≤ x1 ∧ x1 < 1600) ∧ Φ (h 3 x1) h))))) : AT G m_X10_byteAt 0 [(0, rv 2), (1, iv x1)] [] h Φ := by
  have D := dt_X10_byteAt
  refine a_iload_n (dk D 0 rfl) rfl ?_
  refine a_if_lt (dk D 1 rfl) (tgt := 21) rfl ⟨fun c => ?_, fun c => ?_⟩
  · replace H := H.1 c
    refine a_iconst (dk D 11 rfl) (ik rfl) ?_
    exact a_iret (dk D 12 rfl) rfl rfl H
  · replace H := H.2 c
    refine a_iload_n (dk D 2 rfl) rfl ?_
    refine a_aload_n (dk D 3 rfl) rfl ?_
    refine a_geti (dk D 4 rfl) cls_10 fl_RX10_19 cf_2_1 ?_
    refine a_icmp_ge (dk D 5 rfl) (tgt := 21) rfl ⟨fun c => ?_, fun c => ?_⟩
    · replace H := H.1 c
      refine a_iconst (dk D 11 rfl) (ik rfl) ?_
      exact a_iret (dk D 12 rfl) rfl rfl H
    · replace H := H.2 c
      refine a_aload_n (dk D 6 rfl) rfl ?_
      refine a_getr (r := 2) (dk D 7 rfl) cls_10 fl_RX10_11 cf_2_0 ?_
      refine a_iload_n (dk D 8 rfl) rfl ?_
      refine a_iald (dk D 9 rfl) ar_3 ⟨H.1, ?_⟩
      replace H := H.2
      refine a_goto (dk D 10 rfl) (tgt := 22) rfl ?_
      exact a_iret (dk D 12 rfl) rfl rfl H
theorem T_X10_isDigit_0 {G : GG} {Φ : Int → Hp → Prop} {h : Hp} {x0 : Int} (H : ((x0 < 48 → Φ 0 h) ∧ (48 ≤ x0 → ((57 < x0 → Φ 0 h) ∧ (x0 ≤ 57 → Φ 1 h))))) : AT G m_X10_isDigit 0 [(0, iv x0)] [] h Φ := by
  have D := dt_X10_isDigit
  refine a_iload_n (dk D 0 rfl) rfl ?_
  refine a_bipush (dk D 1 rfl) (ik rfl) (bpk rfl) ?_
  refine a_icmp_lt (dk D 2 rfl) (tgt := 16) rfl ⟨fun c => ?_, fun c => ?_⟩
  · replace H := H.1 c
    refine a_iconst (dk D 8 rfl) (ik rfl) ?_
    exact a_zret (dk D 9 rfl) rfl rfl ⟨by decide, H⟩
  · replace H := H.2 c
    refine a_iload_n (dk D 3 rfl) rfl ?_
    refine a_bipush (dk D 4 rfl) (ik rfl) (bpk rfl) ?_
    refine a_icmp_gt (dk D 5 rfl) (tgt := 16) rfl ⟨fun c => ?_, fun c => ?_⟩
    · replace H := H.1 c
      refine a_iconst (dk D 8 rfl) (ik rfl) ?_
      exact a_zret (dk D 9 rfl) rfl rfl ⟨by decide, H⟩
    · replace H := H.2 c
      refine a_iconst (dk D 6 rfl) (ik rfl) ?_
      refine a_goto (dk D 7 rfl) (tgt := 17) rfl ?_
      exact a_zret (dk D 9 rfl) rfl rfl ⟨by decide, H⟩
theorem T_X10_isLetter_0 {G : GG} {Φ : Int → Hp → Prop} {h : Hp} {x0 : Int} (H : ((x0 < 97 → Φ 0 h) ∧ (97 ≤ x0 → ((122 < x0 → Φ 0 h) ∧ (x0 ≤ 122 → Φ 1 h))))) : AT G m_X10_isLetter 0 [(0, iv x0)] [] h Φ := by
  have D := dt_X10_isLetter
  refine a_iload_n (dk D 0 rfl) rfl ?_
  refine a_bipush (dk D 1 rfl) (ik rfl) (bpk rfl) ?_
  refine a_icmp_lt (dk D 2 rfl) (tgt := 16) rfl ⟨fun c => ?_, fun c => ?_⟩
  · replace H := H.1 c
    refine a_iconst (dk D 8 rfl) (ik rfl) ?_
    exact a_zret (dk D 9 rfl) rfl rfl ⟨by decide, H⟩
  · replace H := H.2 c
    refine a_iload_n (dk D 3 rfl) rfl ?_
    refine a_bipush (dk D 4 rfl) (ik rfl) (bpk rfl) ?_
    refine a_icmp_gt (dk D 5 rfl) (tgt := 16) rfl ⟨fun c => ?_, fun c => ?_⟩
    · replace H := H.1 c
      refine a_iconst (dk D 8 rfl) (ik rfl) ?_
      exact a_zret (dk D 9 rfl) rfl rfl ⟨by decide, H⟩
    · replace H := H.2 c
      refine a_iconst (dk D 6 rfl) (ik rfl) ?_
      refine a_goto (dk D 7 rfl) (tgt := 17) rfl ?_
      exact a_zret (dk D 9 rfl) rfl rfl ⟨by decide, H⟩
theorem T_X10_skip_2_0 {G : GG} {Φ : Int → Hp → Prop} {h : Hp} {x1 : Int} (H : Call G m_X10_isRight [rv 2] h (fun r1 h2 => ((r1 = 0 → Φ 0 h2) ∧ (r1 ≠ 0 → Call G m_X10_byteAt [rv 2, iv (h2 2 2)] h2 (fun r3 h4 => ((r3 ≠ x1 → Φ 0 (up h4 2 3 (h4 2 2))) ∧ (r3 = x1 → Φ 0 (up h4 2 2 (w32 ((h4 2 2) + 1)))))))))) : AT G m_X10_skip 0 [(0, rv 2), (1, iv x1)] [] h Φ := by
  have D := dt_X10_skip
  refine a_aload_n (dk D 0 rfl) rfl ?_
  refine a_callVi (as := []) (st := []) (dk D 1 rfl) cl_RX10_25 ⟨Nat.le_of_ble_eq_true rfl, Nat.le_of_ble_eq_true rfl⟩ ⟨Nat.le_of_ble_eq_true rfl, Nat.le_of_ble_eq_true rfl⟩ cls_10 rfl cc_2 rfl rfl rfl (Nat.le_of_ble_eq_true rfl) (Call.mono H fun r1 h2 H => ?_)
  refine a_if_eq (dk D 2 rfl) (tgt := 40) rfl ⟨fun c => ?_, fun c => ?_⟩
  · replace H := H.1 c
    exact a_vret (dk D 20 rfl) rfl rfl H
  · replace H := H.2 c
    refine a_aload_n (dk D 3 rfl) rfl ?_
    refine a_aload_n (dk D 4 rfl) rfl ?_
    refine a_geti (dk D 5 rfl) cls_10 fl_RX10_22 cf_2_2 ?_
    refine a_callVi (as := [iv (h2 2 2)]) (st := []) (dk D 6 rfl) cl_RX10_32 ⟨Nat.le_of_ble_eq_true rfl, Nat.le_of_ble_eq_true rfl⟩ ⟨Nat.le_of_ble_eq_true rfl, Nat.le_of_ble_eq_true rfl⟩ cls_10 rfl cc_2 rfl rfl rfl (Nat.le_of_ble_eq_true rfl) (Call.mono H fun r3 h4 H => ?_)
    refine a_iload_n (dk D 7 rfl) rfl ?_
    refine a_icmp_ne (dk D 8 rfl) (tgt := 32) rfl ⟨fun c => ?_, fun c => ?_⟩
    · replace H := H.1 c
      refine a_aload_n (dk D 16 rfl) rfl ?_
      refine a_aload_n (dk D 17 rfl) rfl ?_
      refine a_geti (dk D 18 rfl) cls_10 fl_RX10_22 cf_2_2 ?_
      refine a_puti (dk D 19 rfl) cls_10 fl_RX10_15 cf_2_3 rfl rfl ?_
      exact a_vret (dk D 20 rfl) rfl rfl H
    · replace H := H.2 c
      refine a_aload_n (dk D 9 rfl) rfl ?_
      refine a_dup (dk D 10 rfl) rfl ?_
      refine a_geti (dk D 11 rfl) cls_10 fl_RX10_22 cf_2_2 ?_
      refine a_iconst (dk D 12 rfl) (ik rfl) ?_
      refine a_iadd (dk D 13 rfl) ?_
      refine a_puti (dk D 14 rfl) cls_10 fl_RX10_22 cf_2_2 rfl rfl ?_
      refine a_goto (dk D 15 rfl) (tgt := 40) rfl ?_
      exact a_vret (dk D 20 rfl) rfl rfl H
theorem T_X10_fixed_2_0 {G : GG} {Φ : Int → Hp → Prop} {h : Hp} {x1 : Int} {x2 : Int} {x3 : Int} (H : AT G m_X10_fixed 12 [(0, rv 2), (1, iv x1), (2, iv x2), (3, iv x3), (4, iv (h 2 2)), (5, iv 0), (6, iv 0)] [] h Φ) : AT G m_X10_fixed 0 [(0, rv 2), (1, iv x1), (2, iv x2), (3, iv x3)] [] h Φ := by
  have D := dt_X10_fixed
  refine a_aload_n (dk D 0 rfl) rfl ?_
  refine a_geti (dk D 1 rfl) cls_10 fl_RX10_22 cf_2_2 ?_
  refine a_istore (dk D 2 rfl) (by decide) rfl rfl ?_
  refine a_iconst (dk D 3 rfl) (ik rfl) ?_
  refine a_istore (dk D 4 rfl) (by decide) rfl rfl ?_
  refine a_iconst (dk D 5 rfl) (ik rfl) ?_
  refine a_istore (dk D 6 rfl) (by decide) rfl rfl ?_
  exact a_pick [0, 1, 2, 3, 4, 5, 6] rfl H
theorem T_X10_fixed_2_12 {G : GG} {Φ : Int → Hp → Prop} {h : Hp} {x1 : Int} {x2 : Int} {x3 : Int} {x4 : Int} {x5 : Int} {x6 : Int} (H : ((x1 ≤ x6 → Call G m_X10_inRange [rv 2, iv x5, iv x2, iv x3, iv x4] h (fun r1 h2 => Φ r1 h2)) ∧ (x6 < x1 → Call G m_X10_isRight [rv 2] h (fun r3 h4 => ((r3 = 0 → Call G m_X10_inRange [rv 2, iv x5, iv x2, iv x3, iv x4] h4 (fun r5 h6 => Φ r5 h6)) ∧ (r3 ≠ 0 → Call G m_X10_byteAt [rv 2, iv (h4 2 2)] h4 (fun r7 h8 => Call G m_X10_isDigit [iv r7] h8 (fun r9 h10 => ((r9 = 0 → AT G m_X10_fixed 12 [(0, rv 2), (1, iv x1), (2, iv x2), (3, iv x3), (4, iv x4), (5, iv x5), (6, iv (w32 (x6 + 1)))] [] (up h10 2 3 (h10 2 2)) Φ) ∧ (r9 ≠ 0 → Call G m_X10_byteAt [rv 2, iv (h10 2 2)] h10 (fun r11 h12 => AT G m_X10_fixed 12 [(0, rv 2), (1, iv x1), (2, iv x2), (3, iv x3), (4, iv x4), (5, iv (w32 ((w32 ((w32 (x5 * 10)) + r11)) - 48))), (6, iv (w32 (x6 + 1)))] [] (up h12 2 2 (w32 ((h12 2 2) + 1))) Φ))))))))))) : AT G m_X10_fixed 12 [(0, rv 2), (1, iv x1), (2, iv x2), (3, iv x3), (4, iv x4), (5, iv x5), (6, iv x6)] [] h Φ := by
  have D := dt_X10_fixed
  refine a_iload (dk D 7 rfl) rfl ?_
  refine a_iload_n (dk D 8 rfl) rfl ?_
  refine a_icmp_ge (dk D 9 rfl) (tgt := 85) rfl ⟨fun c => ?_, fun c => ?_⟩
  · replace H := H.1 c
    refine a_aload_n (dk D 43 rfl) rfl ?_
    refine a_iload (dk D 44 rfl) rfl ?_
    refine a_iload_n (dk D 45 rfl) rfl ?_
    refine a_iload_n (dk D 46 rfl) rfl ?_
    refine a_iload (dk D 47 rfl) rfl ?_
    refine a_callVi (as := [iv x5, iv x2, iv x3, iv x4]) (st := []) (dk D 48 rfl) cl_RX10_40 ⟨Nat.le_of_ble_eq_true rfl, Nat.le_of_ble_eq_true rfl⟩ ⟨Nat.le_of_ble_eq_true rfl, Nat.le_of_ble_eq_true rfl⟩ cls_10 rfl cc_2 rfl rfl rfl (Nat.le_of_ble_eq_true rfl) (Call.mono H fun r1 h2 H => ?_)
    exact a_iret (dk D 49 rfl) rfl rfl H
  · replace H := H.2 c
    refine a_aload_n (dk D 10 rfl) rfl ?_
    refine a_callVi (as := []) (st := []) (dk D 11 rfl) cl_RX10_25 ⟨Nat.le_of_ble_eq_true rfl, Nat.le_of_ble_eq_true rfl⟩ ⟨Nat.le_of_ble_eq_true rfl, Nat.le_of_ble_eq_true rfl⟩ cls_10 rfl cc_2 rfl rfl rfl (Nat.le_of_ble_eq_true rfl) (Call.mono H fun r3 h4 H => ?_)
    refine a_if_eq (dk D 12 rfl) (tgt := 85) rfl ⟨fun c => ?_, fun c => ?_⟩
    · replace H := H.1 c
      refine a_aload_n (dk D 43 rfl) rfl ?_
      refine a_iload (dk D 44 rfl) rfl ?_
      refine a_iload_n (dk D 45 rfl) rfl ?_
      refine a_iload_n (dk D 46 rfl) rfl ?_
      refine a_iload (dk D 47 rfl) rfl ?_
      refine a_callVi (as := [iv x5, iv x2, iv x3, iv x4]) (st := []) (dk D 48 rfl) cl_RX10_40 ⟨Nat.le_of_ble_eq_true rfl, Nat.le_of_ble_eq_true rfl⟩ ⟨Nat.le_of_ble_eq_true rfl, Nat.le_of_ble_eq_true rfl⟩ cls_10 rfl cc_2 rfl rfl rfl (Nat.le_of_ble_eq_true rfl) (Call.mono H fun r5 h6 H => ?_)
      exact a_iret (dk D 49 rfl) rfl rfl H
    · replace H := H.2 c
      refine a_aload_n (dk D 13 rfl) rfl ?_
      refine a_aload_n (dk D 14 rfl) rfl ?_
      refine a_geti (dk D 15 rfl) cls_10 fl_RX10_22 cf_2_2 ?_
      refine a_callVi (as := [iv (h4 2 2)]) (st := []) (dk D 16 rfl) cl_RX10_32 ⟨Nat.le_of_ble_eq_true rfl, Nat.le_of_ble_eq_true rfl⟩ ⟨Nat.le_of_ble_eq_true rfl, Nat.le_of_ble_eq_true rfl⟩ cls_10 rfl cc_2 rfl rfl rfl (Nat.le_of_ble_eq_true rfl) (Call.mono H fun r7 h8 H => ?_)
      refine a_callSi (as := [iv r7]) (st := []) (dk D 17 rfl) cl_RX10_36 ⟨Nat.le_of_ble_eq_true rfl, Nat.le_of_ble_eq_true rfl⟩ ⟨Nat.le_of_ble_eq_true rfl, Nat.le_of_ble_eq_true rfl⟩ rfl rfl rfl (Nat.le_of_ble_eq_true rfl) (Call.mono H fun r9 h10 H => ?_)
      refine a_if_eq (dk D 18 rfl) (tgt := 71) rfl ⟨fun c => ?_, fun c => ?_⟩
      · replace H := H.1 c
        refine a_aload_n (dk D 37 rfl) rfl ?_
        refine a_aload_n (dk D 38 rfl) rfl ?_
        refine a_geti (dk D 39 rfl) cls_10 fl_RX10_22 cf_2_2 ?_
        refine a_puti (dk D 40 rfl) cls_10 fl_RX10_15 cf_2_3 rfl rfl ?_
        refine a_iinc (dk D 41 rfl) (by decide) rfl rfl rfl ?_
        refine a_goto (dk D 42 rfl) (tgt := 12) rfl ?_
        exact a_pick [0, 1, 2, 3, 4, 5, 6] rfl H
      · replace H := H.2 c
        refine a_iload (dk D 19 rfl) rfl ?_
        refine a_bipush (dk D 20 rfl) (ik rfl) (bpk rfl) ?_
        refine a_imul (dk D 21 rfl) ?_
        refine a_aload_n (dk D 22 rfl) rfl ?_
        refine a_aload_n (dk D 23 rfl) rfl ?_
        refine a_geti (dk D 24 rfl) cls_10 fl_RX10_22 cf_2_2 ?_
        refine a_callVi (as := [iv (h10 2 2)]) (st := [iv (w32 (x5 * 10))]) (dk D 25 rfl) cl_RX10_32 ⟨Nat.le_of_ble_eq_true rfl, Nat.le_of_ble_eq_true rfl⟩ ⟨Nat.le_of_ble_eq_true rfl, Nat.le_of_ble_eq_true rfl⟩ cls_10 rfl cc_2 rfl rfl rfl (Nat.le_of_ble_eq_true rfl) (Call.mono H fun r11 h12 H => ?_)
        refine a_iadd (dk D 26 rfl) ?_
        refine a_bipush (dk D 27 rfl) (ik rfl) (bpk rfl) ?_
        refine a_isub (dk D 28 rfl) ?_
        refine a_istore (dk D 29 rfl) (by decide) rfl rfl ?_
        refine a_aload_n (dk D 30 rfl) rfl ?_
        refine a_dup (dk D 31 rfl) rfl ?_
        refine a_geti (dk D 32 rfl) cls_10 fl_RX10_22 cf_2_2 ?_
        refine a_iconst (dk D 33 rfl) (ik rfl) ?_
        refine a_iadd (dk D 34 rfl) ?_
        refine a_puti (dk D 35 rfl) cls_10 fl_RX10_22 cf_2_2 rfl rfl ?_
        refine a_goto (dk D 36 rfl) (tgt := 79) rfl ?_
        refine a_iinc (dk D 41 rfl) (by decide) rfl rfl rfl ?_
        refine a_goto (dk D 42 rfl) (tgt := 12) rfl ?_
        exact a_pick [0, 1, 2, 3, 4, 5, 6] rfl H
theorem T_X10_number_2_0 {G : GG} {Φ : Int → Hp → Prop} {h : Hp} {x1 : Int} {x2 : Int} (H : Call G m_X10_digits [rv 2] h (fun r1 h2 => Call G m_X10_inRange [rv 2, iv r1, iv x1, iv x2, iv (h 2 2)] h2 (fun r3 h4 => Φ r3 h4))) : AT G m_X10_number 0 [(0, rv 2), (1, iv x1), (2, iv x2)] [] h Φ := by
  have D := dt_X10_number
  refine a_aload_n (dk D 0 rfl) rfl ?_
  refine a_geti (dk D 1 rfl) cls_10 fl_RX10_22 cf_2_2 ?_
  refine a_istore_n (dk D 2 rfl) (by decide) rfl rfl ?_
  refine a_aload_n (dk D 3 rfl) rfl ?_
  refine a_aload_n (dk D 4 rfl) rfl ?_
  refine a_callVi (as := []) (st := [rv 2]) (dk D 5 rfl) cl_RX10_44 ⟨Nat.le_of_ble_eq_true rfl, Nat.le_of_ble_eq_true rfl⟩ ⟨Nat.le_of_ble_eq_true rfl, Nat.le_of_ble_eq_true rfl⟩ cls_10 rfl cc_2 rfl rfl rfl (Nat.le_of_ble_eq_true rfl) (Call.mono H fun r1 h2 H => ?_)
  refine a_iload_n (dk D 6 rfl) rfl ?_
  refine a_iload_n (dk D 7 rfl) rfl ?_
  refine a_iload_n (dk D 8 rfl) rfl ?_
  refine a_callVi (as := [iv r1, iv x1, iv x2, iv (h 2 2)]) (st := []) (dk D 9 rfl) cl_RX10_40 ⟨Nat.le_of_ble_eq_true rfl, Nat.le_of_ble_eq_true rfl⟩ ⟨Nat.le_of_ble_eq_true rfl, Nat.le_of_ble_eq_true rfl⟩ cls_10 rfl cc_2 rfl rfl rfl (Nat.le_of_ble_eq_true rfl) (Call.mono H fun r3 h4 H => ?_)
  exact a_iret (dk D 10 rfl) rfl rfl H
theorem T_X10_integer_2_0 {G : GG} {Φ : Int → Hp → Prop} {h : Hp} {x1 : Int} {x2 : Int} (H : Call G m_X10_byteAt [rv 2, iv (h 2 2)] h (fun r1 h2 => ((r1 = 45 → Call G m_X10_isRight [rv 2] h2 (fun r3 h4 => ((r3 = 0 → Call G m_X10_digits [rv 2] h4 (fun r5 h6 => Call G m_X10_inRange [rv 2, iv (w32 (-r5)), iv x1, iv x2, iv (h 2 2)] h6 (fun r7 h8 => Φ r7 h8))) ∧ (r3 ≠ 0 → Call G m_X10_byteAt [rv 2, iv (w32 ((h4 2 2) + 1))] (up h4 2 2 (w32 ((h4 2 2) + 1))) (fun r9 h10 => ((r9 ≠ 48 → Call G m_X10_digits [rv 2] h10 (fun r11 h12 => Call G m_X10_inRange [rv 2, iv (w32 (-r11)), iv x1, iv x2, iv (h 2 2)] h12 (fun r13 h14 => Φ r13 h14))) ∧ (r9 = 48 → Call G m_X10_digits [rv 2] (up h10 2 3 (h10 2 2)) (fun r15 h16 => Call G m_X10_inRange [rv 2, iv (w32 (-r15)), iv x1, iv x2, iv (h 2 2)] h16 (fun r17 h18 => Φ r17 h18))))))))) ∧ (r1 ≠ 45 → Call G m_X10_digits [rv 2] h2 (fun r19 h20 => Call G m_X10_inRange [rv 2, iv r19, iv x1, iv x2, iv (h 2 2)] h20 (fun r21 h22 => Φ r21 h22)))))) : AT G m_X10_integer 0 [(0, rv 2), (1, iv x1), (2, iv x2)] [] h Φ := by
  have D := dt_X10_integer
  refine a_aload_n (dk D 0 rfl) rfl ?_
  refine a_geti (dk D 1 rfl) cls_10 fl_RX10_22 cf_2_2 ?_
  refine a_istore_n (dk D 2 rfl) (by decide) rfl rfl ?_
  refine a_aload_n (dk D 3 rfl) rfl ?_
  refine a_aload_n (dk D 4 rfl) rfl ?_
  refine a_geti (dk D 5 rfl) cls_10 fl_RX10_22 cf_2_2 ?_
  refine a_callVi (as := [iv (h 2 2)]) (st := []) (dk D 6 rfl) cl_RX10_32 ⟨Nat.le_of_ble_eq_true rfl, Nat.le_of_ble_eq_true rfl⟩ ⟨Nat.le_of_ble_eq_true rfl, Nat.le_of_ble_eq_true rfl⟩ cls_10 rfl cc_2 rfl rfl rfl (Nat.le_of_ble_eq_true rfl) (Call.mono H fun r1 h2 H => ?_)
  refine a_bipush (dk D 7 rfl) (ik rfl) (bpk rfl) ?_
  refine a_icmp_eq (dk D 8 rfl) (tgt := 30) rfl ⟨fun c => ?_, fun c => ?_⟩
  · replace H := H.1 c
    refine a_aload_n (dk D 17 rfl) rfl ?_
    refine a_callVi (as := []) (st := []) (dk D 18 rfl) cl_RX10_25 ⟨Nat.le_of_ble_eq_true rfl, Nat.le_of_ble_eq_true rfl⟩ ⟨Nat.le_of_ble_eq_true rfl, Nat.le_of_ble_eq_true rfl⟩ cls_10 rfl cc_2 rfl rfl rfl (Nat.le_of_ble_eq_true rfl) (Call.mono H fun r3 h4 H => ?_)
    refine a_if_eq (dk D 19 rfl) (tgt := 68) rfl ⟨fun c => ?_, fun c => ?_⟩
    · replace H := H.1 c
      refine a_aload_n (dk D 36 rfl) rfl ?_
      refine a_aload_n (dk D 37 rfl) rfl ?_
      refine a_callVi (as := []) (st := [rv 2]) (dk D 38 rfl) cl_RX10_44 ⟨Nat.le_of_ble_eq_true rfl, Nat.le_of_ble_eq_true rfl⟩ ⟨Nat.le_of_ble_eq_true rfl, Nat.le_of_ble_eq_true rfl⟩ cls_10 rfl cc_2 rfl rfl rfl (Nat.le_of_ble_eq_true rfl) (Call.mono H fun r5 h6 H => ?_)
      refine a_ineg (dk D 39 rfl) ?_
      refine a_iload_n (dk D 40 rfl) rfl ?_
      refine a_iload_n (dk D 41 rfl) rfl ?_
      refine a_iload_n (dk D 42 rfl) rfl ?_
      refine a_callVi (as := [iv (w32 (-r5)), iv x1, iv x2, iv (h 2 2)]) (st := []) (dk D 43 rfl) cl_RX10_40 ⟨Nat.le_of_ble_eq_true rfl, Nat.le_of_ble_eq_true rfl⟩ ⟨Nat.le_of_ble_eq_true rfl, Nat.le_of_ble_eq_true rfl⟩ cls_10 rfl cc_2 rfl rfl rfl (Nat.le_of_ble_eq_true rfl) (Call.mono H fun r7 h8 H => ?_)
      exact a_iret (dk D 44 rfl) rfl rfl H
    · replace H := H.2 c
      refine a_aload_n (dk D 20 rfl) rfl ?_
      refine a_dup (dk D 21 rfl) rfl ?_
      refine a_geti (dk D 22 rfl) cls_10 fl_RX10_22 cf_2_2 ?_
      refine a_iconst (dk D 23 rfl) (ik rfl) ?_
      refine a_iadd (dk D 24 rfl) ?_
      refine a_puti (dk D 25 rfl) cls_10 fl_RX10_22 cf_2_2 rfl rfl ?_
      refine a_aload_n (dk D 26 rfl) rfl ?_
      refine a_aload_n (dk D 27 rfl) rfl ?_
      refine a_geti (dk D 28 rfl) cls_10 fl_RX10_22 cf_2_2 ?_
      refine a_top (y := (w32 ((h4 2 2) + 1))) (by simp [up]) ?_
      refine a_callVi (as := [iv (w32 ((h4 2 2) + 1))]) (st := []) (dk D 29 rfl) cl_RX10_32 ⟨Nat.le_of_ble_eq_true rfl, Nat.le_of_ble_eq_true rfl⟩ ⟨Nat.le_of_ble_eq_true rfl, Nat.le_of_ble_eq_true rfl⟩ cls_10 rfl cc_2 rfl rfl rfl (Nat.le_of_ble_eq_true rfl) (Call.mono H fun r9 h10 H => ?_)
      refine a_bipush (dk D 30 rfl) (ik rfl) (bpk rfl) ?_
      refine a_icmp_ne (dk D 31 rfl) (tgt := 68) rfl ⟨fun c => ?_, fun c => ?_⟩
      · replace H := H.1 c
        refine a_aload_n (dk D 36 rfl) rfl ?_
        refine a_aload_n (dk D 37 rfl) rfl ?_
        refine a_callVi (as := []) (st := [rv 2]) (dk D 38 rfl) cl_RX10_44 ⟨Nat.le_of_ble_eq_true rfl, Nat.le_of_ble_eq_true rfl⟩ ⟨Nat.le_of_ble_eq_true rfl, Nat.le_of_ble_eq_true rfl⟩ cls_10 rfl cc_2 rfl rfl rfl (Nat.le_of_ble_eq_true rfl) (Call.mono H fun r11 h12 H => ?_)
        refine a_ineg (dk D 39 rfl) ?_
        refine a_iload_n (dk D 40 rfl) rfl ?_
        refine a_iload_n (dk D 41 rfl) rfl ?_
        refine a_iload_n (dk D 42 rfl) rfl ?_
        refine a_callVi (as := [iv (w32 (-r11)), iv x1, iv x2, iv (h 2 2)]) (st := []) (dk D 43 rfl) cl_RX10_40 ⟨Nat.le_of_ble_eq_true rfl, Nat.le_of_ble_eq_true rfl⟩ ⟨Nat.le_of_ble_eq_true rfl, Nat.le_of_ble_eq_true rfl⟩ cls_10 rfl cc_2 rfl rfl rfl (Nat.le_of_ble_eq_true rfl) (Call.mono H fun r13 h14 H => ?_)
        exact a_iret (dk D 44 rfl) rfl rfl H
      · replace H := H.2 c
        refine a_aload_n (dk D 32 rfl) rfl ?_
        refine a_aload_n (dk D 33 rfl) rfl ?_
        refine a_geti (dk D 34 rfl) cls_10 fl_RX10_22 cf_2_2 ?_
        refine a_puti (dk D 35 rfl) cls_10 fl_RX10_15 cf_2_3 rfl rfl ?_
        refine a_aload_n (dk D 36 rfl) rfl ?_
        refine a_aload_n (dk D 37 rfl) rfl ?_
        refine a_callVi (as := []) (st := [rv 2]) (dk D 38 rfl) cl_RX10_44 ⟨Nat.le_of_ble_eq_true rfl, Nat.le_of_ble_eq_true rfl⟩ ⟨Nat.le_of_ble_eq_true rfl, Nat.le_of_ble_eq_true rfl⟩ cls_10 rfl cc_2 rfl rfl rfl (Nat.le_of_ble_eq_true rfl) (Call.mono H fun r15 h16 H => ?_)
        refine a_ineg (dk D 39 rfl) ?_
        refine a_iload_n (dk D 40 rfl) rfl ?_
        refine a_iload_n (dk D 41 rfl) rfl ?_
        refine a_iload_n (dk D 42 rfl) rfl ?_
        refine a_callVi (as := [iv (w32 (-r15)), iv x1, iv x2, iv (h 2 2)]) (st := []) (dk D 43 rfl) cl_RX10_40 ⟨Nat.le_of_ble_eq_true rfl, Nat.le_of_ble_eq_true rfl⟩ ⟨Nat.le_of_ble_eq_true rfl, Nat.le_of_ble_eq_true rfl⟩ cls_10 rfl cc_2 rfl rfl rfl (Nat.le_of_ble_eq_true rfl) (Call.mono H fun r17 h18 H => ?_)
        exact a_iret (dk D 44 rfl) rfl rfl H
  · replace H := H.2 c
    refine a_aload_n (dk D 9 rfl) rfl ?_
    refine a_aload_n (dk D 10 rfl) rfl ?_
    refine a_callVi (as := []) (st := [rv 2]) (dk D 11 rfl) cl_RX10_44 ⟨Nat.le_of_ble_eq_true rfl, Nat.le_of_ble_eq_true rfl⟩ ⟨Nat.le_of_ble_eq_true rfl, Nat.le_of_ble_eq_true rfl⟩ cls_10 rfl cc_2 rfl rfl rfl (Nat.le_of_ble_eq_true rfl) (Call.mono H fun r19 h20 H => ?_)
    refine a_iload_n (dk D 12 rfl) rfl ?_
    refine a_iload_n (dk D 13 rfl) rfl ?_
    refine a_iload_n (dk D 14 rfl) rfl ?_
    refine a_callVi (as := [iv r19, iv x1, iv x2, iv (h 2 2)]) (st := []) (dk D 15 rfl) cl_RX10_40 ⟨Nat.le_of_ble_eq_true rfl, Nat.le_of_ble_eq_true rfl⟩ ⟨Nat.le_of_ble_eq_true rfl, Nat.le_of_ble_eq_true rfl⟩ cls_10 rfl cc_2 rfl rfl rfl (Nat.le_of_ble_eq_true rfl) (Call.mono H fun r21 h22 H => ?_)
    exact a_iret (dk D 16 rfl) rfl rfl H
theorem T_X10_digits_2_0 {G : GG} {Φ : Int → Hp → Prop} {h : Hp} (H : AT G m_X10_digits 9 [(0, rv 2), (1, iv (h 2 2)), (2, iv 0), (3, iv 0)] [] h Φ) : AT G m_X10_digits 0 [(0, rv 2)] [] h Φ := by
  have D := dt_X10_digits
  refine a_aload_n (dk D 0 rfl) rfl ?_
  refine a_geti (dk D 1 rfl) cls_10 fl_RX10_22 cf_2_2 ?_
  refine a_istore_n (dk D 2 rfl) (by decide) rfl rfl ?_
  refine a_iconst (dk D 3 rfl) (ik rfl) ?_
  refine a_istore_n (dk D 4 rfl) (by decide) rfl rfl ?_
  refine a_iconst (dk D 5 rfl) (ik rfl) ?_
  refine a_istore_n (dk D 6 rfl) (by decide) rfl rfl ?_
  exact a_pick [0, 1, 2, 3] rfl H
theorem T_X10_digits_2_9 {G : GG} {Φ : Int → Hp → Prop} {h : Hp} {x1 : Int} {x2 : Int} {x3 : Int} (H : ((9 < x3 → Call G m_X10_isRight [rv 2] h (fun r1 h2 => ((r1 = 0 → Φ x2 h2) ∧ (r1 ≠ 0 → (((h2 2 2) ≠ x1 → Φ x2 h2) ∧ ((h2 2 2) = x1 → Φ x2 (up h2 2 3 (h2 2 2)))))))) ∧ (x3 ≤ 9 → Call G m_X10_isRight [rv 2] h (fun r3 h4 => ((r3 = 0 → Call G m_X10_isRight [rv 2] h4 (fun r5 h6 => ((r5 = 0 → Φ x2 h6) ∧ (r5 ≠ 0 → (((h6 2 2) ≠ x1 → Φ x2 h6) ∧ ((h6 2 2) = x1 → Φ x2 (up h6 2 3 (h6 2 2)))))))) ∧ (r3 ≠ 0 → Call G m_X10_byteAt [rv 2, iv (h4 2 2)] h4 (fun r7 h8 => Call G m_X10_isDigit [iv r7] h8 (fun r9 h10 => ((r9 = 0 → Call G m_X10_isRight [rv 2] h10 (fun r11 h12 => ((r11 = 0 → Φ x2 h12) ∧ (r11 ≠ 0 → (((h12 2 2) ≠ x1 → Φ x2 h12) ∧ ((h12 2 2) = x1 → Φ x2 (up h12 2 3 (h12 2 2)))))))) ∧ (r9 ≠ 0 → ((x3 = 9 → AT G m_X10_digits 9 [(0, rv 2), (1, iv x1), (2, iv x2), (3, iv (w32 (x3 + 1)))] [] (up h10 2 3 (h10 2 2)) Φ) ∧ (x3 ≠ 9 → ((x3 ≠ 1 → Call G m_X10_byteAt [rv 2, iv (h10 2 2)] h10 (fun r13 h14 => AT G m_X10_digits 9 [(0, rv 2), (1, iv x1), (2, iv (w32 ((w32 ((w32 (x2 * 10)) + r13)) - 48))), (3, iv (w32 (x3 + 1)))] [] (up h14 2 2 (w32 ((h14 2 2) + 1))) Φ)) ∧ (x3 = 1 → Call G m_X10_byteAt [rv 2, iv x1] h10 (fun r15 h16 => ((r15 ≠ 48 → Call G m_X10_byteAt [rv 2, iv (h16 2 2)] h16 (fun r17 h18 => AT G m_X10_digits 9 [(0, rv 2), (1, iv x1), (2, iv (w32 ((w32 ((w32 (x2 * 10)) + r17)) - 48))), (3, iv (w32 (x3 + 1)))] [] (up h18 2 2 (w32 ((h18 2 2) + 1))) Φ)) ∧ (r15 = 48 → AT G m_X10_digits 9 [(0, rv 2), (1, iv x1), (2, iv x2), (3, iv (w32 (x3 + 1)))] [] (up h16 2 3 (h16 2 2)) Φ))))))))))))))))) : AT G m_X10_digits 9 [(0, rv 2), (1, iv x1), (2, iv x2), (3, iv x3)] [] h Φ := by
  have D := dt_X10_digits
  refine a_iload_n (dk D 7 rfl) rfl ?_
  refine a_bipush (dk D 8 rfl) (ik rfl) (bpk rfl) ?_
  refine a_icmp_gt (dk D 9 rfl) (tgt := 101) rfl ⟨fun c => ?_, fun c => ?_⟩
  · replace H := H.1 c
    refine a_aload_n (dk D 54 rfl) rfl ?_
    refine a_callVi (as := []) (st := []) (dk D 55 rfl) cl_RX10_25 ⟨Nat.le_of_ble_eq_true rfl, Nat.le_of_ble_eq_true rfl⟩ ⟨Nat.le_of_ble_eq_true rfl, Nat.le_of_ble_eq_true rfl⟩ cls_10 rfl cc_2 rfl rfl rfl (Nat.le_of_ble_eq_true rfl) (Call.mono H fun r1 h2 H => ?_)
    refine a_if_eq (dk D 56 rfl) (tgt := 124) rfl ⟨fun c => ?_, fun c => ?_⟩
    · replace H := H.1 c
      refine a_iload_n (dk D 65 rfl) rfl ?_
      exact a_iret (dk D 66 rfl) rfl rfl H
    · replace H := H.2 c
      refine a_aload_n (dk D 57 rfl) rfl ?_
      refine a_geti (dk D 58 rfl) cls_10 fl_RX10_22 cf_2_2 ?_
      refine a_iload_n (dk D 59 rfl) rfl ?_
      refine a_icmp_ne (dk D 60 rfl) (tgt := 124) rfl ⟨fun c => ?_, fun c => ?_⟩
      · replace H := H.1 c
        refine a_iload_n (dk D 65 rfl) rfl ?_
        exact a_iret (dk D 66 rfl) rfl rfl H
      · replace H := H.2 c
        refine a_aload_n (dk D 61 rfl) rfl ?_
        refine a_aload_n (dk D 62 rfl) rfl ?_
        refine a_geti (dk D 63 rfl) cls_10 fl_RX10_22 cf_2_2 ?_
        refine a_puti (dk D 64 rfl) cls_10 fl_RX10_15 cf_2_3 rfl rfl ?_
        refine a_iload_n (dk D 65 rfl) rfl ?_
        exact a_iret (dk D 66 rfl) rfl rfl H
  · replace H := H.2 c
    refine a_aload_n (dk D 10 rfl) rfl ?_
    refine a_callVi (as := []) (st := []) (dk D 11 rfl) cl_RX10_25 ⟨Nat.le_of_ble_eq_true rfl, Nat.le_of_ble_eq_true rfl⟩ ⟨Nat.le_of_ble_eq_true rfl, Nat.le_of_ble_eq_true rfl⟩ cls_10 rfl cc_2 rfl rfl rfl (Nat.le_of_ble_eq_true rfl) (Call.mono H fun r3 h4 H => ?_)
    refine a_if_eq (dk D 12 rfl) (tgt := 101) rfl ⟨fun c => ?_, fun c => ?_⟩
    · replace H := H.1 c
      refine a_aload_n (dk D 54 rfl) rfl ?_
      refine a_callVi (as := []) (st := []) (dk D 55 rfl) cl_RX10_25 ⟨Nat.le_of_ble_eq_true rfl, Nat.le_of_ble_eq_true rfl⟩ ⟨Nat.le_of_ble_eq_true rfl, Nat.le_of_ble_eq_true rfl⟩ cls_10 rfl cc_2 rfl rfl rfl (Nat.le_of_ble_eq_true rfl) (Call.mono H fun r5 h6 H => ?_)
      refine a_if_eq (dk D 56 rfl) (tgt := 124) rfl ⟨fun c => ?_, fun c => ?_⟩
      · replace H := H.1 c
        refine a_iload_n (dk D 65 rfl) rfl ?_
        exact a_iret (dk D 66 rfl) rfl rfl H
      · replace H := H.2 c
        refine a_aload_n (dk D 57 rfl) rfl ?_
        refine a_geti (dk D 58 rfl) cls_10 fl_RX10_22 cf_2_2 ?_
        refine a_iload_n (dk D 59 rfl) rfl ?_
        refine a_icmp_ne (dk D 60 rfl) (tgt := 124) rfl ⟨fun c => ?_, fun c => ?_⟩
        · replace H := H.1 c
          refine a_iload_n (dk D 65 rfl) rfl ?_
          exact a_iret (dk D 66 rfl) rfl rfl H
        · replace H := H.2 c
          refine a_aload_n (dk D 61 rfl) rfl ?_
          refine a_aload_n (dk D 62 rfl) rfl ?_
          refine a_geti (dk D 63 rfl) cls_10 fl_RX10_22 cf_2_2 ?_
          refine a_puti (dk D 64 rfl) cls_10 fl_RX10_15 cf_2_3 rfl rfl ?_
          refine a_iload_n (dk D 65 rfl) rfl ?_
          exact a_iret (dk D 66 rfl) rfl rfl H
    · replace H := H.2 c
      refine a_aload_n (dk D 13 rfl) rfl ?_
      refine a_aload_n (dk D 14 rfl) rfl ?_
      refine a_geti (dk D 15 rfl) cls_10 fl_RX10_22 cf_2_2 ?_
      refine a_callVi (as := [iv (h4 2 2)]) (st := []) (dk D 16 rfl) cl_RX10_32 ⟨Nat.le_of_ble_eq_true rfl, Nat.le_of_ble_eq_true rfl⟩ ⟨Nat.le_of_ble_eq_true rfl, Nat.le_of_ble_eq_true rfl⟩ cls_10 rfl cc_2 rfl rfl rfl (Nat.le_of_ble_eq_true rfl) (Call.mono H fun r7 h8 H => ?_)
      refine a_callSi (as := [iv r7]) (st := []) (dk D 17 rfl) cl_RX10_36 ⟨Nat.le_of_ble_eq_true rfl, Nat.le_of_ble_eq_true rfl⟩ ⟨Nat.le_of_ble_eq_true rfl, Nat.le_of_ble_eq_true rfl⟩ rfl rfl rfl (Nat.le_of_ble_eq_true rfl) (Call.mono H fun r9 h10 H => ?_)
      refine a_if_eq (dk D 18 rfl) (tgt := 101) rfl ⟨fun c => ?_, fun c => ?_⟩
      · replace H := H.1 c
        refine a_aload_n (dk D 54 rfl) rfl ?_
        refine a_callVi (as := []) (st := []) (dk D 55 rfl) cl_RX10_25 ⟨Nat.le_of_ble_eq_true rfl, Nat.le_of_ble_eq_true rfl⟩ ⟨Nat.le_of_ble_eq_true rfl, Nat.le_of_ble_eq_true rfl⟩ cls_10 rfl cc_2 rfl rfl rfl (Nat.le_of_ble_eq_true rfl) (Call.mono H fun r11 h12 H => ?_)
        refine a_if_eq (dk D 56 rfl) (tgt := 124) rfl ⟨fun c => ?_, fun c => ?_⟩
        · replace H := H.1 c
          refine a_iload_n (dk D 65 rfl) rfl ?_
          exact a_iret (dk D 66 rfl) rfl rfl H
        · replace H := H.2 c
          refine a_aload_n (dk D 57 rfl) rfl ?_
          refine a_geti (dk D 58 rfl) cls_10 fl_RX10_22 cf_2_2 ?_
          refine a_iload_n (dk D 59 rfl) rfl ?_
          refine a_icmp_ne (dk D 60 rfl) (tgt := 124) rfl ⟨fun c => ?_, fun c => ?_⟩
          · replace H := H.1 c
            refine a_iload_n (dk D 65 rfl) rfl ?_
            exact a_iret (dk D 66 rfl) rfl rfl H
          · replace H := H.2 c
            refine a_aload_n (dk D 61 rfl) rfl ?_
            refine a_aload_n (dk D 62 rfl) rfl ?_
            refine a_geti (dk D 63 rfl) cls_10 fl_RX10_22 cf_2_2 ?_
            refine a_puti (dk D 64 rfl) cls_10 fl_RX10_15 cf_2_3 rfl rfl ?_
            refine a_iload_n (dk D 65 rfl) rfl ?_
            exact a_iret (dk D 66 rfl) rfl rfl H
      · replace H := H.2 c
        refine a_iload_n (dk D 19 rfl) rfl ?_
        refine a_bipush (dk D 20 rfl) (ik rfl) (bpk rfl) ?_
        refine a_icmp_eq (dk D 21 rfl) (tgt := 57) rfl ⟨fun c => ?_, fun c => ?_⟩
        · replace H := H.1 c
          refine a_aload_n (dk D 30 rfl) rfl ?_
          refine a_aload_n (dk D 31 rfl) rfl ?_
          refine a_geti (dk D 32 rfl) cls_10 fl_RX10_22 cf_2_2 ?_
          refine a_puti (dk D 33 rfl) cls_10 fl_RX10_15 cf_2_3 rfl rfl ?_
          refine a_goto (dk D 34 rfl) (tgt := 95) rfl ?_
          refine a_iinc (dk D 52 rfl) (by decide) rfl rfl rfl ?_
          refine a_goto (dk D 53 rfl) (tgt := 9) rfl ?_
          exact a_pick [0, 1, 2, 3] rfl H
        · replace H := H.2 c
          refine a_iload_n (dk D 22 rfl) rfl ?_
          refine a_iconst (dk D 23 rfl) (ik rfl) ?_
          refine a_icmp_ne (dk D 24 rfl) (tgt := 68) rfl ⟨fun c => ?_, fun c => ?_⟩
          · replace H := H.1 c
            refine a_iload_n (dk D 35 rfl) rfl ?_
            refine a_bipush (dk D 36 rfl) (ik rfl) (bpk rfl) ?_
            refine a_imul (dk D 37 rfl) ?_
            refine a_aload_n (dk D 38 rfl) rfl ?_
            refine a_aload_n (dk D 39 rfl) rfl ?_
            refine a_geti (dk D 40 rfl) cls_10 fl_RX10_22 cf_2_2 ?_
            refine a_callVi (as := [iv (h10 2 2)]) (st := [iv (w32 (x2 * 10))]) (dk D 41 rfl) cl_RX10_32 ⟨Nat.le_of_ble_eq_true rfl, Nat.le_of_ble_eq_true rfl⟩ ⟨Nat.le_of_ble_eq_true rfl, Nat.le_of_ble_eq_true rfl⟩ cls_10 rfl cc_2 rfl rfl rfl (Nat.le_of_ble_eq_true rfl) (Call.mono H fun r13 h14 H => ?_)
            refine a_iadd (dk D 42 rfl) ?_
            refine a_bipush (dk D 43 rfl) (ik rfl) (bpk rfl) ?_
            refine a_isub (dk D 44 rfl) ?_
            refine a_istore_n (dk D 45 rfl) (by decide) rfl rfl ?_
            refine a_aload_n (dk D 46 rfl) rfl ?_
            refine a_dup (dk D 47 rfl) rfl ?_
            refine a_geti (dk D 48 rfl) cls_10 fl_RX10_22 cf_2_2 ?_
            refine a_iconst (dk D 49 rfl) (ik rfl) ?_
            refine a_iadd (dk D 50 rfl) ?_
            refine a_puti (dk D 51 rfl) cls_10 fl_RX10_22 cf_2_2 rfl rfl ?_
            refine a_iinc (dk D 52 rfl) (by decide) rfl rfl rfl ?_
            refine a_goto (dk D 53 rfl) (tgt := 9) rfl ?_
            exact a_pick [0, 1, 2, 3] rfl H
          · replace H := H.2 c
            refine a_aload_n (dk D 25 rfl) rfl ?_
            refine a_iload_n (dk D 26 rfl) rfl ?_
            refine a_callVi (as := [iv x1]) (st := []) (dk D 27 rfl) cl_RX10_32 ⟨Nat.le_of_ble_eq_true rfl, Nat.le_of_ble_eq_true rfl⟩ ⟨Nat.le_of_ble_eq_true rfl, Nat.le_of_ble_eq_true rfl⟩ cls_10 rfl cc_2 rfl rfl rfl (Nat.le_of_ble_eq_true rfl) (Call.mono H fun r15 h16 H => ?_)
            refine a_bipush (dk D 28 rfl) (ik rfl) (bpk rfl) ?_
            refine a_icmp_ne (dk D 29 rfl) (tgt := 68) rfl ⟨fun c => ?_, fun c => ?_⟩
            · replace H := H.1 c
              refine a_iload_n (dk D 35 rfl) rfl ?_
              refine a_bipush (dk D 36 rfl) (ik rfl) (bpk rfl) ?_
              refine a_imul (dk D 37 rfl) ?_
              refine a_aload_n (dk D 38 rfl) rfl ?_
              refine a_aload_n (dk D 39 rfl) rfl ?_
              refine a_geti (dk D 40 rfl) cls_10 fl_RX10_22 cf_2_2 ?_
              refine a_callVi (as := [iv (h16 2 2)]) (st := [iv (w32 (x2 * 10))]) (dk D 41 rfl) cl_RX10_32 ⟨Nat.le_of_ble_eq_true rfl, Nat.le_of_ble_eq_true rfl⟩ ⟨Nat.le_of_ble_eq_true rfl, Nat.le_of_ble_eq_true rfl⟩ cls_10 rfl cc_2 rfl rfl rfl (Nat.le_of_ble_eq_true rfl) (Call.mono H fun r17 h18 H => ?_)
              refine a_iadd (dk D 42 rfl) ?_
              refine a_bipush (dk D 43 rfl) (ik rfl) (bpk rfl) ?_
              refine a_isub (dk D 44 rfl) ?_
              refine a_istore_n (dk D 45 rfl) (by decide) rfl rfl ?_
              refine a_aload_n (dk D 46 rfl) rfl ?_
              refine a_dup (dk D 47 rfl) rfl ?_
              refine a_geti (dk D 48 rfl) cls_10 fl_RX10_22 cf_2_2 ?_
              refine a_iconst (dk D 49 rfl) (ik rfl) ?_
              refine a_iadd (dk D 50 rfl) ?_
              refine a_puti (dk D 51 rfl) cls_10 fl_RX10_22 cf_2_2 rfl rfl ?_
              refine a_iinc (dk D 52 rfl) (by decide) rfl rfl rfl ?_
              refine a_goto (dk D 53 rfl) (tgt := 9) rfl ?_
              exact a_pick [0, 1, 2, 3] rfl H
            · replace H := H.2 c
              refine a_aload_n (dk D 30 rfl) rfl ?_
              refine a_aload_n (dk D 31 rfl) rfl ?_
              refine a_geti (dk D 32 rfl) cls_10 fl_RX10_22 cf_2_2 ?_
              refine a_puti (dk D 33 rfl) cls_10 fl_RX10_15 cf_2_3 rfl rfl ?_
              refine a_goto (dk D 34 rfl) (tgt := 95) rfl ?_
              refine a_iinc (dk D 52 rfl) (by decide) rfl rfl rfl ?_
              refine a_goto (dk D 53 rfl) (tgt := 9) rfl ?_
              exact a_pick [0, 1, 2, 3] rfl H
theorem T_X10_inRange_2_0 {G : GG} {Φ : Int → Hp → Prop} {h : Hp} {x1 : Int} {x2 : Int} {x3 : Int} {x4 : Int} (H : Call G m_X10_isRight [rv 2] h (fun r1 h2 => ((r1 = 0 → Call G m_X10_isRight [rv 2] h2 (fun r3 h4 => ((r3 = 0 → Φ x2 h4) ∧ (r3 ≠ 0 → Φ x1 h4)))) ∧ (r1 ≠ 0 → Call G m_X11_within [iv x1, iv x2, iv x3] h2 (fun r5 h6 => ((r5 ≠ 0 → Call G m_X10_isRight [rv 2] h6 (fun r7 h8 => ((r7 = 0 → Φ x2 h8) ∧ (r7 ≠ 0 → Φ x1 h8)))) ∧ (r5 = 0 → Call G m_X10_isRight [rv 2] (up h6 2 3 x4) (fun r9 h10 => ((r9 = 0 → Φ x2 h10) ∧ (r9 ≠ 0 → Φ x1 h10)))))))))) : AT G m_X10_inRange 0 [(0, rv 2), (1, iv x1), (2, iv x2), (3, iv x3), (4, iv x4)] [] h Φ := by
  have D := dt_X10_inRange
  refine a_aload_n (dk D 0 rfl) rfl ?_
  refine a_callVi (as := []) (st := []) (dk D 1 rfl) cl_RX10_25 ⟨Nat.le_of_ble_eq_true rfl, Nat.le_of_ble_eq_true rfl⟩ ⟨Nat.le_of_ble_eq_true rfl, Nat.le_of_ble_eq_true rfl⟩ cls_10 rfl cc_2 rfl rfl rfl (Nat.le_of_ble_eq_true rfl) (Call.mono H fun r1 h2 H => ?_)
  refine a_if_eq (dk D 2 rfl) (tgt := 22) rfl ⟨fun c => ?_, fun c => ?_⟩
  · replace H := H.1 c
    refine a_aload_n (dk D 11 rfl) rfl ?_
    refine a_callVi (as := []) (st := []) (dk D 12 rfl) cl_RX10_25 ⟨Nat.le_of_ble_eq_true rfl, Nat.le_of_ble_eq_true rfl⟩ ⟨Nat.le_of_ble_eq_true rfl, Nat.le_of_ble_eq_true rfl⟩ cls_10 rfl cc_2 rfl rfl rfl (Nat.le_of_ble_eq_true rfl) (Call.mono H fun r3 h4 H => ?_)
    refine a_if_eq (dk D 13 rfl) (tgt := 33) rfl ⟨fun c => ?_, fun c => ?_⟩
    · replace H := H.1 c
      refine a_iload_n (dk D 16 rfl) rfl ?_
      exact a_iret (dk D 17 rfl) rfl rfl H
    · replace H := H.2 c
      refine a_iload_n (dk D 14 rfl) rfl ?_
      refine a_goto (dk D 15 rfl) (tgt := 34) rfl ?_
      exact a_iret (dk D 17 rfl) rfl rfl H
  · replace H := H.2 c
    refine a_iload_n (dk D 3 rfl) rfl ?_
    refine a_iload_n (dk D 4 rfl) rfl ?_
    refine a_iload_n (dk D 5 rfl) rfl ?_
    refine a_callNi (as := [iv x1, iv x2, iv x3]) (st := []) (dk D 6 rfl) cl_RX10_48 ⟨Nat.le_of_ble_eq_true rfl, Nat.le_of_ble_eq_true rfl⟩ ⟨Nat.le_of_ble_eq_true rfl, Nat.le_of_ble_eq_true rfl⟩ rfl rfl rfl (Nat.le_of_ble_eq_true rfl) (Call.mono H fun r5 h6 H => ?_)
    refine a_if_ne (dk D 7 rfl) (tgt := 22) rfl ⟨fun c => ?_, fun c => ?_⟩
    · replace H := H.1 c
      refine a_aload_n (dk D 11 rfl) rfl ?_
      refine a_callVi (as := []) (st := []) (dk D 12 rfl) cl_RX10_25 ⟨Nat.le_of_ble_eq_true rfl, Nat.le_of_ble_eq_true rfl⟩ ⟨Nat.le_of_ble_eq_true rfl, Nat.le_of_ble_eq_true rfl⟩ cls_10 rfl cc_2 rfl rfl rfl (Nat.le_of_ble_eq_true rfl) (Call.mono H fun r7 h8 H => ?_)
      refine a_if_eq (dk D 13 rfl) (tgt := 33) rfl ⟨fun c => ?_, fun c => ?_⟩
      · replace H := H.1 c
        refine a_iload_n (dk D 16 rfl) rfl ?_
        exact a_iret (dk D 17 rfl) rfl rfl H
      · replace H := H.2 c
        refine a_iload_n (dk D 14 rfl) rfl ?_
        refine a_goto (dk D 15 rfl) (tgt := 34) rfl ?_
        exact a_iret (dk D 17 rfl) rfl rfl H
    · replace H := H.2 c
      refine a_aload_n (dk D 8 rfl) rfl ?_
      refine a_iload (dk D 9 rfl) rfl ?_
      refine a_puti (dk D 10 rfl) cls_10 fl_RX10_15 cf_2_3 rfl rfl ?_
      refine a_aload_n (dk D 11 rfl) rfl ?_
      refine a_callVi (as := []) (st := []) (dk D 12 rfl) cl_RX10_25 ⟨Nat.le_of_ble_eq_true rfl, Nat.le_of_ble_eq_true rfl⟩ ⟨Nat.le_of_ble_eq_true rfl, Nat.le_of_ble_eq_true rfl⟩ cls_10 rfl cc_2 rfl rfl rfl (Nat.le_of_ble_eq_true rfl) (Call.mono H fun r9 h10 H => ?_)
      refine a_if_eq (dk D 13 rfl) (tgt := 33) rfl ⟨fun c => ?_, fun c => ?_⟩
      · replace H := H.1 c
        refine a_iload_n (dk D 16 rfl) rfl ?_
        exact a_iret (dk D 17 rfl) rfl rfl H
      · replace H := H.2 c
        refine a_iload_n (dk D 14 rfl) rfl ?_
        refine a_goto (dk D 15 rfl) (tgt := 34) rfl ?_
        exact a_iret (dk D 17 rfl) rfl rfl H
theorem T_X10_compareSign_2_0 {G : GG} {Φ : Int → Hp → Prop} {h : Hp} (H : Call G m_X10_byteAt [rv 2, iv (h 2 2)] h (fun r1 h2 => Call G m_X10_isRight [rv 2] h2 (fun r3 h4 => ((r3 = 0 → Φ r1 h4) ∧ (r3 ≠ 0 → ((r1 = 61 → Φ r1 (up h4 2 2 (w32 ((h4 2 2) + 1)))) ∧ (r1 ≠ 61 → ((r1 = 60 → Φ r1 (up h4 2 2 (w32 ((h4 2 2) + 1)))) ∧ (r1 ≠ 60 → ((r1 ≠ 62 → Φ r1 (up h4 2 3 (h4 2 2))) ∧ (r1 = 62 → Φ r1 (up h4 2 2 (w32 ((h4 2 2) + 1)))))))))))))) : AT G m_X10_compareSign 0 [(0, rv 2)] [] h Φ := by
  have D := dt_X10_compareSign
  refine a_aload_n (dk D 0 rfl) rfl ?_
  refine a_aload_n (dk D 1 rfl) rfl ?_
  refine a_geti (dk D 2 rfl) cls_10 fl_RX10_22 cf_2_2 ?_
  refine a_callVi (as := [iv (h 2 2)]) (st := []) (dk D 3 rfl) cl_RX10_32 ⟨Nat.le_of_ble_eq_true rfl, Nat.le_of_ble_eq_true rfl⟩ ⟨Nat.le_of_ble_eq_true rfl, Nat.le_of_ble_eq_true rfl⟩ cls_10 rfl cc_2 rfl rfl rfl (Nat.le_of_ble_eq_true rfl) (Call.mono H fun r1 h2 H => ?_)
  refine a_istore_n (dk D 4 rfl) (by decide) rfl rfl ?_
  refine a_aload_n (dk D 5 rfl) rfl ?_
  refine a_callVi (as := []) (st := []) (dk D 6 rfl) cl_RX10_25 ⟨Nat.le_of_ble_eq_true rfl, Nat.le_of_ble_eq_true rfl⟩ ⟨Nat.le_of_ble_eq_true rfl, Nat.le_of_ble_eq_true rfl⟩ cls_10 rfl cc_2 rfl rfl rfl (Nat.le_of_ble_eq_true rfl) (Call.mono H fun r3 h4 H => ?_)
  refine a_if_eq (dk D 7 rfl) (tgt := 55) rfl ⟨fun c => ?_, fun c => ?_⟩
  · replace H := H.1 c
    refine a_iload_n (dk D 28 rfl) rfl ?_
    exact a_iret (dk D 29 rfl) rfl rfl H
  · replace H := H.2 c
    refine a_iload_n (dk D 8 rfl) rfl ?_
    refine a_bipush (dk D 9 rfl) (ik rfl) (bpk rfl) ?_
    refine a_icmp_eq (dk D 10 rfl) (tgt := 34) rfl ⟨fun c => ?_, fun c => ?_⟩
    · replace H := H.1 c
      refine a_aload_n (dk D 17 rfl) rfl ?_
      refine a_dup (dk D 18 rfl) rfl ?_
      refine a_geti (dk D 19 rfl) cls_10 fl_RX10_22 cf_2_2 ?_
      refine a_iconst (dk D 20 rfl) (ik rfl) ?_
      refine a_iadd (dk D 21 rfl) ?_
      refine a_puti (dk D 22 rfl) cls_10 fl_RX10_22 cf_2_2 rfl rfl ?_
      refine a_goto (dk D 23 rfl) (tgt := 55) rfl ?_
      refine a_iload_n (dk D 28 rfl) rfl ?_
      exact a_iret (dk D 29 rfl) rfl rfl H
    · replace H := H.2 c
      refine a_iload_n (dk D 11 rfl) rfl ?_
      refine a_bipush (dk D 12 rfl) (ik rfl) (bpk rfl) ?_
      refine a_icmp_eq (dk D 13 rfl) (tgt := 34) rfl ⟨fun c => ?_, fun c => ?_⟩
      · replace H := H.1 c
        refine a_aload_n (dk D 17 rfl) rfl ?_
        refine a_dup (dk D 18 rfl) rfl ?_
        refine a_geti (dk D 19 rfl) cls_10 fl_RX10_22 cf_2_2 ?_
        refine a_iconst (dk D 20 rfl) (ik rfl) ?_
        refine a_iadd (dk D 21 rfl) ?_
        refine a_puti (dk D 22 rfl) cls_10 fl_RX10_22 cf_2_2 rfl rfl ?_
        refine a_goto (dk D 23 rfl) (tgt := 55) rfl ?_
        refine a_iload_n (dk D 28 rfl) rfl ?_
        exact a_iret (dk D 29 rfl) rfl rfl H
      · replace H := H.2 c
        refine a_iload_n (dk D 14 rfl) rfl ?_
        refine a_bipush (dk D 15 rfl) (ik rfl) (bpk rfl) ?_
        refine a_icmp_ne (dk D 16 rfl) (tgt := 47) rfl ⟨fun c => ?_, fun c => ?_⟩
        · replace H := H.1 c
          refine a_aload_n (dk D 24 rfl) rfl ?_
          refine a_aload_n (dk D 25 rfl) rfl ?_
          refine a_geti (dk D 26 rfl) cls_10 fl_RX10_22 cf_2_2 ?_
          refine a_puti (dk D 27 rfl) cls_10 fl_RX10_15 cf_2_3 rfl rfl ?_
          refine a_iload_n (dk D 28 rfl) rfl ?_
          exact a_iret (dk D 29 rfl) rfl rfl H
        · replace H := H.2 c
          refine a_aload_n (dk D 17 rfl) rfl ?_
          refine a_dup (dk D 18 rfl) rfl ?_
          refine a_geti (dk D 19 rfl) cls_10 fl_RX10_22 cf_2_2 ?_
          refine a_iconst (dk D 20 rfl) (ik rfl) ?_
          refine a_iadd (dk D 21 rfl) ?_
          refine a_puti (dk D 22 rfl) cls_10 fl_RX10_22 cf_2_2 rfl rfl ?_
          refine a_goto (dk D 23 rfl) (tgt := 55) rfl ?_
          refine a_iload_n (dk D 28 rfl) rfl ?_
          exact a_iret (dk D 29 rfl) rfl rfl H
theorem T_X10_told_2_0 {G : GG} {Φ : Int → Hp → Prop} {h : Hp} {x1 : Int} {x2 : Int} (H : Call G m_X10_isRight [rv 2] h (fun r1 h2 => ((r1 ≠ 0 → Call G m_X10_wordEnd [rv 2] h2 (fun r3 h4 => AT G m_X10_told 17 [(0, rv 2), (1, iv x1), (2, iv x2), (3, iv r3), (4, iv x1)] [] h4 Φ)) ∧ (r1 = 0 → Φ x1 h2)))) : AT G m_X10_told 0 [(0, rv 2), (1, iv x1), (2, iv x2)] [] h Φ := by
  have D := dt_X10_told
  refine a_aload_n (dk D 0 rfl) rfl ?_
  refine a_callVi (as := []) (st := []) (dk D 1 rfl) cl_RX10_25 ⟨Nat.le_of_ble_eq_true rfl, Nat.le_of_ble_eq_true rfl⟩ ⟨Nat.le_of_ble_eq_true rfl, Nat.le_of_ble_eq_true rfl⟩ cls_10 rfl cc_2 rfl rfl rfl (Nat.le_of_ble_eq_true rfl) (Call.mono H fun r1 h2 H => ?_)
  refine a_if_ne (dk D 2 rfl) (tgt := 9) rfl ⟨fun c => ?_, fun c => ?_⟩
  · replace H := H.1 c
    refine a_aload_n (dk D 5 rfl) rfl ?_
    refine a_callVi (as := []) (st := []) (dk D 6 rfl) cl_RX10_52 ⟨Nat.le_of_ble_eq_true rfl, Nat.le_of_ble_eq_true rfl⟩ ⟨Nat.le_of_ble_eq_true rfl, Nat.le_of_ble_eq_true rfl⟩ cls_10 rfl cc_2 rfl rfl rfl (Nat.le_of_ble_eq_true rfl) (Call.mono H fun r3 h4 H => ?_)
    refine a_istore_n (dk D 7 rfl) (by decide) rfl rfl ?_
    refine a_iload_n (dk D 8 rfl) rfl ?_
    refine a_istore (dk D 9 rfl) (by decide) rfl rfl ?_
    exact a_pick [0, 1, 2, 3, 4] rfl H
  · replace H := H.2 c
    refine a_iload_n (dk D 3 rfl) rfl ?_
    exact a_iret (dk D 4 rfl) rfl rfl H
theorem T_X10_told_2_17 {G : GG} {Φ : Int → Hp → Prop} {h : Hp} {x1 : Int} {x2 : Int} {x3 : Int} {x4 : Int} (H : ((x2 < x4 → Φ x1 (up h 2 3 (h 2 2))) ∧ (x4 ≤ x2 → Call G m_X3_text [iv x4] h (fun r1 h2 => Call G m_X10_reads [rv 2, rv (r1.toNat), iv x3] h2 (fun r3 h4 => ((r3 = 0 → AT G m_X10_told 17 [(0, rv 2), (1, iv x1), (2, iv x2), (3, iv x3), (4, iv (w32 (x4 + 1)))] [] h4 Φ) ∧ (r3 ≠ 0 → Φ x4 (up h4 2 2 x3)))))))) : AT G m_X10_told 17 [(0, rv 2), (1, iv x1), (2, iv x2), (3, iv x3), (4, iv x4)] [] h Φ := by
  have D := dt_X10_told
  refine a_iload (dk D 10 rfl) rfl ?_
  refine a_iload_n (dk D 11 rfl) rfl ?_
  refine a_icmp_gt (dk D 12 rfl) (tgt := 50) rfl ⟨fun c => ?_, fun c => ?_⟩
  · replace H := H.1 c
    refine a_aload_n (dk D 26 rfl) rfl ?_
    refine a_aload_n (dk D 27 rfl) rfl ?_
    refine a_geti (dk D 28 rfl) cls_10 fl_RX10_22 cf_2_2 ?_
    refine a_puti (dk D 29 rfl) cls_10 fl_RX10_15 cf_2_3 rfl rfl ?_
    refine a_iload_n (dk D 30 rfl) rfl ?_
    exact a_iret (dk D 31 rfl) rfl rfl H
  · replace H := H.2 c
    refine a_aload_n (dk D 13 rfl) rfl ?_
    refine a_iload (dk D 14 rfl) rfl ?_
    refine a_callSr (as := [iv x4]) (st := [rv 2]) (dk D 15 rfl) cl_RX10_55 ⟨Nat.le_of_ble_eq_true rfl, Nat.le_of_ble_eq_true rfl⟩ ⟨Nat.le_of_ble_eq_true rfl, Nat.le_of_ble_eq_true rfl⟩ rfl rfl rfl (Nat.le_of_ble_eq_true rfl) (Call.mono H fun r1 h2 H => ?_)
    refine a_iload_n (dk D 16 rfl) rfl ?_
    refine a_callVi (as := [rv (r1.toNat), iv x3]) (st := []) (dk D 17 rfl) cl_RX10_61 ⟨Nat.le_of_ble_eq_true rfl, Nat.le_of_ble_eq_true rfl⟩ ⟨Nat.le_of_ble_eq_true rfl, Nat.le_of_ble_eq_true rfl⟩ cls_10 rfl cc_2 rfl rfl rfl (Nat.le_of_ble_eq_true rfl) (Call.mono H fun r3 h4 H => ?_)
    refine a_if_eq (dk D 18 rfl) (tgt := 44) rfl ⟨fun c => ?_, fun c => ?_⟩
    · replace H := H.1 c
      refine a_iinc (dk D 24 rfl) (by decide) rfl rfl rfl ?_
      refine a_goto (dk D 25 rfl) (tgt := 17) rfl ?_
      exact a_pick [0, 1, 2, 3, 4] rfl H
    · replace H := H.2 c
      refine a_aload_n (dk D 19 rfl) rfl ?_
      refine a_iload_n (dk D 20 rfl) rfl ?_
      refine a_puti (dk D 21 rfl) cls_10 fl_RX10_22 cf_2_2 rfl rfl ?_
      refine a_iload (dk D 22 rfl) rfl ?_
      exact a_iret (dk D 23 rfl) rfl rfl H
theorem T_X10_wordEnd_2_0 {G : GG} {Φ : Int → Hp → Prop} {h : Hp} (H : Call G m_X10_byteAt [rv 2, iv (h 2 2)] h (fun r1 h2 => Call G m_X10_isLetter [iv r1] h2 (fun r3 h4 => ((r3 = 0 → Φ (h 2 2) h4) ∧ (r3 ≠ 0 → AT G m_X10_wordEnd 16 [(0, rv 2), (1, iv (h 2 2))] [] h4 Φ))))) : AT G m_X10_wordEnd 0 [(0, rv 2)] [] h Φ := by
  have D := dt_X10_wordEnd
  refine a_aload_n (dk D 0 rfl) rfl ?_
  refine a_geti (dk D 1 rfl) cls_10 fl_RX10_22 cf_2_2 ?_
  refine a_istore_n (dk D 2 rfl) (by decide) rfl rfl ?_
  refine a_aload_n (dk D 3 rfl) rfl ?_
  refine a_iload_n (dk D 4 rfl) rfl ?_
  refine a_callVi (as := [iv (h 2 2)]) (st := []) (dk D 5 rfl) cl_RX10_32 ⟨Nat.le_of_ble_eq_true rfl, Nat.le_of_ble_eq_true rfl⟩ ⟨Nat.le_of_ble_eq_true rfl, Nat.le_of_ble_eq_true rfl⟩ cls_10 rfl cc_2 rfl rfl rfl (Nat.le_of_ble_eq_true rfl) (Call.mono H fun r1 h2 H => ?_)
  refine a_callSi (as := [iv r1]) (st := []) (dk D 6 rfl) cl_RX10_65 ⟨Nat.le_of_ble_eq_true rfl, Nat.le_of_ble_eq_true rfl⟩ ⟨Nat.le_of_ble_eq_true rfl, Nat.le_of_ble_eq_true rfl⟩ rfl rfl rfl (Nat.le_of_ble_eq_true rfl) (Call.mono H fun r3 h4 H => ?_)
  refine a_if_eq (dk D 7 rfl) (tgt := 52) rfl ⟨fun c => ?_, fun c => ?_⟩
  · replace H := H.1 c
    refine a_iload_n (dk D 24 rfl) rfl ?_
    exact a_iret (dk D 25 rfl) rfl rfl H
  · replace H := H.2 c
    exact a_pick [0, 1] rfl H
theorem T_X10_wordEnd_2_16 {G : GG} {Φ : Int → Hp → Prop} {h : Hp} {x1 : Int} (H : (((h 2 1) ≤ x1 → Φ x1 h) ∧ (x1 < (h 2 1) → Call G m_X10_byteAt [rv 2, iv x1] h (fun r1 h2 => Call G m_X10_isLetter [iv r1] h2 (fun r3 h4 => ((r3 ≠ 0 → AT G m_X10_wordEnd 16 [(0, rv 2), (1, iv (w32 (x1 + 1)))] [] h4 Φ) ∧ (r3 = 0 → Call G m_X10_byteAt [rv 2, iv x1] h4 (fun r5 h6 => Call G m_X10_isDigit [iv r5] h6 (fun r7 h8 => ((r7 = 0 → Φ x1 h8) ∧ (r7 ≠ 0 → AT G m_X10_wordEnd 16 [(0, rv 2), (1, iv (w32 (x1 + 1)))] [] h8 Φ))))))))))) : AT G m_X10_wordEnd 16 [(0, rv 2), (1, iv x1)] [] h Φ := by
  have D := dt_X10_wordEnd
  refine a_iload_n (dk D 8 rfl) rfl ?_
  refine a_aload_n (dk D 9 rfl) rfl ?_
  refine a_geti (dk D 10 rfl) cls_10 fl_RX10_19 cf_2_1 ?_
  refine a_icmp_ge (dk D 11 rfl) (tgt := 52) rfl ⟨fun c => ?_, fun c => ?_⟩
  · replace H := H.1 c
    refine a_iload_n (dk D 24 rfl) rfl ?_
    exact a_iret (dk D 25 rfl) rfl rfl H
  · replace H := H.2 c
    refine a_aload_n (dk D 12 rfl) rfl ?_
    refine a_iload_n (dk D 13 rfl) rfl ?_
    refine a_callVi (as := [iv x1]) (st := []) (dk D 14 rfl) cl_RX10_32 ⟨Nat.le_of_ble_eq_true rfl, Nat.le_of_ble_eq_true rfl⟩ ⟨Nat.le_of_ble_eq_true rfl, Nat.le_of_ble_eq_true rfl⟩ cls_10 rfl cc_2 rfl rfl rfl (Nat.le_of_ble_eq_true rfl) (Call.mono H fun r1 h2 H => ?_)
    refine a_callSi (as := [iv r1]) (st := []) (dk D 15 rfl) cl_RX10_65 ⟨Nat.le_of_ble_eq_true rfl, Nat.le_of_ble_eq_true rfl⟩ ⟨Nat.le_of_ble_eq_true rfl, Nat.le_of_ble_eq_true rfl⟩ rfl rfl rfl (Nat.le_of_ble_eq_true rfl) (Call.mono H fun r3 h4 H => ?_)
    refine a_if_ne (dk D 16 rfl) (tgt := 46) rfl ⟨fun c => ?_, fun c => ?_⟩
    · replace H := H.1 c
      refine a_iinc (dk D 22 rfl) (by decide) rfl rfl rfl ?_
      refine a_goto (dk D 23 rfl) (tgt := 16) rfl ?_
      exact a_pick [0, 1] rfl H
    · replace H := H.2 c
      refine a_aload_n (dk D 17 rfl) rfl ?_
      refine a_iload_n (dk D 18 rfl) rfl ?_
      refine a_callVi (as := [iv x1]) (st := []) (dk D 19 rfl) cl_RX10_32 ⟨Nat.le_of_ble_eq_true rfl, Nat.le_of_ble_eq_true rfl⟩ ⟨Nat.le_of_ble_eq_true rfl, Nat.le_of_ble_eq_true rfl⟩ cls_10 rfl cc_2 rfl rfl rfl (Nat.le_of_ble_eq_true rfl) (Call.mono H fun r5 h6 H => ?_)
      refine a_callSi (as := [iv r5]) (st := []) (dk D 20 rfl) cl_RX10_36 ⟨Nat.le_of_ble_eq_true rfl, Nat.le_of_ble_eq_true rfl⟩ ⟨Nat.le_of_ble_eq_true rfl, Nat.le_of_ble_eq_true rfl⟩ rfl rfl rfl (Nat.le_of_ble_eq_true rfl) (Call.mono H fun r7 h8 H => ?_)
      refine a_if_eq (dk D 21 rfl) (tgt := 52) rfl ⟨fun c => ?_, fun c => ?_⟩
      · replace H := H.1 c
        refine a_iload_n (dk D 24 rfl) rfl ?_
        exact a_iret (dk D 25 rfl) rfl rfl H
      · replace H := H.2 c
        refine a_iinc (dk D 22 rfl) (by decide) rfl rfl rfl ?_
        refine a_goto (dk D 23 rfl) (tgt := 16) rfl ?_
        exact a_pick [0, 1] rfl H
theorem T_X10_reads_2_t1_0 {G : GG} {Φ : Int → Hp → Prop} {h : Hp} {t1 : Nat} {x2 : Int} (H : (1000 ≤ t1 ∧ t1 < 1063) ∧ Call G m_J0_length_8abf5 [rv (t1)] h (fun r1 h2 => ((r1 = (w32 (x2 - (h2 2 2))) → AT G m_X10_reads 17 [(0, rv 2), (1, rv (t1)), (3, iv 0)] [] h2 Φ) ∧ (r1 ≠ (w32 (x2 - (h2 2 2))) → Φ 0 h2)))) : AT G m_X10_reads 0 [(0, rv 2), (1, rv (t1)), (2, iv x2)] [] h Φ := by
  have D := dt_X10_reads
  refine a_aload_n (dk D 0 rfl) rfl ?_
  have hS := H.1
  replace H := H.2
  refine a_callTi (as := []) (st := []) (dk D 1 rfl) cl_RX10_68 ⟨Nat.le_of_ble_eq_true rfl, Nat.le_of_ble_eq_true rfl⟩ ⟨Nat.le_of_ble_eq_true rfl, Nat.le_of_ble_eq_true rfl⟩ hS rfl rfl rfl rfl (Nat.le_of_ble_eq_true rfl) (Call.mono H fun r1 h2 H => ?_)
  refine a_iload_n (dk D 2 rfl) rfl ?_
  refine a_aload_n (dk D 3 rfl) rfl ?_
  refine a_geti (dk D 4 rfl) cls_10 fl_RX10_22 cf_2_2 ?_
  refine a_isub (dk D 5 rfl) ?_
  refine a_icmp_eq (dk D 6 rfl) (tgt := 15) rfl ⟨fun c => ?_, fun c => ?_⟩
  · replace H := H.1 c
    refine a_iconst (dk D 9 rfl) (ik rfl) ?_
    refine a_istore_n (dk D 10 rfl) (by decide) rfl rfl ?_
    exact a_pick [0, 1, 3] rfl H
  · replace H := H.2 c
    refine a_iconst (dk D 7 rfl) (ik rfl) ?_
    exact a_zret (dk D 8 rfl) rfl rfl ⟨by decide, H⟩
theorem T_X10_reads_2_t1_17 {G : GG} {Φ : Int → Hp → Prop} {h : Hp} {y1 : Nat} {x3 : Int} (H : (1000 ≤ y1 ∧ y1 < 1063) ∧ Call G m_J0_length_8abf5 [rv (y1)] h (fun r1 h2 => ((r1 ≤ x3 → Φ 1 h2) ∧ (x3 < r1 → Call G m_X10_byteAt [rv 2, iv (w32 ((h2 2 2) + x3))] h2 (fun r3 h4 => (1000 ≤ y1 ∧ y1 < 1063) ∧ Call G m_J0_charAt_5068e [rv (y1), iv x3] h4 (fun r5 h6 => ((r3 = r5 → AT G m_X10_reads 17 [(0, rv 2), (1, rv (y1)), (3, iv (w32 (x3 + 1)))] [] h6 Φ) ∧ (r3 ≠ r5 → Φ 0 h6)))))))) : AT G m_X10_reads 17 [(0, rv 2), (1, rv (y1)), (3, iv x3)] [] h Φ := by
  have D := dt_X10_reads
  refine a_iload_n (dk D 11 rfl) rfl ?_
  refine a_aload_n (dk D 12 rfl) rfl ?_
  have hS := H.1
  replace H := H.2
  refine a_callTi (as := []) (st := [iv x3]) (dk D 13 rfl) cl_RX10_68 ⟨Nat.le_of_ble_eq_true rfl, Nat.le_of_ble_eq_true rfl⟩ ⟨Nat.le_of_ble_eq_true rfl, Nat.le_of_ble_eq_true rfl⟩ hS rfl rfl rfl rfl (Nat.le_of_ble_eq_true rfl) (Call.mono H fun r1 h2 H => ?_)
  refine a_icmp_ge (dk D 14 rfl) (tgt := 51) rfl ⟨fun c => ?_, fun c => ?_⟩
  · replace H := H.1 c
    refine a_iconst (dk D 29 rfl) (ik rfl) ?_
    exact a_zret (dk D 30 rfl) rfl rfl ⟨by decide, H⟩
  · replace H := H.2 c
    refine a_aload_n (dk D 15 rfl) rfl ?_
    refine a_aload_n (dk D 16 rfl) rfl ?_
    refine a_geti (dk D 17 rfl) cls_10 fl_RX10_22 cf_2_2 ?_
    refine a_iload_n (dk D 18 rfl) rfl ?_
    refine a_iadd (dk D 19 rfl) ?_
    refine a_callVi (as := [iv (w32 ((h2 2 2) + x3))]) (st := []) (dk D 20 rfl) cl_RX10_32 ⟨Nat.le_of_ble_eq_true rfl, Nat.le_of_ble_eq_true rfl⟩ ⟨Nat.le_of_ble_eq_true rfl, Nat.le_of_ble_eq_true rfl⟩ cls_10 rfl cc_2 rfl rfl rfl (Nat.le_of_ble_eq_true rfl) (Call.mono H fun r3 h4 H => ?_)
    refine a_aload_n (dk D 21 rfl) rfl ?_
    refine a_iload_n (dk D 22 rfl) rfl ?_
    have hS := H.1
    replace H := H.2
    refine a_callTi (as := [iv x3]) (st := [iv r3]) (dk D 23 rfl) cl_RX10_73 ⟨Nat.le_of_ble_eq_true rfl, Nat.le_of_ble_eq_true rfl⟩ ⟨Nat.le_of_ble_eq_true rfl, Nat.le_of_ble_eq_true rfl⟩ hS rfl rfl rfl rfl (Nat.le_of_ble_eq_true rfl) (Call.mono H fun r5 h6 H => ?_)
    refine a_icmp_eq (dk D 24 rfl) (tgt := 45) rfl ⟨fun c => ?_, fun c => ?_⟩
    · replace H := H.1 c
      refine a_iinc (dk D 27 rfl) (by decide) rfl rfl rfl ?_
      refine a_goto (dk D 28 rfl) (tgt := 17) rfl ?_
      exact a_pick [0, 1, 2] rfl H
    · replace H := H.2 c
      refine a_iconst (dk D 25 rfl) (ik rfl) ?_
      exact a_zret (dk D 26 rfl) rfl rfl ⟨by decide, H⟩
