set_option maxHeartbeats 40000000 in
theorem U_X10_append_2_0 {G : GG} {Φ : Int → Hp → Prop} {h : Hp} {x1 : Int} (H : AT G m_X10_append 3 [(0, rv 2), (1, iv x1), (2, iv 24)] [] h Φ) : AT G m_X10_append 0 [(0, rv 2), (1, iv x1)] [] h Φ := by
  refine a_bipush (pc := 0) (dk dt_X10_append 0 rfl) (ik rfl) (bpk rfl) ?_
  refine a_istore_n (pc := 2) (dk dt_X10_append 1 rfl) (by decide) rfl rfl ?_
  exact a_pick [0, 1, 2] rfl H
set_option maxHeartbeats 40000000 in
theorem U_X10_append_2_3 {G : GG} {Φ : Int → Hp → Prop} {h : Hp} {x1 : Int} {x2 : Int} (H : ((x2 < 0 → Φ 0 h) ∧ (0 ≤ x2 → ((1600 ≤ (h 2 1) → Φ 0 h) ∧ ((h 2 1) < 1600 → (0 ≤ (h 2 1) ∧ (h 2 1) < 1600) ∧ AT G m_X10_append 3 [(0, rv 2), (1, iv x1), (2, iv (w32 (x2 + (-8))))] [] (up (up h 3 (h 2 1) (band (bushr x1 x2) 255)) 2 1 (w32 ((h 2 1) + 1))) Φ))))) : AT G m_X10_append 3 [(0, rv 2), (1, iv x1), (2, iv x2)] [] h Φ := by
  refine a_iload_n (pc := 3) (dk dt_X10_append 2 rfl) rfl ?_
  refine a_if_lt (pc := 4) (dk dt_X10_append 3 rfl) (tgt := 49) rfl ⟨fun c => ?_, fun c => ?_⟩
  · replace H := H.1 c
    exact a_vret (pc := 49) (dk dt_X10_append 26 rfl) rfl rfl H
  · replace H := H.2 c
    refine a_aload_n (pc := 7) (dk dt_X10_append 4 rfl) rfl ?_
    refine a_geti (pc := 8) (dk dt_X10_append 5 rfl) cls_10 fl_RX10_19 cf_2_1 ?_
    refine a_sipush (pc := 11) (dk dt_X10_append 6 rfl) (ik rfl) (spk rfl) ?_
    refine a_icmp_ge (pc := 14) (dk dt_X10_append 7 rfl) (tgt := 49) rfl ⟨fun c => ?_, fun c => ?_⟩
    · replace H := H.1 c
      exact a_vret (pc := 49) (dk dt_X10_append 26 rfl) rfl rfl H
    · replace H := H.2 c
      refine a_aload_n (pc := 17) (dk dt_X10_append 8 rfl) rfl ?_
      refine a_getr (r := 2) (pc := 18) (dk dt_X10_append 9 rfl) cls_10 fl_RX10_11 cf_2_0 ?_
      refine a_aload_n (pc := 21) (dk dt_X10_append 10 rfl) rfl ?_
      refine a_geti (pc := 22) (dk dt_X10_append 11 rfl) cls_10 fl_RX10_19 cf_2_1 ?_
      refine a_iload_n (pc := 25) (dk dt_X10_append 12 rfl) rfl ?_
      refine a_iload_n (pc := 26) (dk dt_X10_append 13 rfl) rfl ?_
      refine a_iushr (pc := 27) (dk dt_X10_append 14 rfl) ?_
      refine a_sipush (pc := 28) (dk dt_X10_append 15 rfl) (ik rfl) (spk rfl) ?_
      refine a_iand (pc := 31) (dk dt_X10_append 16 rfl) ?_
      refine a_iast (pc := 32) (dk dt_X10_append 17 rfl) ar_3 ⟨H.1, ?_⟩
      replace H := H.2
      refine a_aload_n (pc := 33) (dk dt_X10_append 18 rfl) rfl ?_
      refine a_dup (pc := 34) (dk dt_X10_append 19 rfl) rfl ?_
      refine a_geti (pc := 35) (dk dt_X10_append 20 rfl) cls_10 fl_RX10_19 cf_2_1 ?_
      refine a_top (y := (h 2 1)) (by simp [up, cpy]) ?_
      refine a_iconst (pc := 38) (dk dt_X10_append 21 rfl) (ik rfl) ?_
      refine a_iadd (pc := 39) (dk dt_X10_append 22 rfl) ?_
      refine a_puti (pc := 40) (dk dt_X10_append 23 rfl) cls_10 fl_RX10_19 cf_2_1 rfl rfl ?_
      refine a_iinc (pc := 43) (dk dt_X10_append 24 rfl) (by decide) rfl rfl rfl ?_
      refine a_goto (pc := 46) (dk dt_X10_append 25 rfl) (tgt := 3) rfl ?_
      exact a_pick [0, 1, 2] rfl H
set_option maxHeartbeats 40000000 in
theorem U_X10_closes_2_0 {G : GG} {Φ : Int → Hp → Prop} {h : Hp} (H : (((h 2 3) ≠ (-1) → (((h 2 3) ≠ (-1) → Φ 0 (up h 2 1 0)) ∧ ((h 2 3) = (-1) → Φ 1 (up h 2 1 0)))) ∧ ((h 2 3) = (-1) → (((h 2 2) < (h 2 1) → (((h 2 2) ≠ (-1) → Φ 0 (up (up h 2 3 (h 2 2)) 2 1 0)) ∧ ((h 2 2) = (-1) → Φ 1 (up (up h 2 3 (h 2 2)) 2 1 0)))) ∧ ((h 2 1) ≤ (h 2 2) → (((h 2 3) ≠ (-1) → Φ 0 (up h 2 1 0)) ∧ ((h 2 3) = (-1) → Φ 1 (up h 2 1 0)))))))) : AT G m_X10_closes 0 [(0, rv 2)] [] h Φ := by
  refine a_aload_n (pc := 0) (dk dt_X10_closes 0 rfl) rfl ?_
  refine a_callVi (as := []) (st := []) (pc := 1) (dk dt_X10_closes 1 rfl) cl_RX10_25 ⟨Nat.le_of_ble_eq_true rfl, Nat.le_of_ble_eq_true rfl⟩ ⟨Nat.le_of_ble_eq_true rfl, Nat.le_of_ble_eq_true rfl⟩ cls_10 rfl cc_2 rfl rfl rfl (Nat.le_of_ble_eq_true rfl) (Call.of rfl (Nat.le_of_ble_eq_true rfl) rfl ?_)
  refine a_aload_n (pc := 0) (dk dt_X10_isRight 0 rfl) rfl ?_
  refine a_geti (pc := 1) (dk dt_X10_isRight 1 rfl) cls_10 fl_RX10_15 cf_2_3 ?_
  refine a_iconst (pc := 4) (dk dt_X10_isRight 2 rfl) (ik rfl) ?_
  refine a_icmp_ne (pc := 5) (dk dt_X10_isRight 3 rfl) (tgt := 12) rfl ⟨fun c => ?_, fun c => ?_⟩
  · replace H := H.1 c
    refine a_iconst (pc := 12) (dk dt_X10_isRight 6 rfl) (ik rfl) ?_
    refine a_zret (pc := 13) (dk dt_X10_isRight 7 rfl) rfl rfl ⟨by decide, ?_⟩
    show ATW _ _ _ _ _ _ _ _ _ _
    refine a_if_eq (pc := 4) (dk dt_X10_closes 2 rfl) (tgt := 22) rfl ⟨fun _ => ?_, fun c => absurd c (by decide)⟩
    refine a_aload_n (pc := 22) (dk dt_X10_closes 10 rfl) rfl ?_
    refine a_iconst (pc := 23) (dk dt_X10_closes 11 rfl) (ik rfl) ?_
    refine a_puti (pc := 24) (dk dt_X10_closes 12 rfl) cls_10 fl_RX10_19 cf_2_1 rfl rfl ?_
    refine a_aload_n (pc := 27) (dk dt_X10_closes 13 rfl) rfl ?_
    refine a_callVi (as := []) (st := []) (pc := 28) (dk dt_X10_closes 14 rfl) cl_RX10_25 ⟨Nat.le_of_ble_eq_true rfl, Nat.le_of_ble_eq_true rfl⟩ ⟨Nat.le_of_ble_eq_true rfl, Nat.le_of_ble_eq_true rfl⟩ cls_10 rfl cc_2 rfl rfl rfl (Nat.le_of_ble_eq_true rfl) (Call.of rfl (Nat.le_of_ble_eq_true rfl) rfl ?_)
    refine a_aload_n (pc := 0) (dk dt_X10_isRight 0 rfl) rfl ?_
    refine a_geti (pc := 1) (dk dt_X10_isRight 1 rfl) cls_10 fl_RX10_15 cf_2_3 ?_
    refine a_top (y := (h 2 3)) (by simp [up, cpy]) ?_
    refine a_iconst (pc := 4) (dk dt_X10_isRight 2 rfl) (ik rfl) ?_
    refine a_icmp_ne (pc := 5) (dk dt_X10_isRight 3 rfl) (tgt := 12) rfl ⟨fun c => ?_, fun c => ?_⟩
    · replace H := H.1 c
      refine a_iconst (pc := 12) (dk dt_X10_isRight 6 rfl) (ik rfl) ?_
      refine a_zret (pc := 13) (dk dt_X10_isRight 7 rfl) rfl rfl ⟨by decide, ?_⟩
      show ATW _ _ _ _ _ _ _ _ _ _
      exact a_zret (pc := 31) (dk dt_X10_closes 15 rfl) rfl rfl ⟨by decide, H⟩
    · replace H := H.2 c
      refine a_iconst (pc := 8) (dk dt_X10_isRight 4 rfl) (ik rfl) ?_
      refine a_goto (pc := 9) (dk dt_X10_isRight 5 rfl) (tgt := 13) rfl ?_
      refine a_zret (pc := 13) (dk dt_X10_isRight 7 rfl) rfl rfl ⟨by decide, ?_⟩
      show ATW _ _ _ _ _ _ _ _ _ _
      exact a_zret (pc := 31) (dk dt_X10_closes 15 rfl) rfl rfl ⟨by decide, H⟩
  · replace H := H.2 c
    refine a_iconst (pc := 8) (dk dt_X10_isRight 4 rfl) (ik rfl) ?_
    refine a_goto (pc := 9) (dk dt_X10_isRight 5 rfl) (tgt := 13) rfl ?_
    refine a_zret (pc := 13) (dk dt_X10_isRight 7 rfl) rfl rfl ⟨by decide, ?_⟩
    show ATW _ _ _ _ _ _ _ _ _ _
    refine a_if_eq (pc := 4) (dk dt_X10_closes 2 rfl) (tgt := 22) rfl ⟨fun c => absurd c (by decide), fun _ => ?_⟩
    refine a_aload_n (pc := 7) (dk dt_X10_closes 3 rfl) rfl ?_
    refine a_callVi (as := []) (st := []) (pc := 8) (dk dt_X10_closes 4 rfl) cl_RX10_29 ⟨Nat.le_of_ble_eq_true rfl, Nat.le_of_ble_eq_true rfl⟩ ⟨Nat.le_of_ble_eq_true rfl, Nat.le_of_ble_eq_true rfl⟩ cls_10 rfl cc_2 rfl rfl rfl (Nat.le_of_ble_eq_true rfl) (Call.of rfl (Nat.le_of_ble_eq_true rfl) rfl ?_)
    refine a_aload_n (pc := 0) (dk dt_X10_isAtEnd 0 rfl) rfl ?_
    refine a_geti (pc := 1) (dk dt_X10_isAtEnd 1 rfl) cls_10 fl_RX10_22 cf_2_2 ?_
    refine a_aload_n (pc := 4) (dk dt_X10_isAtEnd 2 rfl) rfl ?_
    refine a_geti (pc := 5) (dk dt_X10_isAtEnd 3 rfl) cls_10 fl_RX10_19 cf_2_1 ?_
    refine a_icmp_lt (pc := 8) (dk dt_X10_isAtEnd 4 rfl) (tgt := 15) rfl ⟨fun c => ?_, fun c => ?_⟩
    · replace H := H.1 c
      refine a_iconst (pc := 15) (dk dt_X10_isAtEnd 7 rfl) (ik rfl) ?_
      refine a_zret (pc := 16) (dk dt_X10_isAtEnd 8 rfl) rfl rfl ⟨by decide, ?_⟩
      show ATW _ _ _ _ _ _ _ _ _ _
      refine a_if_ne (pc := 11) (dk dt_X10_closes 5 rfl) (tgt := 22) rfl ⟨fun c => absurd c (by decide), fun _ => ?_⟩
      refine a_aload_n (pc := 14) (dk dt_X10_closes 6 rfl) rfl ?_
      refine a_aload_n (pc := 15) (dk dt_X10_closes 7 rfl) rfl ?_
      refine a_geti (pc := 16) (dk dt_X10_closes 8 rfl) cls_10 fl_RX10_22 cf_2_2 ?_
      refine a_puti (pc := 19) (dk dt_X10_closes 9 rfl) cls_10 fl_RX10_15 cf_2_3 rfl rfl ?_
      refine a_aload_n (pc := 22) (dk dt_X10_closes 10 rfl) rfl ?_
      refine a_iconst (pc := 23) (dk dt_X10_closes 11 rfl) (ik rfl) ?_
      refine a_puti (pc := 24) (dk dt_X10_closes 12 rfl) cls_10 fl_RX10_19 cf_2_1 rfl rfl ?_
      refine a_aload_n (pc := 27) (dk dt_X10_closes 13 rfl) rfl ?_
      refine a_callVi (as := []) (st := []) (pc := 28) (dk dt_X10_closes 14 rfl) cl_RX10_25 ⟨Nat.le_of_ble_eq_true rfl, Nat.le_of_ble_eq_true rfl⟩ ⟨Nat.le_of_ble_eq_true rfl, Nat.le_of_ble_eq_true rfl⟩ cls_10 rfl cc_2 rfl rfl rfl (Nat.le_of_ble_eq_true rfl) (Call.of rfl (Nat.le_of_ble_eq_true rfl) rfl ?_)
      refine a_aload_n (pc := 0) (dk dt_X10_isRight 0 rfl) rfl ?_
      refine a_geti (pc := 1) (dk dt_X10_isRight 1 rfl) cls_10 fl_RX10_15 cf_2_3 ?_
      refine a_top (y := (h 2 2)) (by simp [up, cpy]) ?_
      refine a_iconst (pc := 4) (dk dt_X10_isRight 2 rfl) (ik rfl) ?_
      refine a_icmp_ne (pc := 5) (dk dt_X10_isRight 3 rfl) (tgt := 12) rfl ⟨fun c => ?_, fun c => ?_⟩
      · replace H := H.1 c
        refine a_iconst (pc := 12) (dk dt_X10_isRight 6 rfl) (ik rfl) ?_
        refine a_zret (pc := 13) (dk dt_X10_isRight 7 rfl) rfl rfl ⟨by decide, ?_⟩
        show ATW _ _ _ _ _ _ _ _ _ _
        exact a_zret (pc := 31) (dk dt_X10_closes 15 rfl) rfl rfl ⟨by decide, H⟩
      · replace H := H.2 c
        refine a_iconst (pc := 8) (dk dt_X10_isRight 4 rfl) (ik rfl) ?_
        refine a_goto (pc := 9) (dk dt_X10_isRight 5 rfl) (tgt := 13) rfl ?_
        refine a_zret (pc := 13) (dk dt_X10_isRight 7 rfl) rfl rfl ⟨by decide, ?_⟩
        show ATW _ _ _ _ _ _ _ _ _ _
        exact a_zret (pc := 31) (dk dt_X10_closes 15 rfl) rfl rfl ⟨by decide, H⟩
    · replace H := H.2 c
      refine a_iconst (pc := 11) (dk dt_X10_isAtEnd 5 rfl) (ik rfl) ?_
      refine a_goto (pc := 12) (dk dt_X10_isAtEnd 6 rfl) (tgt := 16) rfl ?_
      refine a_zret (pc := 16) (dk dt_X10_isAtEnd 8 rfl) rfl rfl ⟨by decide, ?_⟩
      show ATW _ _ _ _ _ _ _ _ _ _
      refine a_if_ne (pc := 11) (dk dt_X10_closes 5 rfl) (tgt := 22) rfl ⟨fun _ => ?_, fun c => absurd c (by decide)⟩
      refine a_aload_n (pc := 22) (dk dt_X10_closes 10 rfl) rfl ?_
      refine a_iconst (pc := 23) (dk dt_X10_closes 11 rfl) (ik rfl) ?_
      refine a_puti (pc := 24) (dk dt_X10_closes 12 rfl) cls_10 fl_RX10_19 cf_2_1 rfl rfl ?_
      refine a_aload_n (pc := 27) (dk dt_X10_closes 13 rfl) rfl ?_
      refine a_callVi (as := []) (st := []) (pc := 28) (dk dt_X10_closes 14 rfl) cl_RX10_25 ⟨Nat.le_of_ble_eq_true rfl, Nat.le_of_ble_eq_true rfl⟩ ⟨Nat.le_of_ble_eq_true rfl, Nat.le_of_ble_eq_true rfl⟩ cls_10 rfl cc_2 rfl rfl rfl (Nat.le_of_ble_eq_true rfl) (Call.of rfl (Nat.le_of_ble_eq_true rfl) rfl ?_)
      refine a_aload_n (pc := 0) (dk dt_X10_isRight 0 rfl) rfl ?_
      refine a_geti (pc := 1) (dk dt_X10_isRight 1 rfl) cls_10 fl_RX10_15 cf_2_3 ?_
      refine a_top (y := (h 2 3)) (by simp [up, cpy]) ?_
      refine a_iconst (pc := 4) (dk dt_X10_isRight 2 rfl) (ik rfl) ?_
      refine a_icmp_ne (pc := 5) (dk dt_X10_isRight 3 rfl) (tgt := 12) rfl ⟨fun c => ?_, fun c => ?_⟩
      · replace H := H.1 c
        refine a_iconst (pc := 12) (dk dt_X10_isRight 6 rfl) (ik rfl) ?_
        refine a_zret (pc := 13) (dk dt_X10_isRight 7 rfl) rfl rfl ⟨by decide, ?_⟩
        show ATW _ _ _ _ _ _ _ _ _ _
        exact a_zret (pc := 31) (dk dt_X10_closes 15 rfl) rfl rfl ⟨by decide, H⟩
      · replace H := H.2 c
        refine a_iconst (pc := 8) (dk dt_X10_isRight 4 rfl) (ik rfl) ?_
        refine a_goto (pc := 9) (dk dt_X10_isRight 5 rfl) (tgt := 13) rfl ?_
        refine a_zret (pc := 13) (dk dt_X10_isRight 7 rfl) rfl rfl ⟨by decide, ?_⟩
        show ATW _ _ _ _ _ _ _ _ _ _
        exact a_zret (pc := 31) (dk dt_X10_closes 15 rfl) rfl rfl ⟨by decide, H⟩
set_option maxHeartbeats 40000000 in
theorem U_X10_skip_2_0 {G : GG} {Φ : Int → Hp → Prop} {h : Hp} {x1 : Int} (H : (((h 2 3) ≠ (-1) → Φ 0 h) ∧ ((h 2 3) = (-1) → Call G m_X10_byteAt [rv 2, iv (h 2 2)] h (fun r1 h2 => ((r1 ≠ x1 → Φ 0 (up h2 2 3 (h2 2 2))) ∧ (r1 = x1 → Φ 0 (up h2 2 2 (w32 ((h2 2 2) + 1))))))))) : AT G m_X10_skip 0 [(0, rv 2), (1, iv x1)] [] h Φ := by
  refine a_aload_n (pc := 0) (dk dt_X10_skip 0 rfl) rfl ?_
  refine a_callVi (as := []) (st := []) (pc := 1) (dk dt_X10_skip 1 rfl) cl_RX10_25 ⟨Nat.le_of_ble_eq_true rfl, Nat.le_of_ble_eq_true rfl⟩ ⟨Nat.le_of_ble_eq_true rfl, Nat.le_of_ble_eq_true rfl⟩ cls_10 rfl cc_2 rfl rfl rfl (Nat.le_of_ble_eq_true rfl) (Call.of rfl (Nat.le_of_ble_eq_true rfl) rfl ?_)
  refine a_aload_n (pc := 0) (dk dt_X10_isRight 0 rfl) rfl ?_
  refine a_geti (pc := 1) (dk dt_X10_isRight 1 rfl) cls_10 fl_RX10_15 cf_2_3 ?_
  refine a_iconst (pc := 4) (dk dt_X10_isRight 2 rfl) (ik rfl) ?_
  refine a_icmp_ne (pc := 5) (dk dt_X10_isRight 3 rfl) (tgt := 12) rfl ⟨fun c => ?_, fun c => ?_⟩
  · replace H := H.1 c
    refine a_iconst (pc := 12) (dk dt_X10_isRight 6 rfl) (ik rfl) ?_
    refine a_zret (pc := 13) (dk dt_X10_isRight 7 rfl) rfl rfl ⟨by decide, ?_⟩
    show ATW _ _ _ _ _ _ _ _ _ _
    refine a_if_eq (pc := 4) (dk dt_X10_skip 2 rfl) (tgt := 40) rfl ⟨fun _ => ?_, fun c => absurd c (by decide)⟩
    exact a_vret (pc := 40) (dk dt_X10_skip 20 rfl) rfl rfl H
  · replace H := H.2 c
    refine a_iconst (pc := 8) (dk dt_X10_isRight 4 rfl) (ik rfl) ?_
    refine a_goto (pc := 9) (dk dt_X10_isRight 5 rfl) (tgt := 13) rfl ?_
    refine a_zret (pc := 13) (dk dt_X10_isRight 7 rfl) rfl rfl ⟨by decide, ?_⟩
    show ATW _ _ _ _ _ _ _ _ _ _
    refine a_if_eq (pc := 4) (dk dt_X10_skip 2 rfl) (tgt := 40) rfl ⟨fun c => absurd c (by decide), fun _ => ?_⟩
    refine a_aload_n (pc := 7) (dk dt_X10_skip 3 rfl) rfl ?_
    refine a_aload_n (pc := 8) (dk dt_X10_skip 4 rfl) rfl ?_
    refine a_geti (pc := 9) (dk dt_X10_skip 5 rfl) cls_10 fl_RX10_22 cf_2_2 ?_
    refine a_callVi (as := [iv (h 2 2)]) (st := []) (pc := 12) (dk dt_X10_skip 6 rfl) cl_RX10_32 ⟨Nat.le_of_ble_eq_true rfl, Nat.le_of_ble_eq_true rfl⟩ ⟨Nat.le_of_ble_eq_true rfl, Nat.le_of_ble_eq_true rfl⟩ cls_10 rfl cc_2 rfl rfl rfl (Nat.le_of_ble_eq_true rfl) (Call.mono H fun r1 h2 H => ?_)
    refine a_iload_n (pc := 15) (dk dt_X10_skip 7 rfl) rfl ?_
    refine a_icmp_ne (pc := 16) (dk dt_X10_skip 8 rfl) (tgt := 32) rfl ⟨fun c => ?_, fun c => ?_⟩
    · replace H := H.1 c
      refine a_aload_n (pc := 32) (dk dt_X10_skip 16 rfl) rfl ?_
      refine a_aload_n (pc := 33) (dk dt_X10_skip 17 rfl) rfl ?_
      refine a_geti (pc := 34) (dk dt_X10_skip 18 rfl) cls_10 fl_RX10_22 cf_2_2 ?_
      refine a_puti (pc := 37) (dk dt_X10_skip 19 rfl) cls_10 fl_RX10_15 cf_2_3 rfl rfl ?_
      exact a_vret (pc := 40) (dk dt_X10_skip 20 rfl) rfl rfl H
    · replace H := H.2 c
      refine a_aload_n (pc := 19) (dk dt_X10_skip 9 rfl) rfl ?_
      refine a_dup (pc := 20) (dk dt_X10_skip 10 rfl) rfl ?_
      refine a_geti (pc := 21) (dk dt_X10_skip 11 rfl) cls_10 fl_RX10_22 cf_2_2 ?_
      refine a_iconst (pc := 24) (dk dt_X10_skip 12 rfl) (ik rfl) ?_
      refine a_iadd (pc := 25) (dk dt_X10_skip 13 rfl) ?_
      refine a_puti (pc := 26) (dk dt_X10_skip 14 rfl) cls_10 fl_RX10_22 cf_2_2 rfl rfl ?_
      refine a_goto (pc := 29) (dk dt_X10_skip 15 rfl) (tgt := 40) rfl ?_
      exact a_vret (pc := 40) (dk dt_X10_skip 20 rfl) rfl rfl H
set_option maxHeartbeats 40000000 in
theorem U_X10_fixed_2_0 {G : GG} {Φ : Int → Hp → Prop} {h : Hp} {x1 : Int} {x2 : Int} {x3 : Int} (H : AT G m_X10_fixed 12 [(0, rv 2), (1, iv x1), (2, iv x2), (3, iv x3), (4, iv (h 2 2)), (5, iv 0), (6, iv 0)] [] h Φ) : AT G m_X10_fixed 0 [(0, rv 2), (1, iv x1), (2, iv x2), (3, iv x3)] [] h Φ := by
  refine a_aload_n (pc := 0) (dk dt_X10_fixed 0 rfl) rfl ?_
  refine a_geti (pc := 1) (dk dt_X10_fixed 1 rfl) cls_10 fl_RX10_22 cf_2_2 ?_
  refine a_istore (pc := 4) (dk dt_X10_fixed 2 rfl) (by decide) rfl rfl ?_
  refine a_iconst (pc := 6) (dk dt_X10_fixed 3 rfl) (ik rfl) ?_
  refine a_istore (pc := 7) (dk dt_X10_fixed 4 rfl) (by decide) rfl rfl ?_
  refine a_iconst (pc := 9) (dk dt_X10_fixed 5 rfl) (ik rfl) ?_
  refine a_istore (pc := 10) (dk dt_X10_fixed 6 rfl) (by decide) rfl rfl ?_
  exact a_pick [0, 1, 2, 3, 4, 5, 6] rfl H
set_option maxHeartbeats 40000000 in
theorem U_X10_fixed_2_12 {G : GG} {Φ : Int → Hp → Prop} {h : Hp} {x1 : Int} {x2 : Int} {x3 : Int} {x4 : Int} {x5 : Int} {x6 : Int} (H : ((x1 ≤ x6 → Call G m_X10_inRange [rv 2, iv x5, iv x2, iv x3, iv x4] h (fun r1 h2 => Φ r1 h2)) ∧ (x6 < x1 → (((h 2 3) ≠ (-1) → Call G m_X10_inRange [rv 2, iv x5, iv x2, iv x3, iv x4] h (fun r3 h4 => Φ r3 h4)) ∧ ((h 2 3) = (-1) → Call G m_X10_byteAt [rv 2, iv (h 2 2)] h (fun r5 h6 => ((r5 < 48 → AT G m_X10_fixed 12 [(0, rv 2), (1, iv x1), (2, iv x2), (3, iv x3), (4, iv x4), (5, iv x5), (6, iv (w32 (x6 + 1)))] [] (up h6 2 3 (h6 2 2)) Φ) ∧ (48 ≤ r5 → ((57 < r5 → AT G m_X10_fixed 12 [(0, rv 2), (1, iv x1), (2, iv x2), (3, iv x3), (4, iv x4), (5, iv x5), (6, iv (w32 (x6 + 1)))] [] (up h6 2 3 (h6 2 2)) Φ) ∧ (r5 ≤ 57 → Call G m_X10_byteAt [rv 2, iv (h6 2 2)] h6 (fun r7 h8 => AT G m_X10_fixed 12 [(0, rv 2), (1, iv x1), (2, iv x2), (3, iv x3), (4, iv x4), (5, iv (w32 ((w32 ((w32 (x5 * 10)) + r7)) - 48))), (6, iv (w32 (x6 + 1)))] [] (up h8 2 2 (w32 ((h8 2 2) + 1))) Φ))))))))))) : AT G m_X10_fixed 12 [(0, rv 2), (1, iv x1), (2, iv x2), (3, iv x3), (4, iv x4), (5, iv x5), (6, iv x6)] [] h Φ := by
  refine a_iload (pc := 12) (dk dt_X10_fixed 7 rfl) rfl ?_
  refine a_iload_n (pc := 14) (dk dt_X10_fixed 8 rfl) rfl ?_
  refine a_icmp_ge (pc := 15) (dk dt_X10_fixed 9 rfl) (tgt := 85) rfl ⟨fun c => ?_, fun c => ?_⟩
  · replace H := H.1 c
    refine a_aload_n (pc := 85) (dk dt_X10_fixed 43 rfl) rfl ?_
    refine a_iload (pc := 86) (dk dt_X10_fixed 44 rfl) rfl ?_
    refine a_iload_n (pc := 88) (dk dt_X10_fixed 45 rfl) rfl ?_
    refine a_iload_n (pc := 89) (dk dt_X10_fixed 46 rfl) rfl ?_
    refine a_iload (pc := 90) (dk dt_X10_fixed 47 rfl) rfl ?_
    refine a_callVi (as := [iv x5, iv x2, iv x3, iv x4]) (st := []) (pc := 92) (dk dt_X10_fixed 48 rfl) cl_RX10_40 ⟨Nat.le_of_ble_eq_true rfl, Nat.le_of_ble_eq_true rfl⟩ ⟨Nat.le_of_ble_eq_true rfl, Nat.le_of_ble_eq_true rfl⟩ cls_10 rfl cc_2 rfl rfl rfl (Nat.le_of_ble_eq_true rfl) (Call.mono H fun r1 h2 H => ?_)
    exact a_iret (pc := 95) (dk dt_X10_fixed 49 rfl) rfl rfl H
  · replace H := H.2 c
    refine a_aload_n (pc := 18) (dk dt_X10_fixed 10 rfl) rfl ?_
    refine a_callVi (as := []) (st := []) (pc := 19) (dk dt_X10_fixed 11 rfl) cl_RX10_25 ⟨Nat.le_of_ble_eq_true rfl, Nat.le_of_ble_eq_true rfl⟩ ⟨Nat.le_of_ble_eq_true rfl, Nat.le_of_ble_eq_true rfl⟩ cls_10 rfl cc_2 rfl rfl rfl (Nat.le_of_ble_eq_true rfl) (Call.of rfl (Nat.le_of_ble_eq_true rfl) rfl ?_)
    refine a_aload_n (pc := 0) (dk dt_X10_isRight 0 rfl) rfl ?_
    refine a_geti (pc := 1) (dk dt_X10_isRight 1 rfl) cls_10 fl_RX10_15 cf_2_3 ?_
    refine a_iconst (pc := 4) (dk dt_X10_isRight 2 rfl) (ik rfl) ?_
    refine a_icmp_ne (pc := 5) (dk dt_X10_isRight 3 rfl) (tgt := 12) rfl ⟨fun c => ?_, fun c => ?_⟩
    · replace H := H.1 c
      refine a_iconst (pc := 12) (dk dt_X10_isRight 6 rfl) (ik rfl) ?_
      refine a_zret (pc := 13) (dk dt_X10_isRight 7 rfl) rfl rfl ⟨by decide, ?_⟩
      show ATW _ _ _ _ _ _ _ _ _ _
      refine a_if_eq (pc := 22) (dk dt_X10_fixed 12 rfl) (tgt := 85) rfl ⟨fun _ => ?_, fun c => absurd c (by decide)⟩
      refine a_aload_n (pc := 85) (dk dt_X10_fixed 43 rfl) rfl ?_
      refine a_iload (pc := 86) (dk dt_X10_fixed 44 rfl) rfl ?_
      refine a_iload_n (pc := 88) (dk dt_X10_fixed 45 rfl) rfl ?_
      refine a_iload_n (pc := 89) (dk dt_X10_fixed 46 rfl) rfl ?_
      refine a_iload (pc := 90) (dk dt_X10_fixed 47 rfl) rfl ?_
      refine a_callVi (as := [iv x5, iv x2, iv x3, iv x4]) (st := []) (pc := 92) (dk dt_X10_fixed 48 rfl) cl_RX10_40 ⟨Nat.le_of_ble_eq_true rfl, Nat.le_of_ble_eq_true rfl⟩ ⟨Nat.le_of_ble_eq_true rfl, Nat.le_of_ble_eq_true rfl⟩ cls_10 rfl cc_2 rfl rfl rfl (Nat.le_of_ble_eq_true rfl) (Call.mono H fun r3 h4 H => ?_)
      exact a_iret (pc := 95) (dk dt_X10_fixed 49 rfl) rfl rfl H
    · replace H := H.2 c
      refine a_iconst (pc := 8) (dk dt_X10_isRight 4 rfl) (ik rfl) ?_
      refine a_goto (pc := 9) (dk dt_X10_isRight 5 rfl) (tgt := 13) rfl ?_
      refine a_zret (pc := 13) (dk dt_X10_isRight 7 rfl) rfl rfl ⟨by decide, ?_⟩
      show ATW _ _ _ _ _ _ _ _ _ _
      refine a_if_eq (pc := 22) (dk dt_X10_fixed 12 rfl) (tgt := 85) rfl ⟨fun c => absurd c (by decide), fun _ => ?_⟩
      refine a_aload_n (pc := 25) (dk dt_X10_fixed 13 rfl) rfl ?_
      refine a_aload_n (pc := 26) (dk dt_X10_fixed 14 rfl) rfl ?_
      refine a_geti (pc := 27) (dk dt_X10_fixed 15 rfl) cls_10 fl_RX10_22 cf_2_2 ?_
      refine a_callVi (as := [iv (h 2 2)]) (st := []) (pc := 30) (dk dt_X10_fixed 16 rfl) cl_RX10_32 ⟨Nat.le_of_ble_eq_true rfl, Nat.le_of_ble_eq_true rfl⟩ ⟨Nat.le_of_ble_eq_true rfl, Nat.le_of_ble_eq_true rfl⟩ cls_10 rfl cc_2 rfl rfl rfl (Nat.le_of_ble_eq_true rfl) (Call.mono H fun r5 h6 H => ?_)
      refine a_callSi (as := [iv r5]) (st := []) (pc := 33) (dk dt_X10_fixed 17 rfl) cl_RX10_36 ⟨Nat.le_of_ble_eq_true rfl, Nat.le_of_ble_eq_true rfl⟩ ⟨Nat.le_of_ble_eq_true rfl, Nat.le_of_ble_eq_true rfl⟩ rfl rfl rfl (Nat.le_of_ble_eq_true rfl) (Call.of rfl (Nat.le_of_ble_eq_true rfl) rfl ?_)
      refine a_iload_n (pc := 0) (dk dt_X10_isDigit 0 rfl) rfl ?_
      refine a_bipush (pc := 1) (dk dt_X10_isDigit 1 rfl) (ik rfl) (bpk rfl) ?_
      refine a_icmp_lt (pc := 3) (dk dt_X10_isDigit 2 rfl) (tgt := 16) rfl ⟨fun c => ?_, fun c => ?_⟩
      · replace H := H.1 c
        refine a_iconst (pc := 16) (dk dt_X10_isDigit 8 rfl) (ik rfl) ?_
        refine a_zret (pc := 17) (dk dt_X10_isDigit 9 rfl) rfl rfl ⟨by decide, ?_⟩
        show ATW _ _ _ _ _ _ _ _ _ _
        refine a_if_eq (pc := 36) (dk dt_X10_fixed 18 rfl) (tgt := 71) rfl ⟨fun _ => ?_, fun c => absurd c (by decide)⟩
        refine a_aload_n (pc := 71) (dk dt_X10_fixed 37 rfl) rfl ?_
        refine a_aload_n (pc := 72) (dk dt_X10_fixed 38 rfl) rfl ?_
        refine a_geti (pc := 73) (dk dt_X10_fixed 39 rfl) cls_10 fl_RX10_22 cf_2_2 ?_
        refine a_puti (pc := 76) (dk dt_X10_fixed 40 rfl) cls_10 fl_RX10_15 cf_2_3 rfl rfl ?_
        refine a_iinc (pc := 79) (dk dt_X10_fixed 41 rfl) (by decide) rfl rfl rfl ?_
        refine a_goto (pc := 82) (dk dt_X10_fixed 42 rfl) (tgt := 12) rfl ?_
        exact a_pick [0, 1, 2, 3, 4, 5, 6] rfl H
      · replace H := H.2 c
        refine a_iload_n (pc := 6) (dk dt_X10_isDigit 3 rfl) rfl ?_
        refine a_bipush (pc := 7) (dk dt_X10_isDigit 4 rfl) (ik rfl) (bpk rfl) ?_
        refine a_icmp_gt (pc := 9) (dk dt_X10_isDigit 5 rfl) (tgt := 16) rfl ⟨fun c => ?_, fun c => ?_⟩
        · replace H := H.1 c
          refine a_iconst (pc := 16) (dk dt_X10_isDigit 8 rfl) (ik rfl) ?_
          refine a_zret (pc := 17) (dk dt_X10_isDigit 9 rfl) rfl rfl ⟨by decide, ?_⟩
          show ATW _ _ _ _ _ _ _ _ _ _
          refine a_if_eq (pc := 36) (dk dt_X10_fixed 18 rfl) (tgt := 71) rfl ⟨fun _ => ?_, fun c => absurd c (by decide)⟩
          refine a_aload_n (pc := 71) (dk dt_X10_fixed 37 rfl) rfl ?_
          refine a_aload_n (pc := 72) (dk dt_X10_fixed 38 rfl) rfl ?_
          refine a_geti (pc := 73) (dk dt_X10_fixed 39 rfl) cls_10 fl_RX10_22 cf_2_2 ?_
          refine a_puti (pc := 76) (dk dt_X10_fixed 40 rfl) cls_10 fl_RX10_15 cf_2_3 rfl rfl ?_
          refine a_iinc (pc := 79) (dk dt_X10_fixed 41 rfl) (by decide) rfl rfl rfl ?_
          refine a_goto (pc := 82) (dk dt_X10_fixed 42 rfl) (tgt := 12) rfl ?_
          exact a_pick [0, 1, 2, 3, 4, 5, 6] rfl H
        · replace H := H.2 c
          refine a_iconst (pc := 12) (dk dt_X10_isDigit 6 rfl) (ik rfl) ?_
          refine a_goto (pc := 13) (dk dt_X10_isDigit 7 rfl) (tgt := 17) rfl ?_
          refine a_zret (pc := 17) (dk dt_X10_isDigit 9 rfl) rfl rfl ⟨by decide, ?_⟩
          show ATW _ _ _ _ _ _ _ _ _ _
          refine a_if_eq (pc := 36) (dk dt_X10_fixed 18 rfl) (tgt := 71) rfl ⟨fun c => absurd c (by decide), fun _ => ?_⟩
          refine a_iload (pc := 39) (dk dt_X10_fixed 19 rfl) rfl ?_
          refine a_bipush (pc := 41) (dk dt_X10_fixed 20 rfl) (ik rfl) (bpk rfl) ?_
          refine a_imul (pc := 43) (dk dt_X10_fixed 21 rfl) ?_
          refine a_aload_n (pc := 44) (dk dt_X10_fixed 22 rfl) rfl ?_
          refine a_aload_n (pc := 45) (dk dt_X10_fixed 23 rfl) rfl ?_
          refine a_geti (pc := 46) (dk dt_X10_fixed 24 rfl) cls_10 fl_RX10_22 cf_2_2 ?_
          refine a_callVi (as := [iv (h6 2 2)]) (st := [iv (w32 (x5 * 10))]) (pc := 49) (dk dt_X10_fixed 25 rfl) cl_RX10_32 ⟨Nat.le_of_ble_eq_true rfl, Nat.le_of_ble_eq_true rfl⟩ ⟨Nat.le_of_ble_eq_true rfl, Nat.le_of_ble_eq_true rfl⟩ cls_10 rfl cc_2 rfl rfl rfl (Nat.le_of_ble_eq_true rfl) (Call.mono H fun r7 h8 H => ?_)
          refine a_iadd (pc := 52) (dk dt_X10_fixed 26 rfl) ?_
          refine a_bipush (pc := 53) (dk dt_X10_fixed 27 rfl) (ik rfl) (bpk rfl) ?_
          refine a_isub (pc := 55) (dk dt_X10_fixed 28 rfl) ?_
          refine a_istore (pc := 56) (dk dt_X10_fixed 29 rfl) (by decide) rfl rfl ?_
          refine a_aload_n (pc := 58) (dk dt_X10_fixed 30 rfl) rfl ?_
          refine a_dup (pc := 59) (dk dt_X10_fixed 31 rfl) rfl ?_
          refine a_geti (pc := 60) (dk dt_X10_fixed 32 rfl) cls_10 fl_RX10_22 cf_2_2 ?_
          refine a_iconst (pc := 63) (dk dt_X10_fixed 33 rfl) (ik rfl) ?_
          refine a_iadd (pc := 64) (dk dt_X10_fixed 34 rfl) ?_
          refine a_puti (pc := 65) (dk dt_X10_fixed 35 rfl) cls_10 fl_RX10_22 cf_2_2 rfl rfl ?_
          refine a_goto (pc := 68) (dk dt_X10_fixed 36 rfl) (tgt := 79) rfl ?_
          refine a_iinc (pc := 79) (dk dt_X10_fixed 41 rfl) (by decide) rfl rfl rfl ?_
          refine a_goto (pc := 82) (dk dt_X10_fixed 42 rfl) (tgt := 12) rfl ?_
          exact a_pick [0, 1, 2, 3, 4, 5, 6] rfl H
set_option maxHeartbeats 40000000 in
theorem U_X10_told_2_0 {G : GG} {Φ : Int → Hp → Prop} {h : Hp} {x1 : Int} {x2 : Int} (H : (((h 2 3) ≠ (-1) → Φ x1 h) ∧ ((h 2 3) = (-1) → Call G m_X10_wordEnd [rv 2] h (fun r1 h2 => AT G m_X10_told 17 [(0, rv 2), (1, iv x1), (2, iv x2), (3, iv r1), (4, iv x1)] [] h2 Φ)))) : AT G m_X10_told 0 [(0, rv 2), (1, iv x1), (2, iv x2)] [] h Φ := by
  refine a_aload_n (pc := 0) (dk dt_X10_told 0 rfl) rfl ?_
  refine a_callVi (as := []) (st := []) (pc := 1) (dk dt_X10_told 1 rfl) cl_RX10_25 ⟨Nat.le_of_ble_eq_true rfl, Nat.le_of_ble_eq_true rfl⟩ ⟨Nat.le_of_ble_eq_true rfl, Nat.le_of_ble_eq_true rfl⟩ cls_10 rfl cc_2 rfl rfl rfl (Nat.le_of_ble_eq_true rfl) (Call.of rfl (Nat.le_of_ble_eq_true rfl) rfl ?_)
  refine a_aload_n (pc := 0) (dk dt_X10_isRight 0 rfl) rfl ?_
  refine a_geti (pc := 1) (dk dt_X10_isRight 1 rfl) cls_10 fl_RX10_15 cf_2_3 ?_
  refine a_iconst (pc := 4) (dk dt_X10_isRight 2 rfl) (ik rfl) ?_
  refine a_icmp_ne (pc := 5) (dk dt_X10_isRight 3 rfl) (tgt := 12) rfl ⟨fun c => ?_, fun c => ?_⟩
  · replace H := H.1 c
    refine a_iconst (pc := 12) (dk dt_X10_isRight 6 rfl) (ik rfl) ?_
    refine a_zret (pc := 13) (dk dt_X10_isRight 7 rfl) rfl rfl ⟨by decide, ?_⟩
    show ATW _ _ _ _ _ _ _ _ _ _
    refine a_if_ne (pc := 4) (dk dt_X10_told 2 rfl) (tgt := 9) rfl ⟨fun c => absurd c (by decide), fun _ => ?_⟩
    refine a_iload_n (pc := 7) (dk dt_X10_told 3 rfl) rfl ?_
    exact a_iret (pc := 8) (dk dt_X10_told 4 rfl) rfl rfl H
  · replace H := H.2 c
    refine a_iconst (pc := 8) (dk dt_X10_isRight 4 rfl) (ik rfl) ?_
    refine a_goto (pc := 9) (dk dt_X10_isRight 5 rfl) (tgt := 13) rfl ?_
    refine a_zret (pc := 13) (dk dt_X10_isRight 7 rfl) rfl rfl ⟨by decide, ?_⟩
    show ATW _ _ _ _ _ _ _ _ _ _
    refine a_if_ne (pc := 4) (dk dt_X10_told 2 rfl) (tgt := 9) rfl ⟨fun _ => ?_, fun c => absurd c (by decide)⟩
    refine a_aload_n (pc := 9) (dk dt_X10_told 5 rfl) rfl ?_
    refine a_callVi (as := []) (st := []) (pc := 10) (dk dt_X10_told 6 rfl) cl_RX10_52 ⟨Nat.le_of_ble_eq_true rfl, Nat.le_of_ble_eq_true rfl⟩ ⟨Nat.le_of_ble_eq_true rfl, Nat.le_of_ble_eq_true rfl⟩ cls_10 rfl cc_2 rfl rfl rfl (Nat.le_of_ble_eq_true rfl) (Call.mono H fun r1 h2 H => ?_)
    refine a_istore_n (pc := 13) (dk dt_X10_told 7 rfl) (by decide) rfl rfl ?_
    refine a_iload_n (pc := 14) (dk dt_X10_told 8 rfl) rfl ?_
    refine a_istore (pc := 15) (dk dt_X10_told 9 rfl) (by decide) rfl rfl ?_
    exact a_pick [0, 1, 2, 3, 4] rfl H
set_option maxHeartbeats 40000000 in
theorem U_X10_told_2_17 {G : GG} {Φ : Int → Hp → Prop} {h : Hp} {x1 : Int} {x2 : Int} {x3 : Int} {x4 : Int} (H : ((x2 < x4 → Φ x1 (up h 2 3 (h 2 2))) ∧ (x4 ≤ x2 → Call G m_X3_text [iv x4] h (fun r1 h2 => Call G m_X10_reads [rv 2, rv (r1.toNat), iv x3] h2 (fun r3 h4 => ((r3 = 0 → AT G m_X10_told 17 [(0, rv 2), (1, iv x1), (2, iv x2), (3, iv x3), (4, iv (w32 (x4 + 1)))] [] h4 Φ) ∧ (r3 ≠ 0 → Φ x4 (up h4 2 2 x3)))))))) : AT G m_X10_told 17 [(0, rv 2), (1, iv x1), (2, iv x2), (3, iv x3), (4, iv x4)] [] h Φ := by
  refine a_iload (pc := 17) (dk dt_X10_told 10 rfl) rfl ?_
  refine a_iload_n (pc := 19) (dk dt_X10_told 11 rfl) rfl ?_
  refine a_icmp_gt (pc := 20) (dk dt_X10_told 12 rfl) (tgt := 50) rfl ⟨fun c => ?_, fun c => ?_⟩
  · replace H := H.1 c
    refine a_aload_n (pc := 50) (dk dt_X10_told 26 rfl) rfl ?_
    refine a_aload_n (pc := 51) (dk dt_X10_told 27 rfl) rfl ?_
    refine a_geti (pc := 52) (dk dt_X10_told 28 rfl) cls_10 fl_RX10_22 cf_2_2 ?_
    refine a_puti (pc := 55) (dk dt_X10_told 29 rfl) cls_10 fl_RX10_15 cf_2_3 rfl rfl ?_
    refine a_iload_n (pc := 58) (dk dt_X10_told 30 rfl) rfl ?_
    exact a_iret (pc := 59) (dk dt_X10_told 31 rfl) rfl rfl H
  · replace H := H.2 c
    refine a_aload_n (pc := 23) (dk dt_X10_told 13 rfl) rfl ?_
    refine a_iload (pc := 24) (dk dt_X10_told 14 rfl) rfl ?_
    refine a_callSr (as := [iv x4]) (st := [rv 2]) (pc := 26) (dk dt_X10_told 15 rfl) cl_RX10_55 ⟨Nat.le_of_ble_eq_true rfl, Nat.le_of_ble_eq_true rfl⟩ ⟨Nat.le_of_ble_eq_true rfl, Nat.le_of_ble_eq_true rfl⟩ rfl rfl rfl (Nat.le_of_ble_eq_true rfl) (Call.mono H fun r1 h2 H => ?_)
    refine a_iload_n (pc := 29) (dk dt_X10_told 16 rfl) rfl ?_
    refine a_callVi (as := [rv (r1.toNat), iv x3]) (st := []) (pc := 30) (dk dt_X10_told 17 rfl) cl_RX10_61 ⟨Nat.le_of_ble_eq_true rfl, Nat.le_of_ble_eq_true rfl⟩ ⟨Nat.le_of_ble_eq_true rfl, Nat.le_of_ble_eq_true rfl⟩ cls_10 rfl cc_2 rfl rfl rfl (Nat.le_of_ble_eq_true rfl) (Call.mono H fun r3 h4 H => ?_)
    refine a_if_eq (pc := 33) (dk dt_X10_told 18 rfl) (tgt := 44) rfl ⟨fun c => ?_, fun c => ?_⟩
    · replace H := H.1 c
      refine a_iinc (pc := 44) (dk dt_X10_told 24 rfl) (by decide) rfl rfl rfl ?_
      refine a_goto (pc := 47) (dk dt_X10_told 25 rfl) (tgt := 17) rfl ?_
      exact a_pick [0, 1, 2, 3, 4] rfl H
    · replace H := H.2 c
      refine a_aload_n (pc := 36) (dk dt_X10_told 19 rfl) rfl ?_
      refine a_iload_n (pc := 37) (dk dt_X10_told 20 rfl) rfl ?_
      refine a_puti (pc := 38) (dk dt_X10_told 21 rfl) cls_10 fl_RX10_22 cf_2_2 rfl rfl ?_
      refine a_iload (pc := 41) (dk dt_X10_told 22 rfl) rfl ?_
      exact a_iret (pc := 43) (dk dt_X10_told 23 rfl) rfl rfl H
set_option maxHeartbeats 40000000 in
theorem U_X10_number_2_0 {G : GG} {Φ : Int → Hp → Prop} {h : Hp} {x1 : Int} {x2 : Int} (H : Call G m_X10_digits [rv 2] h (fun r1 h2 => Call G m_X10_inRange [rv 2, iv r1, iv x1, iv x2, iv (h 2 2)] h2 (fun r3 h4 => Φ r3 h4))) : AT G m_X10_number 0 [(0, rv 2), (1, iv x1), (2, iv x2)] [] h Φ := by
  refine a_aload_n (pc := 0) (dk dt_X10_number 0 rfl) rfl ?_
  refine a_geti (pc := 1) (dk dt_X10_number 1 rfl) cls_10 fl_RX10_22 cf_2_2 ?_
  refine a_istore_n (pc := 4) (dk dt_X10_number 2 rfl) (by decide) rfl rfl ?_
  refine a_aload_n (pc := 5) (dk dt_X10_number 3 rfl) rfl ?_
  refine a_aload_n (pc := 6) (dk dt_X10_number 4 rfl) rfl ?_
  refine a_callVi (as := []) (st := [rv 2]) (pc := 7) (dk dt_X10_number 5 rfl) cl_RX10_44 ⟨Nat.le_of_ble_eq_true rfl, Nat.le_of_ble_eq_true rfl⟩ ⟨Nat.le_of_ble_eq_true rfl, Nat.le_of_ble_eq_true rfl⟩ cls_10 rfl cc_2 rfl rfl rfl (Nat.le_of_ble_eq_true rfl) (Call.mono H fun r1 h2 H => ?_)
  refine a_iload_n (pc := 10) (dk dt_X10_number 6 rfl) rfl ?_
  refine a_iload_n (pc := 11) (dk dt_X10_number 7 rfl) rfl ?_
  refine a_iload_n (pc := 12) (dk dt_X10_number 8 rfl) rfl ?_
  refine a_callVi (as := [iv r1, iv x1, iv x2, iv (h 2 2)]) (st := []) (pc := 13) (dk dt_X10_number 9 rfl) cl_RX10_40 ⟨Nat.le_of_ble_eq_true rfl, Nat.le_of_ble_eq_true rfl⟩ ⟨Nat.le_of_ble_eq_true rfl, Nat.le_of_ble_eq_true rfl⟩ cls_10 rfl cc_2 rfl rfl rfl (Nat.le_of_ble_eq_true rfl) (Call.mono H fun r3 h4 H => ?_)
  exact a_iret (pc := 16) (dk dt_X10_number 10 rfl) rfl rfl H
set_option maxHeartbeats 40000000 in
theorem U_X10_byteAt_2_0 {G : GG} {Φ : Int → Hp → Prop} {h : Hp} {x1 : Int} (H : ((x1 < 0 → Φ (-1) h) ∧ (0 ≤ x1 → (((h 2 1) ≤ x1 → Φ (-1) h) ∧ (x1 < (h 2 1) → (0 ≤ x1 ∧ x1 < 1600) ∧ Φ (h 3 x1) h))))) : AT G m_X10_byteAt 0 [(0, rv 2), (1, iv x1)] [] h Φ := by
  refine a_iload_n (pc := 0) (dk dt_X10_byteAt 0 rfl) rfl ?_
  refine a_if_lt (pc := 1) (dk dt_X10_byteAt 1 rfl) (tgt := 21) rfl ⟨fun c => ?_, fun c => ?_⟩
  · replace H := H.1 c
    refine a_iconst (pc := 21) (dk dt_X10_byteAt 11 rfl) (ik rfl) ?_
    exact a_iret (pc := 22) (dk dt_X10_byteAt 12 rfl) rfl rfl H
  · replace H := H.2 c
    refine a_iload_n (pc := 4) (dk dt_X10_byteAt 2 rfl) rfl ?_
    refine a_aload_n (pc := 5) (dk dt_X10_byteAt 3 rfl) rfl ?_
    refine a_geti (pc := 6) (dk dt_X10_byteAt 4 rfl) cls_10 fl_RX10_19 cf_2_1 ?_
    refine a_icmp_ge (pc := 9) (dk dt_X10_byteAt 5 rfl) (tgt := 21) rfl ⟨fun c => ?_, fun c => ?_⟩
    · replace H := H.1 c
      refine a_iconst (pc := 21) (dk dt_X10_byteAt 11 rfl) (ik rfl) ?_
      exact a_iret (pc := 22) (dk dt_X10_byteAt 12 rfl) rfl rfl H
    · replace H := H.2 c
      refine a_aload_n (pc := 12) (dk dt_X10_byteAt 6 rfl) rfl ?_
      refine a_getr (r := 2) (pc := 13) (dk dt_X10_byteAt 7 rfl) cls_10 fl_RX10_11 cf_2_0 ?_
      refine a_iload_n (pc := 16) (dk dt_X10_byteAt 8 rfl) rfl ?_
      refine a_iald (pc := 17) (dk dt_X10_byteAt 9 rfl) ar_3 ⟨H.1, ?_⟩
      replace H := H.2
      refine a_goto (pc := 18) (dk dt_X10_byteAt 10 rfl) (tgt := 22) rfl ?_
      exact a_iret (pc := 22) (dk dt_X10_byteAt 12 rfl) rfl rfl H
set_option maxHeartbeats 40000000 in
theorem U_X10_inRange_2_0 {G : GG} {Φ : Int → Hp → Prop} {h : Hp} {x1 : Int} {x2 : Int} {x3 : Int} {x4 : Int} (H : (((h 2 3) ≠ (-1) → (((h 2 3) ≠ (-1) → Φ x2 h) ∧ ((h 2 3) = (-1) → Φ x1 h))) ∧ ((h 2 3) = (-1) → ((x1 < x2 → ((x4 ≠ (-1) → Φ x2 (up h 2 3 x4)) ∧ (x4 = (-1) → Φ x1 (up h 2 3 x4)))) ∧ (x2 ≤ x1 → ((x3 < x1 → ((x4 ≠ (-1) → Φ x2 (up h 2 3 x4)) ∧ (x4 = (-1) → Φ x1 (up h 2 3 x4)))) ∧ (x1 ≤ x3 → (((h 2 3) ≠ (-1) → Φ x2 h) ∧ ((h 2 3) = (-1) → Φ x1 h))))))))) : AT G m_X10_inRange 0 [(0, rv 2), (1, iv x1), (2, iv x2), (3, iv x3), (4, iv x4)] [] h Φ := by
  refine a_aload_n (pc := 0) (dk dt_X10_inRange 0 rfl) rfl ?_
  refine a_callVi (as := []) (st := []) (pc := 1) (dk dt_X10_inRange 1 rfl) cl_RX10_25 ⟨Nat.le_of_ble_eq_true rfl, Nat.le_of_ble_eq_true rfl⟩ ⟨Nat.le_of_ble_eq_true rfl, Nat.le_of_ble_eq_true rfl⟩ cls_10 rfl cc_2 rfl rfl rfl (Nat.le_of_ble_eq_true rfl) (Call.of rfl (Nat.le_of_ble_eq_true rfl) rfl ?_)
  refine a_aload_n (pc := 0) (dk dt_X10_isRight 0 rfl) rfl ?_
  refine a_geti (pc := 1) (dk dt_X10_isRight 1 rfl) cls_10 fl_RX10_15 cf_2_3 ?_
  refine a_iconst (pc := 4) (dk dt_X10_isRight 2 rfl) (ik rfl) ?_
  refine a_icmp_ne (pc := 5) (dk dt_X10_isRight 3 rfl) (tgt := 12) rfl ⟨fun c => ?_, fun c => ?_⟩
  · replace H := H.1 c
    refine a_iconst (pc := 12) (dk dt_X10_isRight 6 rfl) (ik rfl) ?_
    refine a_zret (pc := 13) (dk dt_X10_isRight 7 rfl) rfl rfl ⟨by decide, ?_⟩
    show ATW _ _ _ _ _ _ _ _ _ _
    refine a_if_eq (pc := 4) (dk dt_X10_inRange 2 rfl) (tgt := 22) rfl ⟨fun _ => ?_, fun c => absurd c (by decide)⟩
    refine a_aload_n (pc := 22) (dk dt_X10_inRange 11 rfl) rfl ?_
    refine a_callVi (as := []) (st := []) (pc := 23) (dk dt_X10_inRange 12 rfl) cl_RX10_25 ⟨Nat.le_of_ble_eq_true rfl, Nat.le_of_ble_eq_true rfl⟩ ⟨Nat.le_of_ble_eq_true rfl, Nat.le_of_ble_eq_true rfl⟩ cls_10 rfl cc_2 rfl rfl rfl (Nat.le_of_ble_eq_true rfl) (Call.of rfl (Nat.le_of_ble_eq_true rfl) rfl ?_)
    refine a_aload_n (pc := 0) (dk dt_X10_isRight 0 rfl) rfl ?_
    refine a_geti (pc := 1) (dk dt_X10_isRight 1 rfl) cls_10 fl_RX10_15 cf_2_3 ?_
    refine a_iconst (pc := 4) (dk dt_X10_isRight 2 rfl) (ik rfl) ?_
    refine a_icmp_ne (pc := 5) (dk dt_X10_isRight 3 rfl) (tgt := 12) rfl ⟨fun c => ?_, fun c => ?_⟩
    · replace H := H.1 c
      refine a_iconst (pc := 12) (dk dt_X10_isRight 6 rfl) (ik rfl) ?_
      refine a_zret (pc := 13) (dk dt_X10_isRight 7 rfl) rfl rfl ⟨by decide, ?_⟩
      show ATW _ _ _ _ _ _ _ _ _ _
      refine a_if_eq (pc := 26) (dk dt_X10_inRange 13 rfl) (tgt := 33) rfl ⟨fun _ => ?_, fun c => absurd c (by decide)⟩
      refine a_iload_n (pc := 33) (dk dt_X10_inRange 16 rfl) rfl ?_
      exact a_iret (pc := 34) (dk dt_X10_inRange 17 rfl) rfl rfl H
    · replace H := H.2 c
      refine a_iconst (pc := 8) (dk dt_X10_isRight 4 rfl) (ik rfl) ?_
      refine a_goto (pc := 9) (dk dt_X10_isRight 5 rfl) (tgt := 13) rfl ?_
      refine a_zret (pc := 13) (dk dt_X10_isRight 7 rfl) rfl rfl ⟨by decide, ?_⟩
      show ATW _ _ _ _ _ _ _ _ _ _
      refine a_if_eq (pc := 26) (dk dt_X10_inRange 13 rfl) (tgt := 33) rfl ⟨fun c => absurd c (by decide), fun _ => ?_⟩
      refine a_iload_n (pc := 29) (dk dt_X10_inRange 14 rfl) rfl ?_
      refine a_goto (pc := 30) (dk dt_X10_inRange 15 rfl) (tgt := 34) rfl ?_
      exact a_iret (pc := 34) (dk dt_X10_inRange 17 rfl) rfl rfl H
  · replace H := H.2 c
    refine a_iconst (pc := 8) (dk dt_X10_isRight 4 rfl) (ik rfl) ?_
    refine a_goto (pc := 9) (dk dt_X10_isRight 5 rfl) (tgt := 13) rfl ?_
    refine a_zret (pc := 13) (dk dt_X10_isRight 7 rfl) rfl rfl ⟨by decide, ?_⟩
    show ATW _ _ _ _ _ _ _ _ _ _
    refine a_if_eq (pc := 4) (dk dt_X10_inRange 2 rfl) (tgt := 22) rfl ⟨fun c => absurd c (by decide), fun _ => ?_⟩
    refine a_iload_n (pc := 7) (dk dt_X10_inRange 3 rfl) rfl ?_
    refine a_iload_n (pc := 8) (dk dt_X10_inRange 4 rfl) rfl ?_
    refine a_iload_n (pc := 9) (dk dt_X10_inRange 5 rfl) rfl ?_
    refine a_callNi (as := [iv x1, iv x2, iv x3]) (st := []) (pc := 10) (dk dt_X10_inRange 6 rfl) cl_RX10_48 ⟨Nat.le_of_ble_eq_true rfl, Nat.le_of_ble_eq_true rfl⟩ ⟨Nat.le_of_ble_eq_true rfl, Nat.le_of_ble_eq_true rfl⟩ rfl rfl rfl (Nat.le_of_ble_eq_true rfl) (Call.of rfl (Nat.le_of_ble_eq_true rfl) rfl ?_)
    refine a_iload_n (pc := 0) (dk dt_X11_within 0 rfl) rfl ?_
    refine a_iload_n (pc := 1) (dk dt_X11_within 1 rfl) rfl ?_
    refine a_icmp_lt (pc := 2) (dk dt_X11_within 2 rfl) (tgt := 14) rfl ⟨fun c => ?_, fun c => ?_⟩
    · replace H := H.1 c
      refine a_iconst (pc := 14) (dk dt_X11_within 8 rfl) (ik rfl) ?_
      refine a_zret (pc := 15) (dk dt_X11_within 9 rfl) rfl rfl ⟨by decide, ?_⟩
      show ATW _ _ _ _ _ _ _ _ _ _
      refine a_if_ne (pc := 13) (dk dt_X10_inRange 7 rfl) (tgt := 22) rfl ⟨fun c => absurd c (by decide), fun _ => ?_⟩
      refine a_aload_n (pc := 16) (dk dt_X10_inRange 8 rfl) rfl ?_
      refine a_iload (pc := 17) (dk dt_X10_inRange 9 rfl) rfl ?_
      refine a_puti (pc := 19) (dk dt_X10_inRange 10 rfl) cls_10 fl_RX10_15 cf_2_3 rfl rfl ?_
      refine a_aload_n (pc := 22) (dk dt_X10_inRange 11 rfl) rfl ?_
      refine a_callVi (as := []) (st := []) (pc := 23) (dk dt_X10_inRange 12 rfl) cl_RX10_25 ⟨Nat.le_of_ble_eq_true rfl, Nat.le_of_ble_eq_true rfl⟩ ⟨Nat.le_of_ble_eq_true rfl, Nat.le_of_ble_eq_true rfl⟩ cls_10 rfl cc_2 rfl rfl rfl (Nat.le_of_ble_eq_true rfl) (Call.of rfl (Nat.le_of_ble_eq_true rfl) rfl ?_)
      refine a_aload_n (pc := 0) (dk dt_X10_isRight 0 rfl) rfl ?_
      refine a_geti (pc := 1) (dk dt_X10_isRight 1 rfl) cls_10 fl_RX10_15 cf_2_3 ?_
      refine a_top (y := x4) (by simp [up, cpy]) ?_
      refine a_iconst (pc := 4) (dk dt_X10_isRight 2 rfl) (ik rfl) ?_
      refine a_icmp_ne (pc := 5) (dk dt_X10_isRight 3 rfl) (tgt := 12) rfl ⟨fun c => ?_, fun c => ?_⟩
      · replace H := H.1 c
        refine a_iconst (pc := 12) (dk dt_X10_isRight 6 rfl) (ik rfl) ?_
        refine a_zret (pc := 13) (dk dt_X10_isRight 7 rfl) rfl rfl ⟨by decide, ?_⟩
        show ATW _ _ _ _ _ _ _ _ _ _
        refine a_if_eq (pc := 26) (dk dt_X10_inRange 13 rfl) (tgt := 33) rfl ⟨fun _ => ?_, fun c => absurd c (by decide)⟩
        refine a_iload_n (pc := 33) (dk dt_X10_inRange 16 rfl) rfl ?_
        exact a_iret (pc := 34) (dk dt_X10_inRange 17 rfl) rfl rfl H
      · replace H := H.2 c
        refine a_iconst (pc := 8) (dk dt_X10_isRight 4 rfl) (ik rfl) ?_
        refine a_goto (pc := 9) (dk dt_X10_isRight 5 rfl) (tgt := 13) rfl ?_
        refine a_zret (pc := 13) (dk dt_X10_isRight 7 rfl) rfl rfl ⟨by decide, ?_⟩
        show ATW _ _ _ _ _ _ _ _ _ _
        refine a_if_eq (pc := 26) (dk dt_X10_inRange 13 rfl) (tgt := 33) rfl ⟨fun c => absurd c (by decide), fun _ => ?_⟩
        refine a_iload_n (pc := 29) (dk dt_X10_inRange 14 rfl) rfl ?_
        refine a_goto (pc := 30) (dk dt_X10_inRange 15 rfl) (tgt := 34) rfl ?_
        exact a_iret (pc := 34) (dk dt_X10_inRange 17 rfl) rfl rfl H
    · replace H := H.2 c
      refine a_iload_n (pc := 5) (dk dt_X11_within 3 rfl) rfl ?_
      refine a_iload_n (pc := 6) (dk dt_X11_within 4 rfl) rfl ?_
      refine a_icmp_gt (pc := 7) (dk dt_X11_within 5 rfl) (tgt := 14) rfl ⟨fun c => ?_, fun c => ?_⟩
      · replace H := H.1 c
        refine a_iconst (pc := 14) (dk dt_X11_within 8 rfl) (ik rfl) ?_
        refine a_zret (pc := 15) (dk dt_X11_within 9 rfl) rfl rfl ⟨by decide, ?_⟩
        show ATW _ _ _ _ _ _ _ _ _ _
        refine a_if_ne (pc := 13) (dk dt_X10_inRange 7 rfl) (tgt := 22) rfl ⟨fun c => absurd c (by decide), fun _ => ?_⟩
        refine a_aload_n (pc := 16) (dk dt_X10_inRange 8 rfl) rfl ?_
        refine a_iload (pc := 17) (dk dt_X10_inRange 9 rfl) rfl ?_
        refine a_puti (pc := 19) (dk dt_X10_inRange 10 rfl) cls_10 fl_RX10_15 cf_2_3 rfl rfl ?_
        refine a_aload_n (pc := 22) (dk dt_X10_inRange 11 rfl) rfl ?_
        refine a_callVi (as := []) (st := []) (pc := 23) (dk dt_X10_inRange 12 rfl) cl_RX10_25 ⟨Nat.le_of_ble_eq_true rfl, Nat.le_of_ble_eq_true rfl⟩ ⟨Nat.le_of_ble_eq_true rfl, Nat.le_of_ble_eq_true rfl⟩ cls_10 rfl cc_2 rfl rfl rfl (Nat.le_of_ble_eq_true rfl) (Call.of rfl (Nat.le_of_ble_eq_true rfl) rfl ?_)
        refine a_aload_n (pc := 0) (dk dt_X10_isRight 0 rfl) rfl ?_
        refine a_geti (pc := 1) (dk dt_X10_isRight 1 rfl) cls_10 fl_RX10_15 cf_2_3 ?_
        refine a_top (y := x4) (by simp [up, cpy]) ?_
        refine a_iconst (pc := 4) (dk dt_X10_isRight 2 rfl) (ik rfl) ?_
        refine a_icmp_ne (pc := 5) (dk dt_X10_isRight 3 rfl) (tgt := 12) rfl ⟨fun c => ?_, fun c => ?_⟩
        · replace H := H.1 c
          refine a_iconst (pc := 12) (dk dt_X10_isRight 6 rfl) (ik rfl) ?_
          refine a_zret (pc := 13) (dk dt_X10_isRight 7 rfl) rfl rfl ⟨by decide, ?_⟩
          show ATW _ _ _ _ _ _ _ _ _ _
          refine a_if_eq (pc := 26) (dk dt_X10_inRange 13 rfl) (tgt := 33) rfl ⟨fun _ => ?_, fun c => absurd c (by decide)⟩
          refine a_iload_n (pc := 33) (dk dt_X10_inRange 16 rfl) rfl ?_
          exact a_iret (pc := 34) (dk dt_X10_inRange 17 rfl) rfl rfl H
        · replace H := H.2 c
          refine a_iconst (pc := 8) (dk dt_X10_isRight 4 rfl) (ik rfl) ?_
          refine a_goto (pc := 9) (dk dt_X10_isRight 5 rfl) (tgt := 13) rfl ?_
          refine a_zret (pc := 13) (dk dt_X10_isRight 7 rfl) rfl rfl ⟨by decide, ?_⟩
          show ATW _ _ _ _ _ _ _ _ _ _
          refine a_if_eq (pc := 26) (dk dt_X10_inRange 13 rfl) (tgt := 33) rfl ⟨fun c => absurd c (by decide), fun _ => ?_⟩
          refine a_iload_n (pc := 29) (dk dt_X10_inRange 14 rfl) rfl ?_
          refine a_goto (pc := 30) (dk dt_X10_inRange 15 rfl) (tgt := 34) rfl ?_
          exact a_iret (pc := 34) (dk dt_X10_inRange 17 rfl) rfl rfl H
      · replace H := H.2 c
        refine a_iconst (pc := 10) (dk dt_X11_within 6 rfl) (ik rfl) ?_
        refine a_goto (pc := 11) (dk dt_X11_within 7 rfl) (tgt := 15) rfl ?_
        refine a_zret (pc := 15) (dk dt_X11_within 9 rfl) rfl rfl ⟨by decide, ?_⟩
        show ATW _ _ _ _ _ _ _ _ _ _
        refine a_if_ne (pc := 13) (dk dt_X10_inRange 7 rfl) (tgt := 22) rfl ⟨fun _ => ?_, fun c => absurd c (by decide)⟩
        refine a_aload_n (pc := 22) (dk dt_X10_inRange 11 rfl) rfl ?_
        refine a_callVi (as := []) (st := []) (pc := 23) (dk dt_X10_inRange 12 rfl) cl_RX10_25 ⟨Nat.le_of_ble_eq_true rfl, Nat.le_of_ble_eq_true rfl⟩ ⟨Nat.le_of_ble_eq_true rfl, Nat.le_of_ble_eq_true rfl⟩ cls_10 rfl cc_2 rfl rfl rfl (Nat.le_of_ble_eq_true rfl) (Call.of rfl (Nat.le_of_ble_eq_true rfl) rfl ?_)
        refine a_aload_n (pc := 0) (dk dt_X10_isRight 0 rfl) rfl ?_
        refine a_geti (pc := 1) (dk dt_X10_isRight 1 rfl) cls_10 fl_RX10_15 cf_2_3 ?_
        refine a_iconst (pc := 4) (dk dt_X10_isRight 2 rfl) (ik rfl) ?_
        refine a_icmp_ne (pc := 5) (dk dt_X10_isRight 3 rfl) (tgt := 12) rfl ⟨fun c => ?_, fun c => ?_⟩
        · replace H := H.1 c
          refine a_iconst (pc := 12) (dk dt_X10_isRight 6 rfl) (ik rfl) ?_
          refine a_zret (pc := 13) (dk dt_X10_isRight 7 rfl) rfl rfl ⟨by decide, ?_⟩
          show ATW _ _ _ _ _ _ _ _ _ _
          refine a_if_eq (pc := 26) (dk dt_X10_inRange 13 rfl) (tgt := 33) rfl ⟨fun _ => ?_, fun c => absurd c (by decide)⟩
          refine a_iload_n (pc := 33) (dk dt_X10_inRange 16 rfl) rfl ?_
          exact a_iret (pc := 34) (dk dt_X10_inRange 17 rfl) rfl rfl H
        · replace H := H.2 c
          refine a_iconst (pc := 8) (dk dt_X10_isRight 4 rfl) (ik rfl) ?_
          refine a_goto (pc := 9) (dk dt_X10_isRight 5 rfl) (tgt := 13) rfl ?_
          refine a_zret (pc := 13) (dk dt_X10_isRight 7 rfl) rfl rfl ⟨by decide, ?_⟩
          show ATW _ _ _ _ _ _ _ _ _ _
          refine a_if_eq (pc := 26) (dk dt_X10_inRange 13 rfl) (tgt := 33) rfl ⟨fun c => absurd c (by decide), fun _ => ?_⟩
          refine a_iload_n (pc := 29) (dk dt_X10_inRange 14 rfl) rfl ?_
          refine a_goto (pc := 30) (dk dt_X10_inRange 15 rfl) (tgt := 34) rfl ?_
          exact a_iret (pc := 34) (dk dt_X10_inRange 17 rfl) rfl rfl H
set_option maxHeartbeats 40000000 in
theorem U_X10_compareSign_2_0 {G : GG} {Φ : Int → Hp → Prop} {h : Hp} (H : Call G m_X10_byteAt [rv 2, iv (h 2 2)] h (fun r1 h2 => (((h2 2 3) ≠ (-1) → Φ r1 h2) ∧ ((h2 2 3) = (-1) → ((r1 = 61 → Φ r1 (up h2 2 2 (w32 ((h2 2 2) + 1)))) ∧ (r1 ≠ 61 → ((r1 = 60 → Φ r1 (up h2 2 2 (w32 ((h2 2 2) + 1)))) ∧ (r1 ≠ 60 → ((r1 ≠ 62 → Φ r1 (up h2 2 3 (h2 2 2))) ∧ (r1 = 62 → Φ r1 (up h2 2 2 (w32 ((h2 2 2) + 1))))))))))))) : AT G m_X10_compareSign 0 [(0, rv 2)] [] h Φ := by
  refine a_aload_n (pc := 0) (dk dt_X10_compareSign 0 rfl) rfl ?_
  refine a_aload_n (pc := 1) (dk dt_X10_compareSign 1 rfl) rfl ?_
  refine a_geti (pc := 2) (dk dt_X10_compareSign 2 rfl) cls_10 fl_RX10_22 cf_2_2 ?_
  refine a_callVi (as := [iv (h 2 2)]) (st := []) (pc := 5) (dk dt_X10_compareSign 3 rfl) cl_RX10_32 ⟨Nat.le_of_ble_eq_true rfl, Nat.le_of_ble_eq_true rfl⟩ ⟨Nat.le_of_ble_eq_true rfl, Nat.le_of_ble_eq_true rfl⟩ cls_10 rfl cc_2 rfl rfl rfl (Nat.le_of_ble_eq_true rfl) (Call.mono H fun r1 h2 H => ?_)
  refine a_istore_n (pc := 8) (dk dt_X10_compareSign 4 rfl) (by decide) rfl rfl ?_
  refine a_aload_n (pc := 9) (dk dt_X10_compareSign 5 rfl) rfl ?_
  refine a_callVi (as := []) (st := []) (pc := 10) (dk dt_X10_compareSign 6 rfl) cl_RX10_25 ⟨Nat.le_of_ble_eq_true rfl, Nat.le_of_ble_eq_true rfl⟩ ⟨Nat.le_of_ble_eq_true rfl, Nat.le_of_ble_eq_true rfl⟩ cls_10 rfl cc_2 rfl rfl rfl (Nat.le_of_ble_eq_true rfl) (Call.of rfl (Nat.le_of_ble_eq_true rfl) rfl ?_)
  refine a_aload_n (pc := 0) (dk dt_X10_isRight 0 rfl) rfl ?_
  refine a_geti (pc := 1) (dk dt_X10_isRight 1 rfl) cls_10 fl_RX10_15 cf_2_3 ?_
  refine a_iconst (pc := 4) (dk dt_X10_isRight 2 rfl) (ik rfl) ?_
  refine a_icmp_ne (pc := 5) (dk dt_X10_isRight 3 rfl) (tgt := 12) rfl ⟨fun c => ?_, fun c => ?_⟩
  · replace H := H.1 c
    refine a_iconst (pc := 12) (dk dt_X10_isRight 6 rfl) (ik rfl) ?_
    refine a_zret (pc := 13) (dk dt_X10_isRight 7 rfl) rfl rfl ⟨by decide, ?_⟩
    show ATW _ _ _ _ _ _ _ _ _ _
    refine a_if_eq (pc := 13) (dk dt_X10_compareSign 7 rfl) (tgt := 55) rfl ⟨fun _ => ?_, fun c => absurd c (by decide)⟩
    refine a_iload_n (pc := 55) (dk dt_X10_compareSign 28 rfl) rfl ?_
    exact a_iret (pc := 56) (dk dt_X10_compareSign 29 rfl) rfl rfl H
  · replace H := H.2 c
    refine a_iconst (pc := 8) (dk dt_X10_isRight 4 rfl) (ik rfl) ?_
    refine a_goto (pc := 9) (dk dt_X10_isRight 5 rfl) (tgt := 13) rfl ?_
    refine a_zret (pc := 13) (dk dt_X10_isRight 7 rfl) rfl rfl ⟨by decide, ?_⟩
    show ATW _ _ _ _ _ _ _ _ _ _
    refine a_if_eq (pc := 13) (dk dt_X10_compareSign 7 rfl) (tgt := 55) rfl ⟨fun c => absurd c (by decide), fun _ => ?_⟩
    refine a_iload_n (pc := 16) (dk dt_X10_compareSign 8 rfl) rfl ?_
    refine a_bipush (pc := 17) (dk dt_X10_compareSign 9 rfl) (ik rfl) (bpk rfl) ?_
    refine a_icmp_eq (pc := 19) (dk dt_X10_compareSign 10 rfl) (tgt := 34) rfl ⟨fun c => ?_, fun c => ?_⟩
    · replace H := H.1 c
      refine a_aload_n (pc := 34) (dk dt_X10_compareSign 17 rfl) rfl ?_
      refine a_dup (pc := 35) (dk dt_X10_compareSign 18 rfl) rfl ?_
      refine a_geti (pc := 36) (dk dt_X10_compareSign 19 rfl) cls_10 fl_RX10_22 cf_2_2 ?_
      refine a_iconst (pc := 39) (dk dt_X10_compareSign 20 rfl) (ik rfl) ?_
      refine a_iadd (pc := 40) (dk dt_X10_compareSign 21 rfl) ?_
      refine a_puti (pc := 41) (dk dt_X10_compareSign 22 rfl) cls_10 fl_RX10_22 cf_2_2 rfl rfl ?_
      refine a_goto (pc := 44) (dk dt_X10_compareSign 23 rfl) (tgt := 55) rfl ?_
      refine a_iload_n (pc := 55) (dk dt_X10_compareSign 28 rfl) rfl ?_
      exact a_iret (pc := 56) (dk dt_X10_compareSign 29 rfl) rfl rfl H
    · replace H := H.2 c
      refine a_iload_n (pc := 22) (dk dt_X10_compareSign 11 rfl) rfl ?_
      refine a_bipush (pc := 23) (dk dt_X10_compareSign 12 rfl) (ik rfl) (bpk rfl) ?_
      refine a_icmp_eq (pc := 25) (dk dt_X10_compareSign 13 rfl) (tgt := 34) rfl ⟨fun c => ?_, fun c => ?_⟩
      · replace H := H.1 c
        refine a_aload_n (pc := 34) (dk dt_X10_compareSign 17 rfl) rfl ?_
        refine a_dup (pc := 35) (dk dt_X10_compareSign 18 rfl) rfl ?_
        refine a_geti (pc := 36) (dk dt_X10_compareSign 19 rfl) cls_10 fl_RX10_22 cf_2_2 ?_
        refine a_iconst (pc := 39) (dk dt_X10_compareSign 20 rfl) (ik rfl) ?_
        refine a_iadd (pc := 40) (dk dt_X10_compareSign 21 rfl) ?_
        refine a_puti (pc := 41) (dk dt_X10_compareSign 22 rfl) cls_10 fl_RX10_22 cf_2_2 rfl rfl ?_
        refine a_goto (pc := 44) (dk dt_X10_compareSign 23 rfl) (tgt := 55) rfl ?_
        refine a_iload_n (pc := 55) (dk dt_X10_compareSign 28 rfl) rfl ?_
        exact a_iret (pc := 56) (dk dt_X10_compareSign 29 rfl) rfl rfl H
      · replace H := H.2 c
        refine a_iload_n (pc := 28) (dk dt_X10_compareSign 14 rfl) rfl ?_
        refine a_bipush (pc := 29) (dk dt_X10_compareSign 15 rfl) (ik rfl) (bpk rfl) ?_
        refine a_icmp_ne (pc := 31) (dk dt_X10_compareSign 16 rfl) (tgt := 47) rfl ⟨fun c => ?_, fun c => ?_⟩
        · replace H := H.1 c
          refine a_aload_n (pc := 47) (dk dt_X10_compareSign 24 rfl) rfl ?_
          refine a_aload_n (pc := 48) (dk dt_X10_compareSign 25 rfl) rfl ?_
          refine a_geti (pc := 49) (dk dt_X10_compareSign 26 rfl) cls_10 fl_RX10_22 cf_2_2 ?_
          refine a_puti (pc := 52) (dk dt_X10_compareSign 27 rfl) cls_10 fl_RX10_15 cf_2_3 rfl rfl ?_
          refine a_iload_n (pc := 55) (dk dt_X10_compareSign 28 rfl) rfl ?_
          exact a_iret (pc := 56) (dk dt_X10_compareSign 29 rfl) rfl rfl H
        · replace H := H.2 c
          refine a_aload_n (pc := 34) (dk dt_X10_compareSign 17 rfl) rfl ?_
          refine a_dup (pc := 35) (dk dt_X10_compareSign 18 rfl) rfl ?_
          refine a_geti (pc := 36) (dk dt_X10_compareSign 19 rfl) cls_10 fl_RX10_22 cf_2_2 ?_
          refine a_iconst (pc := 39) (dk dt_X10_compareSign 20 rfl) (ik rfl) ?_
          refine a_iadd (pc := 40) (dk dt_X10_compareSign 21 rfl) ?_
          refine a_puti (pc := 41) (dk dt_X10_compareSign 22 rfl) cls_10 fl_RX10_22 cf_2_2 rfl rfl ?_
          refine a_goto (pc := 44) (dk dt_X10_compareSign 23 rfl) (tgt := 55) rfl ?_
          refine a_iload_n (pc := 55) (dk dt_X10_compareSign 28 rfl) rfl ?_
          exact a_iret (pc := 56) (dk dt_X10_compareSign 29 rfl) rfl rfl H
set_option maxHeartbeats 40000000 in
theorem U_X10_integer_2_0 {G : GG} {Φ : Int → Hp → Prop} {h : Hp} {x1 : Int} {x2 : Int} (H : Call G m_X10_byteAt [rv 2, iv (h 2 2)] h (fun r1 h2 => ((r1 = 45 → (((h2 2 3) ≠ (-1) → Call G m_X10_digits [rv 2] h2 (fun r3 h4 => Call G m_X10_inRange [rv 2, iv (w32 (-r3)), iv x1, iv x2, iv (h 2 2)] h4 (fun r5 h6 => Φ r5 h6))) ∧ ((h2 2 3) = (-1) → Call G m_X10_byteAt [rv 2, iv (w32 ((h2 2 2) + 1))] (up h2 2 2 (w32 ((h2 2 2) + 1))) (fun r7 h8 => ((r7 ≠ 48 → Call G m_X10_digits [rv 2] h8 (fun r9 h10 => Call G m_X10_inRange [rv 2, iv (w32 (-r9)), iv x1, iv x2, iv (h 2 2)] h10 (fun r11 h12 => Φ r11 h12))) ∧ (r7 = 48 → Call G m_X10_digits [rv 2] (up h8 2 3 (h8 2 2)) (fun r13 h14 => Call G m_X10_inRange [rv 2, iv (w32 (-r13)), iv x1, iv x2, iv (h 2 2)] h14 (fun r15 h16 => Φ r15 h16)))))))) ∧ (r1 ≠ 45 → Call G m_X10_digits [rv 2] h2 (fun r17 h18 => Call G m_X10_inRange [rv 2, iv r17, iv x1, iv x2, iv (h 2 2)] h18 (fun r19 h20 => Φ r19 h20)))))) : AT G m_X10_integer 0 [(0, rv 2), (1, iv x1), (2, iv x2)] [] h Φ := by
  refine a_aload_n (pc := 0) (dk dt_X10_integer 0 rfl) rfl ?_
  refine a_geti (pc := 1) (dk dt_X10_integer 1 rfl) cls_10 fl_RX10_22 cf_2_2 ?_
  refine a_istore_n (pc := 4) (dk dt_X10_integer 2 rfl) (by decide) rfl rfl ?_
  refine a_aload_n (pc := 5) (dk dt_X10_integer 3 rfl) rfl ?_
  refine a_aload_n (pc := 6) (dk dt_X10_integer 4 rfl) rfl ?_
  refine a_geti (pc := 7) (dk dt_X10_integer 5 rfl) cls_10 fl_RX10_22 cf_2_2 ?_
  refine a_callVi (as := [iv (h 2 2)]) (st := []) (pc := 10) (dk dt_X10_integer 6 rfl) cl_RX10_32 ⟨Nat.le_of_ble_eq_true rfl, Nat.le_of_ble_eq_true rfl⟩ ⟨Nat.le_of_ble_eq_true rfl, Nat.le_of_ble_eq_true rfl⟩ cls_10 rfl cc_2 rfl rfl rfl (Nat.le_of_ble_eq_true rfl) (Call.mono H fun r1 h2 H => ?_)
  refine a_bipush (pc := 13) (dk dt_X10_integer 7 rfl) (ik rfl) (bpk rfl) ?_
  refine a_icmp_eq (pc := 15) (dk dt_X10_integer 8 rfl) (tgt := 30) rfl ⟨fun c => ?_, fun c => ?_⟩
  · replace H := H.1 c
    refine a_aload_n (pc := 30) (dk dt_X10_integer 17 rfl) rfl ?_
    refine a_callVi (as := []) (st := []) (pc := 31) (dk dt_X10_integer 18 rfl) cl_RX10_25 ⟨Nat.le_of_ble_eq_true rfl, Nat.le_of_ble_eq_true rfl⟩ ⟨Nat.le_of_ble_eq_true rfl, Nat.le_of_ble_eq_true rfl⟩ cls_10 rfl cc_2 rfl rfl rfl (Nat.le_of_ble_eq_true rfl) (Call.of rfl (Nat.le_of_ble_eq_true rfl) rfl ?_)
    refine a_aload_n (pc := 0) (dk dt_X10_isRight 0 rfl) rfl ?_
    refine a_geti (pc := 1) (dk dt_X10_isRight 1 rfl) cls_10 fl_RX10_15 cf_2_3 ?_
    refine a_iconst (pc := 4) (dk dt_X10_isRight 2 rfl) (ik rfl) ?_
    refine a_icmp_ne (pc := 5) (dk dt_X10_isRight 3 rfl) (tgt := 12) rfl ⟨fun c => ?_, fun c => ?_⟩
    · replace H := H.1 c
      refine a_iconst (pc := 12) (dk dt_X10_isRight 6 rfl) (ik rfl) ?_
      refine a_zret (pc := 13) (dk dt_X10_isRight 7 rfl) rfl rfl ⟨by decide, ?_⟩
      show ATW _ _ _ _ _ _ _ _ _ _
      refine a_if_eq (pc := 34) (dk dt_X10_integer 19 rfl) (tgt := 68) rfl ⟨fun _ => ?_, fun c => absurd c (by decide)⟩
      refine a_aload_n (pc := 68) (dk dt_X10_integer 36 rfl) rfl ?_
      refine a_aload_n (pc := 69) (dk dt_X10_integer 37 rfl) rfl ?_
      refine a_callVi (as := []) (st := [rv 2]) (pc := 70) (dk dt_X10_integer 38 rfl) cl_RX10_44 ⟨Nat.le_of_ble_eq_true rfl, Nat.le_of_ble_eq_true rfl⟩ ⟨Nat.le_of_ble_eq_true rfl, Nat.le_of_ble_eq_true rfl⟩ cls_10 rfl cc_2 rfl rfl rfl (Nat.le_of_ble_eq_true rfl) (Call.mono H fun r3 h4 H => ?_)
      refine a_ineg (pc := 73) (dk dt_X10_integer 39 rfl) ?_
      refine a_iload_n (pc := 74) (dk dt_X10_integer 40 rfl) rfl ?_
      refine a_iload_n (pc := 75) (dk dt_X10_integer 41 rfl) rfl ?_
      refine a_iload_n (pc := 76) (dk dt_X10_integer 42 rfl) rfl ?_
      refine a_callVi (as := [iv (w32 (-r3)), iv x1, iv x2, iv (h 2 2)]) (st := []) (pc := 77) (dk dt_X10_integer 43 rfl) cl_RX10_40 ⟨Nat.le_of_ble_eq_true rfl, Nat.le_of_ble_eq_true rfl⟩ ⟨Nat.le_of_ble_eq_true rfl, Nat.le_of_ble_eq_true rfl⟩ cls_10 rfl cc_2 rfl rfl rfl (Nat.le_of_ble_eq_true rfl) (Call.mono H fun r5 h6 H => ?_)
      exact a_iret (pc := 80) (dk dt_X10_integer 44 rfl) rfl rfl H
    · replace H := H.2 c
      refine a_iconst (pc := 8) (dk dt_X10_isRight 4 rfl) (ik rfl) ?_
      refine a_goto (pc := 9) (dk dt_X10_isRight 5 rfl) (tgt := 13) rfl ?_
      refine a_zret (pc := 13) (dk dt_X10_isRight 7 rfl) rfl rfl ⟨by decide, ?_⟩
      show ATW _ _ _ _ _ _ _ _ _ _
      refine a_if_eq (pc := 34) (dk dt_X10_integer 19 rfl) (tgt := 68) rfl ⟨fun c => absurd c (by decide), fun _ => ?_⟩
      refine a_aload_n (pc := 37) (dk dt_X10_integer 20 rfl) rfl ?_
      refine a_dup (pc := 38) (dk dt_X10_integer 21 rfl) rfl ?_
      refine a_geti (pc := 39) (dk dt_X10_integer 22 rfl) cls_10 fl_RX10_22 cf_2_2 ?_
      refine a_iconst (pc := 42) (dk dt_X10_integer 23 rfl) (ik rfl) ?_
      refine a_iadd (pc := 43) (dk dt_X10_integer 24 rfl) ?_
      refine a_puti (pc := 44) (dk dt_X10_integer 25 rfl) cls_10 fl_RX10_22 cf_2_2 rfl rfl ?_
      refine a_aload_n (pc := 47) (dk dt_X10_integer 26 rfl) rfl ?_
      refine a_aload_n (pc := 48) (dk dt_X10_integer 27 rfl) rfl ?_
      refine a_geti (pc := 49) (dk dt_X10_integer 28 rfl) cls_10 fl_RX10_22 cf_2_2 ?_
      refine a_top (y := (w32 ((h2 2 2) + 1))) (by simp [up, cpy]) ?_
      refine a_callVi (as := [iv (w32 ((h2 2 2) + 1))]) (st := []) (pc := 52) (dk dt_X10_integer 29 rfl) cl_RX10_32 ⟨Nat.le_of_ble_eq_true rfl, Nat.le_of_ble_eq_true rfl⟩ ⟨Nat.le_of_ble_eq_true rfl, Nat.le_of_ble_eq_true rfl⟩ cls_10 rfl cc_2 rfl rfl rfl (Nat.le_of_ble_eq_true rfl) (Call.mono H fun r7 h8 H => ?_)
      refine a_bipush (pc := 55) (dk dt_X10_integer 30 rfl) (ik rfl) (bpk rfl) ?_
      refine a_icmp_ne (pc := 57) (dk dt_X10_integer 31 rfl) (tgt := 68) rfl ⟨fun c => ?_, fun c => ?_⟩
      · replace H := H.1 c
        refine a_aload_n (pc := 68) (dk dt_X10_integer 36 rfl) rfl ?_
        refine a_aload_n (pc := 69) (dk dt_X10_integer 37 rfl) rfl ?_
        refine a_callVi (as := []) (st := [rv 2]) (pc := 70) (dk dt_X10_integer 38 rfl) cl_RX10_44 ⟨Nat.le_of_ble_eq_true rfl, Nat.le_of_ble_eq_true rfl⟩ ⟨Nat.le_of_ble_eq_true rfl, Nat.le_of_ble_eq_true rfl⟩ cls_10 rfl cc_2 rfl rfl rfl (Nat.le_of_ble_eq_true rfl) (Call.mono H fun r9 h10 H => ?_)
        refine a_ineg (pc := 73) (dk dt_X10_integer 39 rfl) ?_
        refine a_iload_n (pc := 74) (dk dt_X10_integer 40 rfl) rfl ?_
        refine a_iload_n (pc := 75) (dk dt_X10_integer 41 rfl) rfl ?_
        refine a_iload_n (pc := 76) (dk dt_X10_integer 42 rfl) rfl ?_
        refine a_callVi (as := [iv (w32 (-r9)), iv x1, iv x2, iv (h 2 2)]) (st := []) (pc := 77) (dk dt_X10_integer 43 rfl) cl_RX10_40 ⟨Nat.le_of_ble_eq_true rfl, Nat.le_of_ble_eq_true rfl⟩ ⟨Nat.le_of_ble_eq_true rfl, Nat.le_of_ble_eq_true rfl⟩ cls_10 rfl cc_2 rfl rfl rfl (Nat.le_of_ble_eq_true rfl) (Call.mono H fun r11 h12 H => ?_)
        exact a_iret (pc := 80) (dk dt_X10_integer 44 rfl) rfl rfl H
      · replace H := H.2 c
        refine a_aload_n (pc := 60) (dk dt_X10_integer 32 rfl) rfl ?_
        refine a_aload_n (pc := 61) (dk dt_X10_integer 33 rfl) rfl ?_
        refine a_geti (pc := 62) (dk dt_X10_integer 34 rfl) cls_10 fl_RX10_22 cf_2_2 ?_
        refine a_puti (pc := 65) (dk dt_X10_integer 35 rfl) cls_10 fl_RX10_15 cf_2_3 rfl rfl ?_
        refine a_aload_n (pc := 68) (dk dt_X10_integer 36 rfl) rfl ?_
        refine a_aload_n (pc := 69) (dk dt_X10_integer 37 rfl) rfl ?_
        refine a_callVi (as := []) (st := [rv 2]) (pc := 70) (dk dt_X10_integer 38 rfl) cl_RX10_44 ⟨Nat.le_of_ble_eq_true rfl, Nat.le_of_ble_eq_true rfl⟩ ⟨Nat.le_of_ble_eq_true rfl, Nat.le_of_ble_eq_true rfl⟩ cls_10 rfl cc_2 rfl rfl rfl (Nat.le_of_ble_eq_true rfl) (Call.mono H fun r13 h14 H => ?_)
        refine a_ineg (pc := 73) (dk dt_X10_integer 39 rfl) ?_
        refine a_iload_n (pc := 74) (dk dt_X10_integer 40 rfl) rfl ?_
        refine a_iload_n (pc := 75) (dk dt_X10_integer 41 rfl) rfl ?_
        refine a_iload_n (pc := 76) (dk dt_X10_integer 42 rfl) rfl ?_
        refine a_callVi (as := [iv (w32 (-r13)), iv x1, iv x2, iv (h 2 2)]) (st := []) (pc := 77) (dk dt_X10_integer 43 rfl) cl_RX10_40 ⟨Nat.le_of_ble_eq_true rfl, Nat.le_of_ble_eq_true rfl⟩ ⟨Nat.le_of_ble_eq_true rfl, Nat.le_of_ble_eq_true rfl⟩ cls_10 rfl cc_2 rfl rfl rfl (Nat.le_of_ble_eq_true rfl) (Call.mono H fun r15 h16 H => ?_)
        exact a_iret (pc := 80) (dk dt_X10_integer 44 rfl) rfl rfl H
  · replace H := H.2 c
    refine a_aload_n (pc := 18) (dk dt_X10_integer 9 rfl) rfl ?_
    refine a_aload_n (pc := 19) (dk dt_X10_integer 10 rfl) rfl ?_
    refine a_callVi (as := []) (st := [rv 2]) (pc := 20) (dk dt_X10_integer 11 rfl) cl_RX10_44 ⟨Nat.le_of_ble_eq_true rfl, Nat.le_of_ble_eq_true rfl⟩ ⟨Nat.le_of_ble_eq_true rfl, Nat.le_of_ble_eq_true rfl⟩ cls_10 rfl cc_2 rfl rfl rfl (Nat.le_of_ble_eq_true rfl) (Call.mono H fun r17 h18 H => ?_)
    refine a_iload_n (pc := 23) (dk dt_X10_integer 12 rfl) rfl ?_
    refine a_iload_n (pc := 24) (dk dt_X10_integer 13 rfl) rfl ?_
    refine a_iload_n (pc := 25) (dk dt_X10_integer 14 rfl) rfl ?_
    refine a_callVi (as := [iv r17, iv x1, iv x2, iv (h 2 2)]) (st := []) (pc := 26) (dk dt_X10_integer 15 rfl) cl_RX10_40 ⟨Nat.le_of_ble_eq_true rfl, Nat.le_of_ble_eq_true rfl⟩ ⟨Nat.le_of_ble_eq_true rfl, Nat.le_of_ble_eq_true rfl⟩ cls_10 rfl cc_2 rfl rfl rfl (Nat.le_of_ble_eq_true rfl) (Call.mono H fun r19 h20 H => ?_)
    exact a_iret (pc := 29) (dk dt_X10_integer 16 rfl) rfl rfl H
set_option maxHeartbeats 40000000 in
theorem U_X10_wordEnd_2_0 {G : GG} {Φ : Int → Hp → Prop} {h : Hp} (H : Call G m_X10_byteAt [rv 2, iv (h 2 2)] h (fun r1 h2 => ((r1 < 97 → Φ (h 2 2) h2) ∧ (97 ≤ r1 → ((122 < r1 → Φ (h 2 2) h2) ∧ (r1 ≤ 122 → AT G m_X10_wordEnd 16 [(0, rv 2), (1, iv (h 2 2))] [] h2 Φ)))))) : AT G m_X10_wordEnd 0 [(0, rv 2)] [] h Φ := by
  refine a_aload_n (pc := 0) (dk dt_X10_wordEnd 0 rfl) rfl ?_
  refine a_geti (pc := 1) (dk dt_X10_wordEnd 1 rfl) cls_10 fl_RX10_22 cf_2_2 ?_
  refine a_istore_n (pc := 4) (dk dt_X10_wordEnd 2 rfl) (by decide) rfl rfl ?_
  refine a_aload_n (pc := 5) (dk dt_X10_wordEnd 3 rfl) rfl ?_
  refine a_iload_n (pc := 6) (dk dt_X10_wordEnd 4 rfl) rfl ?_
  refine a_callVi (as := [iv (h 2 2)]) (st := []) (pc := 7) (dk dt_X10_wordEnd 5 rfl) cl_RX10_32 ⟨Nat.le_of_ble_eq_true rfl, Nat.le_of_ble_eq_true rfl⟩ ⟨Nat.le_of_ble_eq_true rfl, Nat.le_of_ble_eq_true rfl⟩ cls_10 rfl cc_2 rfl rfl rfl (Nat.le_of_ble_eq_true rfl) (Call.mono H fun r1 h2 H => ?_)
  refine a_callSi (as := [iv r1]) (st := []) (pc := 10) (dk dt_X10_wordEnd 6 rfl) cl_RX10_65 ⟨Nat.le_of_ble_eq_true rfl, Nat.le_of_ble_eq_true rfl⟩ ⟨Nat.le_of_ble_eq_true rfl, Nat.le_of_ble_eq_true rfl⟩ rfl rfl rfl (Nat.le_of_ble_eq_true rfl) (Call.of rfl (Nat.le_of_ble_eq_true rfl) rfl ?_)
  refine a_iload_n (pc := 0) (dk dt_X10_isLetter 0 rfl) rfl ?_
  refine a_bipush (pc := 1) (dk dt_X10_isLetter 1 rfl) (ik rfl) (bpk rfl) ?_
  refine a_icmp_lt (pc := 3) (dk dt_X10_isLetter 2 rfl) (tgt := 16) rfl ⟨fun c => ?_, fun c => ?_⟩
  · replace H := H.1 c
    refine a_iconst (pc := 16) (dk dt_X10_isLetter 8 rfl) (ik rfl) ?_
    refine a_zret (pc := 17) (dk dt_X10_isLetter 9 rfl) rfl rfl ⟨by decide, ?_⟩
    show ATW _ _ _ _ _ _ _ _ _ _
    refine a_if_eq (pc := 13) (dk dt_X10_wordEnd 7 rfl) (tgt := 52) rfl ⟨fun _ => ?_, fun c => absurd c (by decide)⟩
    refine a_iload_n (pc := 52) (dk dt_X10_wordEnd 24 rfl) rfl ?_
    exact a_iret (pc := 53) (dk dt_X10_wordEnd 25 rfl) rfl rfl H
  · replace H := H.2 c
    refine a_iload_n (pc := 6) (dk dt_X10_isLetter 3 rfl) rfl ?_
    refine a_bipush (pc := 7) (dk dt_X10_isLetter 4 rfl) (ik rfl) (bpk rfl) ?_
    refine a_icmp_gt (pc := 9) (dk dt_X10_isLetter 5 rfl) (tgt := 16) rfl ⟨fun c => ?_, fun c => ?_⟩
    · replace H := H.1 c
      refine a_iconst (pc := 16) (dk dt_X10_isLetter 8 rfl) (ik rfl) ?_
      refine a_zret (pc := 17) (dk dt_X10_isLetter 9 rfl) rfl rfl ⟨by decide, ?_⟩
      show ATW _ _ _ _ _ _ _ _ _ _
      refine a_if_eq (pc := 13) (dk dt_X10_wordEnd 7 rfl) (tgt := 52) rfl ⟨fun _ => ?_, fun c => absurd c (by decide)⟩
      refine a_iload_n (pc := 52) (dk dt_X10_wordEnd 24 rfl) rfl ?_
      exact a_iret (pc := 53) (dk dt_X10_wordEnd 25 rfl) rfl rfl H
    · replace H := H.2 c
      refine a_iconst (pc := 12) (dk dt_X10_isLetter 6 rfl) (ik rfl) ?_
      refine a_goto (pc := 13) (dk dt_X10_isLetter 7 rfl) (tgt := 17) rfl ?_
      refine a_zret (pc := 17) (dk dt_X10_isLetter 9 rfl) rfl rfl ⟨by decide, ?_⟩
      show ATW _ _ _ _ _ _ _ _ _ _
      refine a_if_eq (pc := 13) (dk dt_X10_wordEnd 7 rfl) (tgt := 52) rfl ⟨fun c => absurd c (by decide), fun _ => ?_⟩
      exact a_pick [0, 1] rfl H
set_option maxHeartbeats 40000000 in
theorem U_X10_wordEnd_2_16 {G : GG} {Φ : Int → Hp → Prop} {h : Hp} {x1 : Int} (H : (((h 2 1) ≤ x1 → Φ x1 h) ∧ (x1 < (h 2 1) → Call G m_X10_byteAt [rv 2, iv x1] h (fun r1 h2 => ((r1 < 97 → Call G m_X10_byteAt [rv 2, iv x1] h2 (fun r3 h4 => ((r3 < 48 → Φ x1 h4) ∧ (48 ≤ r3 → ((57 < r3 → Φ x1 h4) ∧ (r3 ≤ 57 → AT G m_X10_wordEnd 16 [(0, rv 2), (1, iv (w32 (x1 + 1)))] [] h4 Φ)))))) ∧ (97 ≤ r1 → ((122 < r1 → Call G m_X10_byteAt [rv 2, iv x1] h2 (fun r5 h6 => ((r5 < 48 → Φ x1 h6) ∧ (48 ≤ r5 → ((57 < r5 → Φ x1 h6) ∧ (r5 ≤ 57 → AT G m_X10_wordEnd 16 [(0, rv 2), (1, iv (w32 (x1 + 1)))] [] h6 Φ)))))) ∧ (r1 ≤ 122 → AT G m_X10_wordEnd 16 [(0, rv 2), (1, iv (w32 (x1 + 1)))] [] h2 Φ)))))))) : AT G m_X10_wordEnd 16 [(0, rv 2), (1, iv x1)] [] h Φ := by
  refine a_iload_n (pc := 16) (dk dt_X10_wordEnd 8 rfl) rfl ?_
  refine a_aload_n (pc := 17) (dk dt_X10_wordEnd 9 rfl) rfl ?_
  refine a_geti (pc := 18) (dk dt_X10_wordEnd 10 rfl) cls_10 fl_RX10_19 cf_2_1 ?_
  refine a_icmp_ge (pc := 21) (dk dt_X10_wordEnd 11 rfl) (tgt := 52) rfl ⟨fun c => ?_, fun c => ?_⟩
  · replace H := H.1 c
    refine a_iload_n (pc := 52) (dk dt_X10_wordEnd 24 rfl) rfl ?_
    exact a_iret (pc := 53) (dk dt_X10_wordEnd 25 rfl) rfl rfl H
  · replace H := H.2 c
    refine a_aload_n (pc := 24) (dk dt_X10_wordEnd 12 rfl) rfl ?_
    refine a_iload_n (pc := 25) (dk dt_X10_wordEnd 13 rfl) rfl ?_
    refine a_callVi (as := [iv x1]) (st := []) (pc := 26) (dk dt_X10_wordEnd 14 rfl) cl_RX10_32 ⟨Nat.le_of_ble_eq_true rfl, Nat.le_of_ble_eq_true rfl⟩ ⟨Nat.le_of_ble_eq_true rfl, Nat.le_of_ble_eq_true rfl⟩ cls_10 rfl cc_2 rfl rfl rfl (Nat.le_of_ble_eq_true rfl) (Call.mono H fun r1 h2 H => ?_)
    refine a_callSi (as := [iv r1]) (st := []) (pc := 29) (dk dt_X10_wordEnd 15 rfl) cl_RX10_65 ⟨Nat.le_of_ble_eq_true rfl, Nat.le_of_ble_eq_true rfl⟩ ⟨Nat.le_of_ble_eq_true rfl, Nat.le_of_ble_eq_true rfl⟩ rfl rfl rfl (Nat.le_of_ble_eq_true rfl) (Call.of rfl (Nat.le_of_ble_eq_true rfl) rfl ?_)
    refine a_iload_n (pc := 0) (dk dt_X10_isLetter 0 rfl) rfl ?_
    refine a_bipush (pc := 1) (dk dt_X10_isLetter 1 rfl) (ik rfl) (bpk rfl) ?_
    refine a_icmp_lt (pc := 3) (dk dt_X10_isLetter 2 rfl) (tgt := 16) rfl ⟨fun c => ?_, fun c => ?_⟩
    · replace H := H.1 c
      refine a_iconst (pc := 16) (dk dt_X10_isLetter 8 rfl) (ik rfl) ?_
      refine a_zret (pc := 17) (dk dt_X10_isLetter 9 rfl) rfl rfl ⟨by decide, ?_⟩
      show ATW _ _ _ _ _ _ _ _ _ _
      refine a_if_ne (pc := 32) (dk dt_X10_wordEnd 16 rfl) (tgt := 46) rfl ⟨fun c => absurd c (by decide), fun _ => ?_⟩
      refine a_aload_n (pc := 35) (dk dt_X10_wordEnd 17 rfl) rfl ?_
      refine a_iload_n (pc := 36) (dk dt_X10_wordEnd 18 rfl) rfl ?_
      refine a_callVi (as := [iv x1]) (st := []) (pc := 37) (dk dt_X10_wordEnd 19 rfl) cl_RX10_32 ⟨Nat.le_of_ble_eq_true rfl, Nat.le_of_ble_eq_true rfl⟩ ⟨Nat.le_of_ble_eq_true rfl, Nat.le_of_ble_eq_true rfl⟩ cls_10 rfl cc_2 rfl rfl rfl (Nat.le_of_ble_eq_true rfl) (Call.mono H fun r3 h4 H => ?_)
      refine a_callSi (as := [iv r3]) (st := []) (pc := 40) (dk dt_X10_wordEnd 20 rfl) cl_RX10_36 ⟨Nat.le_of_ble_eq_true rfl, Nat.le_of_ble_eq_true rfl⟩ ⟨Nat.le_of_ble_eq_true rfl, Nat.le_of_ble_eq_true rfl⟩ rfl rfl rfl (Nat.le_of_ble_eq_true rfl) (Call.of rfl (Nat.le_of_ble_eq_true rfl) rfl ?_)
      refine a_iload_n (pc := 0) (dk dt_X10_isDigit 0 rfl) rfl ?_
      refine a_bipush (pc := 1) (dk dt_X10_isDigit 1 rfl) (ik rfl) (bpk rfl) ?_
      refine a_icmp_lt (pc := 3) (dk dt_X10_isDigit 2 rfl) (tgt := 16) rfl ⟨fun c => ?_, fun c => ?_⟩
      · replace H := H.1 c
        refine a_iconst (pc := 16) (dk dt_X10_isDigit 8 rfl) (ik rfl) ?_
        refine a_zret (pc := 17) (dk dt_X10_isDigit 9 rfl) rfl rfl ⟨by decide, ?_⟩
        show ATW _ _ _ _ _ _ _ _ _ _
        refine a_if_eq (pc := 43) (dk dt_X10_wordEnd 21 rfl) (tgt := 52) rfl ⟨fun _ => ?_, fun c => absurd c (by decide)⟩
        refine a_iload_n (pc := 52) (dk dt_X10_wordEnd 24 rfl) rfl ?_
        exact a_iret (pc := 53) (dk dt_X10_wordEnd 25 rfl) rfl rfl H
      · replace H := H.2 c
        refine a_iload_n (pc := 6) (dk dt_X10_isDigit 3 rfl) rfl ?_
        refine a_bipush (pc := 7) (dk dt_X10_isDigit 4 rfl) (ik rfl) (bpk rfl) ?_
        refine a_icmp_gt (pc := 9) (dk dt_X10_isDigit 5 rfl) (tgt := 16) rfl ⟨fun c => ?_, fun c => ?_⟩
        · replace H := H.1 c
          refine a_iconst (pc := 16) (dk dt_X10_isDigit 8 rfl) (ik rfl) ?_
          refine a_zret (pc := 17) (dk dt_X10_isDigit 9 rfl) rfl rfl ⟨by decide, ?_⟩
          show ATW _ _ _ _ _ _ _ _ _ _
          refine a_if_eq (pc := 43) (dk dt_X10_wordEnd 21 rfl) (tgt := 52) rfl ⟨fun _ => ?_, fun c => absurd c (by decide)⟩
          refine a_iload_n (pc := 52) (dk dt_X10_wordEnd 24 rfl) rfl ?_
          exact a_iret (pc := 53) (dk dt_X10_wordEnd 25 rfl) rfl rfl H
        · replace H := H.2 c
          refine a_iconst (pc := 12) (dk dt_X10_isDigit 6 rfl) (ik rfl) ?_
          refine a_goto (pc := 13) (dk dt_X10_isDigit 7 rfl) (tgt := 17) rfl ?_
          refine a_zret (pc := 17) (dk dt_X10_isDigit 9 rfl) rfl rfl ⟨by decide, ?_⟩
          show ATW _ _ _ _ _ _ _ _ _ _
          refine a_if_eq (pc := 43) (dk dt_X10_wordEnd 21 rfl) (tgt := 52) rfl ⟨fun c => absurd c (by decide), fun _ => ?_⟩
          refine a_iinc (pc := 46) (dk dt_X10_wordEnd 22 rfl) (by decide) rfl rfl rfl ?_
          refine a_goto (pc := 49) (dk dt_X10_wordEnd 23 rfl) (tgt := 16) rfl ?_
          exact a_pick [0, 1] rfl H
    · replace H := H.2 c
      refine a_iload_n (pc := 6) (dk dt_X10_isLetter 3 rfl) rfl ?_
      refine a_bipush (pc := 7) (dk dt_X10_isLetter 4 rfl) (ik rfl) (bpk rfl) ?_
      refine a_icmp_gt (pc := 9) (dk dt_X10_isLetter 5 rfl) (tgt := 16) rfl ⟨fun c => ?_, fun c => ?_⟩
      · replace H := H.1 c
        refine a_iconst (pc := 16) (dk dt_X10_isLetter 8 rfl) (ik rfl) ?_
        refine a_zret (pc := 17) (dk dt_X10_isLetter 9 rfl) rfl rfl ⟨by decide, ?_⟩
        show ATW _ _ _ _ _ _ _ _ _ _
        refine a_if_ne (pc := 32) (dk dt_X10_wordEnd 16 rfl) (tgt := 46) rfl ⟨fun c => absurd c (by decide), fun _ => ?_⟩
        refine a_aload_n (pc := 35) (dk dt_X10_wordEnd 17 rfl) rfl ?_
        refine a_iload_n (pc := 36) (dk dt_X10_wordEnd 18 rfl) rfl ?_
        refine a_callVi (as := [iv x1]) (st := []) (pc := 37) (dk dt_X10_wordEnd 19 rfl) cl_RX10_32 ⟨Nat.le_of_ble_eq_true rfl, Nat.le_of_ble_eq_true rfl⟩ ⟨Nat.le_of_ble_eq_true rfl, Nat.le_of_ble_eq_true rfl⟩ cls_10 rfl cc_2 rfl rfl rfl (Nat.le_of_ble_eq_true rfl) (Call.mono H fun r5 h6 H => ?_)
        refine a_callSi (as := [iv r5]) (st := []) (pc := 40) (dk dt_X10_wordEnd 20 rfl) cl_RX10_36 ⟨Nat.le_of_ble_eq_true rfl, Nat.le_of_ble_eq_true rfl⟩ ⟨Nat.le_of_ble_eq_true rfl, Nat.le_of_ble_eq_true rfl⟩ rfl rfl rfl (Nat.le_of_ble_eq_true rfl) (Call.of rfl (Nat.le_of_ble_eq_true rfl) rfl ?_)
        refine a_iload_n (pc := 0) (dk dt_X10_isDigit 0 rfl) rfl ?_
        refine a_bipush (pc := 1) (dk dt_X10_isDigit 1 rfl) (ik rfl) (bpk rfl) ?_
        refine a_icmp_lt (pc := 3) (dk dt_X10_isDigit 2 rfl) (tgt := 16) rfl ⟨fun c => ?_, fun c => ?_⟩
        · replace H := H.1 c
          refine a_iconst (pc := 16) (dk dt_X10_isDigit 8 rfl) (ik rfl) ?_
          refine a_zret (pc := 17) (dk dt_X10_isDigit 9 rfl) rfl rfl ⟨by decide, ?_⟩
          show ATW _ _ _ _ _ _ _ _ _ _
          refine a_if_eq (pc := 43) (dk dt_X10_wordEnd 21 rfl) (tgt := 52) rfl ⟨fun _ => ?_, fun c => absurd c (by decide)⟩
          refine a_iload_n (pc := 52) (dk dt_X10_wordEnd 24 rfl) rfl ?_
          exact a_iret (pc := 53) (dk dt_X10_wordEnd 25 rfl) rfl rfl H
        · replace H := H.2 c
          refine a_iload_n (pc := 6) (dk dt_X10_isDigit 3 rfl) rfl ?_
          refine a_bipush (pc := 7) (dk dt_X10_isDigit 4 rfl) (ik rfl) (bpk rfl) ?_
          refine a_icmp_gt (pc := 9) (dk dt_X10_isDigit 5 rfl) (tgt := 16) rfl ⟨fun c => ?_, fun c => ?_⟩
          · replace H := H.1 c
            refine a_iconst (pc := 16) (dk dt_X10_isDigit 8 rfl) (ik rfl) ?_
            refine a_zret (pc := 17) (dk dt_X10_isDigit 9 rfl) rfl rfl ⟨by decide, ?_⟩
            show ATW _ _ _ _ _ _ _ _ _ _
            refine a_if_eq (pc := 43) (dk dt_X10_wordEnd 21 rfl) (tgt := 52) rfl ⟨fun _ => ?_, fun c => absurd c (by decide)⟩
            refine a_iload_n (pc := 52) (dk dt_X10_wordEnd 24 rfl) rfl ?_
            exact a_iret (pc := 53) (dk dt_X10_wordEnd 25 rfl) rfl rfl H
          · replace H := H.2 c
            refine a_iconst (pc := 12) (dk dt_X10_isDigit 6 rfl) (ik rfl) ?_
            refine a_goto (pc := 13) (dk dt_X10_isDigit 7 rfl) (tgt := 17) rfl ?_
            refine a_zret (pc := 17) (dk dt_X10_isDigit 9 rfl) rfl rfl ⟨by decide, ?_⟩
            show ATW _ _ _ _ _ _ _ _ _ _
            refine a_if_eq (pc := 43) (dk dt_X10_wordEnd 21 rfl) (tgt := 52) rfl ⟨fun c => absurd c (by decide), fun _ => ?_⟩
            refine a_iinc (pc := 46) (dk dt_X10_wordEnd 22 rfl) (by decide) rfl rfl rfl ?_
            refine a_goto (pc := 49) (dk dt_X10_wordEnd 23 rfl) (tgt := 16) rfl ?_
            exact a_pick [0, 1] rfl H
      · replace H := H.2 c
        refine a_iconst (pc := 12) (dk dt_X10_isLetter 6 rfl) (ik rfl) ?_
        refine a_goto (pc := 13) (dk dt_X10_isLetter 7 rfl) (tgt := 17) rfl ?_
        refine a_zret (pc := 17) (dk dt_X10_isLetter 9 rfl) rfl rfl ⟨by decide, ?_⟩
        show ATW _ _ _ _ _ _ _ _ _ _
        refine a_if_ne (pc := 32) (dk dt_X10_wordEnd 16 rfl) (tgt := 46) rfl ⟨fun _ => ?_, fun c => absurd c (by decide)⟩
        refine a_iinc (pc := 46) (dk dt_X10_wordEnd 22 rfl) (by decide) rfl rfl rfl ?_
        refine a_goto (pc := 49) (dk dt_X10_wordEnd 23 rfl) (tgt := 16) rfl ?_
        exact a_pick [0, 1] rfl H
set_option maxHeartbeats 40000000 in
theorem U_X10_reads_2_t1_0 {G : GG} {Φ : Int → Hp → Prop} {h : Hp} {t1 : Nat} {x2 : Int} (H : (1000 ≤ t1 ∧ t1 < 1063) ∧ Call G m_J0_length_8abf5 [rv (t1)] h (fun r1 h2 => ((r1 = (w32 (x2 - (h2 2 2))) → AT G m_X10_reads 17 [(0, rv 2), (1, rv (t1)), (3, iv 0)] [] h2 Φ) ∧ (r1 ≠ (w32 (x2 - (h2 2 2))) → Φ 0 h2)))) : AT G m_X10_reads 0 [(0, rv 2), (1, rv (t1)), (2, iv x2)] [] h Φ := by
  refine a_aload_n (pc := 0) (dk dt_X10_reads 0 rfl) rfl ?_
  have hS := H.1
  replace H := H.2
  refine a_callTi (as := []) (st := []) (pc := 1) (dk dt_X10_reads 1 rfl) cl_RX10_68 ⟨Nat.le_of_ble_eq_true rfl, Nat.le_of_ble_eq_true rfl⟩ ⟨Nat.le_of_ble_eq_true rfl, Nat.le_of_ble_eq_true rfl⟩ hS rfl rfl rfl rfl (Nat.le_of_ble_eq_true rfl) (Call.mono H fun r1 h2 H => ?_)
  refine a_iload_n (pc := 4) (dk dt_X10_reads 2 rfl) rfl ?_
  refine a_aload_n (pc := 5) (dk dt_X10_reads 3 rfl) rfl ?_
  refine a_geti (pc := 6) (dk dt_X10_reads 4 rfl) cls_10 fl_RX10_22 cf_2_2 ?_
  refine a_isub (pc := 9) (dk dt_X10_reads 5 rfl) ?_
  refine a_icmp_eq (pc := 10) (dk dt_X10_reads 6 rfl) (tgt := 15) rfl ⟨fun c => ?_, fun c => ?_⟩
  · replace H := H.1 c
    refine a_iconst (pc := 15) (dk dt_X10_reads 9 rfl) (ik rfl) ?_
    refine a_istore_n (pc := 16) (dk dt_X10_reads 10 rfl) (by decide) rfl rfl ?_
    exact a_pick [0, 1, 3] rfl H
  · replace H := H.2 c
    refine a_iconst (pc := 13) (dk dt_X10_reads 7 rfl) (ik rfl) ?_
    exact a_zret (pc := 14) (dk dt_X10_reads 8 rfl) rfl rfl ⟨by decide, H⟩
set_option maxHeartbeats 40000000 in
theorem U_X10_reads_2_t1_17 {G : GG} {Φ : Int → Hp → Prop} {h : Hp} {y1 : Nat} {x3 : Int} (H : (1000 ≤ y1 ∧ y1 < 1063) ∧ Call G m_J0_length_8abf5 [rv (y1)] h (fun r1 h2 => ((r1 ≤ x3 → Φ 1 h2) ∧ (x3 < r1 → Call G m_X10_byteAt [rv 2, iv (w32 ((h2 2 2) + x3))] h2 (fun r3 h4 => (1000 ≤ y1 ∧ y1 < 1063) ∧ Call G m_J0_charAt_5068e [rv (y1), iv x3] h4 (fun r5 h6 => ((r3 = r5 → AT G m_X10_reads 17 [(0, rv 2), (1, rv (y1)), (3, iv (w32 (x3 + 1)))] [] h6 Φ) ∧ (r3 ≠ r5 → Φ 0 h6)))))))) : AT G m_X10_reads 17 [(0, rv 2), (1, rv (y1)), (3, iv x3)] [] h Φ := by
  refine a_iload_n (pc := 17) (dk dt_X10_reads 11 rfl) rfl ?_
  refine a_aload_n (pc := 18) (dk dt_X10_reads 12 rfl) rfl ?_
  have hS := H.1
  replace H := H.2
  refine a_callTi (as := []) (st := [iv x3]) (pc := 19) (dk dt_X10_reads 13 rfl) cl_RX10_68 ⟨Nat.le_of_ble_eq_true rfl, Nat.le_of_ble_eq_true rfl⟩ ⟨Nat.le_of_ble_eq_true rfl, Nat.le_of_ble_eq_true rfl⟩ hS rfl rfl rfl rfl (Nat.le_of_ble_eq_true rfl) (Call.mono H fun r1 h2 H => ?_)
  refine a_icmp_ge (pc := 22) (dk dt_X10_reads 14 rfl) (tgt := 51) rfl ⟨fun c => ?_, fun c => ?_⟩
  · replace H := H.1 c
    refine a_iconst (pc := 51) (dk dt_X10_reads 29 rfl) (ik rfl) ?_
    exact a_zret (pc := 52) (dk dt_X10_reads 30 rfl) rfl rfl ⟨by decide, H⟩
  · replace H := H.2 c
    refine a_aload_n (pc := 25) (dk dt_X10_reads 15 rfl) rfl ?_
    refine a_aload_n (pc := 26) (dk dt_X10_reads 16 rfl) rfl ?_
    refine a_geti (pc := 27) (dk dt_X10_reads 17 rfl) cls_10 fl_RX10_22 cf_2_2 ?_
    refine a_iload_n (pc := 30) (dk dt_X10_reads 18 rfl) rfl ?_
    refine a_iadd (pc := 31) (dk dt_X10_reads 19 rfl) ?_
    refine a_callVi (as := [iv (w32 ((h2 2 2) + x3))]) (st := []) (pc := 32) (dk dt_X10_reads 20 rfl) cl_RX10_32 ⟨Nat.le_of_ble_eq_true rfl, Nat.le_of_ble_eq_true rfl⟩ ⟨Nat.le_of_ble_eq_true rfl, Nat.le_of_ble_eq_true rfl⟩ cls_10 rfl cc_2 rfl rfl rfl (Nat.le_of_ble_eq_true rfl) (Call.mono H fun r3 h4 H => ?_)
    refine a_aload_n (pc := 35) (dk dt_X10_reads 21 rfl) rfl ?_
    refine a_iload_n (pc := 36) (dk dt_X10_reads 22 rfl) rfl ?_
    have hS := H.1
    replace H := H.2
    refine a_callTi (as := [iv x3]) (st := [iv r3]) (pc := 37) (dk dt_X10_reads 23 rfl) cl_RX10_73 ⟨Nat.le_of_ble_eq_true rfl, Nat.le_of_ble_eq_true rfl⟩ ⟨Nat.le_of_ble_eq_true rfl, Nat.le_of_ble_eq_true rfl⟩ hS rfl rfl rfl rfl (Nat.le_of_ble_eq_true rfl) (Call.mono H fun r5 h6 H => ?_)
    refine a_icmp_eq (pc := 40) (dk dt_X10_reads 24 rfl) (tgt := 45) rfl ⟨fun c => ?_, fun c => ?_⟩
    · replace H := H.1 c
      refine a_iinc (pc := 45) (dk dt_X10_reads 27 rfl) (by decide) rfl rfl rfl ?_
      refine a_goto (pc := 48) (dk dt_X10_reads 28 rfl) (tgt := 17) rfl ?_
      exact a_pick [0, 1, 2] rfl H
    · replace H := H.2 c
      refine a_iconst (pc := 43) (dk dt_X10_reads 25 rfl) (ik rfl) ?_
      exact a_zret (pc := 44) (dk dt_X10_reads 26 rfl) rfl rfl ⟨by decide, H⟩
set_option maxHeartbeats 40000000 in
theorem U_X10_digits_2_0 {G : GG} {Φ : Int → Hp → Prop} {h : Hp} (H : AT G m_X10_digits 9 [(0, rv 2), (1, iv (h 2 2)), (2, iv 0), (3, iv 0)] [] h Φ) : AT G m_X10_digits 0 [(0, rv 2)] [] h Φ := by
  refine a_aload_n (pc := 0) (dk dt_X10_digits 0 rfl) rfl ?_
  refine a_geti (pc := 1) (dk dt_X10_digits 1 rfl) cls_10 fl_RX10_22 cf_2_2 ?_
  refine a_istore_n (pc := 4) (dk dt_X10_digits 2 rfl) (by decide) rfl rfl ?_
  refine a_iconst (pc := 5) (dk dt_X10_digits 3 rfl) (ik rfl) ?_
  refine a_istore_n (pc := 6) (dk dt_X10_digits 4 rfl) (by decide) rfl rfl ?_
  refine a_iconst (pc := 7) (dk dt_X10_digits 5 rfl) (ik rfl) ?_
  refine a_istore_n (pc := 8) (dk dt_X10_digits 6 rfl) (by decide) rfl rfl ?_
  exact a_pick [0, 1, 2, 3] rfl H
set_option maxHeartbeats 40000000 in
theorem U_X10_digits_2_9 {G : GG} {Φ : Int → Hp → Prop} {h : Hp} {x1 : Int} {x2 : Int} {x3 : Int} (H : ((9 < x3 → (((h 2 3) ≠ (-1) → Φ x2 h) ∧ ((h 2 3) = (-1) → (((h 2 2) ≠ x1 → Φ x2 h) ∧ ((h 2 2) = x1 → Φ x2 (up h 2 3 (h 2 2))))))) ∧ (x3 ≤ 9 → (((h 2 3) ≠ (-1) → (((h 2 3) ≠ (-1) → Φ x2 h) ∧ ((h 2 3) = (-1) → (((h 2 2) ≠ x1 → Φ x2 h) ∧ ((h 2 2) = x1 → Φ x2 (up h 2 3 (h 2 2))))))) ∧ ((h 2 3) = (-1) → Call G m_X10_byteAt [rv 2, iv (h 2 2)] h (fun r1 h2 => ((r1 < 48 → (((h2 2 3) ≠ (-1) → Φ x2 h2) ∧ ((h2 2 3) = (-1) → (((h2 2 2) ≠ x1 → Φ x2 h2) ∧ ((h2 2 2) = x1 → Φ x2 (up h2 2 3 (h2 2 2))))))) ∧ (48 ≤ r1 → ((57 < r1 → (((h2 2 3) ≠ (-1) → Φ x2 h2) ∧ ((h2 2 3) = (-1) → (((h2 2 2) ≠ x1 → Φ x2 h2) ∧ ((h2 2 2) = x1 → Φ x2 (up h2 2 3 (h2 2 2))))))) ∧ (r1 ≤ 57 → ((x3 = 9 → AT G m_X10_digits 9 [(0, rv 2), (1, iv x1), (2, iv x2), (3, iv (w32 (x3 + 1)))] [] (up h2 2 3 (h2 2 2)) Φ) ∧ (x3 ≠ 9 → ((x3 ≠ 1 → Call G m_X10_byteAt [rv 2, iv (h2 2 2)] h2 (fun r3 h4 => AT G m_X10_digits 9 [(0, rv 2), (1, iv x1), (2, iv (w32 ((w32 ((w32 (x2 * 10)) + r3)) - 48))), (3, iv (w32 (x3 + 1)))] [] (up h4 2 2 (w32 ((h4 2 2) + 1))) Φ)) ∧ (x3 = 1 → Call G m_X10_byteAt [rv 2, iv x1] h2 (fun r5 h6 => ((r5 ≠ 48 → Call G m_X10_byteAt [rv 2, iv (h6 2 2)] h6 (fun r7 h8 => AT G m_X10_digits 9 [(0, rv 2), (1, iv x1), (2, iv (w32 ((w32 ((w32 (x2 * 10)) + r7)) - 48))), (3, iv (w32 (x3 + 1)))] [] (up h8 2 2 (w32 ((h8 2 2) + 1))) Φ)) ∧ (r5 = 48 → AT G m_X10_digits 9 [(0, rv 2), (1, iv x1), (2, iv x2), (3, iv (w32 (x3 + 1)))] [] (up h6 2 3 (h6 2 2)) Φ))))))))))))))))) : AT G m_X10_digits 9 [(0, rv 2), (1, iv x1), (2, iv x2), (3, iv x3)] [] h Φ := by
  refine a_iload_n (pc := 9) (dk dt_X10_digits 7 rfl) rfl ?_
  refine a_bipush (pc := 10) (dk dt_X10_digits 8 rfl) (ik rfl) (bpk rfl) ?_
  refine a_icmp_gt (pc := 12) (dk dt_X10_digits 9 rfl) (tgt := 101) rfl ⟨fun c => ?_, fun c => ?_⟩
  · replace H := H.1 c
    refine a_aload_n (pc := 101) (dk dt_X10_digits 54 rfl) rfl ?_
    refine a_callVi (as := []) (st := []) (pc := 102) (dk dt_X10_digits 55 rfl) cl_RX10_25 ⟨Nat.le_of_ble_eq_true rfl, Nat.le_of_ble_eq_true rfl⟩ ⟨Nat.le_of_ble_eq_true rfl, Nat.le_of_ble_eq_true rfl⟩ cls_10 rfl cc_2 rfl rfl rfl (Nat.le_of_ble_eq_true rfl) (Call.of rfl (Nat.le_of_ble_eq_true rfl) rfl ?_)
    refine a_aload_n (pc := 0) (dk dt_X10_isRight 0 rfl) rfl ?_
    refine a_geti (pc := 1) (dk dt_X10_isRight 1 rfl) cls_10 fl_RX10_15 cf_2_3 ?_
    refine a_iconst (pc := 4) (dk dt_X10_isRight 2 rfl) (ik rfl) ?_
    refine a_icmp_ne (pc := 5) (dk dt_X10_isRight 3 rfl) (tgt := 12) rfl ⟨fun c => ?_, fun c => ?_⟩
    · replace H := H.1 c
      refine a_iconst (pc := 12) (dk dt_X10_isRight 6 rfl) (ik rfl) ?_
      refine a_zret (pc := 13) (dk dt_X10_isRight 7 rfl) rfl rfl ⟨by decide, ?_⟩
      show ATW _ _ _ _ _ _ _ _ _ _
      refine a_if_eq (pc := 105) (dk dt_X10_digits 56 rfl) (tgt := 124) rfl ⟨fun _ => ?_, fun c => absurd c (by decide)⟩
      refine a_iload_n (pc := 124) (dk dt_X10_digits 65 rfl) rfl ?_
      exact a_iret (pc := 125) (dk dt_X10_digits 66 rfl) rfl rfl H
    · replace H := H.2 c
      refine a_iconst (pc := 8) (dk dt_X10_isRight 4 rfl) (ik rfl) ?_
      refine a_goto (pc := 9) (dk dt_X10_isRight 5 rfl) (tgt := 13) rfl ?_
      refine a_zret (pc := 13) (dk dt_X10_isRight 7 rfl) rfl rfl ⟨by decide, ?_⟩
      show ATW _ _ _ _ _ _ _ _ _ _
      refine a_if_eq (pc := 105) (dk dt_X10_digits 56 rfl) (tgt := 124) rfl ⟨fun c => absurd c (by decide), fun _ => ?_⟩
      refine a_aload_n (pc := 108) (dk dt_X10_digits 57 rfl) rfl ?_
      refine a_geti (pc := 109) (dk dt_X10_digits 58 rfl) cls_10 fl_RX10_22 cf_2_2 ?_
      refine a_iload_n (pc := 112) (dk dt_X10_digits 59 rfl) rfl ?_
      refine a_icmp_ne (pc := 113) (dk dt_X10_digits 60 rfl) (tgt := 124) rfl ⟨fun c => ?_, fun c => ?_⟩
      · replace H := H.1 c
        refine a_iload_n (pc := 124) (dk dt_X10_digits 65 rfl) rfl ?_
        exact a_iret (pc := 125) (dk dt_X10_digits 66 rfl) rfl rfl H
      · replace H := H.2 c
        refine a_aload_n (pc := 116) (dk dt_X10_digits 61 rfl) rfl ?_
        refine a_aload_n (pc := 117) (dk dt_X10_digits 62 rfl) rfl ?_
        refine a_geti (pc := 118) (dk dt_X10_digits 63 rfl) cls_10 fl_RX10_22 cf_2_2 ?_
        refine a_puti (pc := 121) (dk dt_X10_digits 64 rfl) cls_10 fl_RX10_15 cf_2_3 rfl rfl ?_
        refine a_iload_n (pc := 124) (dk dt_X10_digits 65 rfl) rfl ?_
        exact a_iret (pc := 125) (dk dt_X10_digits 66 rfl) rfl rfl H
  · replace H := H.2 c
    refine a_aload_n (pc := 15) (dk dt_X10_digits 10 rfl) rfl ?_
    refine a_callVi (as := []) (st := []) (pc := 16) (dk dt_X10_digits 11 rfl) cl_RX10_25 ⟨Nat.le_of_ble_eq_true rfl, Nat.le_of_ble_eq_true rfl⟩ ⟨Nat.le_of_ble_eq_true rfl, Nat.le_of_ble_eq_true rfl⟩ cls_10 rfl cc_2 rfl rfl rfl (Nat.le_of_ble_eq_true rfl) (Call.of rfl (Nat.le_of_ble_eq_true rfl) rfl ?_)
    refine a_aload_n (pc := 0) (dk dt_X10_isRight 0 rfl) rfl ?_
    refine a_geti (pc := 1) (dk dt_X10_isRight 1 rfl) cls_10 fl_RX10_15 cf_2_3 ?_
    refine a_iconst (pc := 4) (dk dt_X10_isRight 2 rfl) (ik rfl) ?_
    refine a_icmp_ne (pc := 5) (dk dt_X10_isRight 3 rfl) (tgt := 12) rfl ⟨fun c => ?_, fun c => ?_⟩
    · replace H := H.1 c
      refine a_iconst (pc := 12) (dk dt_X10_isRight 6 rfl) (ik rfl) ?_
      refine a_zret (pc := 13) (dk dt_X10_isRight 7 rfl) rfl rfl ⟨by decide, ?_⟩
      show ATW _ _ _ _ _ _ _ _ _ _
      refine a_if_eq (pc := 19) (dk dt_X10_digits 12 rfl) (tgt := 101) rfl ⟨fun _ => ?_, fun c => absurd c (by decide)⟩
      refine a_aload_n (pc := 101) (dk dt_X10_digits 54 rfl) rfl ?_
      refine a_callVi (as := []) (st := []) (pc := 102) (dk dt_X10_digits 55 rfl) cl_RX10_25 ⟨Nat.le_of_ble_eq_true rfl, Nat.le_of_ble_eq_true rfl⟩ ⟨Nat.le_of_ble_eq_true rfl, Nat.le_of_ble_eq_true rfl⟩ cls_10 rfl cc_2 rfl rfl rfl (Nat.le_of_ble_eq_true rfl) (Call.of rfl (Nat.le_of_ble_eq_true rfl) rfl ?_)
      refine a_aload_n (pc := 0) (dk dt_X10_isRight 0 rfl) rfl ?_
      refine a_geti (pc := 1) (dk dt_X10_isRight 1 rfl) cls_10 fl_RX10_15 cf_2_3 ?_
      refine a_iconst (pc := 4) (dk dt_X10_isRight 2 rfl) (ik rfl) ?_
      refine a_icmp_ne (pc := 5) (dk dt_X10_isRight 3 rfl) (tgt := 12) rfl ⟨fun c => ?_, fun c => ?_⟩
      · replace H := H.1 c
        refine a_iconst (pc := 12) (dk dt_X10_isRight 6 rfl) (ik rfl) ?_
        refine a_zret (pc := 13) (dk dt_X10_isRight 7 rfl) rfl rfl ⟨by decide, ?_⟩
        show ATW _ _ _ _ _ _ _ _ _ _
        refine a_if_eq (pc := 105) (dk dt_X10_digits 56 rfl) (tgt := 124) rfl ⟨fun _ => ?_, fun c => absurd c (by decide)⟩
        refine a_iload_n (pc := 124) (dk dt_X10_digits 65 rfl) rfl ?_
        exact a_iret (pc := 125) (dk dt_X10_digits 66 rfl) rfl rfl H
      · replace H := H.2 c
        refine a_iconst (pc := 8) (dk dt_X10_isRight 4 rfl) (ik rfl) ?_
        refine a_goto (pc := 9) (dk dt_X10_isRight 5 rfl) (tgt := 13) rfl ?_
        refine a_zret (pc := 13) (dk dt_X10_isRight 7 rfl) rfl rfl ⟨by decide, ?_⟩
        show ATW _ _ _ _ _ _ _ _ _ _
        refine a_if_eq (pc := 105) (dk dt_X10_digits 56 rfl) (tgt := 124) rfl ⟨fun c => absurd c (by decide), fun _ => ?_⟩
        refine a_aload_n (pc := 108) (dk dt_X10_digits 57 rfl) rfl ?_
        refine a_geti (pc := 109) (dk dt_X10_digits 58 rfl) cls_10 fl_RX10_22 cf_2_2 ?_
        refine a_iload_n (pc := 112) (dk dt_X10_digits 59 rfl) rfl ?_
        refine a_icmp_ne (pc := 113) (dk dt_X10_digits 60 rfl) (tgt := 124) rfl ⟨fun c => ?_, fun c => ?_⟩
        · replace H := H.1 c
          refine a_iload_n (pc := 124) (dk dt_X10_digits 65 rfl) rfl ?_
          exact a_iret (pc := 125) (dk dt_X10_digits 66 rfl) rfl rfl H
        · replace H := H.2 c
          refine a_aload_n (pc := 116) (dk dt_X10_digits 61 rfl) rfl ?_
          refine a_aload_n (pc := 117) (dk dt_X10_digits 62 rfl) rfl ?_
          refine a_geti (pc := 118) (dk dt_X10_digits 63 rfl) cls_10 fl_RX10_22 cf_2_2 ?_
          refine a_puti (pc := 121) (dk dt_X10_digits 64 rfl) cls_10 fl_RX10_15 cf_2_3 rfl rfl ?_
          refine a_iload_n (pc := 124) (dk dt_X10_digits 65 rfl) rfl ?_
          exact a_iret (pc := 125) (dk dt_X10_digits 66 rfl) rfl rfl H
    · replace H := H.2 c
      refine a_iconst (pc := 8) (dk dt_X10_isRight 4 rfl) (ik rfl) ?_
      refine a_goto (pc := 9) (dk dt_X10_isRight 5 rfl) (tgt := 13) rfl ?_
      refine a_zret (pc := 13) (dk dt_X10_isRight 7 rfl) rfl rfl ⟨by decide, ?_⟩
      show ATW _ _ _ _ _ _ _ _ _ _
      refine a_if_eq (pc := 19) (dk dt_X10_digits 12 rfl) (tgt := 101) rfl ⟨fun c => absurd c (by decide), fun _ => ?_⟩
      refine a_aload_n (pc := 22) (dk dt_X10_digits 13 rfl) rfl ?_
      refine a_aload_n (pc := 23) (dk dt_X10_digits 14 rfl) rfl ?_
      refine a_geti (pc := 24) (dk dt_X10_digits 15 rfl) cls_10 fl_RX10_22 cf_2_2 ?_
      refine a_callVi (as := [iv (h 2 2)]) (st := []) (pc := 27) (dk dt_X10_digits 16 rfl) cl_RX10_32 ⟨Nat.le_of_ble_eq_true rfl, Nat.le_of_ble_eq_true rfl⟩ ⟨Nat.le_of_ble_eq_true rfl, Nat.le_of_ble_eq_true rfl⟩ cls_10 rfl cc_2 rfl rfl rfl (Nat.le_of_ble_eq_true rfl) (Call.mono H fun r1 h2 H => ?_)
      refine a_callSi (as := [iv r1]) (st := []) (pc := 30) (dk dt_X10_digits 17 rfl) cl_RX10_36 ⟨Nat.le_of_ble_eq_true rfl, Nat.le_of_ble_eq_true rfl⟩ ⟨Nat.le_of_ble_eq_true rfl, Nat.le_of_ble_eq_true rfl⟩ rfl rfl rfl (Nat.le_of_ble_eq_true rfl) (Call.of rfl (Nat.le_of_ble_eq_true rfl) rfl ?_)
      refine a_iload_n (pc := 0) (dk dt_X10_isDigit 0 rfl) rfl ?_
      refine a_bipush (pc := 1) (dk dt_X10_isDigit 1 rfl) (ik rfl) (bpk rfl) ?_
      refine a_icmp_lt (pc := 3) (dk dt_X10_isDigit 2 rfl) (tgt := 16) rfl ⟨fun c => ?_, fun c => ?_⟩
      · replace H := H.1 c
        refine a_iconst (pc := 16) (dk dt_X10_isDigit 8 rfl) (ik rfl) ?_
        refine a_zret (pc := 17) (dk dt_X10_isDigit 9 rfl) rfl rfl ⟨by decide, ?_⟩
        show ATW _ _ _ _ _ _ _ _ _ _
        refine a_if_eq (pc := 33) (dk dt_X10_digits 18 rfl) (tgt := 101) rfl ⟨fun _ => ?_, fun c => absurd c (by decide)⟩
        refine a_aload_n (pc := 101) (dk dt_X10_digits 54 rfl) rfl ?_
        refine a_callVi (as := []) (st := []) (pc := 102) (dk dt_X10_digits 55 rfl) cl_RX10_25 ⟨Nat.le_of_ble_eq_true rfl, Nat.le_of_ble_eq_true rfl⟩ ⟨Nat.le_of_ble_eq_true rfl, Nat.le_of_ble_eq_true rfl⟩ cls_10 rfl cc_2 rfl rfl rfl (Nat.le_of_ble_eq_true rfl) (Call.of rfl (Nat.le_of_ble_eq_true rfl) rfl ?_)
        refine a_aload_n (pc := 0) (dk dt_X10_isRight 0 rfl) rfl ?_
        refine a_geti (pc := 1) (dk dt_X10_isRight 1 rfl) cls_10 fl_RX10_15 cf_2_3 ?_
        refine a_iconst (pc := 4) (dk dt_X10_isRight 2 rfl) (ik rfl) ?_
        refine a_icmp_ne (pc := 5) (dk dt_X10_isRight 3 rfl) (tgt := 12) rfl ⟨fun c => ?_, fun c => ?_⟩
        · replace H := H.1 c
          refine a_iconst (pc := 12) (dk dt_X10_isRight 6 rfl) (ik rfl) ?_
          refine a_zret (pc := 13) (dk dt_X10_isRight 7 rfl) rfl rfl ⟨by decide, ?_⟩
          show ATW _ _ _ _ _ _ _ _ _ _
          refine a_if_eq (pc := 105) (dk dt_X10_digits 56 rfl) (tgt := 124) rfl ⟨fun _ => ?_, fun c => absurd c (by decide)⟩
          refine a_iload_n (pc := 124) (dk dt_X10_digits 65 rfl) rfl ?_
          exact a_iret (pc := 125) (dk dt_X10_digits 66 rfl) rfl rfl H
        · replace H := H.2 c
          refine a_iconst (pc := 8) (dk dt_X10_isRight 4 rfl) (ik rfl) ?_
          refine a_goto (pc := 9) (dk dt_X10_isRight 5 rfl) (tgt := 13) rfl ?_
          refine a_zret (pc := 13) (dk dt_X10_isRight 7 rfl) rfl rfl ⟨by decide, ?_⟩
          show ATW _ _ _ _ _ _ _ _ _ _
          refine a_if_eq (pc := 105) (dk dt_X10_digits 56 rfl) (tgt := 124) rfl ⟨fun c => absurd c (by decide), fun _ => ?_⟩
          refine a_aload_n (pc := 108) (dk dt_X10_digits 57 rfl) rfl ?_
          refine a_geti (pc := 109) (dk dt_X10_digits 58 rfl) cls_10 fl_RX10_22 cf_2_2 ?_
          refine a_iload_n (pc := 112) (dk dt_X10_digits 59 rfl) rfl ?_
          refine a_icmp_ne (pc := 113) (dk dt_X10_digits 60 rfl) (tgt := 124) rfl ⟨fun c => ?_, fun c => ?_⟩
          · replace H := H.1 c
            refine a_iload_n (pc := 124) (dk dt_X10_digits 65 rfl) rfl ?_
            exact a_iret (pc := 125) (dk dt_X10_digits 66 rfl) rfl rfl H
          · replace H := H.2 c
            refine a_aload_n (pc := 116) (dk dt_X10_digits 61 rfl) rfl ?_
            refine a_aload_n (pc := 117) (dk dt_X10_digits 62 rfl) rfl ?_
            refine a_geti (pc := 118) (dk dt_X10_digits 63 rfl) cls_10 fl_RX10_22 cf_2_2 ?_
            refine a_puti (pc := 121) (dk dt_X10_digits 64 rfl) cls_10 fl_RX10_15 cf_2_3 rfl rfl ?_
            refine a_iload_n (pc := 124) (dk dt_X10_digits 65 rfl) rfl ?_
            exact a_iret (pc := 125) (dk dt_X10_digits 66 rfl) rfl rfl H
      · replace H := H.2 c
        refine a_iload_n (pc := 6) (dk dt_X10_isDigit 3 rfl) rfl ?_
        refine a_bipush (pc := 7) (dk dt_X10_isDigit 4 rfl) (ik rfl) (bpk rfl) ?_
        refine a_icmp_gt (pc := 9) (dk dt_X10_isDigit 5 rfl) (tgt := 16) rfl ⟨fun c => ?_, fun c => ?_⟩
        · replace H := H.1 c
          refine a_iconst (pc := 16) (dk dt_X10_isDigit 8 rfl) (ik rfl) ?_
          refine a_zret (pc := 17) (dk dt_X10_isDigit 9 rfl) rfl rfl ⟨by decide, ?_⟩
          show ATW _ _ _ _ _ _ _ _ _ _
          refine a_if_eq (pc := 33) (dk dt_X10_digits 18 rfl) (tgt := 101) rfl ⟨fun _ => ?_, fun c => absurd c (by decide)⟩
          refine a_aload_n (pc := 101) (dk dt_X10_digits 54 rfl) rfl ?_
          refine a_callVi (as := []) (st := []) (pc := 102) (dk dt_X10_digits 55 rfl) cl_RX10_25 ⟨Nat.le_of_ble_eq_true rfl, Nat.le_of_ble_eq_true rfl⟩ ⟨Nat.le_of_ble_eq_true rfl, Nat.le_of_ble_eq_true rfl⟩ cls_10 rfl cc_2 rfl rfl rfl (Nat.le_of_ble_eq_true rfl) (Call.of rfl (Nat.le_of_ble_eq_true rfl) rfl ?_)
          refine a_aload_n (pc := 0) (dk dt_X10_isRight 0 rfl) rfl ?_
          refine a_geti (pc := 1) (dk dt_X10_isRight 1 rfl) cls_10 fl_RX10_15 cf_2_3 ?_
          refine a_iconst (pc := 4) (dk dt_X10_isRight 2 rfl) (ik rfl) ?_
          refine a_icmp_ne (pc := 5) (dk dt_X10_isRight 3 rfl) (tgt := 12) rfl ⟨fun c => ?_, fun c => ?_⟩
          · replace H := H.1 c
            refine a_iconst (pc := 12) (dk dt_X10_isRight 6 rfl) (ik rfl) ?_
            refine a_zret (pc := 13) (dk dt_X10_isRight 7 rfl) rfl rfl ⟨by decide, ?_⟩
            show ATW _ _ _ _ _ _ _ _ _ _
            refine a_if_eq (pc := 105) (dk dt_X10_digits 56 rfl) (tgt := 124) rfl ⟨fun _ => ?_, fun c => absurd c (by decide)⟩
            refine a_iload_n (pc := 124) (dk dt_X10_digits 65 rfl) rfl ?_
            exact a_iret (pc := 125) (dk dt_X10_digits 66 rfl) rfl rfl H
          · replace H := H.2 c
            refine a_iconst (pc := 8) (dk dt_X10_isRight 4 rfl) (ik rfl) ?_
            refine a_goto (pc := 9) (dk dt_X10_isRight 5 rfl) (tgt := 13) rfl ?_
            refine a_zret (pc := 13) (dk dt_X10_isRight 7 rfl) rfl rfl ⟨by decide, ?_⟩
            show ATW _ _ _ _ _ _ _ _ _ _
            refine a_if_eq (pc := 105) (dk dt_X10_digits 56 rfl) (tgt := 124) rfl ⟨fun c => absurd c (by decide), fun _ => ?_⟩
            refine a_aload_n (pc := 108) (dk dt_X10_digits 57 rfl) rfl ?_
            refine a_geti (pc := 109) (dk dt_X10_digits 58 rfl) cls_10 fl_RX10_22 cf_2_2 ?_
            refine a_iload_n (pc := 112) (dk dt_X10_digits 59 rfl) rfl ?_
            refine a_icmp_ne (pc := 113) (dk dt_X10_digits 60 rfl) (tgt := 124) rfl ⟨fun c => ?_, fun c => ?_⟩
            · replace H := H.1 c
              refine a_iload_n (pc := 124) (dk dt_X10_digits 65 rfl) rfl ?_
              exact a_iret (pc := 125) (dk dt_X10_digits 66 rfl) rfl rfl H
            · replace H := H.2 c
              refine a_aload_n (pc := 116) (dk dt_X10_digits 61 rfl) rfl ?_
              refine a_aload_n (pc := 117) (dk dt_X10_digits 62 rfl) rfl ?_
              refine a_geti (pc := 118) (dk dt_X10_digits 63 rfl) cls_10 fl_RX10_22 cf_2_2 ?_
              refine a_puti (pc := 121) (dk dt_X10_digits 64 rfl) cls_10 fl_RX10_15 cf_2_3 rfl rfl ?_
              refine a_iload_n (pc := 124) (dk dt_X10_digits 65 rfl) rfl ?_
              exact a_iret (pc := 125) (dk dt_X10_digits 66 rfl) rfl rfl H
        · replace H := H.2 c
          refine a_iconst (pc := 12) (dk dt_X10_isDigit 6 rfl) (ik rfl) ?_
          refine a_goto (pc := 13) (dk dt_X10_isDigit 7 rfl) (tgt := 17) rfl ?_
          refine a_zret (pc := 17) (dk dt_X10_isDigit 9 rfl) rfl rfl ⟨by decide, ?_⟩
          show ATW _ _ _ _ _ _ _ _ _ _
          refine a_if_eq (pc := 33) (dk dt_X10_digits 18 rfl) (tgt := 101) rfl ⟨fun c => absurd c (by decide), fun _ => ?_⟩
          refine a_iload_n (pc := 36) (dk dt_X10_digits 19 rfl) rfl ?_
          refine a_bipush (pc := 37) (dk dt_X10_digits 20 rfl) (ik rfl) (bpk rfl) ?_
          refine a_icmp_eq (pc := 39) (dk dt_X10_digits 21 rfl) (tgt := 57) rfl ⟨fun c => ?_, fun c => ?_⟩
          · replace H := H.1 c
            refine a_aload_n (pc := 57) (dk dt_X10_digits 30 rfl) rfl ?_
            refine a_aload_n (pc := 58) (dk dt_X10_digits 31 rfl) rfl ?_
            refine a_geti (pc := 59) (dk dt_X10_digits 32 rfl) cls_10 fl_RX10_22 cf_2_2 ?_
            refine a_puti (pc := 62) (dk dt_X10_digits 33 rfl) cls_10 fl_RX10_15 cf_2_3 rfl rfl ?_
            refine a_goto (pc := 65) (dk dt_X10_digits 34 rfl) (tgt := 95) rfl ?_
            refine a_iinc (pc := 95) (dk dt_X10_digits 52 rfl) (by decide) rfl rfl rfl ?_
            refine a_goto (pc := 98) (dk dt_X10_digits 53 rfl) (tgt := 9) rfl ?_
            exact a_pick [0, 1, 2, 3] rfl H
          · replace H := H.2 c
            refine a_iload_n (pc := 42) (dk dt_X10_digits 22 rfl) rfl ?_
            refine a_iconst (pc := 43) (dk dt_X10_digits 23 rfl) (ik rfl) ?_
            refine a_icmp_ne (pc := 44) (dk dt_X10_digits 24 rfl) (tgt := 68) rfl ⟨fun c => ?_, fun c => ?_⟩
            · replace H := H.1 c
              refine a_iload_n (pc := 68) (dk dt_X10_digits 35 rfl) rfl ?_
              refine a_bipush (pc := 69) (dk dt_X10_digits 36 rfl) (ik rfl) (bpk rfl) ?_
              refine a_imul (pc := 71) (dk dt_X10_digits 37 rfl) ?_
              refine a_aload_n (pc := 72) (dk dt_X10_digits 38 rfl) rfl ?_
              refine a_aload_n (pc := 73) (dk dt_X10_digits 39 rfl) rfl ?_
              refine a_geti (pc := 74) (dk dt_X10_digits 40 rfl) cls_10 fl_RX10_22 cf_2_2 ?_
              refine a_callVi (as := [iv (h2 2 2)]) (st := [iv (w32 (x2 * 10))]) (pc := 77) (dk dt_X10_digits 41 rfl) cl_RX10_32 ⟨Nat.le_of_ble_eq_true rfl, Nat.le_of_ble_eq_true rfl⟩ ⟨Nat.le_of_ble_eq_true rfl, Nat.le_of_ble_eq_true rfl⟩ cls_10 rfl cc_2 rfl rfl rfl (Nat.le_of_ble_eq_true rfl) (Call.mono H fun r3 h4 H => ?_)
              refine a_iadd (pc := 80) (dk dt_X10_digits 42 rfl) ?_
              refine a_bipush (pc := 81) (dk dt_X10_digits 43 rfl) (ik rfl) (bpk rfl) ?_
              refine a_isub (pc := 83) (dk dt_X10_digits 44 rfl) ?_
              refine a_istore_n (pc := 84) (dk dt_X10_digits 45 rfl) (by decide) rfl rfl ?_
              refine a_aload_n (pc := 85) (dk dt_X10_digits 46 rfl) rfl ?_
              refine a_dup (pc := 86) (dk dt_X10_digits 47 rfl) rfl ?_
              refine a_geti (pc := 87) (dk dt_X10_digits 48 rfl) cls_10 fl_RX10_22 cf_2_2 ?_
              refine a_iconst (pc := 90) (dk dt_X10_digits 49 rfl) (ik rfl) ?_
              refine a_iadd (pc := 91) (dk dt_X10_digits 50 rfl) ?_
              refine a_puti (pc := 92) (dk dt_X10_digits 51 rfl) cls_10 fl_RX10_22 cf_2_2 rfl rfl ?_
              refine a_iinc (pc := 95) (dk dt_X10_digits 52 rfl) (by decide) rfl rfl rfl ?_
              refine a_goto (pc := 98) (dk dt_X10_digits 53 rfl) (tgt := 9) rfl ?_
              exact a_pick [0, 1, 2, 3] rfl H
            · replace H := H.2 c
              refine a_aload_n (pc := 47) (dk dt_X10_digits 25 rfl) rfl ?_
              refine a_iload_n (pc := 48) (dk dt_X10_digits 26 rfl) rfl ?_
              refine a_callVi (as := [iv x1]) (st := []) (pc := 49) (dk dt_X10_digits 27 rfl) cl_RX10_32 ⟨Nat.le_of_ble_eq_true rfl, Nat.le_of_ble_eq_true rfl⟩ ⟨Nat.le_of_ble_eq_true rfl, Nat.le_of_ble_eq_true rfl⟩ cls_10 rfl cc_2 rfl rfl rfl (Nat.le_of_ble_eq_true rfl) (Call.mono H fun r5 h6 H => ?_)
              refine a_bipush (pc := 52) (dk dt_X10_digits 28 rfl) (ik rfl) (bpk rfl) ?_
              refine a_icmp_ne (pc := 54) (dk dt_X10_digits 29 rfl) (tgt := 68) rfl ⟨fun c => ?_, fun c => ?_⟩
              · replace H := H.1 c
                refine a_iload_n (pc := 68) (dk dt_X10_digits 35 rfl) rfl ?_
                refine a_bipush (pc := 69) (dk dt_X10_digits 36 rfl) (ik rfl) (bpk rfl) ?_
                refine a_imul (pc := 71) (dk dt_X10_digits 37 rfl) ?_
                refine a_aload_n (pc := 72) (dk dt_X10_digits 38 rfl) rfl ?_
                refine a_aload_n (pc := 73) (dk dt_X10_digits 39 rfl) rfl ?_
                refine a_geti (pc := 74) (dk dt_X10_digits 40 rfl) cls_10 fl_RX10_22 cf_2_2 ?_
                refine a_callVi (as := [iv (h6 2 2)]) (st := [iv (w32 (x2 * 10))]) (pc := 77) (dk dt_X10_digits 41 rfl) cl_RX10_32 ⟨Nat.le_of_ble_eq_true rfl, Nat.le_of_ble_eq_true rfl⟩ ⟨Nat.le_of_ble_eq_true rfl, Nat.le_of_ble_eq_true rfl⟩ cls_10 rfl cc_2 rfl rfl rfl (Nat.le_of_ble_eq_true rfl) (Call.mono H fun r7 h8 H => ?_)
                refine a_iadd (pc := 80) (dk dt_X10_digits 42 rfl) ?_
                refine a_bipush (pc := 81) (dk dt_X10_digits 43 rfl) (ik rfl) (bpk rfl) ?_
                refine a_isub (pc := 83) (dk dt_X10_digits 44 rfl) ?_
                refine a_istore_n (pc := 84) (dk dt_X10_digits 45 rfl) (by decide) rfl rfl ?_
                refine a_aload_n (pc := 85) (dk dt_X10_digits 46 rfl) rfl ?_
                refine a_dup (pc := 86) (dk dt_X10_digits 47 rfl) rfl ?_
                refine a_geti (pc := 87) (dk dt_X10_digits 48 rfl) cls_10 fl_RX10_22 cf_2_2 ?_
                refine a_iconst (pc := 90) (dk dt_X10_digits 49 rfl) (ik rfl) ?_
                refine a_iadd (pc := 91) (dk dt_X10_digits 50 rfl) ?_
                refine a_puti (pc := 92) (dk dt_X10_digits 51 rfl) cls_10 fl_RX10_22 cf_2_2 rfl rfl ?_
                refine a_iinc (pc := 95) (dk dt_X10_digits 52 rfl) (by decide) rfl rfl rfl ?_
                refine a_goto (pc := 98) (dk dt_X10_digits 53 rfl) (tgt := 9) rfl ?_
                exact a_pick [0, 1, 2, 3] rfl H
              · replace H := H.2 c
                refine a_aload_n (pc := 57) (dk dt_X10_digits 30 rfl) rfl ?_
                refine a_aload_n (pc := 58) (dk dt_X10_digits 31 rfl) rfl ?_
                refine a_geti (pc := 59) (dk dt_X10_digits 32 rfl) cls_10 fl_RX10_22 cf_2_2 ?_
                refine a_puti (pc := 62) (dk dt_X10_digits 33 rfl) cls_10 fl_RX10_15 cf_2_3 rfl rfl ?_
                refine a_goto (pc := 65) (dk dt_X10_digits 34 rfl) (tgt := 95) rfl ?_
                refine a_iinc (pc := 95) (dk dt_X10_digits 52 rfl) (by decide) rfl rfl rfl ?_
                refine a_goto (pc := 98) (dk dt_X10_digits 53 rfl) (tgt := 9) rfl ?_
                exact a_pick [0, 1, 2, 3] rfl H
set_option maxHeartbeats 40000000 in
theorem U_X3_readProgram_4_2_0 {G : GG} {Φ : Int → Hp → Prop} {h : Hp} (H : Call G m_X3_erase [rv 4, iv 0, iv (h 4 0)] (up (up h 2 2 0) 2 3 (-1)) (fun _ h2 => AT G m_X3_readProgram 15 [(0, rv 4), (1, rv 2), (2, iv 0)] [] h2 Φ)) : AT G m_X3_readProgram 0 [(0, rv 4), (1, rv 2)] [] h Φ := by
  refine a_aload_n (pc := 0) (dk dt_X3_readProgram 0 rfl) rfl ?_
  refine a_callVv (as := []) (st := []) (pc := 1) (dk dt_X3_readProgram 1 rfl) cl_RX3_110 ⟨Nat.le_of_ble_eq_true rfl, Nat.le_of_ble_eq_true rfl⟩ ⟨Nat.le_of_ble_eq_true rfl, Nat.le_of_ble_eq_true rfl⟩ cls_10 rfl cc_2 rfl rfl rfl (Nat.le_of_ble_eq_true rfl) (Call.of rfl (Nat.le_of_ble_eq_true rfl) rfl ?_)
  refine a_aload_n (pc := 0) (dk dt_X10_open 0 rfl) rfl ?_
  refine a_iconst (pc := 1) (dk dt_X10_open 1 rfl) (ik rfl) ?_
  refine a_puti (pc := 2) (dk dt_X10_open 2 rfl) cls_10 fl_RX10_22 cf_2_2 rfl rfl ?_
  refine a_aload_n (pc := 5) (dk dt_X10_open 3 rfl) rfl ?_
  refine a_iconst (pc := 6) (dk dt_X10_open 4 rfl) (ik rfl) ?_
  refine a_puti (pc := 7) (dk dt_X10_open 5 rfl) cls_10 fl_RX10_15 cf_2_3 rfl rfl ?_
  refine a_vret (pc := 10) (dk dt_X10_open 6 rfl) rfl rfl ?_
  show ATW _ _ _ _ _ _ _ _ _ _
  refine a_aload_n (pc := 4) (dk dt_X3_readProgram 2 rfl) rfl ?_
  refine a_iconst (pc := 5) (dk dt_X3_readProgram 3 rfl) (ik rfl) ?_
  refine a_aload_n (pc := 6) (dk dt_X3_readProgram 4 rfl) rfl ?_
  refine a_geti (pc := 7) (dk dt_X3_readProgram 5 rfl) cls_3 fl_RX3_9 cf_4_0 ?_
  refine a_top (y := (h 4 0)) (by simp [up, cpy]) ?_
  refine a_callVv (as := [iv 0, iv (h 4 0)]) (st := []) (pc := 10) (dk dt_X3_readProgram 6 rfl) cl_RX3_115 ⟨Nat.le_of_ble_eq_true rfl, Nat.le_of_ble_eq_true rfl⟩ ⟨Nat.le_of_ble_eq_true rfl, Nat.le_of_ble_eq_true rfl⟩ cls_3 rfl cc_4 rfl rfl rfl (Nat.le_of_ble_eq_true rfl) (Call.mono H fun _ h2 H => ?_)
  refine a_iconst (pc := 13) (dk dt_X3_readProgram 7 rfl) (ik rfl) ?_
  refine a_istore_n (pc := 14) (dk dt_X3_readProgram 8 rfl) (by decide) rfl rfl ?_
  exact a_pick [0, 1, 2] rfl H
set_option maxHeartbeats 40000000 in
theorem U_X3_readProgram_4_2_15 {G : GG} {Φ : Int → Hp → Prop} {h : Hp} {x2 : Int} (H : (((h 4 0) ≤ x2 → Φ x2 h) ∧ (x2 < (h 4 0) → (((h 2 3) ≠ (-1) → Φ x2 h) ∧ ((h 2 3) = (-1) → ((x2 = 0 → Call G m_X3_readLine [rv 4, rv 2, iv x2] h (fun _ h2 => Call G m_X10_skip [rv 2, iv 10] h2 (fun _ h4 => AT G m_X3_readProgram 15 [(0, rv 4), (1, rv 2), (2, iv (w32 (x2 + 1)))] [] h4 Φ))) ∧ (x2 ≠ 0 → (((h 2 2) < (h 2 1) → Call G m_X3_readLine [rv 4, rv 2, iv x2] h (fun _ h6 => Call G m_X10_skip [rv 2, iv 10] h6 (fun _ h8 => AT G m_X3_readProgram 15 [(0, rv 4), (1, rv 2), (2, iv (w32 (x2 + 1)))] [] h8 Φ))) ∧ ((h 2 1) ≤ (h 2 2) → Φ x2 h))))))))) : AT G m_X3_readProgram 15 [(0, rv 4), (1, rv 2), (2, iv x2)] [] h Φ := by
  refine a_iload_n (pc := 15) (dk dt_X3_readProgram 9 rfl) rfl ?_
  refine a_aload_n (pc := 16) (dk dt_X3_readProgram 10 rfl) rfl ?_
  refine a_geti (pc := 17) (dk dt_X3_readProgram 11 rfl) cls_3 fl_RX3_9 cf_4_0 ?_
  refine a_icmp_ge (pc := 20) (dk dt_X3_readProgram 12 rfl) (tgt := 59) rfl ⟨fun c => ?_, fun c => ?_⟩
  · replace H := H.1 c
    refine a_iload_n (pc := 59) (dk dt_X3_readProgram 30 rfl) rfl ?_
    exact a_iret (pc := 60) (dk dt_X3_readProgram 31 rfl) rfl rfl H
  · replace H := H.2 c
    refine a_aload_n (pc := 23) (dk dt_X3_readProgram 13 rfl) rfl ?_
    refine a_callVi (as := []) (st := []) (pc := 24) (dk dt_X3_readProgram 14 rfl) cl_RX3_119 ⟨Nat.le_of_ble_eq_true rfl, Nat.le_of_ble_eq_true rfl⟩ ⟨Nat.le_of_ble_eq_true rfl, Nat.le_of_ble_eq_true rfl⟩ cls_10 rfl cc_2 rfl rfl rfl (Nat.le_of_ble_eq_true rfl) (Call.of rfl (Nat.le_of_ble_eq_true rfl) rfl ?_)
    refine a_aload_n (pc := 0) (dk dt_X10_isRight 0 rfl) rfl ?_
    refine a_geti (pc := 1) (dk dt_X10_isRight 1 rfl) cls_10 fl_RX10_15 cf_2_3 ?_
    refine a_iconst (pc := 4) (dk dt_X10_isRight 2 rfl) (ik rfl) ?_
    refine a_icmp_ne (pc := 5) (dk dt_X10_isRight 3 rfl) (tgt := 12) rfl ⟨fun c => ?_, fun c => ?_⟩
    · replace H := H.1 c
      refine a_iconst (pc := 12) (dk dt_X10_isRight 6 rfl) (ik rfl) ?_
      refine a_zret (pc := 13) (dk dt_X10_isRight 7 rfl) rfl rfl ⟨by decide, ?_⟩
      show ATW _ _ _ _ _ _ _ _ _ _
      refine a_if_eq (pc := 27) (dk dt_X3_readProgram 15 rfl) (tgt := 59) rfl ⟨fun _ => ?_, fun c => absurd c (by decide)⟩
      refine a_iload_n (pc := 59) (dk dt_X3_readProgram 30 rfl) rfl ?_
      exact a_iret (pc := 60) (dk dt_X3_readProgram 31 rfl) rfl rfl H
    · replace H := H.2 c
      refine a_iconst (pc := 8) (dk dt_X10_isRight 4 rfl) (ik rfl) ?_
      refine a_goto (pc := 9) (dk dt_X10_isRight 5 rfl) (tgt := 13) rfl ?_
      refine a_zret (pc := 13) (dk dt_X10_isRight 7 rfl) rfl rfl ⟨by decide, ?_⟩
      show ATW _ _ _ _ _ _ _ _ _ _
      refine a_if_eq (pc := 27) (dk dt_X3_readProgram 15 rfl) (tgt := 59) rfl ⟨fun c => absurd c (by decide), fun _ => ?_⟩
      refine a_iload_n (pc := 30) (dk dt_X3_readProgram 16 rfl) rfl ?_
      refine a_if_eq (pc := 31) (dk dt_X3_readProgram 17 rfl) (tgt := 41) rfl ⟨fun c => ?_, fun c => ?_⟩
      · replace H := H.1 c
        refine a_aload_n (pc := 41) (dk dt_X3_readProgram 21 rfl) rfl ?_
        refine a_aload_n (pc := 42) (dk dt_X3_readProgram 22 rfl) rfl ?_
        refine a_iload_n (pc := 43) (dk dt_X3_readProgram 23 rfl) rfl ?_
        refine a_callVv (as := [rv 2, iv x2]) (st := []) (pc := 44) (dk dt_X3_readProgram 24 rfl) cl_RX3_126 ⟨Nat.le_of_ble_eq_true rfl, Nat.le_of_ble_eq_true rfl⟩ ⟨Nat.le_of_ble_eq_true rfl, Nat.le_of_ble_eq_true rfl⟩ cls_3 rfl cc_4 rfl rfl rfl (Nat.le_of_ble_eq_true rfl) (Call.mono H fun _ h2 H => ?_)
        refine a_aload_n (pc := 47) (dk dt_X3_readProgram 25 rfl) rfl ?_
        refine a_bipush (pc := 48) (dk dt_X3_readProgram 26 rfl) (ik rfl) (bpk rfl) ?_
        refine a_callVv (as := [iv 10]) (st := []) (pc := 50) (dk dt_X3_readProgram 27 rfl) cl_RX3_130 ⟨Nat.le_of_ble_eq_true rfl, Nat.le_of_ble_eq_true rfl⟩ ⟨Nat.le_of_ble_eq_true rfl, Nat.le_of_ble_eq_true rfl⟩ cls_10 rfl cc_2 rfl rfl rfl (Nat.le_of_ble_eq_true rfl) (Call.mono H fun _ h4 H => ?_)
        refine a_iinc (pc := 53) (dk dt_X3_readProgram 28 rfl) (by decide) rfl rfl rfl ?_
        refine a_goto (pc := 56) (dk dt_X3_readProgram 29 rfl) (tgt := 15) rfl ?_
        exact a_pick [0, 1, 2] rfl H
      · replace H := H.2 c
        refine a_aload_n (pc := 34) (dk dt_X3_readProgram 18 rfl) rfl ?_
        refine a_callVi (as := []) (st := []) (pc := 35) (dk dt_X3_readProgram 19 rfl) cl_RX3_123 ⟨Nat.le_of_ble_eq_true rfl, Nat.le_of_ble_eq_true rfl⟩ ⟨Nat.le_of_ble_eq_true rfl, Nat.le_of_ble_eq_true rfl⟩ cls_10 rfl cc_2 rfl rfl rfl (Nat.le_of_ble_eq_true rfl) (Call.of rfl (Nat.le_of_ble_eq_true rfl) rfl ?_)
        refine a_aload_n (pc := 0) (dk dt_X10_isAtEnd 0 rfl) rfl ?_
        refine a_geti (pc := 1) (dk dt_X10_isAtEnd 1 rfl) cls_10 fl_RX10_22 cf_2_2 ?_
        refine a_aload_n (pc := 4) (dk dt_X10_isAtEnd 2 rfl) rfl ?_
        refine a_geti (pc := 5) (dk dt_X10_isAtEnd 3 rfl) cls_10 fl_RX10_19 cf_2_1 ?_
        refine a_icmp_lt (pc := 8) (dk dt_X10_isAtEnd 4 rfl) (tgt := 15) rfl ⟨fun c => ?_, fun c => ?_⟩
        · replace H := H.1 c
          refine a_iconst (pc := 15) (dk dt_X10_isAtEnd 7 rfl) (ik rfl) ?_
          refine a_zret (pc := 16) (dk dt_X10_isAtEnd 8 rfl) rfl rfl ⟨by decide, ?_⟩
          show ATW _ _ _ _ _ _ _ _ _ _
          refine a_if_ne (pc := 38) (dk dt_X3_readProgram 20 rfl) (tgt := 59) rfl ⟨fun c => absurd c (by decide), fun _ => ?_⟩
          refine a_aload_n (pc := 41) (dk dt_X3_readProgram 21 rfl) rfl ?_
          refine a_aload_n (pc := 42) (dk dt_X3_readProgram 22 rfl) rfl ?_
          refine a_iload_n (pc := 43) (dk dt_X3_readProgram 23 rfl) rfl ?_
          refine a_callVv (as := [rv 2, iv x2]) (st := []) (pc := 44) (dk dt_X3_readProgram 24 rfl) cl_RX3_126 ⟨Nat.le_of_ble_eq_true rfl, Nat.le_of_ble_eq_true rfl⟩ ⟨Nat.le_of_ble_eq_true rfl, Nat.le_of_ble_eq_true rfl⟩ cls_3 rfl cc_4 rfl rfl rfl (Nat.le_of_ble_eq_true rfl) (Call.mono H fun _ h6 H => ?_)
          refine a_aload_n (pc := 47) (dk dt_X3_readProgram 25 rfl) rfl ?_
          refine a_bipush (pc := 48) (dk dt_X3_readProgram 26 rfl) (ik rfl) (bpk rfl) ?_
          refine a_callVv (as := [iv 10]) (st := []) (pc := 50) (dk dt_X3_readProgram 27 rfl) cl_RX3_130 ⟨Nat.le_of_ble_eq_true rfl, Nat.le_of_ble_eq_true rfl⟩ ⟨Nat.le_of_ble_eq_true rfl, Nat.le_of_ble_eq_true rfl⟩ cls_10 rfl cc_2 rfl rfl rfl (Nat.le_of_ble_eq_true rfl) (Call.mono H fun _ h8 H => ?_)
          refine a_iinc (pc := 53) (dk dt_X3_readProgram 28 rfl) (by decide) rfl rfl rfl ?_
          refine a_goto (pc := 56) (dk dt_X3_readProgram 29 rfl) (tgt := 15) rfl ?_
          exact a_pick [0, 1, 2] rfl H
        · replace H := H.2 c
          refine a_iconst (pc := 11) (dk dt_X10_isAtEnd 5 rfl) (ik rfl) ?_
          refine a_goto (pc := 12) (dk dt_X10_isAtEnd 6 rfl) (tgt := 16) rfl ?_
          refine a_zret (pc := 16) (dk dt_X10_isAtEnd 8 rfl) rfl rfl ⟨by decide, ?_⟩
          show ATW _ _ _ _ _ _ _ _ _ _
          refine a_if_ne (pc := 38) (dk dt_X3_readProgram 20 rfl) (tgt := 59) rfl ⟨fun _ => ?_, fun c => absurd c (by decide)⟩
          refine a_iload_n (pc := 59) (dk dt_X3_readProgram 30 rfl) rfl ?_
          exact a_iret (pc := 60) (dk dt_X3_readProgram 31 rfl) rfl rfl H
set_option maxHeartbeats 40000000 in
theorem U_X3_readMonitor_4_2_0 {G : GG} {Φ : Int → Hp → Prop} {h : Hp} (H : ((0 < (h 2 1) → Call G m_X3_readCondition [rv 4, rv 2, iv 0] (up (up h 2 2 0) 2 3 (-1)) (fun _ h2 => Φ 0 h2)) ∧ ((h 2 1) ≤ 0 → Φ 0 (up (up h 2 2 0) 2 3 (-1))))) : AT G m_X3_readMonitor 0 [(0, rv 4), (1, rv 2)] [] h Φ := by
  refine a_aload_n (pc := 0) (dk dt_X3_readMonitor 0 rfl) rfl ?_
  refine a_callVv (as := []) (st := []) (pc := 1) (dk dt_X3_readMonitor 1 rfl) cl_RX3_110 ⟨Nat.le_of_ble_eq_true rfl, Nat.le_of_ble_eq_true rfl⟩ ⟨Nat.le_of_ble_eq_true rfl, Nat.le_of_ble_eq_true rfl⟩ cls_10 rfl cc_2 rfl rfl rfl (Nat.le_of_ble_eq_true rfl) (Call.of rfl (Nat.le_of_ble_eq_true rfl) rfl ?_)
  refine a_aload_n (pc := 0) (dk dt_X10_open 0 rfl) rfl ?_
  refine a_iconst (pc := 1) (dk dt_X10_open 1 rfl) (ik rfl) ?_
  refine a_puti (pc := 2) (dk dt_X10_open 2 rfl) cls_10 fl_RX10_22 cf_2_2 rfl rfl ?_
  refine a_aload_n (pc := 5) (dk dt_X10_open 3 rfl) rfl ?_
  refine a_iconst (pc := 6) (dk dt_X10_open 4 rfl) (ik rfl) ?_
  refine a_puti (pc := 7) (dk dt_X10_open 5 rfl) cls_10 fl_RX10_15 cf_2_3 rfl rfl ?_
  refine a_vret (pc := 10) (dk dt_X10_open 6 rfl) rfl rfl ?_
  show ATW _ _ _ _ _ _ _ _ _ _
  refine a_aload_n (pc := 4) (dk dt_X3_readMonitor 2 rfl) rfl ?_
  refine a_callVi (as := []) (st := []) (pc := 5) (dk dt_X3_readMonitor 3 rfl) cl_RX3_123 ⟨Nat.le_of_ble_eq_true rfl, Nat.le_of_ble_eq_true rfl⟩ ⟨Nat.le_of_ble_eq_true rfl, Nat.le_of_ble_eq_true rfl⟩ cls_10 rfl cc_2 rfl rfl rfl (Nat.le_of_ble_eq_true rfl) (Call.of rfl (Nat.le_of_ble_eq_true rfl) rfl ?_)
  refine a_aload_n (pc := 0) (dk dt_X10_isAtEnd 0 rfl) rfl ?_
  refine a_geti (pc := 1) (dk dt_X10_isAtEnd 1 rfl) cls_10 fl_RX10_22 cf_2_2 ?_
  refine a_top (y := 0) (by simp [up, cpy]) ?_
  refine a_aload_n (pc := 4) (dk dt_X10_isAtEnd 2 rfl) rfl ?_
  refine a_geti (pc := 5) (dk dt_X10_isAtEnd 3 rfl) cls_10 fl_RX10_19 cf_2_1 ?_
  refine a_top (y := (h 2 1)) (by simp [up, cpy]) ?_
  refine a_icmp_lt (pc := 8) (dk dt_X10_isAtEnd 4 rfl) (tgt := 15) rfl ⟨fun c => ?_, fun c => ?_⟩
  · replace H := H.1 c
    refine a_iconst (pc := 15) (dk dt_X10_isAtEnd 7 rfl) (ik rfl) ?_
    refine a_zret (pc := 16) (dk dt_X10_isAtEnd 8 rfl) rfl rfl ⟨by decide, ?_⟩
    show ATW _ _ _ _ _ _ _ _ _ _
    refine a_if_ne (pc := 8) (dk dt_X3_readMonitor 4 rfl) (tgt := 17) rfl ⟨fun c => absurd c (by decide), fun _ => ?_⟩
    refine a_aload_n (pc := 11) (dk dt_X3_readMonitor 5 rfl) rfl ?_
    refine a_aload_n (pc := 12) (dk dt_X3_readMonitor 6 rfl) rfl ?_
    refine a_iconst (pc := 13) (dk dt_X3_readMonitor 7 rfl) (ik rfl) ?_
    refine a_callVv (as := [rv 2, iv 0]) (st := []) (pc := 14) (dk dt_X3_readMonitor 8 rfl) cl_RX3_145 ⟨Nat.le_of_ble_eq_true rfl, Nat.le_of_ble_eq_true rfl⟩ ⟨Nat.le_of_ble_eq_true rfl, Nat.le_of_ble_eq_true rfl⟩ cls_3 rfl cc_4 rfl rfl rfl (Nat.le_of_ble_eq_true rfl) (Call.mono H fun _ h2 H => ?_)
    exact a_vret (pc := 17) (dk dt_X3_readMonitor 9 rfl) rfl rfl H
  · replace H := H.2 c
    refine a_iconst (pc := 11) (dk dt_X10_isAtEnd 5 rfl) (ik rfl) ?_
    refine a_goto (pc := 12) (dk dt_X10_isAtEnd 6 rfl) (tgt := 16) rfl ?_
    refine a_zret (pc := 16) (dk dt_X10_isAtEnd 8 rfl) rfl rfl ⟨by decide, ?_⟩
    show ATW _ _ _ _ _ _ _ _ _ _
    refine a_if_ne (pc := 8) (dk dt_X3_readMonitor 4 rfl) (tgt := 17) rfl ⟨fun _ => ?_, fun c => absurd c (by decide)⟩
    exact a_vret (pc := 17) (dk dt_X3_readMonitor 9 rfl) rfl rfl H
set_option maxHeartbeats 40000000 in
theorem U_X3_countFrom_36_0 {G : GG} {Φ : Int → Hp → Prop} {h : Hp} {x1 : Int} (H : AT G m_X3_countFrom 2 [(0, rv 36), (1, iv x1), (2, iv 0)] [] h Φ) : AT G m_X3_countFrom 0 [(0, rv 36), (1, iv x1)] [] h Φ := by
  refine a_iconst (pc := 0) (dk dt_X3_countFrom 0 rfl) (ik rfl) ?_
  refine a_istore_n (pc := 1) (dk dt_X3_countFrom 1 rfl) (by decide) rfl rfl ?_
  exact a_pick [0, 1, 2] rfl H
set_option maxHeartbeats 40000000 in
theorem U_X3_countFrom_36_2 {G : GG} {Φ : Int → Hp → Prop} {h : Hp} {x1 : Int} {x2 : Int} (H : ((30 ≤ x2 → Φ x2 h) ∧ (x2 < 30 → Call G m_X3_isThere [rv 36, iv (w32 (x1 + x2))] h (fun r1 h2 => ((r1 = 0 → Φ x2 h2) ∧ (r1 ≠ 0 → AT G m_X3_countFrom 2 [(0, rv 36), (1, iv x1), (2, iv (w32 (x2 + 1)))] [] h2 Φ)))))) : AT G m_X3_countFrom 2 [(0, rv 36), (1, iv x1), (2, iv x2)] [] h Φ := by
  refine a_iload_n (pc := 2) (dk dt_X3_countFrom 2 rfl) rfl ?_
  refine a_bipush (pc := 3) (dk dt_X3_countFrom 3 rfl) (ik rfl) (bpk rfl) ?_
  refine a_icmp_ge (pc := 5) (dk dt_X3_countFrom 4 rfl) (tgt := 24) rfl ⟨fun c => ?_, fun c => ?_⟩
  · replace H := H.1 c
    refine a_iload_n (pc := 24) (dk dt_X3_countFrom 13 rfl) rfl ?_
    exact a_iret (pc := 25) (dk dt_X3_countFrom 14 rfl) rfl rfl H
  · replace H := H.2 c
    refine a_aload_n (pc := 8) (dk dt_X3_countFrom 5 rfl) rfl ?_
    refine a_iload_n (pc := 9) (dk dt_X3_countFrom 6 rfl) rfl ?_
    refine a_iload_n (pc := 10) (dk dt_X3_countFrom 7 rfl) rfl ?_
    refine a_iadd (pc := 11) (dk dt_X3_countFrom 8 rfl) ?_
    refine a_callVi (as := [iv (w32 (x1 + x2))]) (st := []) (pc := 12) (dk dt_X3_countFrom 9 rfl) cl_RX3_106 ⟨Nat.le_of_ble_eq_true rfl, Nat.le_of_ble_eq_true rfl⟩ ⟨Nat.le_of_ble_eq_true rfl, Nat.le_of_ble_eq_true rfl⟩ cls_3 rfl cc_36 rfl rfl rfl (Nat.le_of_ble_eq_true rfl) (Call.mono H fun r1 h2 H => ?_)
    refine a_if_eq (pc := 15) (dk dt_X3_countFrom 10 rfl) (tgt := 24) rfl ⟨fun c => ?_, fun c => ?_⟩
    · replace H := H.1 c
      refine a_iload_n (pc := 24) (dk dt_X3_countFrom 13 rfl) rfl ?_
      exact a_iret (pc := 25) (dk dt_X3_countFrom 14 rfl) rfl rfl H
    · replace H := H.2 c
      refine a_iinc (pc := 18) (dk dt_X3_countFrom 11 rfl) (by decide) rfl rfl rfl ?_
      refine a_goto (pc := 21) (dk dt_X3_countFrom 12 rfl) (tgt := 2) rfl ?_
      exact a_pick [0, 1, 2] rfl H
set_option maxHeartbeats 40000000 in
theorem U_X3_readCommand_4_2_0 {G : GG} {Φ : Int → Hp → Prop} {h : Hp} (H : Call G m_X10_told [rv 2, iv 6, iv 15] (up (up h 2 2 0) 2 3 (-1)) (fun r1 h2 => ((r1 ≠ 14 → Call G m_X3_readRest [rv 4, rv 2, iv 0, iv r1] (up h2 10 0 (-1)) (fun _ h4 => Φ 0 h4)) ∧ (r1 = 14 → Call G m_X10_skip [rv 2, iv 32] h2 (fun _ h6 => Call G m_X10_number [rv 2, iv 0, iv 7] h6 (fun r7 h8 => Call G m_X10_skip [rv 2, iv 32] h8 (fun _ h10 => Call G m_X10_number [rv 2, iv 0, iv 29] h10 (fun r11 h12 => Call G m_X10_skip [rv 2, iv 32] (up h12 10 0 (w32 ((w32 (r7 * 30)) + r11))) (fun _ h14 => Call G m_X3_readLine [rv 4, rv 2, iv 0] h14 (fun _ h16 => Φ 0 h16)))))))))) : AT G m_X3_readCommand 0 [(0, rv 4), (1, rv 2)] [] h Φ := by
  refine a_aload_n (pc := 0) (dk dt_X3_readCommand 0 rfl) rfl ?_
  refine a_callVv (as := []) (st := []) (pc := 1) (dk dt_X3_readCommand 1 rfl) cl_RX3_110 ⟨Nat.le_of_ble_eq_true rfl, Nat.le_of_ble_eq_true rfl⟩ ⟨Nat.le_of_ble_eq_true rfl, Nat.le_of_ble_eq_true rfl⟩ cls_10 rfl cc_2 rfl rfl rfl (Nat.le_of_ble_eq_true rfl) (Call.of rfl (Nat.le_of_ble_eq_true rfl) rfl ?_)
  refine a_aload_n (pc := 0) (dk dt_X10_open 0 rfl) rfl ?_
  refine a_iconst (pc := 1) (dk dt_X10_open 1 rfl) (ik rfl) ?_
  refine a_puti (pc := 2) (dk dt_X10_open 2 rfl) cls_10 fl_RX10_22 cf_2_2 rfl rfl ?_
  refine a_aload_n (pc := 5) (dk dt_X10_open 3 rfl) rfl ?_
  refine a_iconst (pc := 6) (dk dt_X10_open 4 rfl) (ik rfl) ?_
  refine a_puti (pc := 7) (dk dt_X10_open 5 rfl) cls_10 fl_RX10_15 cf_2_3 rfl rfl ?_
  refine a_vret (pc := 10) (dk dt_X10_open 6 rfl) rfl rfl ?_
  show ATW _ _ _ _ _ _ _ _ _ _
  refine a_aload_n (pc := 4) (dk dt_X3_readCommand 2 rfl) rfl ?_
  refine a_bipush (pc := 5) (dk dt_X3_readCommand 3 rfl) (ik rfl) (bpk rfl) ?_
  refine a_bipush (pc := 7) (dk dt_X3_readCommand 4 rfl) (ik rfl) (bpk rfl) ?_
  refine a_callVi (as := [iv 6, iv 15]) (st := []) (pc := 9) (dk dt_X3_readCommand 5 rfl) cl_RX3_134 ⟨Nat.le_of_ble_eq_true rfl, Nat.le_of_ble_eq_true rfl⟩ ⟨Nat.le_of_ble_eq_true rfl, Nat.le_of_ble_eq_true rfl⟩ cls_10 rfl cc_2 rfl rfl rfl (Nat.le_of_ble_eq_true rfl) (Call.mono H fun r1 h2 H => ?_)
  refine a_istore_n (pc := 12) (dk dt_X3_readCommand 6 rfl) (by decide) rfl rfl ?_
  refine a_iload_n (pc := 13) (dk dt_X3_readCommand 7 rfl) rfl ?_
  refine a_bipush (pc := 14) (dk dt_X3_readCommand 8 rfl) (ik rfl) (bpk rfl) ?_
  refine a_icmp_ne (pc := 16) (dk dt_X3_readCommand 9 rfl) (tgt := 72) rfl ⟨fun c => ?_, fun c => ?_⟩
  · replace H := H.1 c
    refine a_aload_n (pc := 72) (dk dt_X3_readCommand 41 rfl) rfl ?_
    refine a_getr (r := 9) (pc := 73) (dk dt_X3_readCommand 42 rfl) cls_3 fl_RX3_31 cf_4_6 ?_
    refine a_iconst (pc := 76) (dk dt_X3_readCommand 43 rfl) (ik rfl) ?_
    refine a_iconst (pc := 77) (dk dt_X3_readCommand 44 rfl) (ik rfl) ?_
    refine a_iast (pc := 78) (dk dt_X3_readCommand 45 rfl) ar_10 ⟨⟨by decide, by decide⟩, ?_⟩
    refine a_aload_n (pc := 79) (dk dt_X3_readCommand 46 rfl) rfl ?_
    refine a_aload_n (pc := 80) (dk dt_X3_readCommand 47 rfl) rfl ?_
    refine a_iconst (pc := 81) (dk dt_X3_readCommand 48 rfl) (ik rfl) ?_
    refine a_iload_n (pc := 82) (dk dt_X3_readCommand 49 rfl) rfl ?_
    refine a_callVv (as := [rv 2, iv 0, iv r1]) (st := []) (pc := 83) (dk dt_X3_readCommand 50 rfl) cl_RX3_141 ⟨Nat.le_of_ble_eq_true rfl, Nat.le_of_ble_eq_true rfl⟩ ⟨Nat.le_of_ble_eq_true rfl, Nat.le_of_ble_eq_true rfl⟩ cls_3 rfl cc_4 rfl rfl rfl (Nat.le_of_ble_eq_true rfl) (Call.mono H fun _ h4 H => ?_)
    exact a_vret (pc := 86) (dk dt_X3_readCommand 51 rfl) rfl rfl H
  · replace H := H.2 c
    refine a_aload_n (pc := 19) (dk dt_X3_readCommand 10 rfl) rfl ?_
    refine a_bipush (pc := 20) (dk dt_X3_readCommand 11 rfl) (ik rfl) (bpk rfl) ?_
    refine a_callVv (as := [iv 32]) (st := []) (pc := 22) (dk dt_X3_readCommand 12 rfl) cl_RX3_130 ⟨Nat.le_of_ble_eq_true rfl, Nat.le_of_ble_eq_true rfl⟩ ⟨Nat.le_of_ble_eq_true rfl, Nat.le_of_ble_eq_true rfl⟩ cls_10 rfl cc_2 rfl rfl rfl (Nat.le_of_ble_eq_true rfl) (Call.mono H fun _ h6 H => ?_)
    refine a_aload_n (pc := 25) (dk dt_X3_readCommand 13 rfl) rfl ?_
    refine a_iconst (pc := 26) (dk dt_X3_readCommand 14 rfl) (ik rfl) ?_
    refine a_bipush (pc := 27) (dk dt_X3_readCommand 15 rfl) (ik rfl) (bpk rfl) ?_
    refine a_callVi (as := [iv 0, iv 7]) (st := []) (pc := 29) (dk dt_X3_readCommand 16 rfl) cl_RX3_138 ⟨Nat.le_of_ble_eq_true rfl, Nat.le_of_ble_eq_true rfl⟩ ⟨Nat.le_of_ble_eq_true rfl, Nat.le_of_ble_eq_true rfl⟩ cls_10 rfl cc_2 rfl rfl rfl (Nat.le_of_ble_eq_true rfl) (Call.mono H fun r7 h8 H => ?_)
    refine a_istore_n (pc := 32) (dk dt_X3_readCommand 17 rfl) (by decide) rfl rfl ?_
    refine a_aload_n (pc := 33) (dk dt_X3_readCommand 18 rfl) rfl ?_
    refine a_bipush (pc := 34) (dk dt_X3_readCommand 19 rfl) (ik rfl) (bpk rfl) ?_
    refine a_callVv (as := [iv 32]) (st := []) (pc := 36) (dk dt_X3_readCommand 20 rfl) cl_RX3_130 ⟨Nat.le_of_ble_eq_true rfl, Nat.le_of_ble_eq_true rfl⟩ ⟨Nat.le_of_ble_eq_true rfl, Nat.le_of_ble_eq_true rfl⟩ cls_10 rfl cc_2 rfl rfl rfl (Nat.le_of_ble_eq_true rfl) (Call.mono H fun _ h10 H => ?_)
    refine a_aload_n (pc := 39) (dk dt_X3_readCommand 21 rfl) rfl ?_
    refine a_getr (r := 9) (pc := 40) (dk dt_X3_readCommand 22 rfl) cls_3 fl_RX3_31 cf_4_6 ?_
    refine a_iconst (pc := 43) (dk dt_X3_readCommand 23 rfl) (ik rfl) ?_
    refine a_iload_n (pc := 44) (dk dt_X3_readCommand 24 rfl) rfl ?_
    refine a_bipush (pc := 45) (dk dt_X3_readCommand 25 rfl) (ik rfl) (bpk rfl) ?_
    refine a_imul (pc := 47) (dk dt_X3_readCommand 26 rfl) ?_
    refine a_aload_n (pc := 48) (dk dt_X3_readCommand 27 rfl) rfl ?_
    refine a_iconst (pc := 49) (dk dt_X3_readCommand 28 rfl) (ik rfl) ?_
    refine a_bipush (pc := 50) (dk dt_X3_readCommand 29 rfl) (ik rfl) (bpk rfl) ?_
    refine a_callVi (as := [iv 0, iv 29]) (st := [iv (w32 (r7 * 30)), iv 0, rv 10]) (pc := 52) (dk dt_X3_readCommand 30 rfl) cl_RX3_138 ⟨Nat.le_of_ble_eq_true rfl, Nat.le_of_ble_eq_true rfl⟩ ⟨Nat.le_of_ble_eq_true rfl, Nat.le_of_ble_eq_true rfl⟩ cls_10 rfl cc_2 rfl rfl rfl (Nat.le_of_ble_eq_true rfl) (Call.mono H fun r11 h12 H => ?_)
    refine a_iadd (pc := 55) (dk dt_X3_readCommand 31 rfl) ?_
    refine a_iast (pc := 56) (dk dt_X3_readCommand 32 rfl) ar_10 ⟨⟨by decide, by decide⟩, ?_⟩
    refine a_aload_n (pc := 57) (dk dt_X3_readCommand 33 rfl) rfl ?_
    refine a_bipush (pc := 58) (dk dt_X3_readCommand 34 rfl) (ik rfl) (bpk rfl) ?_
    refine a_callVv (as := [iv 32]) (st := []) (pc := 60) (dk dt_X3_readCommand 35 rfl) cl_RX3_130 ⟨Nat.le_of_ble_eq_true rfl, Nat.le_of_ble_eq_true rfl⟩ ⟨Nat.le_of_ble_eq_true rfl, Nat.le_of_ble_eq_true rfl⟩ cls_10 rfl cc_2 rfl rfl rfl (Nat.le_of_ble_eq_true rfl) (Call.mono H fun _ h14 H => ?_)
    refine a_aload_n (pc := 63) (dk dt_X3_readCommand 36 rfl) rfl ?_
    refine a_aload_n (pc := 64) (dk dt_X3_readCommand 37 rfl) rfl ?_
    refine a_iconst (pc := 65) (dk dt_X3_readCommand 38 rfl) (ik rfl) ?_
    refine a_callVv (as := [rv 2, iv 0]) (st := []) (pc := 66) (dk dt_X3_readCommand 39 rfl) cl_RX3_126 ⟨Nat.le_of_ble_eq_true rfl, Nat.le_of_ble_eq_true rfl⟩ ⟨Nat.le_of_ble_eq_true rfl, Nat.le_of_ble_eq_true rfl⟩ cls_3 rfl cc_4 rfl rfl rfl (Nat.le_of_ble_eq_true rfl) (Call.mono H fun _ h16 H => ?_)
    refine a_goto (pc := 69) (dk dt_X3_readCommand 40 rfl) (tgt := 86) rfl ?_
    exact a_vret (pc := 86) (dk dt_X3_readCommand 51 rfl) rfl rfl H
set_option maxHeartbeats 40000000 in
theorem U_X3_copy_36_4_0 {G : GG} {Φ : Int → Hp → Prop} {h : Hp} {x1 : Int} {x3 : Int} (H : (0 ≤ x3 ∧ x3 < 30) ∧ (0 ≤ x1 ∧ x1 < 240) ∧ (0 ≤ x3 ∧ x3 < 30) ∧ (0 ≤ x1 ∧ x1 < 240) ∧ (0 ≤ x3 ∧ x3 < 30) ∧ (0 ≤ x1 ∧ x1 < 240) ∧ (0 ≤ x3 ∧ x3 < 30) ∧ (0 ≤ x1 ∧ x1 < 240) ∧ (0 ≤ x3 ∧ x3 < 30) ∧ (0 ≤ x1 ∧ x1 < 240) ∧ (0 ≤ x3 ∧ x3 < 30) ∧ (0 ≤ x1 ∧ x1 < 240) ∧ Φ 0 (up (up (up (up (up (up h 37 x1 (h 5 x3)) 38 x1 (h 6 x3)) 39 x1 (h 7 x3)) 40 x1 (h 8 x3)) 41 x1 (h 9 x3)) 42 x1 (h 10 x3))) : AT G m_X3_copy 0 [(0, rv 36), (1, iv x1), (2, rv 4), (3, iv x3)] [] h Φ := by
  refine a_aload_n (pc := 0) (dk dt_X3_copy 0 rfl) rfl ?_
  refine a_getr (r := 36) (pc := 1) (dk dt_X3_copy 1 rfl) cls_3 fl_RX3_15 cf_36_1 ?_
  refine a_iload_n (pc := 4) (dk dt_X3_copy 2 rfl) rfl ?_
  refine a_aload_n (pc := 5) (dk dt_X3_copy 3 rfl) rfl ?_
  refine a_getr (r := 4) (pc := 6) (dk dt_X3_copy 4 rfl) cls_3 fl_RX3_15 cf_4_1 ?_
  refine a_iload_n (pc := 9) (dk dt_X3_copy 5 rfl) rfl ?_
  refine a_iald (pc := 10) (dk dt_X3_copy 6 rfl) ar_5 ⟨H.1, ?_⟩
  replace H := H.2
  refine a_iast (pc := 11) (dk dt_X3_copy 7 rfl) ar_37 ⟨H.1, ?_⟩
  replace H := H.2
  refine a_aload_n (pc := 12) (dk dt_X3_copy 8 rfl) rfl ?_
  refine a_getr (r := 37) (pc := 13) (dk dt_X3_copy 9 rfl) cls_3 fl_RX3_19 cf_36_2 ?_
  refine a_iload_n (pc := 16) (dk dt_X3_copy 10 rfl) rfl ?_
  refine a_aload_n (pc := 17) (dk dt_X3_copy 11 rfl) rfl ?_
  refine a_getr (r := 5) (pc := 18) (dk dt_X3_copy 12 rfl) cls_3 fl_RX3_19 cf_4_2 ?_
  refine a_iload_n (pc := 21) (dk dt_X3_copy 13 rfl) rfl ?_
  refine a_iald (pc := 22) (dk dt_X3_copy 14 rfl) ar_6 ⟨H.1, ?_⟩
  replace H := H.2
  refine a_top (y := (h 6 x3)) (by simp [up, cpy]) ?_
  refine a_iast (pc := 23) (dk dt_X3_copy 15 rfl) ar_38 ⟨H.1, ?_⟩
  replace H := H.2
  refine a_aload_n (pc := 24) (dk dt_X3_copy 16 rfl) rfl ?_
  refine a_getr (r := 38) (pc := 25) (dk dt_X3_copy 17 rfl) cls_3 fl_RX3_22 cf_36_3 ?_
  refine a_iload_n (pc := 28) (dk dt_X3_copy 18 rfl) rfl ?_
  refine a_aload_n (pc := 29) (dk dt_X3_copy 19 rfl) rfl ?_
  refine a_getr (r := 6) (pc := 30) (dk dt_X3_copy 20 rfl) cls_3 fl_RX3_22 cf_4_3 ?_
  refine a_iload_n (pc := 33) (dk dt_X3_copy 21 rfl) rfl ?_
  refine a_iald (pc := 34) (dk dt_X3_copy 22 rfl) ar_7 ⟨H.1, ?_⟩
  replace H := H.2
  refine a_top (y := (h 7 x3)) (by simp [up, cpy]) ?_
  refine a_iast (pc := 35) (dk dt_X3_copy 23 rfl) ar_39 ⟨H.1, ?_⟩
  replace H := H.2
  refine a_aload_n (pc := 36) (dk dt_X3_copy 24 rfl) rfl ?_
  refine a_getr (r := 39) (pc := 37) (dk dt_X3_copy 25 rfl) cls_3 fl_RX3_25 cf_36_4 ?_
  refine a_iload_n (pc := 40) (dk dt_X3_copy 26 rfl) rfl ?_
  refine a_aload_n (pc := 41) (dk dt_X3_copy 27 rfl) rfl ?_
  refine a_getr (r := 7) (pc := 42) (dk dt_X3_copy 28 rfl) cls_3 fl_RX3_25 cf_4_4 ?_
  refine a_iload_n (pc := 45) (dk dt_X3_copy 29 rfl) rfl ?_
  refine a_iald (pc := 46) (dk dt_X3_copy 30 rfl) ar_8 ⟨H.1, ?_⟩
  replace H := H.2
  refine a_top (y := (h 8 x3)) (by simp [up, cpy]) ?_
  refine a_iast (pc := 47) (dk dt_X3_copy 31 rfl) ar_40 ⟨H.1, ?_⟩
  replace H := H.2
  refine a_aload_n (pc := 48) (dk dt_X3_copy 32 rfl) rfl ?_
  refine a_getr (r := 40) (pc := 49) (dk dt_X3_copy 33 rfl) cls_3 fl_RX3_28 cf_36_5 ?_
  refine a_iload_n (pc := 52) (dk dt_X3_copy 34 rfl) rfl ?_
  refine a_aload_n (pc := 53) (dk dt_X3_copy 35 rfl) rfl ?_
  refine a_getr (r := 8) (pc := 54) (dk dt_X3_copy 36 rfl) cls_3 fl_RX3_28 cf_4_5 ?_
  refine a_iload_n (pc := 57) (dk dt_X3_copy 37 rfl) rfl ?_
  refine a_iald (pc := 58) (dk dt_X3_copy 38 rfl) ar_9 ⟨H.1, ?_⟩
  replace H := H.2
  refine a_top (y := (h 9 x3)) (by simp [up, cpy]) ?_
  refine a_iast (pc := 59) (dk dt_X3_copy 39 rfl) ar_41 ⟨H.1, ?_⟩
  replace H := H.2
  refine a_aload_n (pc := 60) (dk dt_X3_copy 40 rfl) rfl ?_
  refine a_getr (r := 41) (pc := 61) (dk dt_X3_copy 41 rfl) cls_3 fl_RX3_31 cf_36_6 ?_
  refine a_iload_n (pc := 64) (dk dt_X3_copy 42 rfl) rfl ?_
  refine a_aload_n (pc := 65) (dk dt_X3_copy 43 rfl) rfl ?_
  refine a_getr (r := 9) (pc := 66) (dk dt_X3_copy 44 rfl) cls_3 fl_RX3_31 cf_4_6 ?_
  refine a_iload_n (pc := 69) (dk dt_X3_copy 45 rfl) rfl ?_
  refine a_iald (pc := 70) (dk dt_X3_copy 46 rfl) ar_10 ⟨H.1, ?_⟩
  replace H := H.2
  refine a_top (y := (h 10 x3)) (by simp [up, cpy]) ?_
  refine a_iast (pc := 71) (dk dt_X3_copy 47 rfl) ar_42 ⟨H.1, ?_⟩
  replace H := H.2
  exact a_vret (pc := 72) (dk dt_X3_copy 48 rfl) rfl rfl H
set_option maxHeartbeats 40000000 in
theorem U_X3_erase_36_0 {G : GG} {Φ : Int → Hp → Prop} {h : Hp} {x1 : Int} {x2 : Int} (H : AT G m_X3_erase 2 [(0, rv 36), (2, iv x2), (3, iv x1)] [] h Φ) : AT G m_X3_erase 0 [(0, rv 36), (1, iv x1), (2, iv x2)] [] h Φ := by
  refine a_iload_n (pc := 0) (dk dt_X3_erase 0 rfl) rfl ?_
  refine a_istore_n (pc := 1) (dk dt_X3_erase 1 rfl) (by decide) rfl rfl ?_
  exact a_pick [0, 2, 3] rfl H
set_option maxHeartbeats 40000000 in
theorem U_X3_erase_36_2 {G : GG} {Φ : Int → Hp → Prop} {h : Hp} {x2 : Int} {x3 : Int} (H : ((x2 ≤ x3 → Φ 0 h) ∧ (x3 < x2 → (0 ≤ x3 ∧ x3 < 240) ∧ AT G m_X3_erase 2 [(0, rv 36), (2, iv x2), (3, iv (w32 (x3 + 1)))] [] (up h 37 x3 0) Φ))) : AT G m_X3_erase 2 [(0, rv 36), (2, iv x2), (3, iv x3)] [] h Φ := by
  refine a_iload_n (pc := 2) (dk dt_X3_erase 2 rfl) rfl ?_
  refine a_iload_n (pc := 3) (dk dt_X3_erase 3 rfl) rfl ?_
  refine a_icmp_ge (pc := 4) (dk dt_X3_erase 4 rfl) (tgt := 20) rfl ⟨fun c => ?_, fun c => ?_⟩
  · replace H := H.1 c
    exact a_vret (pc := 20) (dk dt_X3_erase 12 rfl) rfl rfl H
  · replace H := H.2 c
    refine a_aload_n (pc := 7) (dk dt_X3_erase 5 rfl) rfl ?_
    refine a_getr (r := 36) (pc := 8) (dk dt_X3_erase 6 rfl) cls_3 fl_RX3_15 cf_36_1 ?_
    refine a_iload_n (pc := 11) (dk dt_X3_erase 7 rfl) rfl ?_
    refine a_iconst (pc := 12) (dk dt_X3_erase 8 rfl) (ik rfl) ?_
    refine a_iast (pc := 13) (dk dt_X3_erase 9 rfl) ar_37 ⟨H.1, ?_⟩
    replace H := H.2
    refine a_iinc (pc := 14) (dk dt_X3_erase 10 rfl) (by decide) rfl rfl rfl ?_
    refine a_goto (pc := 17) (dk dt_X3_erase 11 rfl) (tgt := 2) rfl ?_
    exact a_pick [0, 1, 2] rfl H
set_option maxHeartbeats 40000000 in
theorem U_X3_countFrom_4_0 {G : GG} {Φ : Int → Hp → Prop} {h : Hp} {x1 : Int} (H : AT G m_X3_countFrom 2 [(0, rv 4), (1, iv x1), (2, iv 0)] [] h Φ) : AT G m_X3_countFrom 0 [(0, rv 4), (1, iv x1)] [] h Φ := by
  refine a_iconst (pc := 0) (dk dt_X3_countFrom 0 rfl) (ik rfl) ?_
  refine a_istore_n (pc := 1) (dk dt_X3_countFrom 1 rfl) (by decide) rfl rfl ?_
  exact a_pick [0, 1, 2] rfl H
set_option maxHeartbeats 40000000 in
theorem U_X3_countFrom_4_2 {G : GG} {Φ : Int → Hp → Prop} {h : Hp} {x1 : Int} {x2 : Int} (H : ((30 ≤ x2 → Φ x2 h) ∧ (x2 < 30 → Call G m_X3_isThere [rv 4, iv (w32 (x1 + x2))] h (fun r1 h2 => ((r1 = 0 → Φ x2 h2) ∧ (r1 ≠ 0 → AT G m_X3_countFrom 2 [(0, rv 4), (1, iv x1), (2, iv (w32 (x2 + 1)))] [] h2 Φ)))))) : AT G m_X3_countFrom 2 [(0, rv 4), (1, iv x1), (2, iv x2)] [] h Φ := by
  refine a_iload_n (pc := 2) (dk dt_X3_countFrom 2 rfl) rfl ?_
  refine a_bipush (pc := 3) (dk dt_X3_countFrom 3 rfl) (ik rfl) (bpk rfl) ?_
  refine a_icmp_ge (pc := 5) (dk dt_X3_countFrom 4 rfl) (tgt := 24) rfl ⟨fun c => ?_, fun c => ?_⟩
  · replace H := H.1 c
    refine a_iload_n (pc := 24) (dk dt_X3_countFrom 13 rfl) rfl ?_
    exact a_iret (pc := 25) (dk dt_X3_countFrom 14 rfl) rfl rfl H
  · replace H := H.2 c
    refine a_aload_n (pc := 8) (dk dt_X3_countFrom 5 rfl) rfl ?_
    refine a_iload_n (pc := 9) (dk dt_X3_countFrom 6 rfl) rfl ?_
    refine a_iload_n (pc := 10) (dk dt_X3_countFrom 7 rfl) rfl ?_
    refine a_iadd (pc := 11) (dk dt_X3_countFrom 8 rfl) ?_
    refine a_callVi (as := [iv (w32 (x1 + x2))]) (st := []) (pc := 12) (dk dt_X3_countFrom 9 rfl) cl_RX3_106 ⟨Nat.le_of_ble_eq_true rfl, Nat.le_of_ble_eq_true rfl⟩ ⟨Nat.le_of_ble_eq_true rfl, Nat.le_of_ble_eq_true rfl⟩ cls_3 rfl cc_4 rfl rfl rfl (Nat.le_of_ble_eq_true rfl) (Call.mono H fun r1 h2 H => ?_)
    refine a_if_eq (pc := 15) (dk dt_X3_countFrom 10 rfl) (tgt := 24) rfl ⟨fun c => ?_, fun c => ?_⟩
    · replace H := H.1 c
      refine a_iload_n (pc := 24) (dk dt_X3_countFrom 13 rfl) rfl ?_
      exact a_iret (pc := 25) (dk dt_X3_countFrom 14 rfl) rfl rfl H
    · replace H := H.2 c
      refine a_iinc (pc := 18) (dk dt_X3_countFrom 11 rfl) (by decide) rfl rfl rfl ?_
      refine a_goto (pc := 21) (dk dt_X3_countFrom 12 rfl) (tgt := 2) rfl ?_
      exact a_pick [0, 1, 2] rfl H
set_option maxHeartbeats 40000000 in
theorem U_X3_readLine_4_2_0 {G : GG} {Φ : Int → Hp → Prop} {h : Hp} {x2 : Int} (H : Call G m_X10_told [rv 2, iv 1, iv 13] h (fun r1 h2 => Call G m_X3_readRest [rv 4, rv 2, iv x2, iv r1] h2 (fun _ h4 => Φ 0 h4))) : AT G m_X3_readLine 0 [(0, rv 4), (1, rv 2), (2, iv x2)] [] h Φ := by
  refine a_aload_n (pc := 0) (dk dt_X3_readLine 0 rfl) rfl ?_
  refine a_aload_n (pc := 1) (dk dt_X3_readLine 1 rfl) rfl ?_
  refine a_iload_n (pc := 2) (dk dt_X3_readLine 2 rfl) rfl ?_
  refine a_aload_n (pc := 3) (dk dt_X3_readLine 3 rfl) rfl ?_
  refine a_iconst (pc := 4) (dk dt_X3_readLine 4 rfl) (ik rfl) ?_
  refine a_bipush (pc := 5) (dk dt_X3_readLine 5 rfl) (ik rfl) (bpk rfl) ?_
  refine a_callVi (as := [iv 1, iv 13]) (st := [iv x2, rv 2, rv 4]) (pc := 7) (dk dt_X3_readLine 6 rfl) cl_RX3_134 ⟨Nat.le_of_ble_eq_true rfl, Nat.le_of_ble_eq_true rfl⟩ ⟨Nat.le_of_ble_eq_true rfl, Nat.le_of_ble_eq_true rfl⟩ cls_10 rfl cc_2 rfl rfl rfl (Nat.le_of_ble_eq_true rfl) (Call.mono H fun r1 h2 H => ?_)
  refine a_callVv (as := [rv 2, iv x2, iv r1]) (st := []) (pc := 10) (dk dt_X3_readLine 7 rfl) cl_RX3_141 ⟨Nat.le_of_ble_eq_true rfl, Nat.le_of_ble_eq_true rfl⟩ ⟨Nat.le_of_ble_eq_true rfl, Nat.le_of_ble_eq_true rfl⟩ cls_3 rfl cc_4 rfl rfl rfl (Nat.le_of_ble_eq_true rfl) (Call.mono H fun _ h4 H => ?_)
  exact a_vret (pc := 13) (dk dt_X3_readLine 8 rfl) rfl rfl H
set_option maxHeartbeats 40000000 in
theorem U_X3_erase_4_0 {G : GG} {Φ : Int → Hp → Prop} {h : Hp} {x1 : Int} {x2 : Int} (H : AT G m_X3_erase 2 [(0, rv 4), (2, iv x2), (3, iv x1)] [] h Φ) : AT G m_X3_erase 0 [(0, rv 4), (1, iv x1), (2, iv x2)] [] h Φ := by
  refine a_iload_n (pc := 0) (dk dt_X3_erase 0 rfl) rfl ?_
  refine a_istore_n (pc := 1) (dk dt_X3_erase 1 rfl) (by decide) rfl rfl ?_
  exact a_pick [0, 2, 3] rfl H
set_option maxHeartbeats 40000000 in
theorem U_X3_erase_4_2 {G : GG} {Φ : Int → Hp → Prop} {h : Hp} {x2 : Int} {x3 : Int} (H : ((x2 ≤ x3 → Φ 0 h) ∧ (x3 < x2 → (0 ≤ x3 ∧ x3 < 30) ∧ AT G m_X3_erase 2 [(0, rv 4), (2, iv x2), (3, iv (w32 (x3 + 1)))] [] (up h 5 x3 0) Φ))) : AT G m_X3_erase 2 [(0, rv 4), (2, iv x2), (3, iv x3)] [] h Φ := by
  refine a_iload_n (pc := 2) (dk dt_X3_erase 2 rfl) rfl ?_
  refine a_iload_n (pc := 3) (dk dt_X3_erase 3 rfl) rfl ?_
  refine a_icmp_ge (pc := 4) (dk dt_X3_erase 4 rfl) (tgt := 20) rfl ⟨fun c => ?_, fun c => ?_⟩
  · replace H := H.1 c
    exact a_vret (pc := 20) (dk dt_X3_erase 12 rfl) rfl rfl H
  · replace H := H.2 c
    refine a_aload_n (pc := 7) (dk dt_X3_erase 5 rfl) rfl ?_
    refine a_getr (r := 4) (pc := 8) (dk dt_X3_erase 6 rfl) cls_3 fl_RX3_15 cf_4_1 ?_
    refine a_iload_n (pc := 11) (dk dt_X3_erase 7 rfl) rfl ?_
    refine a_iconst (pc := 12) (dk dt_X3_erase 8 rfl) (ik rfl) ?_
    refine a_iast (pc := 13) (dk dt_X3_erase 9 rfl) ar_5 ⟨H.1, ?_⟩
    replace H := H.2
    refine a_iinc (pc := 14) (dk dt_X3_erase 10 rfl) (by decide) rfl rfl rfl ?_
    refine a_goto (pc := 17) (dk dt_X3_erase 11 rfl) (tgt := 2) rfl ?_
    exact a_pick [0, 1, 2] rfl H
set_option maxHeartbeats 40000000 in
theorem U_X3_readCondition_4_2_0 {G : GG} {Φ : Int → Hp → Prop} {h : Hp} {x2 : Int} (H : Call G m_X10_told [rv 2, iv 16, iv 32] h (fun r1 h2 => (0 ≤ x2 ∧ x2 < 30) ∧ Call G m_X10_skip [rv 2, iv 32] (up h2 6 x2 r1) (fun _ h4 => Call G m_X10_compareSign [rv 2] h4 (fun r5 h6 => (0 ≤ x2 ∧ x2 < 30) ∧ Call G m_X10_skip [rv 2, iv 32] (up h6 7 x2 r5) (fun _ h8 => Call G m_X10_integer [rv 2, iv (-99999), iv 99999] h8 (fun r9 h10 => (0 ≤ x2 ∧ x2 < 30) ∧ Φ 0 (up h10 8 x2 r9))))))) : AT G m_X3_readCondition 0 [(0, rv 4), (1, rv 2), (2, iv x2)] [] h Φ := by
  refine a_aload_n (pc := 0) (dk dt_X3_readCondition 0 rfl) rfl ?_
  refine a_getr (r := 5) (pc := 1) (dk dt_X3_readCondition 1 rfl) cls_3 fl_RX3_19 cf_4_2 ?_
  refine a_iload_n (pc := 4) (dk dt_X3_readCondition 2 rfl) rfl ?_
  refine a_aload_n (pc := 5) (dk dt_X3_readCondition 3 rfl) rfl ?_
  refine a_bipush (pc := 6) (dk dt_X3_readCondition 4 rfl) (ik rfl) (bpk rfl) ?_
  refine a_bipush (pc := 8) (dk dt_X3_readCondition 5 rfl) (ik rfl) (bpk rfl) ?_
  refine a_callVi (as := [iv 16, iv 32]) (st := [iv x2, rv 6]) (pc := 10) (dk dt_X3_readCondition 6 rfl) cl_RX3_134 ⟨Nat.le_of_ble_eq_true rfl, Nat.le_of_ble_eq_true rfl⟩ ⟨Nat.le_of_ble_eq_true rfl, Nat.le_of_ble_eq_true rfl⟩ cls_10 rfl cc_2 rfl rfl rfl (Nat.le_of_ble_eq_true rfl) (Call.mono H fun r1 h2 H => ?_)
  refine a_iast (pc := 13) (dk dt_X3_readCondition 7 rfl) ar_6 ⟨H.1, ?_⟩
  replace H := H.2
  refine a_aload_n (pc := 14) (dk dt_X3_readCondition 8 rfl) rfl ?_
  refine a_bipush (pc := 15) (dk dt_X3_readCondition 9 rfl) (ik rfl) (bpk rfl) ?_
  refine a_callVv (as := [iv 32]) (st := []) (pc := 17) (dk dt_X3_readCondition 10 rfl) cl_RX3_130 ⟨Nat.le_of_ble_eq_true rfl, Nat.le_of_ble_eq_true rfl⟩ ⟨Nat.le_of_ble_eq_true rfl, Nat.le_of_ble_eq_true rfl⟩ cls_10 rfl cc_2 rfl rfl rfl (Nat.le_of_ble_eq_true rfl) (Call.mono H fun _ h4 H => ?_)
  refine a_aload_n (pc := 20) (dk dt_X3_readCondition 11 rfl) rfl ?_
  refine a_getr (r := 6) (pc := 21) (dk dt_X3_readCondition 12 rfl) cls_3 fl_RX3_22 cf_4_3 ?_
  refine a_iload_n (pc := 24) (dk dt_X3_readCondition 13 rfl) rfl ?_
  refine a_aload_n (pc := 25) (dk dt_X3_readCondition 14 rfl) rfl ?_
  refine a_callVi (as := []) (st := [iv x2, rv 7]) (pc := 26) (dk dt_X3_readCondition 15 rfl) cl_RX3_154 ⟨Nat.le_of_ble_eq_true rfl, Nat.le_of_ble_eq_true rfl⟩ ⟨Nat.le_of_ble_eq_true rfl, Nat.le_of_ble_eq_true rfl⟩ cls_10 rfl cc_2 rfl rfl rfl (Nat.le_of_ble_eq_true rfl) (Call.mono H fun r5 h6 H => ?_)
  refine a_iast (pc := 29) (dk dt_X3_readCondition 16 rfl) ar_7 ⟨H.1, ?_⟩
  replace H := H.2
  refine a_aload_n (pc := 30) (dk dt_X3_readCondition 17 rfl) rfl ?_
  refine a_bipush (pc := 31) (dk dt_X3_readCondition 18 rfl) (ik rfl) (bpk rfl) ?_
  refine a_callVv (as := [iv 32]) (st := []) (pc := 33) (dk dt_X3_readCondition 19 rfl) cl_RX3_130 ⟨Nat.le_of_ble_eq_true rfl, Nat.le_of_ble_eq_true rfl⟩ ⟨Nat.le_of_ble_eq_true rfl, Nat.le_of_ble_eq_true rfl⟩ cls_10 rfl cc_2 rfl rfl rfl (Nat.le_of_ble_eq_true rfl) (Call.mono H fun _ h8 H => ?_)
  refine a_aload_n (pc := 36) (dk dt_X3_readCondition 20 rfl) rfl ?_
  refine a_getr (r := 7) (pc := 37) (dk dt_X3_readCondition 21 rfl) cls_3 fl_RX3_25 cf_4_4 ?_
  refine a_iload_n (pc := 40) (dk dt_X3_readCondition 22 rfl) rfl ?_
  refine a_aload_n (pc := 41) (dk dt_X3_readCondition 23 rfl) rfl ?_
  refine a_ldc (n := (-99999)) (pc := 42) (dk dt_X3_readCondition 24 rfl) (ik rfl) co_RX3_158 ?_
  refine a_ldc (n := 99999) (pc := 44) (dk dt_X3_readCondition 25 rfl) (ik rfl) co_RX3_159 ?_
  refine a_callVi (as := [iv (-99999), iv 99999]) (st := [iv x2, rv 8]) (pc := 46) (dk dt_X3_readCondition 26 rfl) cl_RX3_160 ⟨Nat.le_of_ble_eq_true rfl, Nat.le_of_ble_eq_true rfl⟩ ⟨Nat.le_of_ble_eq_true rfl, Nat.le_of_ble_eq_true rfl⟩ cls_10 rfl cc_2 rfl rfl rfl (Nat.le_of_ble_eq_true rfl) (Call.mono H fun r9 h10 H => ?_)
  refine a_iast (pc := 49) (dk dt_X3_readCondition 27 rfl) ar_8 ⟨H.1, ?_⟩
  replace H := H.2
  exact a_vret (pc := 50) (dk dt_X3_readCondition 28 rfl) rfl rfl H
set_option maxHeartbeats 40000000 in
theorem U_X3_copy_54_4_0 {G : GG} {Φ : Int → Hp → Prop} {h : Hp} {x1 : Int} {x3 : Int} (H : (0 ≤ x3 ∧ x3 < 30) ∧ (0 ≤ x1 ∧ x1 < 8) ∧ (0 ≤ x3 ∧ x3 < 30) ∧ (0 ≤ x1 ∧ x1 < 8) ∧ (0 ≤ x3 ∧ x3 < 30) ∧ (0 ≤ x1 ∧ x1 < 8) ∧ (0 ≤ x3 ∧ x3 < 30) ∧ (0 ≤ x1 ∧ x1 < 8) ∧ (0 ≤ x3 ∧ x3 < 30) ∧ (0 ≤ x1 ∧ x1 < 8) ∧ (0 ≤ x3 ∧ x3 < 30) ∧ (0 ≤ x1 ∧ x1 < 8) ∧ Φ 0 (up (up (up (up (up (up h 55 x1 (h 5 x3)) 56 x1 (h 6 x3)) 57 x1 (h 7 x3)) 58 x1 (h 8 x3)) 59 x1 (h 9 x3)) 60 x1 (h 10 x3))) : AT G m_X3_copy 0 [(0, rv 54), (1, iv x1), (2, rv 4), (3, iv x3)] [] h Φ := by
  refine a_aload_n (pc := 0) (dk dt_X3_copy 0 rfl) rfl ?_
  refine a_getr (r := 54) (pc := 1) (dk dt_X3_copy 1 rfl) cls_3 fl_RX3_15 cf_54_1 ?_
  refine a_iload_n (pc := 4) (dk dt_X3_copy 2 rfl) rfl ?_
  refine a_aload_n (pc := 5) (dk dt_X3_copy 3 rfl) rfl ?_
  refine a_getr (r := 4) (pc := 6) (dk dt_X3_copy 4 rfl) cls_3 fl_RX3_15 cf_4_1 ?_
  refine a_iload_n (pc := 9) (dk dt_X3_copy 5 rfl) rfl ?_
  refine a_iald (pc := 10) (dk dt_X3_copy 6 rfl) ar_5 ⟨H.1, ?_⟩
  replace H := H.2
  refine a_iast (pc := 11) (dk dt_X3_copy 7 rfl) ar_55 ⟨H.1, ?_⟩
  replace H := H.2
  refine a_aload_n (pc := 12) (dk dt_X3_copy 8 rfl) rfl ?_
  refine a_getr (r := 55) (pc := 13) (dk dt_X3_copy 9 rfl) cls_3 fl_RX3_19 cf_54_2 ?_
  refine a_iload_n (pc := 16) (dk dt_X3_copy 10 rfl) rfl ?_
  refine a_aload_n (pc := 17) (dk dt_X3_copy 11 rfl) rfl ?_
  refine a_getr (r := 5) (pc := 18) (dk dt_X3_copy 12 rfl) cls_3 fl_RX3_19 cf_4_2 ?_
  refine a_iload_n (pc := 21) (dk dt_X3_copy 13 rfl) rfl ?_
  refine a_iald (pc := 22) (dk dt_X3_copy 14 rfl) ar_6 ⟨H.1, ?_⟩
  replace H := H.2
  refine a_top (y := (h 6 x3)) (by simp [up, cpy]) ?_
  refine a_iast (pc := 23) (dk dt_X3_copy 15 rfl) ar_56 ⟨H.1, ?_⟩
  replace H := H.2
  refine a_aload_n (pc := 24) (dk dt_X3_copy 16 rfl) rfl ?_
  refine a_getr (r := 56) (pc := 25) (dk dt_X3_copy 17 rfl) cls_3 fl_RX3_22 cf_54_3 ?_
  refine a_iload_n (pc := 28) (dk dt_X3_copy 18 rfl) rfl ?_
  refine a_aload_n (pc := 29) (dk dt_X3_copy 19 rfl) rfl ?_
  refine a_getr (r := 6) (pc := 30) (dk dt_X3_copy 20 rfl) cls_3 fl_RX3_22 cf_4_3 ?_
  refine a_iload_n (pc := 33) (dk dt_X3_copy 21 rfl) rfl ?_
  refine a_iald (pc := 34) (dk dt_X3_copy 22 rfl) ar_7 ⟨H.1, ?_⟩
  replace H := H.2
  refine a_top (y := (h 7 x3)) (by simp [up, cpy]) ?_
  refine a_iast (pc := 35) (dk dt_X3_copy 23 rfl) ar_57 ⟨H.1, ?_⟩
  replace H := H.2
  refine a_aload_n (pc := 36) (dk dt_X3_copy 24 rfl) rfl ?_
  refine a_getr (r := 57) (pc := 37) (dk dt_X3_copy 25 rfl) cls_3 fl_RX3_25 cf_54_4 ?_
  refine a_iload_n (pc := 40) (dk dt_X3_copy 26 rfl) rfl ?_
  refine a_aload_n (pc := 41) (dk dt_X3_copy 27 rfl) rfl ?_
  refine a_getr (r := 7) (pc := 42) (dk dt_X3_copy 28 rfl) cls_3 fl_RX3_25 cf_4_4 ?_
  refine a_iload_n (pc := 45) (dk dt_X3_copy 29 rfl) rfl ?_
  refine a_iald (pc := 46) (dk dt_X3_copy 30 rfl) ar_8 ⟨H.1, ?_⟩
  replace H := H.2
  refine a_top (y := (h 8 x3)) (by simp [up, cpy]) ?_
  refine a_iast (pc := 47) (dk dt_X3_copy 31 rfl) ar_58 ⟨H.1, ?_⟩
  replace H := H.2
  refine a_aload_n (pc := 48) (dk dt_X3_copy 32 rfl) rfl ?_
  refine a_getr (r := 58) (pc := 49) (dk dt_X3_copy 33 rfl) cls_3 fl_RX3_28 cf_54_5 ?_
  refine a_iload_n (pc := 52) (dk dt_X3_copy 34 rfl) rfl ?_
  refine a_aload_n (pc := 53) (dk dt_X3_copy 35 rfl) rfl ?_
  refine a_getr (r := 8) (pc := 54) (dk dt_X3_copy 36 rfl) cls_3 fl_RX3_28 cf_4_5 ?_
  refine a_iload_n (pc := 57) (dk dt_X3_copy 37 rfl) rfl ?_
  refine a_iald (pc := 58) (dk dt_X3_copy 38 rfl) ar_9 ⟨H.1, ?_⟩
  replace H := H.2
  refine a_top (y := (h 9 x3)) (by simp [up, cpy]) ?_
  refine a_iast (pc := 59) (dk dt_X3_copy 39 rfl) ar_59 ⟨H.1, ?_⟩
  replace H := H.2
  refine a_aload_n (pc := 60) (dk dt_X3_copy 40 rfl) rfl ?_
  refine a_getr (r := 59) (pc := 61) (dk dt_X3_copy 41 rfl) cls_3 fl_RX3_31 cf_54_6 ?_
  refine a_iload_n (pc := 64) (dk dt_X3_copy 42 rfl) rfl ?_
  refine a_aload_n (pc := 65) (dk dt_X3_copy 43 rfl) rfl ?_
  refine a_getr (r := 9) (pc := 66) (dk dt_X3_copy 44 rfl) cls_3 fl_RX3_31 cf_4_6 ?_
  refine a_iload_n (pc := 69) (dk dt_X3_copy 45 rfl) rfl ?_
  refine a_iald (pc := 70) (dk dt_X3_copy 46 rfl) ar_10 ⟨H.1, ?_⟩
  replace H := H.2
  refine a_top (y := (h 10 x3)) (by simp [up, cpy]) ?_
  refine a_iast (pc := 71) (dk dt_X3_copy 47 rfl) ar_60 ⟨H.1, ?_⟩
  replace H := H.2
  exact a_vret (pc := 72) (dk dt_X3_copy 48 rfl) rfl rfl H
set_option maxHeartbeats 40000000 in
theorem U_X3_isThere_36_0 {G : GG} {Φ : Int → Hp → Prop} {h : Hp} {x1 : Int} (H : ((x1 < 0 → Φ 0 h) ∧ (0 ≤ x1 → (((w32 ((h 36 0) - 1)) < x1 → Φ 0 h) ∧ (x1 ≤ (w32 ((h 36 0) - 1)) → (0 ≤ x1 ∧ x1 < 240) ∧ (((h 37 x1) = 0 → Φ 0 h) ∧ ((h 37 x1) ≠ 0 → Φ 1 h))))))) : AT G m_X3_isThere 0 [(0, rv 36), (1, iv x1)] [] h Φ := by
  refine a_iload_n (pc := 0) (dk dt_X3_isThere 0 rfl) rfl ?_
  refine a_iconst (pc := 1) (dk dt_X3_isThere 1 rfl) (ik rfl) ?_
  refine a_aload_n (pc := 2) (dk dt_X3_isThere 2 rfl) rfl ?_
  refine a_geti (pc := 3) (dk dt_X3_isThere 3 rfl) cls_3 fl_RX3_9 cf_36_0 ?_
  refine a_iconst (pc := 6) (dk dt_X3_isThere 4 rfl) (ik rfl) ?_
  refine a_isub (pc := 7) (dk dt_X3_isThere 5 rfl) ?_
  refine a_callNi (as := [iv x1, iv 0, iv (w32 ((h 36 0) - 1))]) (st := []) (pc := 8) (dk dt_X3_isThere 6 rfl) cl_RX3_102 ⟨Nat.le_of_ble_eq_true rfl, Nat.le_of_ble_eq_true rfl⟩ ⟨Nat.le_of_ble_eq_true rfl, Nat.le_of_ble_eq_true rfl⟩ rfl rfl rfl (Nat.le_of_ble_eq_true rfl) (Call.of rfl (Nat.le_of_ble_eq_true rfl) rfl ?_)
  refine a_iload_n (pc := 0) (dk dt_X11_within 0 rfl) rfl ?_
  refine a_iload_n (pc := 1) (dk dt_X11_within 1 rfl) rfl ?_
  refine a_icmp_lt (pc := 2) (dk dt_X11_within 2 rfl) (tgt := 14) rfl ⟨fun c => ?_, fun c => ?_⟩
  · replace H := H.1 c
    refine a_iconst (pc := 14) (dk dt_X11_within 8 rfl) (ik rfl) ?_
    refine a_zret (pc := 15) (dk dt_X11_within 9 rfl) rfl rfl ⟨by decide, ?_⟩
    show ATW _ _ _ _ _ _ _ _ _ _
    refine a_if_eq (pc := 11) (dk dt_X3_isThere 7 rfl) (tgt := 27) rfl ⟨fun _ => ?_, fun c => absurd c (by decide)⟩
    refine a_iconst (pc := 27) (dk dt_X3_isThere 15 rfl) (ik rfl) ?_
    exact a_zret (pc := 28) (dk dt_X3_isThere 16 rfl) rfl rfl ⟨by decide, H⟩
  · replace H := H.2 c
    refine a_iload_n (pc := 5) (dk dt_X11_within 3 rfl) rfl ?_
    refine a_iload_n (pc := 6) (dk dt_X11_within 4 rfl) rfl ?_
    refine a_icmp_gt (pc := 7) (dk dt_X11_within 5 rfl) (tgt := 14) rfl ⟨fun c => ?_, fun c => ?_⟩
    · replace H := H.1 c
      refine a_iconst (pc := 14) (dk dt_X11_within 8 rfl) (ik rfl) ?_
      refine a_zret (pc := 15) (dk dt_X11_within 9 rfl) rfl rfl ⟨by decide, ?_⟩
      show ATW _ _ _ _ _ _ _ _ _ _
      refine a_if_eq (pc := 11) (dk dt_X3_isThere 7 rfl) (tgt := 27) rfl ⟨fun _ => ?_, fun c => absurd c (by decide)⟩
      refine a_iconst (pc := 27) (dk dt_X3_isThere 15 rfl) (ik rfl) ?_
      exact a_zret (pc := 28) (dk dt_X3_isThere 16 rfl) rfl rfl ⟨by decide, H⟩
    · replace H := H.2 c
      refine a_iconst (pc := 10) (dk dt_X11_within 6 rfl) (ik rfl) ?_
      refine a_goto (pc := 11) (dk dt_X11_within 7 rfl) (tgt := 15) rfl ?_
      refine a_zret (pc := 15) (dk dt_X11_within 9 rfl) rfl rfl ⟨by decide, ?_⟩
      show ATW _ _ _ _ _ _ _ _ _ _
      refine a_if_eq (pc := 11) (dk dt_X3_isThere 7 rfl) (tgt := 27) rfl ⟨fun c => absurd c (by decide), fun _ => ?_⟩
      refine a_aload_n (pc := 14) (dk dt_X3_isThere 8 rfl) rfl ?_
      refine a_getr (r := 36) (pc := 15) (dk dt_X3_isThere 9 rfl) cls_3 fl_RX3_15 cf_36_1 ?_
      refine a_iload_n (pc := 18) (dk dt_X3_isThere 10 rfl) rfl ?_
      refine a_iald (pc := 19) (dk dt_X3_isThere 11 rfl) ar_37 ⟨H.1, ?_⟩
      replace H := H.2
      refine a_if_eq (pc := 20) (dk dt_X3_isThere 12 rfl) (tgt := 27) rfl ⟨fun c => ?_, fun c => ?_⟩
      · replace H := H.1 c
        refine a_iconst (pc := 27) (dk dt_X3_isThere 15 rfl) (ik rfl) ?_
        exact a_zret (pc := 28) (dk dt_X3_isThere 16 rfl) rfl rfl ⟨by decide, H⟩
      · replace H := H.2 c
        refine a_iconst (pc := 23) (dk dt_X3_isThere 13 rfl) (ik rfl) ?_
        refine a_goto (pc := 24) (dk dt_X3_isThere 14 rfl) (tgt := 28) rfl ?_
        exact a_zret (pc := 28) (dk dt_X3_isThere 16 rfl) rfl rfl ⟨by decide, H⟩
set_option maxHeartbeats 40000000 in
theorem U_X3_readRest_4_2_0 {G : GG} {Φ : Int → Hp → Prop} {h : Hp} {x2 : Int} {x3 : Int} (H : (0 ≤ x2 ∧ x2 < 30) ∧ ((x3 ≠ 5 → Call G m_X10_skip [rv 2, iv 32] (up h 5 x2 x3) (fun _ h2 => (((x3 = 2) → Call G m_X3_readCondition [rv 4, rv 2, iv x2] h2 (fun _ h4 => Φ 0 h4)) ∧ ((x3 = 3) → Call G m_X3_readCondition [rv 4, rv 2, iv x2] h2 (fun _ h6 => Call G m_X10_skip [rv 2, iv 32] h6 (fun _ h8 => Call G m_X10_told [rv 2, iv 4, iv 4] h8 (fun r9 h10 => Call G m_X10_skip [rv 2, iv 32] h10 (fun _ h12 => Call G m_X10_number [rv 2, iv 0, iv 29] h12 (fun r13 h14 => (0 ≤ x2 ∧ x2 < 30) ∧ Φ 0 (up h14 9 x2 r13))))))) ∧ ((x3 = 4) → Call G m_X10_number [rv 2, iv 0, iv 29] h2 (fun r15 h16 => (0 ≤ x2 ∧ x2 < 30) ∧ Φ 0 (up h16 9 x2 r15))) ∧ ((x3 = 8 ∨ x3 = 9) → Call G m_X10_told [rv 2, iv 25, iv 32] h2 (fun r17 h18 => (0 ≤ x2 ∧ x2 < 30) ∧ Call G m_X10_skip [rv 2, iv 32] (up h18 6 x2 r17) (fun _ h20 => Call G m_X10_number [rv 2, iv 0, iv 255] h20 (fun r21 h22 => (0 ≤ x2 ∧ x2 < 30) ∧ Φ 0 (up h22 8 x2 r21))))) ∧ (((x3 < 2 ∨ 9 < x3) ∨ x3 = 5 ∨ x3 = 6 ∨ x3 = 7) → ((x3 ≠ 1 → Call G m_X3_greatest [iv x3] h2 (fun r23 h24 => Call G m_X10_number [rv 2, iv 0, iv r23] h24 (fun r25 h26 => (0 ≤ x2 ∧ x2 < 30) ∧ Φ 0 (up h26 8 x2 r25)))) ∧ (x3 = 1 → Call G m_X3_greatest [iv x3] h2 (fun r27 h28 => Call G m_X10_number [rv 2, iv 1, iv r27] h28 (fun r29 h30 => (0 ≤ x2 ∧ x2 < 30) ∧ Φ 0 (up h30 8 x2 r29))))))))) ∧ (x3 = 5 → Φ 0 (up h 5 x2 x3)))) : AT G m_X3_readRest 0 [(0, rv 4), (1, rv 2), (2, iv x2), (3, iv x3)] [] h Φ := by
  refine a_aload_n (pc := 0) (dk dt_X3_readRest 0 rfl) rfl ?_
  refine a_getr (r := 4) (pc := 1) (dk dt_X3_readRest 1 rfl) cls_3 fl_RX3_15 cf_4_1 ?_
  refine a_iload_n (pc := 4) (dk dt_X3_readRest 2 rfl) rfl ?_
  refine a_iload_n (pc := 5) (dk dt_X3_readRest 3 rfl) rfl ?_
  refine a_iast (pc := 6) (dk dt_X3_readRest 4 rfl) ar_5 ⟨H.1, ?_⟩
  replace H := H.2
  refine a_iload_n (pc := 7) (dk dt_X3_readRest 5 rfl) rfl ?_
  refine a_iconst (pc := 8) (dk dt_X3_readRest 6 rfl) (ik rfl) ?_
  refine a_icmp_ne (pc := 9) (dk dt_X3_readRest 7 rfl) (tgt := 13) rfl ⟨fun c => ?_, fun c => ?_⟩
  · replace H := H.1 c
    refine a_aload_n (pc := 13) (dk dt_X3_readRest 9 rfl) rfl ?_
    refine a_bipush (pc := 14) (dk dt_X3_readRest 10 rfl) (ik rfl) (bpk rfl) ?_
    refine a_callVv (as := [iv 32]) (st := []) (pc := 16) (dk dt_X3_readRest 11 rfl) cl_RX3_130 ⟨Nat.le_of_ble_eq_true rfl, Nat.le_of_ble_eq_true rfl⟩ ⟨Nat.le_of_ble_eq_true rfl, Nat.le_of_ble_eq_true rfl⟩ cls_10 rfl cc_2 rfl rfl rfl (Nat.le_of_ble_eq_true rfl) (Call.mono H fun _ h2 H => ?_)
    refine a_iload_n (pc := 19) (dk dt_X3_readRest 12 rfl) rfl ?_
    have B0 : (x3 = 2) → AT G m_X3_readRest 68 [(0, rv 4), (1, rv 2), (2, iv x2), (3, iv x3)] [] h2 Φ := by
      intro c
      replace H := H.1 c
      refine a_aload_n (pc := 68) (dk dt_X3_readRest 14 rfl) rfl ?_
      refine a_aload_n (pc := 69) (dk dt_X3_readRest 15 rfl) rfl ?_
      refine a_iload_n (pc := 70) (dk dt_X3_readRest 16 rfl) rfl ?_
      refine a_callVv (as := [rv 2, iv x2]) (st := []) (pc := 71) (dk dt_X3_readRest 17 rfl) cl_RX3_145 ⟨Nat.le_of_ble_eq_true rfl, Nat.le_of_ble_eq_true rfl⟩ ⟨Nat.le_of_ble_eq_true rfl, Nat.le_of_ble_eq_true rfl⟩ cls_3 rfl cc_4 rfl rfl rfl (Nat.le_of_ble_eq_true rfl) (Call.mono H fun _ h4 H => ?_)
      exact a_vret (pc := 74) (dk dt_X3_readRest 18 rfl) rfl rfl H
    have B1 : (x3 = 3) → AT G m_X3_readRest 75 [(0, rv 4), (1, rv 2), (2, iv x2), (3, iv x3)] [] h2 Φ := by
      intro c
      replace H := H.2.1 c
      refine a_aload_n (pc := 75) (dk dt_X3_readRest 19 rfl) rfl ?_
      refine a_aload_n (pc := 76) (dk dt_X3_readRest 20 rfl) rfl ?_
      refine a_iload_n (pc := 77) (dk dt_X3_readRest 21 rfl) rfl ?_
      refine a_callVv (as := [rv 2, iv x2]) (st := []) (pc := 78) (dk dt_X3_readRest 22 rfl) cl_RX3_145 ⟨Nat.le_of_ble_eq_true rfl, Nat.le_of_ble_eq_true rfl⟩ ⟨Nat.le_of_ble_eq_true rfl, Nat.le_of_ble_eq_true rfl⟩ cls_3 rfl cc_4 rfl rfl rfl (Nat.le_of_ble_eq_true rfl) (Call.mono H fun _ h6 H => ?_)
      refine a_aload_n (pc := 81) (dk dt_X3_readRest 23 rfl) rfl ?_
      refine a_bipush (pc := 82) (dk dt_X3_readRest 24 rfl) (ik rfl) (bpk rfl) ?_
      refine a_callVv (as := [iv 32]) (st := []) (pc := 84) (dk dt_X3_readRest 25 rfl) cl_RX3_130 ⟨Nat.le_of_ble_eq_true rfl, Nat.le_of_ble_eq_true rfl⟩ ⟨Nat.le_of_ble_eq_true rfl, Nat.le_of_ble_eq_true rfl⟩ cls_10 rfl cc_2 rfl rfl rfl (Nat.le_of_ble_eq_true rfl) (Call.mono H fun _ h8 H => ?_)
      refine a_aload_n (pc := 87) (dk dt_X3_readRest 26 rfl) rfl ?_
      refine a_iconst (pc := 88) (dk dt_X3_readRest 27 rfl) (ik rfl) ?_
      refine a_iconst (pc := 89) (dk dt_X3_readRest 28 rfl) (ik rfl) ?_
      refine a_callVi (as := [iv 4, iv 4]) (st := []) (pc := 90) (dk dt_X3_readRest 29 rfl) cl_RX3_134 ⟨Nat.le_of_ble_eq_true rfl, Nat.le_of_ble_eq_true rfl⟩ ⟨Nat.le_of_ble_eq_true rfl, Nat.le_of_ble_eq_true rfl⟩ cls_10 rfl cc_2 rfl rfl rfl (Nat.le_of_ble_eq_true rfl) (Call.mono H fun r9 h10 H => ?_)
      refine a_pop (pc := 93) (dk dt_X3_readRest 30 rfl) rfl ?_
      refine a_aload_n (pc := 94) (dk dt_X3_readRest 31 rfl) rfl ?_
      refine a_bipush (pc := 95) (dk dt_X3_readRest 32 rfl) (ik rfl) (bpk rfl) ?_
      refine a_callVv (as := [iv 32]) (st := []) (pc := 97) (dk dt_X3_readRest 33 rfl) cl_RX3_130 ⟨Nat.le_of_ble_eq_true rfl, Nat.le_of_ble_eq_true rfl⟩ ⟨Nat.le_of_ble_eq_true rfl, Nat.le_of_ble_eq_true rfl⟩ cls_10 rfl cc_2 rfl rfl rfl (Nat.le_of_ble_eq_true rfl) (Call.mono H fun _ h12 H => ?_)
      refine a_aload_n (pc := 100) (dk dt_X3_readRest 34 rfl) rfl ?_
      refine a_getr (r := 8) (pc := 101) (dk dt_X3_readRest 35 rfl) cls_3 fl_RX3_28 cf_4_5 ?_
      refine a_iload_n (pc := 104) (dk dt_X3_readRest 36 rfl) rfl ?_
      refine a_aload_n (pc := 105) (dk dt_X3_readRest 37 rfl) rfl ?_
      refine a_iconst (pc := 106) (dk dt_X3_readRest 38 rfl) (ik rfl) ?_
      refine a_bipush (pc := 107) (dk dt_X3_readRest 39 rfl) (ik rfl) (bpk rfl) ?_
      refine a_callVi (as := [iv 0, iv 29]) (st := [iv x2, rv 9]) (pc := 109) (dk dt_X3_readRest 40 rfl) cl_RX3_138 ⟨Nat.le_of_ble_eq_true rfl, Nat.le_of_ble_eq_true rfl⟩ ⟨Nat.le_of_ble_eq_true rfl, Nat.le_of_ble_eq_true rfl⟩ cls_10 rfl cc_2 rfl rfl rfl (Nat.le_of_ble_eq_true rfl) (Call.mono H fun r13 h14 H => ?_)
      refine a_iast (pc := 112) (dk dt_X3_readRest 41 rfl) ar_9 ⟨H.1, ?_⟩
      replace H := H.2
      exact a_vret (pc := 113) (dk dt_X3_readRest 42 rfl) rfl rfl H
    have B2 : (x3 = 4) → AT G m_X3_readRest 114 [(0, rv 4), (1, rv 2), (2, iv x2), (3, iv x3)] [] h2 Φ := by
      intro c
      replace H := H.2.2.1 c
      refine a_aload_n (pc := 114) (dk dt_X3_readRest 43 rfl) rfl ?_
      refine a_getr (r := 8) (pc := 115) (dk dt_X3_readRest 44 rfl) cls_3 fl_RX3_28 cf_4_5 ?_
      refine a_iload_n (pc := 118) (dk dt_X3_readRest 45 rfl) rfl ?_
      refine a_aload_n (pc := 119) (dk dt_X3_readRest 46 rfl) rfl ?_
      refine a_iconst (pc := 120) (dk dt_X3_readRest 47 rfl) (ik rfl) ?_
      refine a_bipush (pc := 121) (dk dt_X3_readRest 48 rfl) (ik rfl) (bpk rfl) ?_
      refine a_callVi (as := [iv 0, iv 29]) (st := [iv x2, rv 9]) (pc := 123) (dk dt_X3_readRest 49 rfl) cl_RX3_138 ⟨Nat.le_of_ble_eq_true rfl, Nat.le_of_ble_eq_true rfl⟩ ⟨Nat.le_of_ble_eq_true rfl, Nat.le_of_ble_eq_true rfl⟩ cls_10 rfl cc_2 rfl rfl rfl (Nat.le_of_ble_eq_true rfl) (Call.mono H fun r15 h16 H => ?_)
      refine a_iast (pc := 126) (dk dt_X3_readRest 50 rfl) ar_9 ⟨H.1, ?_⟩
      replace H := H.2
      exact a_vret (pc := 127) (dk dt_X3_readRest 51 rfl) rfl rfl H
    have B3 : (x3 = 8 ∨ x3 = 9) → AT G m_X3_readRest 128 [(0, rv 4), (1, rv 2), (2, iv x2), (3, iv x3)] [] h2 Φ := by
      intro c
      replace H := H.2.2.2.1 c
      refine a_aload_n (pc := 128) (dk dt_X3_readRest 52 rfl) rfl ?_
      refine a_getr (r := 5) (pc := 129) (dk dt_X3_readRest 53 rfl) cls_3 fl_RX3_19 cf_4_2 ?_
      refine a_iload_n (pc := 132) (dk dt_X3_readRest 54 rfl) rfl ?_
      refine a_aload_n (pc := 133) (dk dt_X3_readRest 55 rfl) rfl ?_
      refine a_bipush (pc := 134) (dk dt_X3_readRest 56 rfl) (ik rfl) (bpk rfl) ?_
      refine a_bipush (pc := 136) (dk dt_X3_readRest 57 rfl) (ik rfl) (bpk rfl) ?_
      refine a_callVi (as := [iv 25, iv 32]) (st := [iv x2, rv 6]) (pc := 138) (dk dt_X3_readRest 58 rfl) cl_RX3_134 ⟨Nat.le_of_ble_eq_true rfl, Nat.le_of_ble_eq_true rfl⟩ ⟨Nat.le_of_ble_eq_true rfl, Nat.le_of_ble_eq_true rfl⟩ cls_10 rfl cc_2 rfl rfl rfl (Nat.le_of_ble_eq_true rfl) (Call.mono H fun r17 h18 H => ?_)
      refine a_iast (pc := 141) (dk dt_X3_readRest 59 rfl) ar_6 ⟨H.1, ?_⟩
      replace H := H.2
      refine a_aload_n (pc := 142) (dk dt_X3_readRest 60 rfl) rfl ?_
      refine a_bipush (pc := 143) (dk dt_X3_readRest 61 rfl) (ik rfl) (bpk rfl) ?_
      refine a_callVv (as := [iv 32]) (st := []) (pc := 145) (dk dt_X3_readRest 62 rfl) cl_RX3_130 ⟨Nat.le_of_ble_eq_true rfl, Nat.le_of_ble_eq_true rfl⟩ ⟨Nat.le_of_ble_eq_true rfl, Nat.le_of_ble_eq_true rfl⟩ cls_10 rfl cc_2 rfl rfl rfl (Nat.le_of_ble_eq_true rfl) (Call.mono H fun _ h20 H => ?_)
      refine a_aload_n (pc := 148) (dk dt_X3_readRest 63 rfl) rfl ?_
      refine a_getr (r := 7) (pc := 149) (dk dt_X3_readRest 64 rfl) cls_3 fl_RX3_25 cf_4_4 ?_
      refine a_iload_n (pc := 152) (dk dt_X3_readRest 65 rfl) rfl ?_
      refine a_aload_n (pc := 153) (dk dt_X3_readRest 66 rfl) rfl ?_
      refine a_iconst (pc := 154) (dk dt_X3_readRest 67 rfl) (ik rfl) ?_
      refine a_sipush (pc := 155) (dk dt_X3_readRest 68 rfl) (ik rfl) (spk rfl) ?_
      refine a_callVi (as := [iv 0, iv 255]) (st := [iv x2, rv 8]) (pc := 158) (dk dt_X3_readRest 69 rfl) cl_RX3_138 ⟨Nat.le_of_ble_eq_true rfl, Nat.le_of_ble_eq_true rfl⟩ ⟨Nat.le_of_ble_eq_true rfl, Nat.le_of_ble_eq_true rfl⟩ cls_10 rfl cc_2 rfl rfl rfl (Nat.le_of_ble_eq_true rfl) (Call.mono H fun r21 h22 H => ?_)
      refine a_iast (pc := 161) (dk dt_X3_readRest 70 rfl) ar_8 ⟨H.1, ?_⟩
      replace H := H.2
      exact a_vret (pc := 162) (dk dt_X3_readRest 71 rfl) rfl rfl H
    have BD : ((x3 < 2 ∨ 9 < x3) ∨ x3 = 5 ∨ x3 = 6 ∨ x3 = 7) → AT G m_X3_readRest 163 [(0, rv 4), (1, rv 2), (2, iv x2), (3, iv x3)] [] h2 Φ := by
      intro c
      replace H := H.2.2.2.2 c
      refine a_aload_n (pc := 163) (dk dt_X3_readRest 72 rfl) rfl ?_
      refine a_getr (r := 7) (pc := 164) (dk dt_X3_readRest 73 rfl) cls_3 fl_RX3_25 cf_4_4 ?_
      refine a_iload_n (pc := 167) (dk dt_X3_readRest 74 rfl) rfl ?_
      refine a_aload_n (pc := 168) (dk dt_X3_readRest 75 rfl) rfl ?_
      refine a_iload_n (pc := 169) (dk dt_X3_readRest 76 rfl) rfl ?_
      refine a_iconst (pc := 170) (dk dt_X3_readRest 77 rfl) (ik rfl) ?_
      refine a_icmp_ne (pc := 171) (dk dt_X3_readRest 78 rfl) (tgt := 178) rfl ⟨fun c => ?_, fun c => ?_⟩
      · replace H := H.1 c
        refine a_iconst (pc := 178) (dk dt_X3_readRest 81 rfl) (ik rfl) ?_
        refine a_iload_n (pc := 179) (dk dt_X3_readRest 82 rfl) rfl ?_
        refine a_callSi (as := [iv x3]) (st := [iv 0, rv 2, iv x2, rv 8]) (pc := 180) (dk dt_X3_readRest 83 rfl) cl_RX3_148 ⟨Nat.le_of_ble_eq_true rfl, Nat.le_of_ble_eq_true rfl⟩ ⟨Nat.le_of_ble_eq_true rfl, Nat.le_of_ble_eq_true rfl⟩ rfl rfl rfl (Nat.le_of_ble_eq_true rfl) (Call.mono H fun r23 h24 H => ?_)
        refine a_callVi (as := [iv 0, iv r23]) (st := [iv x2, rv 8]) (pc := 183) (dk dt_X3_readRest 84 rfl) cl_RX3_138 ⟨Nat.le_of_ble_eq_true rfl, Nat.le_of_ble_eq_true rfl⟩ ⟨Nat.le_of_ble_eq_true rfl, Nat.le_of_ble_eq_true rfl⟩ cls_10 rfl cc_2 rfl rfl rfl (Nat.le_of_ble_eq_true rfl) (Call.mono H fun r25 h26 H => ?_)
        refine a_iast (pc := 186) (dk dt_X3_readRest 85 rfl) ar_8 ⟨H.1, ?_⟩
        replace H := H.2
        exact a_vret (pc := 187) (dk dt_X3_readRest 86 rfl) rfl rfl H
      · replace H := H.2 c
        refine a_iconst (pc := 174) (dk dt_X3_readRest 79 rfl) (ik rfl) ?_
        refine a_goto (pc := 175) (dk dt_X3_readRest 80 rfl) (tgt := 179) rfl ?_
        refine a_iload_n (pc := 179) (dk dt_X3_readRest 82 rfl) rfl ?_
        refine a_callSi (as := [iv x3]) (st := [iv 1, rv 2, iv x2, rv 8]) (pc := 180) (dk dt_X3_readRest 83 rfl) cl_RX3_148 ⟨Nat.le_of_ble_eq_true rfl, Nat.le_of_ble_eq_true rfl⟩ ⟨Nat.le_of_ble_eq_true rfl, Nat.le_of_ble_eq_true rfl⟩ rfl rfl rfl (Nat.le_of_ble_eq_true rfl) (Call.mono H fun r27 h28 H => ?_)
        refine a_callVi (as := [iv 1, iv r27]) (st := [iv x2, rv 8]) (pc := 183) (dk dt_X3_readRest 84 rfl) cl_RX3_138 ⟨Nat.le_of_ble_eq_true rfl, Nat.le_of_ble_eq_true rfl⟩ ⟨Nat.le_of_ble_eq_true rfl, Nat.le_of_ble_eq_true rfl⟩ cls_10 rfl cc_2 rfl rfl rfl (Nat.le_of_ble_eq_true rfl) (Call.mono H fun r29 h30 H => ?_)
        refine a_iast (pc := 186) (dk dt_X3_readRest 85 rfl) ar_8 ⟨H.1, ?_⟩
        replace H := H.2
        exact a_vret (pc := 187) (dk dt_X3_readRest 86 rfl) rfl rfl H
    exact a_tsw [68, 75, 114, 163, 163, 163, 128, 128] (pc := 20) (dk dt_X3_readRest 13 rfl) (by decide) (dt := 163) rfl (by decide) ⟨⟨fun c => B0 (c), fun c => B1 (c), fun c => B2 (c), fun c => BD (Or.inr (Or.inl c)), fun c => BD (Or.inr (Or.inr (Or.inl c))), fun c => BD (Or.inr (Or.inr (Or.inr (c)))), fun c => B3 (Or.inl c), fun c => B3 (Or.inr (c)), trivial⟩, fun c => BD (Or.inl c)⟩
  · replace H := H.2 c
    exact a_vret (pc := 12) (dk dt_X3_readRest 8 rfl) rfl rfl H
set_option maxHeartbeats 40000000 in
theorem U_X3_copy_68_4_0 {G : GG} {Φ : Int → Hp → Prop} {h : Hp} {x1 : Int} {x3 : Int} (H : (0 ≤ x3 ∧ x3 < 30) ∧ (0 ≤ x1 ∧ x1 < 8) ∧ (0 ≤ x3 ∧ x3 < 30) ∧ (0 ≤ x1 ∧ x1 < 8) ∧ (0 ≤ x3 ∧ x3 < 30) ∧ (0 ≤ x1 ∧ x1 < 8) ∧ (0 ≤ x3 ∧ x3 < 30) ∧ (0 ≤ x1 ∧ x1 < 8) ∧ (0 ≤ x3 ∧ x3 < 30) ∧ (0 ≤ x1 ∧ x1 < 8) ∧ (0 ≤ x3 ∧ x3 < 30) ∧ (0 ≤ x1 ∧ x1 < 8) ∧ Φ 0 (up (up (up (up (up (up h 69 x1 (h 5 x3)) 70 x1 (h 6 x3)) 71 x1 (h 7 x3)) 72 x1 (h 8 x3)) 73 x1 (h 9 x3)) 74 x1 (h 10 x3))) : AT G m_X3_copy 0 [(0, rv 68), (1, iv x1), (2, rv 4), (3, iv x3)] [] h Φ := by
  refine a_aload_n (pc := 0) (dk dt_X3_copy 0 rfl) rfl ?_
  refine a_getr (r := 68) (pc := 1) (dk dt_X3_copy 1 rfl) cls_3 fl_RX3_15 cf_68_1 ?_
  refine a_iload_n (pc := 4) (dk dt_X3_copy 2 rfl) rfl ?_
  refine a_aload_n (pc := 5) (dk dt_X3_copy 3 rfl) rfl ?_
  refine a_getr (r := 4) (pc := 6) (dk dt_X3_copy 4 rfl) cls_3 fl_RX3_15 cf_4_1 ?_
  refine a_iload_n (pc := 9) (dk dt_X3_copy 5 rfl) rfl ?_
  refine a_iald (pc := 10) (dk dt_X3_copy 6 rfl) ar_5 ⟨H.1, ?_⟩
  replace H := H.2
  refine a_iast (pc := 11) (dk dt_X3_copy 7 rfl) ar_69 ⟨H.1, ?_⟩
  replace H := H.2
  refine a_aload_n (pc := 12) (dk dt_X3_copy 8 rfl) rfl ?_
  refine a_getr (r := 69) (pc := 13) (dk dt_X3_copy 9 rfl) cls_3 fl_RX3_19 cf_68_2 ?_
  refine a_iload_n (pc := 16) (dk dt_X3_copy 10 rfl) rfl ?_
  refine a_aload_n (pc := 17) (dk dt_X3_copy 11 rfl) rfl ?_
  refine a_getr (r := 5) (pc := 18) (dk dt_X3_copy 12 rfl) cls_3 fl_RX3_19 cf_4_2 ?_
  refine a_iload_n (pc := 21) (dk dt_X3_copy 13 rfl) rfl ?_
  refine a_iald (pc := 22) (dk dt_X3_copy 14 rfl) ar_6 ⟨H.1, ?_⟩
  replace H := H.2
  refine a_top (y := (h 6 x3)) (by simp [up, cpy]) ?_
  refine a_iast (pc := 23) (dk dt_X3_copy 15 rfl) ar_70 ⟨H.1, ?_⟩
  replace H := H.2
  refine a_aload_n (pc := 24) (dk dt_X3_copy 16 rfl) rfl ?_
  refine a_getr (r := 70) (pc := 25) (dk dt_X3_copy 17 rfl) cls_3 fl_RX3_22 cf_68_3 ?_
  refine a_iload_n (pc := 28) (dk dt_X3_copy 18 rfl) rfl ?_
  refine a_aload_n (pc := 29) (dk dt_X3_copy 19 rfl) rfl ?_
  refine a_getr (r := 6) (pc := 30) (dk dt_X3_copy 20 rfl) cls_3 fl_RX3_22 cf_4_3 ?_
  refine a_iload_n (pc := 33) (dk dt_X3_copy 21 rfl) rfl ?_
  refine a_iald (pc := 34) (dk dt_X3_copy 22 rfl) ar_7 ⟨H.1, ?_⟩
  replace H := H.2
  refine a_top (y := (h 7 x3)) (by simp [up, cpy]) ?_
  refine a_iast (pc := 35) (dk dt_X3_copy 23 rfl) ar_71 ⟨H.1, ?_⟩
  replace H := H.2
  refine a_aload_n (pc := 36) (dk dt_X3_copy 24 rfl) rfl ?_
  refine a_getr (r := 71) (pc := 37) (dk dt_X3_copy 25 rfl) cls_3 fl_RX3_25 cf_68_4 ?_
  refine a_iload_n (pc := 40) (dk dt_X3_copy 26 rfl) rfl ?_
  refine a_aload_n (pc := 41) (dk dt_X3_copy 27 rfl) rfl ?_
  refine a_getr (r := 7) (pc := 42) (dk dt_X3_copy 28 rfl) cls_3 fl_RX3_25 cf_4_4 ?_
  refine a_iload_n (pc := 45) (dk dt_X3_copy 29 rfl) rfl ?_
  refine a_iald (pc := 46) (dk dt_X3_copy 30 rfl) ar_8 ⟨H.1, ?_⟩
  replace H := H.2
  refine a_top (y := (h 8 x3)) (by simp [up, cpy]) ?_
  refine a_iast (pc := 47) (dk dt_X3_copy 31 rfl) ar_72 ⟨H.1, ?_⟩
  replace H := H.2
  refine a_aload_n (pc := 48) (dk dt_X3_copy 32 rfl) rfl ?_
  refine a_getr (r := 72) (pc := 49) (dk dt_X3_copy 33 rfl) cls_3 fl_RX3_28 cf_68_5 ?_
  refine a_iload_n (pc := 52) (dk dt_X3_copy 34 rfl) rfl ?_
  refine a_aload_n (pc := 53) (dk dt_X3_copy 35 rfl) rfl ?_
  refine a_getr (r := 8) (pc := 54) (dk dt_X3_copy 36 rfl) cls_3 fl_RX3_28 cf_4_5 ?_
  refine a_iload_n (pc := 57) (dk dt_X3_copy 37 rfl) rfl ?_
  refine a_iald (pc := 58) (dk dt_X3_copy 38 rfl) ar_9 ⟨H.1, ?_⟩
  replace H := H.2
  refine a_top (y := (h 9 x3)) (by simp [up, cpy]) ?_
  refine a_iast (pc := 59) (dk dt_X3_copy 39 rfl) ar_73 ⟨H.1, ?_⟩
  replace H := H.2
  refine a_aload_n (pc := 60) (dk dt_X3_copy 40 rfl) rfl ?_
  refine a_getr (r := 73) (pc := 61) (dk dt_X3_copy 41 rfl) cls_3 fl_RX3_31 cf_68_6 ?_
  refine a_iload_n (pc := 64) (dk dt_X3_copy 42 rfl) rfl ?_
  refine a_aload_n (pc := 65) (dk dt_X3_copy 43 rfl) rfl ?_
  refine a_getr (r := 9) (pc := 66) (dk dt_X3_copy 44 rfl) cls_3 fl_RX3_31 cf_4_6 ?_
  refine a_iload_n (pc := 69) (dk dt_X3_copy 45 rfl) rfl ?_
  refine a_iald (pc := 70) (dk dt_X3_copy 46 rfl) ar_10 ⟨H.1, ?_⟩
  replace H := H.2
  refine a_top (y := (h 10 x3)) (by simp [up, cpy]) ?_
  refine a_iast (pc := 71) (dk dt_X3_copy 47 rfl) ar_74 ⟨H.1, ?_⟩
  replace H := H.2
  exact a_vret (pc := 72) (dk dt_X3_copy 48 rfl) rfl rfl H
set_option maxHeartbeats 40000000 in
theorem U_X3_copy_43_68_0 {G : GG} {Φ : Int → Hp → Prop} {h : Hp} {x1 : Int} {x3 : Int} (H : (0 ≤ x3 ∧ x3 < 8) ∧ (0 ≤ x1 ∧ x1 < 240) ∧ (0 ≤ x3 ∧ x3 < 8) ∧ (0 ≤ x1 ∧ x1 < 240) ∧ (0 ≤ x3 ∧ x3 < 8) ∧ (0 ≤ x1 ∧ x1 < 240) ∧ (0 ≤ x3 ∧ x3 < 8) ∧ (0 ≤ x1 ∧ x1 < 240) ∧ (0 ≤ x3 ∧ x3 < 8) ∧ (0 ≤ x1 ∧ x1 < 240) ∧ (0 ≤ x3 ∧ x3 < 8) ∧ (0 ≤ x1 ∧ x1 < 240) ∧ Φ 0 (up (up (up (up (up (up h 44 x1 (h 69 x3)) 45 x1 (h 70 x3)) 46 x1 (h 71 x3)) 47 x1 (h 72 x3)) 48 x1 (h 73 x3)) 49 x1 (h 74 x3))) : AT G m_X3_copy 0 [(0, rv 43), (1, iv x1), (2, rv 68), (3, iv x3)] [] h Φ := by
  refine a_aload_n (pc := 0) (dk dt_X3_copy 0 rfl) rfl ?_
  refine a_getr (r := 43) (pc := 1) (dk dt_X3_copy 1 rfl) cls_3 fl_RX3_15 cf_43_1 ?_
  refine a_iload_n (pc := 4) (dk dt_X3_copy 2 rfl) rfl ?_
  refine a_aload_n (pc := 5) (dk dt_X3_copy 3 rfl) rfl ?_
  refine a_getr (r := 68) (pc := 6) (dk dt_X3_copy 4 rfl) cls_3 fl_RX3_15 cf_68_1 ?_
  refine a_iload_n (pc := 9) (dk dt_X3_copy 5 rfl) rfl ?_
  refine a_iald (pc := 10) (dk dt_X3_copy 6 rfl) ar_69 ⟨H.1, ?_⟩
  replace H := H.2
  refine a_iast (pc := 11) (dk dt_X3_copy 7 rfl) ar_44 ⟨H.1, ?_⟩
  replace H := H.2
  refine a_aload_n (pc := 12) (dk dt_X3_copy 8 rfl) rfl ?_
  refine a_getr (r := 44) (pc := 13) (dk dt_X3_copy 9 rfl) cls_3 fl_RX3_19 cf_43_2 ?_
  refine a_iload_n (pc := 16) (dk dt_X3_copy 10 rfl) rfl ?_
  refine a_aload_n (pc := 17) (dk dt_X3_copy 11 rfl) rfl ?_
  refine a_getr (r := 69) (pc := 18) (dk dt_X3_copy 12 rfl) cls_3 fl_RX3_19 cf_68_2 ?_
  refine a_iload_n (pc := 21) (dk dt_X3_copy 13 rfl) rfl ?_
  refine a_iald (pc := 22) (dk dt_X3_copy 14 rfl) ar_70 ⟨H.1, ?_⟩
  replace H := H.2
  refine a_top (y := (h 70 x3)) (by simp [up, cpy]) ?_
  refine a_iast (pc := 23) (dk dt_X3_copy 15 rfl) ar_45 ⟨H.1, ?_⟩
  replace H := H.2
  refine a_aload_n (pc := 24) (dk dt_X3_copy 16 rfl) rfl ?_
  refine a_getr (r := 45) (pc := 25) (dk dt_X3_copy 17 rfl) cls_3 fl_RX3_22 cf_43_3 ?_
  refine a_iload_n (pc := 28) (dk dt_X3_copy 18 rfl) rfl ?_
  refine a_aload_n (pc := 29) (dk dt_X3_copy 19 rfl) rfl ?_
  refine a_getr (r := 70) (pc := 30) (dk dt_X3_copy 20 rfl) cls_3 fl_RX3_22 cf_68_3 ?_
  refine a_iload_n (pc := 33) (dk dt_X3_copy 21 rfl) rfl ?_
  refine a_iald (pc := 34) (dk dt_X3_copy 22 rfl) ar_71 ⟨H.1, ?_⟩
  replace H := H.2
  refine a_top (y := (h 71 x3)) (by simp [up, cpy]) ?_
  refine a_iast (pc := 35) (dk dt_X3_copy 23 rfl) ar_46 ⟨H.1, ?_⟩
  replace H := H.2
  refine a_aload_n (pc := 36) (dk dt_X3_copy 24 rfl) rfl ?_
  refine a_getr (r := 46) (pc := 37) (dk dt_X3_copy 25 rfl) cls_3 fl_RX3_25 cf_43_4 ?_
  refine a_iload_n (pc := 40) (dk dt_X3_copy 26 rfl) rfl ?_
  refine a_aload_n (pc := 41) (dk dt_X3_copy 27 rfl) rfl ?_
  refine a_getr (r := 71) (pc := 42) (dk dt_X3_copy 28 rfl) cls_3 fl_RX3_25 cf_68_4 ?_
  refine a_iload_n (pc := 45) (dk dt_X3_copy 29 rfl) rfl ?_
  refine a_iald (pc := 46) (dk dt_X3_copy 30 rfl) ar_72 ⟨H.1, ?_⟩
  replace H := H.2
  refine a_top (y := (h 72 x3)) (by simp [up, cpy]) ?_
  refine a_iast (pc := 47) (dk dt_X3_copy 31 rfl) ar_47 ⟨H.1, ?_⟩
  replace H := H.2
  refine a_aload_n (pc := 48) (dk dt_X3_copy 32 rfl) rfl ?_
  refine a_getr (r := 47) (pc := 49) (dk dt_X3_copy 33 rfl) cls_3 fl_RX3_28 cf_43_5 ?_
  refine a_iload_n (pc := 52) (dk dt_X3_copy 34 rfl) rfl ?_
  refine a_aload_n (pc := 53) (dk dt_X3_copy 35 rfl) rfl ?_
  refine a_getr (r := 72) (pc := 54) (dk dt_X3_copy 36 rfl) cls_3 fl_RX3_28 cf_68_5 ?_
  refine a_iload_n (pc := 57) (dk dt_X3_copy 37 rfl) rfl ?_
  refine a_iald (pc := 58) (dk dt_X3_copy 38 rfl) ar_73 ⟨H.1, ?_⟩
  replace H := H.2
  refine a_top (y := (h 73 x3)) (by simp [up, cpy]) ?_
  refine a_iast (pc := 59) (dk dt_X3_copy 39 rfl) ar_48 ⟨H.1, ?_⟩
  replace H := H.2
  refine a_aload_n (pc := 60) (dk dt_X3_copy 40 rfl) rfl ?_
  refine a_getr (r := 48) (pc := 61) (dk dt_X3_copy 41 rfl) cls_3 fl_RX3_31 cf_43_6 ?_
  refine a_iload_n (pc := 64) (dk dt_X3_copy 42 rfl) rfl ?_
  refine a_aload_n (pc := 65) (dk dt_X3_copy 43 rfl) rfl ?_
  refine a_getr (r := 73) (pc := 66) (dk dt_X3_copy 44 rfl) cls_3 fl_RX3_31 cf_68_6 ?_
  refine a_iload_n (pc := 69) (dk dt_X3_copy 45 rfl) rfl ?_
  refine a_iald (pc := 70) (dk dt_X3_copy 46 rfl) ar_74 ⟨H.1, ?_⟩
  replace H := H.2
  refine a_top (y := (h 74 x3)) (by simp [up, cpy]) ?_
  refine a_iast (pc := 71) (dk dt_X3_copy 47 rfl) ar_49 ⟨H.1, ?_⟩
  replace H := H.2
  exact a_vret (pc := 72) (dk dt_X3_copy 48 rfl) rfl rfl H
set_option maxHeartbeats 40000000 in
theorem U_X3_isThere_4_0 {G : GG} {Φ : Int → Hp → Prop} {h : Hp} {x1 : Int} (H : ((x1 < 0 → Φ 0 h) ∧ (0 ≤ x1 → (((w32 ((h 4 0) - 1)) < x1 → Φ 0 h) ∧ (x1 ≤ (w32 ((h 4 0) - 1)) → (0 ≤ x1 ∧ x1 < 30) ∧ (((h 5 x1) = 0 → Φ 0 h) ∧ ((h 5 x1) ≠ 0 → Φ 1 h))))))) : AT G m_X3_isThere 0 [(0, rv 4), (1, iv x1)] [] h Φ := by
  refine a_iload_n (pc := 0) (dk dt_X3_isThere 0 rfl) rfl ?_
  refine a_iconst (pc := 1) (dk dt_X3_isThere 1 rfl) (ik rfl) ?_
  refine a_aload_n (pc := 2) (dk dt_X3_isThere 2 rfl) rfl ?_
  refine a_geti (pc := 3) (dk dt_X3_isThere 3 rfl) cls_3 fl_RX3_9 cf_4_0 ?_
  refine a_iconst (pc := 6) (dk dt_X3_isThere 4 rfl) (ik rfl) ?_
  refine a_isub (pc := 7) (dk dt_X3_isThere 5 rfl) ?_
  refine a_callNi (as := [iv x1, iv 0, iv (w32 ((h 4 0) - 1))]) (st := []) (pc := 8) (dk dt_X3_isThere 6 rfl) cl_RX3_102 ⟨Nat.le_of_ble_eq_true rfl, Nat.le_of_ble_eq_true rfl⟩ ⟨Nat.le_of_ble_eq_true rfl, Nat.le_of_ble_eq_true rfl⟩ rfl rfl rfl (Nat.le_of_ble_eq_true rfl) (Call.of rfl (Nat.le_of_ble_eq_true rfl) rfl ?_)
  refine a_iload_n (pc := 0) (dk dt_X11_within 0 rfl) rfl ?_
  refine a_iload_n (pc := 1) (dk dt_X11_within 1 rfl) rfl ?_
  refine a_icmp_lt (pc := 2) (dk dt_X11_within 2 rfl) (tgt := 14) rfl ⟨fun c => ?_, fun c => ?_⟩
  · replace H := H.1 c
    refine a_iconst (pc := 14) (dk dt_X11_within 8 rfl) (ik rfl) ?_
    refine a_zret (pc := 15) (dk dt_X11_within 9 rfl) rfl rfl ⟨by decide, ?_⟩
    show ATW _ _ _ _ _ _ _ _ _ _
    refine a_if_eq (pc := 11) (dk dt_X3_isThere 7 rfl) (tgt := 27) rfl ⟨fun _ => ?_, fun c => absurd c (by decide)⟩
    refine a_iconst (pc := 27) (dk dt_X3_isThere 15 rfl) (ik rfl) ?_
    exact a_zret (pc := 28) (dk dt_X3_isThere 16 rfl) rfl rfl ⟨by decide, H⟩
  · replace H := H.2 c
    refine a_iload_n (pc := 5) (dk dt_X11_within 3 rfl) rfl ?_
    refine a_iload_n (pc := 6) (dk dt_X11_within 4 rfl) rfl ?_
    refine a_icmp_gt (pc := 7) (dk dt_X11_within 5 rfl) (tgt := 14) rfl ⟨fun c => ?_, fun c => ?_⟩
    · replace H := H.1 c
      refine a_iconst (pc := 14) (dk dt_X11_within 8 rfl) (ik rfl) ?_
      refine a_zret (pc := 15) (dk dt_X11_within 9 rfl) rfl rfl ⟨by decide, ?_⟩
      show ATW _ _ _ _ _ _ _ _ _ _
      refine a_if_eq (pc := 11) (dk dt_X3_isThere 7 rfl) (tgt := 27) rfl ⟨fun _ => ?_, fun c => absurd c (by decide)⟩
      refine a_iconst (pc := 27) (dk dt_X3_isThere 15 rfl) (ik rfl) ?_
      exact a_zret (pc := 28) (dk dt_X3_isThere 16 rfl) rfl rfl ⟨by decide, H⟩
    · replace H := H.2 c
      refine a_iconst (pc := 10) (dk dt_X11_within 6 rfl) (ik rfl) ?_
      refine a_goto (pc := 11) (dk dt_X11_within 7 rfl) (tgt := 15) rfl ?_
      refine a_zret (pc := 15) (dk dt_X11_within 9 rfl) rfl rfl ⟨by decide, ?_⟩
      show ATW _ _ _ _ _ _ _ _ _ _
      refine a_if_eq (pc := 11) (dk dt_X3_isThere 7 rfl) (tgt := 27) rfl ⟨fun c => absurd c (by decide), fun _ => ?_⟩
      refine a_aload_n (pc := 14) (dk dt_X3_isThere 8 rfl) rfl ?_
      refine a_getr (r := 4) (pc := 15) (dk dt_X3_isThere 9 rfl) cls_3 fl_RX3_15 cf_4_1 ?_
      refine a_iload_n (pc := 18) (dk dt_X3_isThere 10 rfl) rfl ?_
      refine a_iald (pc := 19) (dk dt_X3_isThere 11 rfl) ar_5 ⟨H.1, ?_⟩
      replace H := H.2
      refine a_if_eq (pc := 20) (dk dt_X3_isThere 12 rfl) (tgt := 27) rfl ⟨fun c => ?_, fun c => ?_⟩
      · replace H := H.1 c
        refine a_iconst (pc := 27) (dk dt_X3_isThere 15 rfl) (ik rfl) ?_
        exact a_zret (pc := 28) (dk dt_X3_isThere 16 rfl) rfl rfl ⟨by decide, H⟩
      · replace H := H.2 c
        refine a_iconst (pc := 23) (dk dt_X3_isThere 13 rfl) (ik rfl) ?_
        refine a_goto (pc := 24) (dk dt_X3_isThere 14 rfl) (tgt := 28) rfl ?_
        exact a_zret (pc := 28) (dk dt_X3_isThere 16 rfl) rfl rfl ⟨by decide, H⟩
set_option maxHeartbeats 40000000 in
theorem U_X3_copy_68_68_0 {G : GG} {Φ : Int → Hp → Prop} {h : Hp} {x1 : Int} {x3 : Int} (H : (0 ≤ x3 ∧ x3 < 8) ∧ (0 ≤ x1 ∧ x1 < 8) ∧ (0 ≤ x3 ∧ x3 < 8) ∧ (0 ≤ x1 ∧ x1 < 8) ∧ (0 ≤ x3 ∧ x3 < 8) ∧ (0 ≤ x1 ∧ x1 < 8) ∧ (0 ≤ x3 ∧ x3 < 8) ∧ (0 ≤ x1 ∧ x1 < 8) ∧ (0 ≤ x3 ∧ x3 < 8) ∧ (0 ≤ x1 ∧ x1 < 8) ∧ (0 ≤ x3 ∧ x3 < 8) ∧ (0 ≤ x1 ∧ x1 < 8) ∧ Φ 0 (up (up (up (up (up (up h 69 x1 (h 69 x3)) 70 x1 (h 70 x3)) 71 x1 (h 71 x3)) 72 x1 (h 72 x3)) 73 x1 (h 73 x3)) 74 x1 (h 74 x3))) : AT G m_X3_copy 0 [(0, rv 68), (1, iv x1), (2, rv 68), (3, iv x3)] [] h Φ := by
  refine a_aload_n (pc := 0) (dk dt_X3_copy 0 rfl) rfl ?_
  refine a_getr (r := 68) (pc := 1) (dk dt_X3_copy 1 rfl) cls_3 fl_RX3_15 cf_68_1 ?_
  refine a_iload_n (pc := 4) (dk dt_X3_copy 2 rfl) rfl ?_
  refine a_aload_n (pc := 5) (dk dt_X3_copy 3 rfl) rfl ?_
  refine a_getr (r := 68) (pc := 6) (dk dt_X3_copy 4 rfl) cls_3 fl_RX3_15 cf_68_1 ?_
  refine a_iload_n (pc := 9) (dk dt_X3_copy 5 rfl) rfl ?_
  refine a_iald (pc := 10) (dk dt_X3_copy 6 rfl) ar_69 ⟨H.1, ?_⟩
  replace H := H.2
  refine a_iast (pc := 11) (dk dt_X3_copy 7 rfl) ar_69 ⟨H.1, ?_⟩
  replace H := H.2
  refine a_aload_n (pc := 12) (dk dt_X3_copy 8 rfl) rfl ?_
  refine a_getr (r := 69) (pc := 13) (dk dt_X3_copy 9 rfl) cls_3 fl_RX3_19 cf_68_2 ?_
  refine a_iload_n (pc := 16) (dk dt_X3_copy 10 rfl) rfl ?_
  refine a_aload_n (pc := 17) (dk dt_X3_copy 11 rfl) rfl ?_
  refine a_getr (r := 69) (pc := 18) (dk dt_X3_copy 12 rfl) cls_3 fl_RX3_19 cf_68_2 ?_
  refine a_iload_n (pc := 21) (dk dt_X3_copy 13 rfl) rfl ?_
  refine a_iald (pc := 22) (dk dt_X3_copy 14 rfl) ar_70 ⟨H.1, ?_⟩
  replace H := H.2
  refine a_top (y := (h 70 x3)) (by simp [up, cpy]) ?_
  refine a_iast (pc := 23) (dk dt_X3_copy 15 rfl) ar_70 ⟨H.1, ?_⟩
  replace H := H.2
  refine a_aload_n (pc := 24) (dk dt_X3_copy 16 rfl) rfl ?_
  refine a_getr (r := 70) (pc := 25) (dk dt_X3_copy 17 rfl) cls_3 fl_RX3_22 cf_68_3 ?_
  refine a_iload_n (pc := 28) (dk dt_X3_copy 18 rfl) rfl ?_
  refine a_aload_n (pc := 29) (dk dt_X3_copy 19 rfl) rfl ?_
  refine a_getr (r := 70) (pc := 30) (dk dt_X3_copy 20 rfl) cls_3 fl_RX3_22 cf_68_3 ?_
  refine a_iload_n (pc := 33) (dk dt_X3_copy 21 rfl) rfl ?_
  refine a_iald (pc := 34) (dk dt_X3_copy 22 rfl) ar_71 ⟨H.1, ?_⟩
  replace H := H.2
  refine a_top (y := (h 71 x3)) (by simp [up, cpy]) ?_
  refine a_iast (pc := 35) (dk dt_X3_copy 23 rfl) ar_71 ⟨H.1, ?_⟩
  replace H := H.2
  refine a_aload_n (pc := 36) (dk dt_X3_copy 24 rfl) rfl ?_
  refine a_getr (r := 71) (pc := 37) (dk dt_X3_copy 25 rfl) cls_3 fl_RX3_25 cf_68_4 ?_
  refine a_iload_n (pc := 40) (dk dt_X3_copy 26 rfl) rfl ?_
  refine a_aload_n (pc := 41) (dk dt_X3_copy 27 rfl) rfl ?_
  refine a_getr (r := 71) (pc := 42) (dk dt_X3_copy 28 rfl) cls_3 fl_RX3_25 cf_68_4 ?_
  refine a_iload_n (pc := 45) (dk dt_X3_copy 29 rfl) rfl ?_
  refine a_iald (pc := 46) (dk dt_X3_copy 30 rfl) ar_72 ⟨H.1, ?_⟩
  replace H := H.2
  refine a_top (y := (h 72 x3)) (by simp [up, cpy]) ?_
  refine a_iast (pc := 47) (dk dt_X3_copy 31 rfl) ar_72 ⟨H.1, ?_⟩
  replace H := H.2
  refine a_aload_n (pc := 48) (dk dt_X3_copy 32 rfl) rfl ?_
  refine a_getr (r := 72) (pc := 49) (dk dt_X3_copy 33 rfl) cls_3 fl_RX3_28 cf_68_5 ?_
  refine a_iload_n (pc := 52) (dk dt_X3_copy 34 rfl) rfl ?_
  refine a_aload_n (pc := 53) (dk dt_X3_copy 35 rfl) rfl ?_
  refine a_getr (r := 72) (pc := 54) (dk dt_X3_copy 36 rfl) cls_3 fl_RX3_28 cf_68_5 ?_
  refine a_iload_n (pc := 57) (dk dt_X3_copy 37 rfl) rfl ?_
  refine a_iald (pc := 58) (dk dt_X3_copy 38 rfl) ar_73 ⟨H.1, ?_⟩
  replace H := H.2
  refine a_top (y := (h 73 x3)) (by simp [up, cpy]) ?_
  refine a_iast (pc := 59) (dk dt_X3_copy 39 rfl) ar_73 ⟨H.1, ?_⟩
  replace H := H.2
  refine a_aload_n (pc := 60) (dk dt_X3_copy 40 rfl) rfl ?_
  refine a_getr (r := 73) (pc := 61) (dk dt_X3_copy 41 rfl) cls_3 fl_RX3_31 cf_68_6 ?_
  refine a_iload_n (pc := 64) (dk dt_X3_copy 42 rfl) rfl ?_
  refine a_aload_n (pc := 65) (dk dt_X3_copy 43 rfl) rfl ?_
  refine a_getr (r := 73) (pc := 66) (dk dt_X3_copy 44 rfl) cls_3 fl_RX3_31 cf_68_6 ?_
  refine a_iload_n (pc := 69) (dk dt_X3_copy 45 rfl) rfl ?_
  refine a_iald (pc := 70) (dk dt_X3_copy 46 rfl) ar_74 ⟨H.1, ?_⟩
  replace H := H.2
  refine a_top (y := (h 74 x3)) (by simp [up, cpy]) ?_
  refine a_iast (pc := 71) (dk dt_X3_copy 47 rfl) ar_74 ⟨H.1, ?_⟩
  replace H := H.2
  exact a_vret (pc := 72) (dk dt_X3_copy 48 rfl) rfl rfl H
set_option maxHeartbeats 40000000 in
theorem U_X3_text_0 {G : GG} {Φ : Int → Hp → Prop} {h : Hp} {x0 : Int} (H : (((x0 = 1) → Φ 1000 h) ∧ ((x0 = 2) → Φ 1001 h) ∧ ((x0 = 3) → Φ 1002 h) ∧ ((x0 = 4) → Φ 1003 h) ∧ ((x0 = 5) → Φ 1004 h) ∧ ((x0 = 6) → Φ 1005 h) ∧ ((x0 = 7) → Φ 1006 h) ∧ ((x0 = 8) → Φ 1007 h) ∧ ((x0 = 9) → Φ 1008 h) ∧ ((x0 = 10) → Φ 1009 h) ∧ ((x0 = 11) → Φ 1010 h) ∧ ((x0 = 12) → Φ 1011 h) ∧ ((x0 = 13) → Φ 1012 h) ∧ ((x0 = 14) → Φ 1013 h) ∧ ((x0 = 15) → Φ 1014 h) ∧ (((x0 < 1 ∨ 15 < x0)) → Call G m_X3_thingText [iv x0] h (fun r1 h2 => 0 < r1.toNat ∧ Φ (r1.toNat : Nat) h2)))) : AT G m_X3_text 0 [(0, iv x0)] [] h Φ := by
  refine a_iload_n (pc := 0) (dk dt_X3_text 0 rfl) rfl ?_
  have B0 : (x0 = 1) → AT G m_X3_text 76 [(0, iv x0)] [] h Φ := by
    intro c
    replace H := H.1 c
    refine a_ldcS (i := 0) (pc := 76) (dk dt_X3_text 2 rfl) rfl ?_
    exact a_aret (pc := 78) (dk dt_X3_text 3 rfl) rfl (by decide) rfl H
  have B1 : (x0 = 2) → AT G m_X3_text 79 [(0, iv x0)] [] h Φ := by
    intro c
    replace H := H.2.1 c
    refine a_ldcS (i := 1) (pc := 79) (dk dt_X3_text 4 rfl) rfl ?_
    exact a_aret (pc := 81) (dk dt_X3_text 5 rfl) rfl (by decide) rfl H
  have B2 : (x0 = 3) → AT G m_X3_text 82 [(0, iv x0)] [] h Φ := by
    intro c
    replace H := H.2.2.1 c
    refine a_ldcS (i := 2) (pc := 82) (dk dt_X3_text 6 rfl) rfl ?_
    exact a_aret (pc := 84) (dk dt_X3_text 7 rfl) rfl (by decide) rfl H
  have B3 : (x0 = 4) → AT G m_X3_text 85 [(0, iv x0)] [] h Φ := by
    intro c
    replace H := H.2.2.2.1 c
    refine a_ldcS (i := 3) (pc := 85) (dk dt_X3_text 8 rfl) rfl ?_
    exact a_aret (pc := 87) (dk dt_X3_text 9 rfl) rfl (by decide) rfl H
  have B4 : (x0 = 5) → AT G m_X3_text 88 [(0, iv x0)] [] h Φ := by
    intro c
    replace H := H.2.2.2.2.1 c
    refine a_ldcS (i := 4) (pc := 88) (dk dt_X3_text 10 rfl) rfl ?_
    exact a_aret (pc := 90) (dk dt_X3_text 11 rfl) rfl (by decide) rfl H
  have B5 : (x0 = 6) → AT G m_X3_text 91 [(0, iv x0)] [] h Φ := by
    intro c
    replace H := H.2.2.2.2.2.1 c
    refine a_ldcS (i := 5) (pc := 91) (dk dt_X3_text 12 rfl) rfl ?_
    exact a_aret (pc := 93) (dk dt_X3_text 13 rfl) rfl (by decide) rfl H
  have B6 : (x0 = 7) → AT G m_X3_text 94 [(0, iv x0)] [] h Φ := by
    intro c
    replace H := H.2.2.2.2.2.2.1 c
    refine a_ldcS (i := 6) (pc := 94) (dk dt_X3_text 14 rfl) rfl ?_
    exact a_aret (pc := 96) (dk dt_X3_text 15 rfl) rfl (by decide) rfl H
  have B7 : (x0 = 8) → AT G m_X3_text 97 [(0, iv x0)] [] h Φ := by
    intro c
    replace H := H.2.2.2.2.2.2.2.1 c
    refine a_ldcS (i := 7) (pc := 97) (dk dt_X3_text 16 rfl) rfl ?_
    exact a_aret (pc := 99) (dk dt_X3_text 17 rfl) rfl (by decide) rfl H
  have B8 : (x0 = 9) → AT G m_X3_text 100 [(0, iv x0)] [] h Φ := by
    intro c
    replace H := H.2.2.2.2.2.2.2.2.1 c
    refine a_ldcS (i := 8) (pc := 100) (dk dt_X3_text 18 rfl) rfl ?_
    exact a_aret (pc := 102) (dk dt_X3_text 19 rfl) rfl (by decide) rfl H
  have B9 : (x0 = 10) → AT G m_X3_text 103 [(0, iv x0)] [] h Φ := by
    intro c
    replace H := H.2.2.2.2.2.2.2.2.2.1 c
    refine a_ldcS (i := 9) (pc := 103) (dk dt_X3_text 20 rfl) rfl ?_
    exact a_aret (pc := 105) (dk dt_X3_text 21 rfl) rfl (by decide) rfl H
  have B10 : (x0 = 11) → AT G m_X3_text 106 [(0, iv x0)] [] h Φ := by
    intro c
    replace H := H.2.2.2.2.2.2.2.2.2.2.1 c
    refine a_ldcS (i := 10) (pc := 106) (dk dt_X3_text 22 rfl) rfl ?_
    exact a_aret (pc := 108) (dk dt_X3_text 23 rfl) rfl (by decide) rfl H
  have B11 : (x0 = 12) → AT G m_X3_text 109 [(0, iv x0)] [] h Φ := by
    intro c
    replace H := H.2.2.2.2.2.2.2.2.2.2.2.1 c
    refine a_ldcS (i := 11) (pc := 109) (dk dt_X3_text 24 rfl) rfl ?_
    exact a_aret (pc := 111) (dk dt_X3_text 25 rfl) rfl (by decide) rfl H
  have B12 : (x0 = 13) → AT G m_X3_text 112 [(0, iv x0)] [] h Φ := by
    intro c
    replace H := H.2.2.2.2.2.2.2.2.2.2.2.2.1 c
    refine a_ldcS (i := 12) (pc := 112) (dk dt_X3_text 26 rfl) rfl ?_
    exact a_aret (pc := 114) (dk dt_X3_text 27 rfl) rfl (by decide) rfl H
  have B13 : (x0 = 14) → AT G m_X3_text 115 [(0, iv x0)] [] h Φ := by
    intro c
    replace H := H.2.2.2.2.2.2.2.2.2.2.2.2.2.1 c
    refine a_ldcS (i := 13) (pc := 115) (dk dt_X3_text 28 rfl) rfl ?_
    exact a_aret (pc := 117) (dk dt_X3_text 29 rfl) rfl (by decide) rfl H
  have B14 : (x0 = 15) → AT G m_X3_text 118 [(0, iv x0)] [] h Φ := by
    intro c
    replace H := H.2.2.2.2.2.2.2.2.2.2.2.2.2.2.1 c
    refine a_ldcS (i := 14) (pc := 118) (dk dt_X3_text 30 rfl) rfl ?_
    exact a_aret (pc := 120) (dk dt_X3_text 31 rfl) rfl (by decide) rfl H
  have BD : ((x0 < 1 ∨ 15 < x0)) → AT G m_X3_text 121 [(0, iv x0)] [] h Φ := by
    intro c
    replace H := H.2.2.2.2.2.2.2.2.2.2.2.2.2.2.2 c
    refine a_iload_n (pc := 121) (dk dt_X3_text 32 rfl) rfl ?_
    refine a_callSr (as := [iv x0]) (st := []) (pc := 122) (dk dt_X3_text 33 rfl) cl_RX3_64 ⟨Nat.le_of_ble_eq_true rfl, Nat.le_of_ble_eq_true rfl⟩ ⟨Nat.le_of_ble_eq_true rfl, Nat.le_of_ble_eq_true rfl⟩ rfl rfl rfl (Nat.le_of_ble_eq_true rfl) (Call.mono H fun r1 h2 H => ?_)
    exact a_aret (pc := 125) (dk dt_X3_text 34 rfl) rfl H.1 rfl H.2
  exact a_tsw [76, 79, 82, 85, 88, 91, 94, 97, 100, 103, 106, 109, 112, 115, 118] (pc := 1) (dk dt_X3_text 1 rfl) (by decide) (dt := 121) rfl (by decide) ⟨⟨fun c => B0 (c), fun c => B1 (c), fun c => B2 (c), fun c => B3 (c), fun c => B4 (c), fun c => B5 (c), fun c => B6 (c), fun c => B7 (c), fun c => B8 (c), fun c => B9 (c), fun c => B10 (c), fun c => B11 (c), fun c => B12 (c), fun c => B13 (c), fun c => B14 (c), trivial⟩, fun c => BD (c)⟩
set_option maxHeartbeats 40000000 in
theorem U_X3_greatest_0 {G : GG} {Φ : Int → Hp → Prop} {h : Hp} {x0 : Int} (H : (((x0 = 1) → Φ 9999 h) ∧ ((x0 = 6 ∨ x0 = 7) → Φ 7 h) ∧ ((x0 = 10) → Φ 15 h) ∧ ((x0 = 11) → Φ 3 h) ∧ (((x0 < 1 ∨ 11 < x0) ∨ x0 = 2 ∨ x0 = 3 ∨ x0 = 4 ∨ x0 = 5 ∨ x0 = 8 ∨ x0 = 9) → Φ 7 h))) : AT G m_X3_greatest 0 [(0, iv x0)] [] h Φ := by
  refine a_iload_n (pc := 0) (dk dt_X3_greatest 0 rfl) rfl ?_
  have B0 : (x0 = 1) → AT G m_X3_greatest 60 [(0, iv x0)] [] h Φ := by
    intro c
    replace H := H.1 c
    refine a_sipush (pc := 60) (dk dt_X3_greatest 2 rfl) (ik rfl) (spk rfl) ?_
    exact a_iret (pc := 63) (dk dt_X3_greatest 3 rfl) rfl rfl H
  have B1 : (x0 = 6 ∨ x0 = 7) → AT G m_X3_greatest 64 [(0, iv x0)] [] h Φ := by
    intro c
    replace H := H.2.1 c
    refine a_bipush (pc := 64) (dk dt_X3_greatest 4 rfl) (ik rfl) (bpk rfl) ?_
    exact a_iret (pc := 66) (dk dt_X3_greatest 5 rfl) rfl rfl H
  have B2 : (x0 = 10) → AT G m_X3_greatest 67 [(0, iv x0)] [] h Φ := by
    intro c
    replace H := H.2.2.1 c
    refine a_bipush (pc := 67) (dk dt_X3_greatest 6 rfl) (ik rfl) (bpk rfl) ?_
    exact a_iret (pc := 69) (dk dt_X3_greatest 7 rfl) rfl rfl H
  have B3 : (x0 = 11) → AT G m_X3_greatest 70 [(0, iv x0)] [] h Φ := by
    intro c
    replace H := H.2.2.2.1 c
    refine a_iconst (pc := 70) (dk dt_X3_greatest 8 rfl) (ik rfl) ?_
    exact a_iret (pc := 71) (dk dt_X3_greatest 9 rfl) rfl rfl H
  have BD : ((x0 < 1 ∨ 11 < x0) ∨ x0 = 2 ∨ x0 = 3 ∨ x0 = 4 ∨ x0 = 5 ∨ x0 = 8 ∨ x0 = 9) → AT G m_X3_greatest 72 [(0, iv x0)] [] h Φ := by
    intro c
    replace H := H.2.2.2.2 c
    refine a_bipush (pc := 72) (dk dt_X3_greatest 10 rfl) (ik rfl) (bpk rfl) ?_
    exact a_iret (pc := 74) (dk dt_X3_greatest 11 rfl) rfl rfl H
  exact a_tsw [60, 72, 72, 72, 72, 64, 64, 72, 72, 67, 70] (pc := 1) (dk dt_X3_greatest 1 rfl) (by decide) (dt := 72) rfl (by decide) ⟨⟨fun c => B0 (c), fun c => BD (Or.inr (Or.inl c)), fun c => BD (Or.inr (Or.inr (Or.inl c))), fun c => BD (Or.inr (Or.inr (Or.inr (Or.inl c)))), fun c => BD (Or.inr (Or.inr (Or.inr (Or.inr (Or.inl c))))), fun c => B1 (Or.inl c), fun c => B1 (Or.inr (c)), fun c => BD (Or.inr (Or.inr (Or.inr (Or.inr (Or.inr (Or.inl c)))))), fun c => BD (Or.inr (Or.inr (Or.inr (Or.inr (Or.inr (Or.inr (c))))))), fun c => B2 (c), fun c => B3 (c), trivial⟩, fun c => BD (Or.inl c)⟩
set_option maxHeartbeats 40000000 in
theorem U_X3_erase_43_0 {G : GG} {Φ : Int → Hp → Prop} {h : Hp} {x1 : Int} {x2 : Int} (H : AT G m_X3_erase 2 [(0, rv 43), (2, iv x2), (3, iv x1)] [] h Φ) : AT G m_X3_erase 0 [(0, rv 43), (1, iv x1), (2, iv x2)] [] h Φ := by
  refine a_iload_n (pc := 0) (dk dt_X3_erase 0 rfl) rfl ?_
  refine a_istore_n (pc := 1) (dk dt_X3_erase 1 rfl) (by decide) rfl rfl ?_
  exact a_pick [0, 2, 3] rfl H
set_option maxHeartbeats 40000000 in
theorem U_X3_erase_43_2 {G : GG} {Φ : Int → Hp → Prop} {h : Hp} {x2 : Int} {x3 : Int} (H : ((x2 ≤ x3 → Φ 0 h) ∧ (x3 < x2 → (0 ≤ x3 ∧ x3 < 240) ∧ AT G m_X3_erase 2 [(0, rv 43), (2, iv x2), (3, iv (w32 (x3 + 1)))] [] (up h 44 x3 0) Φ))) : AT G m_X3_erase 2 [(0, rv 43), (2, iv x2), (3, iv x3)] [] h Φ := by
  refine a_iload_n (pc := 2) (dk dt_X3_erase 2 rfl) rfl ?_
  refine a_iload_n (pc := 3) (dk dt_X3_erase 3 rfl) rfl ?_
  refine a_icmp_ge (pc := 4) (dk dt_X3_erase 4 rfl) (tgt := 20) rfl ⟨fun c => ?_, fun c => ?_⟩
  · replace H := H.1 c
    exact a_vret (pc := 20) (dk dt_X3_erase 12 rfl) rfl rfl H
  · replace H := H.2 c
    refine a_aload_n (pc := 7) (dk dt_X3_erase 5 rfl) rfl ?_
    refine a_getr (r := 43) (pc := 8) (dk dt_X3_erase 6 rfl) cls_3 fl_RX3_15 cf_43_1 ?_
    refine a_iload_n (pc := 11) (dk dt_X3_erase 7 rfl) rfl ?_
    refine a_iconst (pc := 12) (dk dt_X3_erase 8 rfl) (ik rfl) ?_
    refine a_iast (pc := 13) (dk dt_X3_erase 9 rfl) ar_44 ⟨H.1, ?_⟩
    replace H := H.2
    refine a_iinc (pc := 14) (dk dt_X3_erase 10 rfl) (by decide) rfl rfl rfl ?_
    refine a_goto (pc := 17) (dk dt_X3_erase 11 rfl) (tgt := 2) rfl ?_
    exact a_pick [0, 1, 2] rfl H
set_option maxHeartbeats 40000000 in
theorem U_X3_isThere_43_0 {G : GG} {Φ : Int → Hp → Prop} {h : Hp} {x1 : Int} (H : ((x1 < 0 → Φ 0 h) ∧ (0 ≤ x1 → (((w32 ((h 43 0) - 1)) < x1 → Φ 0 h) ∧ (x1 ≤ (w32 ((h 43 0) - 1)) → (0 ≤ x1 ∧ x1 < 240) ∧ (((h 44 x1) = 0 → Φ 0 h) ∧ ((h 44 x1) ≠ 0 → Φ 1 h))))))) : AT G m_X3_isThere 0 [(0, rv 43), (1, iv x1)] [] h Φ := by
  refine a_iload_n (pc := 0) (dk dt_X3_isThere 0 rfl) rfl ?_
  refine a_iconst (pc := 1) (dk dt_X3_isThere 1 rfl) (ik rfl) ?_
  refine a_aload_n (pc := 2) (dk dt_X3_isThere 2 rfl) rfl ?_
  refine a_geti (pc := 3) (dk dt_X3_isThere 3 rfl) cls_3 fl_RX3_9 cf_43_0 ?_
  refine a_iconst (pc := 6) (dk dt_X3_isThere 4 rfl) (ik rfl) ?_
  refine a_isub (pc := 7) (dk dt_X3_isThere 5 rfl) ?_
  refine a_callNi (as := [iv x1, iv 0, iv (w32 ((h 43 0) - 1))]) (st := []) (pc := 8) (dk dt_X3_isThere 6 rfl) cl_RX3_102 ⟨Nat.le_of_ble_eq_true rfl, Nat.le_of_ble_eq_true rfl⟩ ⟨Nat.le_of_ble_eq_true rfl, Nat.le_of_ble_eq_true rfl⟩ rfl rfl rfl (Nat.le_of_ble_eq_true rfl) (Call.of rfl (Nat.le_of_ble_eq_true rfl) rfl ?_)
  refine a_iload_n (pc := 0) (dk dt_X11_within 0 rfl) rfl ?_
  refine a_iload_n (pc := 1) (dk dt_X11_within 1 rfl) rfl ?_
  refine a_icmp_lt (pc := 2) (dk dt_X11_within 2 rfl) (tgt := 14) rfl ⟨fun c => ?_, fun c => ?_⟩
  · replace H := H.1 c
    refine a_iconst (pc := 14) (dk dt_X11_within 8 rfl) (ik rfl) ?_
    refine a_zret (pc := 15) (dk dt_X11_within 9 rfl) rfl rfl ⟨by decide, ?_⟩
    show ATW _ _ _ _ _ _ _ _ _ _
    refine a_if_eq (pc := 11) (dk dt_X3_isThere 7 rfl) (tgt := 27) rfl ⟨fun _ => ?_, fun c => absurd c (by decide)⟩
    refine a_iconst (pc := 27) (dk dt_X3_isThere 15 rfl) (ik rfl) ?_
    exact a_zret (pc := 28) (dk dt_X3_isThere 16 rfl) rfl rfl ⟨by decide, H⟩
  · replace H := H.2 c
    refine a_iload_n (pc := 5) (dk dt_X11_within 3 rfl) rfl ?_
    refine a_iload_n (pc := 6) (dk dt_X11_within 4 rfl) rfl ?_
    refine a_icmp_gt (pc := 7) (dk dt_X11_within 5 rfl) (tgt := 14) rfl ⟨fun c => ?_, fun c => ?_⟩
    · replace H := H.1 c
      refine a_iconst (pc := 14) (dk dt_X11_within 8 rfl) (ik rfl) ?_
      refine a_zret (pc := 15) (dk dt_X11_within 9 rfl) rfl rfl ⟨by decide, ?_⟩
      show ATW _ _ _ _ _ _ _ _ _ _
      refine a_if_eq (pc := 11) (dk dt_X3_isThere 7 rfl) (tgt := 27) rfl ⟨fun _ => ?_, fun c => absurd c (by decide)⟩
      refine a_iconst (pc := 27) (dk dt_X3_isThere 15 rfl) (ik rfl) ?_
      exact a_zret (pc := 28) (dk dt_X3_isThere 16 rfl) rfl rfl ⟨by decide, H⟩
    · replace H := H.2 c
      refine a_iconst (pc := 10) (dk dt_X11_within 6 rfl) (ik rfl) ?_
      refine a_goto (pc := 11) (dk dt_X11_within 7 rfl) (tgt := 15) rfl ?_
      refine a_zret (pc := 15) (dk dt_X11_within 9 rfl) rfl rfl ⟨by decide, ?_⟩
      show ATW _ _ _ _ _ _ _ _ _ _
      refine a_if_eq (pc := 11) (dk dt_X3_isThere 7 rfl) (tgt := 27) rfl ⟨fun c => absurd c (by decide), fun _ => ?_⟩
      refine a_aload_n (pc := 14) (dk dt_X3_isThere 8 rfl) rfl ?_
      refine a_getr (r := 43) (pc := 15) (dk dt_X3_isThere 9 rfl) cls_3 fl_RX3_15 cf_43_1 ?_
      refine a_iload_n (pc := 18) (dk dt_X3_isThere 10 rfl) rfl ?_
      refine a_iald (pc := 19) (dk dt_X3_isThere 11 rfl) ar_44 ⟨H.1, ?_⟩
      replace H := H.2
      refine a_if_eq (pc := 20) (dk dt_X3_isThere 12 rfl) (tgt := 27) rfl ⟨fun c => ?_, fun c => ?_⟩
      · replace H := H.1 c
        refine a_iconst (pc := 27) (dk dt_X3_isThere 15 rfl) (ik rfl) ?_
        exact a_zret (pc := 28) (dk dt_X3_isThere 16 rfl) rfl rfl ⟨by decide, H⟩
      · replace H := H.2 c
        refine a_iconst (pc := 23) (dk dt_X3_isThere 13 rfl) (ik rfl) ?_
        refine a_goto (pc := 24) (dk dt_X3_isThere 14 rfl) (tgt := 28) rfl ?_
        exact a_zret (pc := 28) (dk dt_X3_isThere 16 rfl) rfl rfl ⟨by decide, H⟩
set_option maxHeartbeats 40000000 in
theorem U_X3_thingText_0 {G : GG} {Φ : Int → Hp → Prop} {h : Hp} {x0 : Int} (H : (((x0 = 16) → Φ 1015 h) ∧ ((x0 = 17) → Φ 1016 h) ∧ ((x0 = 18) → Φ 1017 h) ∧ ((x0 = 19) → Φ 1010 h) ∧ ((x0 = 20) → Φ 1018 h) ∧ ((x0 = 21) → Φ 1019 h) ∧ ((x0 = 22) → Φ 1020 h) ∧ ((x0 = 23) → Φ 1021 h) ∧ ((x0 = 24) → Φ 1022 h) ∧ ((x0 = 25) → Φ 1023 h) ∧ ((x0 = 26) → Φ 1024 h) ∧ ((x0 = 27) → Φ 1025 h) ∧ ((x0 = 28) → Φ 1026 h) ∧ ((x0 = 29) → Φ 1027 h) ∧ ((x0 = 30) → Φ 1028 h) ∧ ((x0 = 31) → Φ 1029 h) ∧ ((x0 = 32) → Φ 1030 h) ∧ (((x0 < 16 ∨ 32 < x0)) → Φ 1031 h))) : AT G m_X3_thingText 0 [(0, iv x0)] [] h Φ := by
  refine a_iload_n (pc := 0) (dk dt_X3_thingText 0 rfl) rfl ?_
  have B0 : (x0 = 16) → AT G m_X3_thingText 84 [(0, iv x0)] [] h Φ := by
    intro c
    replace H := H.1 c
    refine a_ldcS (i := 15) (pc := 84) (dk dt_X3_thingText 2 rfl) rfl ?_
    exact a_aret (pc := 86) (dk dt_X3_thingText 3 rfl) rfl (by decide) rfl H
  have B1 : (x0 = 17) → AT G m_X3_thingText 87 [(0, iv x0)] [] h Φ := by
    intro c
    replace H := H.2.1 c
    refine a_ldcS (i := 16) (pc := 87) (dk dt_X3_thingText 4 rfl) rfl ?_
    exact a_aret (pc := 89) (dk dt_X3_thingText 5 rfl) rfl (by decide) rfl H
  have B2 : (x0 = 18) → AT G m_X3_thingText 90 [(0, iv x0)] [] h Φ := by
    intro c
    replace H := H.2.2.1 c
    refine a_ldcS (i := 17) (pc := 90) (dk dt_X3_thingText 6 rfl) rfl ?_
    exact a_aret (pc := 92) (dk dt_X3_thingText 7 rfl) rfl (by decide) rfl H
  have B3 : (x0 = 19) → AT G m_X3_thingText 93 [(0, iv x0)] [] h Φ := by
    intro c
    replace H := H.2.2.2.1 c
    refine a_ldcS (i := 10) (pc := 93) (dk dt_X3_thingText 8 rfl) rfl ?_
    exact a_aret (pc := 95) (dk dt_X3_thingText 9 rfl) rfl (by decide) rfl H
  have B4 : (x0 = 20) → AT G m_X3_thingText 96 [(0, iv x0)] [] h Φ := by
    intro c
    replace H := H.2.2.2.2.1 c
    refine a_ldcS (i := 18) (pc := 96) (dk dt_X3_thingText 10 rfl) rfl ?_
    exact a_aret (pc := 98) (dk dt_X3_thingText 11 rfl) rfl (by decide) rfl H
  have B5 : (x0 = 21) → AT G m_X3_thingText 99 [(0, iv x0)] [] h Φ := by
    intro c
    replace H := H.2.2.2.2.2.1 c
    refine a_ldcS (i := 19) (pc := 99) (dk dt_X3_thingText 12 rfl) rfl ?_
    exact a_aret (pc := 101) (dk dt_X3_thingText 13 rfl) rfl (by decide) rfl H
  have B6 : (x0 = 22) → AT G m_X3_thingText 102 [(0, iv x0)] [] h Φ := by
    intro c
    replace H := H.2.2.2.2.2.2.1 c
    refine a_ldcS (i := 20) (pc := 102) (dk dt_X3_thingText 14 rfl) rfl ?_
    exact a_aret (pc := 104) (dk dt_X3_thingText 15 rfl) rfl (by decide) rfl H
  have B7 : (x0 = 23) → AT G m_X3_thingText 105 [(0, iv x0)] [] h Φ := by
    intro c
    replace H := H.2.2.2.2.2.2.2.1 c
    refine a_ldcS (i := 21) (pc := 105) (dk dt_X3_thingText 16 rfl) rfl ?_
    exact a_aret (pc := 107) (dk dt_X3_thingText 17 rfl) rfl (by decide) rfl H
  have B8 : (x0 = 24) → AT G m_X3_thingText 108 [(0, iv x0)] [] h Φ := by
    intro c
    replace H := H.2.2.2.2.2.2.2.2.1 c
    refine a_ldcS (i := 22) (pc := 108) (dk dt_X3_thingText 18 rfl) rfl ?_
    exact a_aret (pc := 110) (dk dt_X3_thingText 19 rfl) rfl (by decide) rfl H
  have B9 : (x0 = 25) → AT G m_X3_thingText 111 [(0, iv x0)] [] h Φ := by
    intro c
    replace H := H.2.2.2.2.2.2.2.2.2.1 c
    refine a_ldcS (i := 23) (pc := 111) (dk dt_X3_thingText 20 rfl) rfl ?_
    exact a_aret (pc := 113) (dk dt_X3_thingText 21 rfl) rfl (by decide) rfl H
  have B10 : (x0 = 26) → AT G m_X3_thingText 114 [(0, iv x0)] [] h Φ := by
    intro c
    replace H := H.2.2.2.2.2.2.2.2.2.2.1 c
    refine a_ldcS (i := 24) (pc := 114) (dk dt_X3_thingText 22 rfl) rfl ?_
    exact a_aret (pc := 116) (dk dt_X3_thingText 23 rfl) rfl (by decide) rfl H
  have B11 : (x0 = 27) → AT G m_X3_thingText 117 [(0, iv x0)] [] h Φ := by
    intro c
    replace H := H.2.2.2.2.2.2.2.2.2.2.2.1 c
    refine a_ldcS (i := 25) (pc := 117) (dk dt_X3_thingText 24 rfl) rfl ?_
    exact a_aret (pc := 119) (dk dt_X3_thingText 25 rfl) rfl (by decide) rfl H
  have B12 : (x0 = 28) → AT G m_X3_thingText 120 [(0, iv x0)] [] h Φ := by
    intro c
    replace H := H.2.2.2.2.2.2.2.2.2.2.2.2.1 c
    refine a_ldcS (i := 26) (pc := 120) (dk dt_X3_thingText 26 rfl) rfl ?_
    exact a_aret (pc := 122) (dk dt_X3_thingText 27 rfl) rfl (by decide) rfl H
  have B13 : (x0 = 29) → AT G m_X3_thingText 123 [(0, iv x0)] [] h Φ := by
    intro c
    replace H := H.2.2.2.2.2.2.2.2.2.2.2.2.2.1 c
    refine a_ldcS (i := 27) (pc := 123) (dk dt_X3_thingText 28 rfl) rfl ?_
    exact a_aret (pc := 125) (dk dt_X3_thingText 29 rfl) rfl (by decide) rfl H
  have B14 : (x0 = 30) → AT G m_X3_thingText 126 [(0, iv x0)] [] h Φ := by
    intro c
    replace H := H.2.2.2.2.2.2.2.2.2.2.2.2.2.2.1 c
    refine a_ldcS (i := 28) (pc := 126) (dk dt_X3_thingText 30 rfl) rfl ?_
    exact a_aret (pc := 128) (dk dt_X3_thingText 31 rfl) rfl (by decide) rfl H
  have B15 : (x0 = 31) → AT G m_X3_thingText 129 [(0, iv x0)] [] h Φ := by
    intro c
    replace H := H.2.2.2.2.2.2.2.2.2.2.2.2.2.2.2.1 c
    refine a_ldcS (i := 29) (pc := 129) (dk dt_X3_thingText 32 rfl) rfl ?_
    exact a_aret (pc := 131) (dk dt_X3_thingText 33 rfl) rfl (by decide) rfl H
  have B16 : (x0 = 32) → AT G m_X3_thingText 132 [(0, iv x0)] [] h Φ := by
    intro c
    replace H := H.2.2.2.2.2.2.2.2.2.2.2.2.2.2.2.2.1 c
    refine a_ldcS (i := 30) (pc := 132) (dk dt_X3_thingText 34 rfl) rfl ?_
    exact a_aret (pc := 134) (dk dt_X3_thingText 35 rfl) rfl (by decide) rfl H
  have BD : ((x0 < 16 ∨ 32 < x0)) → AT G m_X3_thingText 135 [(0, iv x0)] [] h Φ := by
    intro c
    replace H := H.2.2.2.2.2.2.2.2.2.2.2.2.2.2.2.2.2 c
    refine a_ldcS (i := 31) (pc := 135) (dk dt_X3_thingText 36 rfl) rfl ?_
    exact a_aret (pc := 137) (dk dt_X3_thingText 37 rfl) rfl (by decide) rfl H
  exact a_tsw [84, 87, 90, 93, 96, 99, 102, 105, 108, 111, 114, 117, 120, 123, 126, 129, 132] (pc := 1) (dk dt_X3_thingText 1 rfl) (by decide) (dt := 135) rfl (by decide) ⟨⟨fun c => B0 (c), fun c => B1 (c), fun c => B2 (c), fun c => B3 (c), fun c => B4 (c), fun c => B5 (c), fun c => B6 (c), fun c => B7 (c), fun c => B8 (c), fun c => B9 (c), fun c => B10 (c), fun c => B11 (c), fun c => B12 (c), fun c => B13 (c), fun c => B14 (c), fun c => B15 (c), fun c => B16 (c), trivial⟩, fun c => BD (c)⟩
set_option maxHeartbeats 40000000 in
theorem U_X3_countFrom_43_0 {G : GG} {Φ : Int → Hp → Prop} {h : Hp} {x1 : Int} (H : AT G m_X3_countFrom 2 [(0, rv 43), (1, iv x1), (2, iv 0)] [] h Φ) : AT G m_X3_countFrom 0 [(0, rv 43), (1, iv x1)] [] h Φ := by
  refine a_iconst (pc := 0) (dk dt_X3_countFrom 0 rfl) (ik rfl) ?_
  refine a_istore_n (pc := 1) (dk dt_X3_countFrom 1 rfl) (by decide) rfl rfl ?_
  exact a_pick [0, 1, 2] rfl H
set_option maxHeartbeats 40000000 in
theorem U_X3_countFrom_43_2 {G : GG} {Φ : Int → Hp → Prop} {h : Hp} {x1 : Int} {x2 : Int} (H : ((30 ≤ x2 → Φ x2 h) ∧ (x2 < 30 → Call G m_X3_isThere [rv 43, iv (w32 (x1 + x2))] h (fun r1 h2 => ((r1 = 0 → Φ x2 h2) ∧ (r1 ≠ 0 → AT G m_X3_countFrom 2 [(0, rv 43), (1, iv x1), (2, iv (w32 (x2 + 1)))] [] h2 Φ)))))) : AT G m_X3_countFrom 2 [(0, rv 43), (1, iv x1), (2, iv x2)] [] h Φ := by
  refine a_iload_n (pc := 2) (dk dt_X3_countFrom 2 rfl) rfl ?_
  refine a_bipush (pc := 3) (dk dt_X3_countFrom 3 rfl) (ik rfl) (bpk rfl) ?_
  refine a_icmp_ge (pc := 5) (dk dt_X3_countFrom 4 rfl) (tgt := 24) rfl ⟨fun c => ?_, fun c => ?_⟩
  · replace H := H.1 c
    refine a_iload_n (pc := 24) (dk dt_X3_countFrom 13 rfl) rfl ?_
    exact a_iret (pc := 25) (dk dt_X3_countFrom 14 rfl) rfl rfl H
  · replace H := H.2 c
    refine a_aload_n (pc := 8) (dk dt_X3_countFrom 5 rfl) rfl ?_
    refine a_iload_n (pc := 9) (dk dt_X3_countFrom 6 rfl) rfl ?_
    refine a_iload_n (pc := 10) (dk dt_X3_countFrom 7 rfl) rfl ?_
    refine a_iadd (pc := 11) (dk dt_X3_countFrom 8 rfl) ?_
    refine a_callVi (as := [iv (w32 (x1 + x2))]) (st := []) (pc := 12) (dk dt_X3_countFrom 9 rfl) cl_RX3_106 ⟨Nat.le_of_ble_eq_true rfl, Nat.le_of_ble_eq_true rfl⟩ ⟨Nat.le_of_ble_eq_true rfl, Nat.le_of_ble_eq_true rfl⟩ cls_3 rfl cc_43 rfl rfl rfl (Nat.le_of_ble_eq_true rfl) (Call.mono H fun r1 h2 H => ?_)
    refine a_if_eq (pc := 15) (dk dt_X3_countFrom 10 rfl) (tgt := 24) rfl ⟨fun c => ?_, fun c => ?_⟩
    · replace H := H.1 c
      refine a_iload_n (pc := 24) (dk dt_X3_countFrom 13 rfl) rfl ?_
      exact a_iret (pc := 25) (dk dt_X3_countFrom 14 rfl) rfl rfl H
    · replace H := H.2 c
      refine a_iinc (pc := 18) (dk dt_X3_countFrom 11 rfl) (by decide) rfl rfl rfl ?_
      refine a_goto (pc := 21) (dk dt_X3_countFrom 12 rfl) (tgt := 2) rfl ?_
      exact a_pick [0, 1, 2] rfl H
set_option maxHeartbeats 40000000 in
theorem U_X3_copy_36_43_0 {G : GG} {Φ : Int → Hp → Prop} {h : Hp} {x1 : Int} {x3 : Int} (H : (0 ≤ x3 ∧ x3 < 240) ∧ (0 ≤ x1 ∧ x1 < 240) ∧ (0 ≤ x3 ∧ x3 < 240) ∧ (0 ≤ x1 ∧ x1 < 240) ∧ (0 ≤ x3 ∧ x3 < 240) ∧ (0 ≤ x1 ∧ x1 < 240) ∧ (0 ≤ x3 ∧ x3 < 240) ∧ (0 ≤ x1 ∧ x1 < 240) ∧ (0 ≤ x3 ∧ x3 < 240) ∧ (0 ≤ x1 ∧ x1 < 240) ∧ (0 ≤ x3 ∧ x3 < 240) ∧ (0 ≤ x1 ∧ x1 < 240) ∧ Φ 0 (up (up (up (up (up (up h 37 x1 (h 44 x3)) 38 x1 (h 45 x3)) 39 x1 (h 46 x3)) 40 x1 (h 47 x3)) 41 x1 (h 48 x3)) 42 x1 (h 49 x3))) : AT G m_X3_copy 0 [(0, rv 36), (1, iv x1), (2, rv 43), (3, iv x3)] [] h Φ := by
  refine a_aload_n (pc := 0) (dk dt_X3_copy 0 rfl) rfl ?_
  refine a_getr (r := 36) (pc := 1) (dk dt_X3_copy 1 rfl) cls_3 fl_RX3_15 cf_36_1 ?_
  refine a_iload_n (pc := 4) (dk dt_X3_copy 2 rfl) rfl ?_
  refine a_aload_n (pc := 5) (dk dt_X3_copy 3 rfl) rfl ?_
  refine a_getr (r := 43) (pc := 6) (dk dt_X3_copy 4 rfl) cls_3 fl_RX3_15 cf_43_1 ?_
  refine a_iload_n (pc := 9) (dk dt_X3_copy 5 rfl) rfl ?_
  refine a_iald (pc := 10) (dk dt_X3_copy 6 rfl) ar_44 ⟨H.1, ?_⟩
  replace H := H.2
  refine a_iast (pc := 11) (dk dt_X3_copy 7 rfl) ar_37 ⟨H.1, ?_⟩
  replace H := H.2
  refine a_aload_n (pc := 12) (dk dt_X3_copy 8 rfl) rfl ?_
  refine a_getr (r := 37) (pc := 13) (dk dt_X3_copy 9 rfl) cls_3 fl_RX3_19 cf_36_2 ?_
  refine a_iload_n (pc := 16) (dk dt_X3_copy 10 rfl) rfl ?_
  refine a_aload_n (pc := 17) (dk dt_X3_copy 11 rfl) rfl ?_
  refine a_getr (r := 44) (pc := 18) (dk dt_X3_copy 12 rfl) cls_3 fl_RX3_19 cf_43_2 ?_
  refine a_iload_n (pc := 21) (dk dt_X3_copy 13 rfl) rfl ?_
  refine a_iald (pc := 22) (dk dt_X3_copy 14 rfl) ar_45 ⟨H.1, ?_⟩
  replace H := H.2
  refine a_top (y := (h 45 x3)) (by simp [up, cpy]) ?_
  refine a_iast (pc := 23) (dk dt_X3_copy 15 rfl) ar_38 ⟨H.1, ?_⟩
  replace H := H.2
  refine a_aload_n (pc := 24) (dk dt_X3_copy 16 rfl) rfl ?_
  refine a_getr (r := 38) (pc := 25) (dk dt_X3_copy 17 rfl) cls_3 fl_RX3_22 cf_36_3 ?_
  refine a_iload_n (pc := 28) (dk dt_X3_copy 18 rfl) rfl ?_
  refine a_aload_n (pc := 29) (dk dt_X3_copy 19 rfl) rfl ?_
  refine a_getr (r := 45) (pc := 30) (dk dt_X3_copy 20 rfl) cls_3 fl_RX3_22 cf_43_3 ?_
  refine a_iload_n (pc := 33) (dk dt_X3_copy 21 rfl) rfl ?_
  refine a_iald (pc := 34) (dk dt_X3_copy 22 rfl) ar_46 ⟨H.1, ?_⟩
  replace H := H.2
  refine a_top (y := (h 46 x3)) (by simp [up, cpy]) ?_
  refine a_iast (pc := 35) (dk dt_X3_copy 23 rfl) ar_39 ⟨H.1, ?_⟩
  replace H := H.2
  refine a_aload_n (pc := 36) (dk dt_X3_copy 24 rfl) rfl ?_
  refine a_getr (r := 39) (pc := 37) (dk dt_X3_copy 25 rfl) cls_3 fl_RX3_25 cf_36_4 ?_
  refine a_iload_n (pc := 40) (dk dt_X3_copy 26 rfl) rfl ?_
  refine a_aload_n (pc := 41) (dk dt_X3_copy 27 rfl) rfl ?_
  refine a_getr (r := 46) (pc := 42) (dk dt_X3_copy 28 rfl) cls_3 fl_RX3_25 cf_43_4 ?_
  refine a_iload_n (pc := 45) (dk dt_X3_copy 29 rfl) rfl ?_
  refine a_iald (pc := 46) (dk dt_X3_copy 30 rfl) ar_47 ⟨H.1, ?_⟩
  replace H := H.2
  refine a_top (y := (h 47 x3)) (by simp [up, cpy]) ?_
  refine a_iast (pc := 47) (dk dt_X3_copy 31 rfl) ar_40 ⟨H.1, ?_⟩
  replace H := H.2
  refine a_aload_n (pc := 48) (dk dt_X3_copy 32 rfl) rfl ?_
  refine a_getr (r := 40) (pc := 49) (dk dt_X3_copy 33 rfl) cls_3 fl_RX3_28 cf_36_5 ?_
  refine a_iload_n (pc := 52) (dk dt_X3_copy 34 rfl) rfl ?_
  refine a_aload_n (pc := 53) (dk dt_X3_copy 35 rfl) rfl ?_
  refine a_getr (r := 47) (pc := 54) (dk dt_X3_copy 36 rfl) cls_3 fl_RX3_28 cf_43_5 ?_
  refine a_iload_n (pc := 57) (dk dt_X3_copy 37 rfl) rfl ?_
  refine a_iald (pc := 58) (dk dt_X3_copy 38 rfl) ar_48 ⟨H.1, ?_⟩
  replace H := H.2
  refine a_top (y := (h 48 x3)) (by simp [up, cpy]) ?_
  refine a_iast (pc := 59) (dk dt_X3_copy 39 rfl) ar_41 ⟨H.1, ?_⟩
  replace H := H.2
  refine a_aload_n (pc := 60) (dk dt_X3_copy 40 rfl) rfl ?_
  refine a_getr (r := 41) (pc := 61) (dk dt_X3_copy 41 rfl) cls_3 fl_RX3_31 cf_36_6 ?_
  refine a_iload_n (pc := 64) (dk dt_X3_copy 42 rfl) rfl ?_
  refine a_aload_n (pc := 65) (dk dt_X3_copy 43 rfl) rfl ?_
  refine a_getr (r := 48) (pc := 66) (dk dt_X3_copy 44 rfl) cls_3 fl_RX3_31 cf_43_6 ?_
  refine a_iload_n (pc := 69) (dk dt_X3_copy 45 rfl) rfl ?_
  refine a_iald (pc := 70) (dk dt_X3_copy 46 rfl) ar_49 ⟨H.1, ?_⟩
  replace H := H.2
  refine a_top (y := (h 49 x3)) (by simp [up, cpy]) ?_
  refine a_iast (pc := 71) (dk dt_X3_copy 47 rfl) ar_42 ⟨H.1, ?_⟩
  replace H := H.2
  exact a_vret (pc := 72) (dk dt_X3_copy 48 rfl) rfl rfl H
set_option maxHeartbeats 40000000 in
theorem U_X1_addLeap_12_0 {G : GG} {Φ : Int → Hp → Prop} {h : Hp} {x1 : Int} {x2 : Int} (H : Call G m_X1_daysIn [iv x1, iv x2] h (fun r1 h2 => Call G m_X1_dayOf [iv x1, iv x2, iv r1] h2 (fun r3 h4 => (((h4 12 1) ≤ 0 → (((h4 12 1) ≠ 10 → (0 ≤ (h4 12 1) ∧ (h4 12 1) < 10) ∧ Φ (w32 ((h4 12 1) + 1)) (up (up h4 13 (h4 12 1) r3) 12 1 (w32 ((h4 12 1) + 1)))) ∧ ((h4 12 1) = 10 → Φ (-4) h4))) ∧ (0 < (h4 12 1) → (0 ≤ (w32 ((h4 12 1) - 1)) ∧ (w32 ((h4 12 1) - 1)) < 10) ∧ (((h4 13 (w32 ((h4 12 1) - 1))) < r3 → (((h4 12 1) ≠ 10 → (0 ≤ (h4 12 1) ∧ (h4 12 1) < 10) ∧ Φ (w32 ((h4 12 1) + 1)) (up (up h4 13 (h4 12 1) r3) 12 1 (w32 ((h4 12 1) + 1)))) ∧ ((h4 12 1) = 10 → Φ (-4) h4))) ∧ (r3 ≤ (h4 13 (w32 ((h4 12 1) - 1))) → Φ (-1) h4))))))) : AT G m_X1_addLeap 0 [(0, rv 12), (1, iv x1), (2, iv x2)] [] h Φ := by
  refine a_iload_n (pc := 0) (dk dt_X1_addLeap 0 rfl) rfl ?_
  refine a_iload_n (pc := 1) (dk dt_X1_addLeap 1 rfl) rfl ?_
  refine a_iload_n (pc := 2) (dk dt_X1_addLeap 2 rfl) rfl ?_
  refine a_iload_n (pc := 3) (dk dt_X1_addLeap 3 rfl) rfl ?_
  refine a_callSi (as := [iv x1, iv x2]) (st := [iv x2, iv x1]) (pc := 4) (dk dt_X1_addLeap 4 rfl) cl_RX1_15 ⟨Nat.le_of_ble_eq_true rfl, Nat.le_of_ble_eq_true rfl⟩ ⟨Nat.le_of_ble_eq_true rfl, Nat.le_of_ble_eq_true rfl⟩ rfl rfl rfl (Nat.le_of_ble_eq_true rfl) (Call.mono H fun r1 h2 H => ?_)
  refine a_callSi (as := [iv x1, iv x2, iv r1]) (st := []) (pc := 7) (dk dt_X1_addLeap 5 rfl) cl_RX1_19 ⟨Nat.le_of_ble_eq_true rfl, Nat.le_of_ble_eq_true rfl⟩ ⟨Nat.le_of_ble_eq_true rfl, Nat.le_of_ble_eq_true rfl⟩ rfl rfl rfl (Nat.le_of_ble_eq_true rfl) (Call.mono H fun r3 h4 H => ?_)
  refine a_istore_n (pc := 10) (dk dt_X1_addLeap 6 rfl) (by decide) rfl rfl ?_
  refine a_aload_n (pc := 11) (dk dt_X1_addLeap 7 rfl) rfl ?_
  refine a_geti (pc := 12) (dk dt_X1_addLeap 8 rfl) cls_1 fl_RX1_23 cf_12_1 ?_
  refine a_if_le (pc := 15) (dk dt_X1_addLeap 9 rfl) (tgt := 35) rfl ⟨fun c => ?_, fun c => ?_⟩
  · replace H := H.1 c
    refine a_aload_n (pc := 35) (dk dt_X1_addLeap 21 rfl) rfl ?_
    refine a_geti (pc := 36) (dk dt_X1_addLeap 22 rfl) cls_1 fl_RX1_23 cf_12_1 ?_
    refine a_bipush (pc := 39) (dk dt_X1_addLeap 23 rfl) (ik rfl) (bpk rfl) ?_
    refine a_icmp_ne (pc := 41) (dk dt_X1_addLeap 24 rfl) (tgt := 47) rfl ⟨fun c => ?_, fun c => ?_⟩
    · replace H := H.1 c
      refine a_aload_n (pc := 47) (dk dt_X1_addLeap 27 rfl) rfl ?_
      refine a_getr (r := 12) (pc := 48) (dk dt_X1_addLeap 28 rfl) cls_1 fl_RX1_11 cf_12_0 ?_
      refine a_aload_n (pc := 51) (dk dt_X1_addLeap 29 rfl) rfl ?_
      refine a_geti (pc := 52) (dk dt_X1_addLeap 30 rfl) cls_1 fl_RX1_23 cf_12_1 ?_
      refine a_iload_n (pc := 55) (dk dt_X1_addLeap 31 rfl) rfl ?_
      refine a_iast (pc := 56) (dk dt_X1_addLeap 32 rfl) ar_13 ⟨H.1, ?_⟩
      replace H := H.2
      refine a_aload_n (pc := 57) (dk dt_X1_addLeap 33 rfl) rfl ?_
      refine a_dup (pc := 58) (dk dt_X1_addLeap 34 rfl) rfl ?_
      refine a_geti (pc := 59) (dk dt_X1_addLeap 35 rfl) cls_1 fl_RX1_23 cf_12_1 ?_
      refine a_top (y := (h4 12 1)) (by simp [up, cpy]) ?_
      refine a_iconst (pc := 62) (dk dt_X1_addLeap 36 rfl) (ik rfl) ?_
      refine a_iadd (pc := 63) (dk dt_X1_addLeap 37 rfl) ?_
      refine a_puti (pc := 64) (dk dt_X1_addLeap 38 rfl) cls_1 fl_RX1_23 cf_12_1 rfl rfl ?_
      refine a_aload_n (pc := 67) (dk dt_X1_addLeap 39 rfl) rfl ?_
      refine a_geti (pc := 68) (dk dt_X1_addLeap 40 rfl) cls_1 fl_RX1_23 cf_12_1 ?_
      refine a_top (y := (w32 ((h4 12 1) + 1))) (by simp [up, cpy]) ?_
      exact a_iret (pc := 71) (dk dt_X1_addLeap 41 rfl) rfl rfl H
    · replace H := H.2 c
      refine a_bipush (pc := 44) (dk dt_X1_addLeap 25 rfl) (ik rfl) (bpk rfl) ?_
      exact a_iret (pc := 46) (dk dt_X1_addLeap 26 rfl) rfl rfl H
  · replace H := H.2 c
    refine a_iload_n (pc := 18) (dk dt_X1_addLeap 10 rfl) rfl ?_
    refine a_aload_n (pc := 19) (dk dt_X1_addLeap 11 rfl) rfl ?_
    refine a_getr (r := 12) (pc := 20) (dk dt_X1_addLeap 12 rfl) cls_1 fl_RX1_11 cf_12_0 ?_
    refine a_aload_n (pc := 23) (dk dt_X1_addLeap 13 rfl) rfl ?_
    refine a_geti (pc := 24) (dk dt_X1_addLeap 14 rfl) cls_1 fl_RX1_23 cf_12_1 ?_
    refine a_iconst (pc := 27) (dk dt_X1_addLeap 15 rfl) (ik rfl) ?_
    refine a_isub (pc := 28) (dk dt_X1_addLeap 16 rfl) ?_
    refine a_iald (pc := 29) (dk dt_X1_addLeap 17 rfl) ar_13 ⟨H.1, ?_⟩
    replace H := H.2
    refine a_icmp_gt (pc := 30) (dk dt_X1_addLeap 18 rfl) (tgt := 35) rfl ⟨fun c => ?_, fun c => ?_⟩
    · replace H := H.1 c
      refine a_aload_n (pc := 35) (dk dt_X1_addLeap 21 rfl) rfl ?_
      refine a_geti (pc := 36) (dk dt_X1_addLeap 22 rfl) cls_1 fl_RX1_23 cf_12_1 ?_
      refine a_bipush (pc := 39) (dk dt_X1_addLeap 23 rfl) (ik rfl) (bpk rfl) ?_
      refine a_icmp_ne (pc := 41) (dk dt_X1_addLeap 24 rfl) (tgt := 47) rfl ⟨fun c => ?_, fun c => ?_⟩
      · replace H := H.1 c
        refine a_aload_n (pc := 47) (dk dt_X1_addLeap 27 rfl) rfl ?_
        refine a_getr (r := 12) (pc := 48) (dk dt_X1_addLeap 28 rfl) cls_1 fl_RX1_11 cf_12_0 ?_
        refine a_aload_n (pc := 51) (dk dt_X1_addLeap 29 rfl) rfl ?_
        refine a_geti (pc := 52) (dk dt_X1_addLeap 30 rfl) cls_1 fl_RX1_23 cf_12_1 ?_
        refine a_iload_n (pc := 55) (dk dt_X1_addLeap 31 rfl) rfl ?_
        refine a_iast (pc := 56) (dk dt_X1_addLeap 32 rfl) ar_13 ⟨H.1, ?_⟩
        replace H := H.2
        refine a_aload_n (pc := 57) (dk dt_X1_addLeap 33 rfl) rfl ?_
        refine a_dup (pc := 58) (dk dt_X1_addLeap 34 rfl) rfl ?_
        refine a_geti (pc := 59) (dk dt_X1_addLeap 35 rfl) cls_1 fl_RX1_23 cf_12_1 ?_
        refine a_top (y := (h4 12 1)) (by simp [up, cpy]) ?_
        refine a_iconst (pc := 62) (dk dt_X1_addLeap 36 rfl) (ik rfl) ?_
        refine a_iadd (pc := 63) (dk dt_X1_addLeap 37 rfl) ?_
        refine a_puti (pc := 64) (dk dt_X1_addLeap 38 rfl) cls_1 fl_RX1_23 cf_12_1 rfl rfl ?_
        refine a_aload_n (pc := 67) (dk dt_X1_addLeap 39 rfl) rfl ?_
        refine a_geti (pc := 68) (dk dt_X1_addLeap 40 rfl) cls_1 fl_RX1_23 cf_12_1 ?_
        refine a_top (y := (w32 ((h4 12 1) + 1))) (by simp [up, cpy]) ?_
        exact a_iret (pc := 71) (dk dt_X1_addLeap 41 rfl) rfl rfl H
      · replace H := H.2 c
        refine a_bipush (pc := 44) (dk dt_X1_addLeap 25 rfl) (ik rfl) (bpk rfl) ?_
        exact a_iret (pc := 46) (dk dt_X1_addLeap 26 rfl) rfl rfl H
    · replace H := H.2 c
      refine a_iconst (pc := 33) (dk dt_X1_addLeap 19 rfl) (ik rfl) ?_
      exact a_iret (pc := 34) (dk dt_X1_addLeap 20 rfl) rfl rfl H
set_option maxHeartbeats 40000000 in
theorem U_X1_readDate_12_2_0 {G : GG} {Φ : Int → Hp → Prop} {h : Hp} (H : Call G m_X10_fixed [rv 2, iv 4, iv 2000, iv 2059] h (fun r1 h2 => Call G m_X10_skip [rv 2, iv 45] h2 (fun _ h4 => Call G m_X10_fixed [rv 2, iv 2, iv 1, iv 12] h4 (fun r5 h6 => Call G m_X10_skip [rv 2, iv 45] h6 (fun _ h8 => Call G m_X1_daysIn [iv r1, iv r5] h8 (fun r9 h10 => Call G m_X10_fixed [rv 2, iv 2, iv 1, iv r9] h10 (fun r11 h12 => Call G m_X1_dayOf [iv r1, iv r5, iv r11] h12 (fun r13 h14 => Call G m_X10_skip [rv 2, iv 84] h14 (fun _ h16 => Call G m_X10_fixed [rv 2, iv 2, iv 0, iv 23] h16 (fun r17 h18 => Call G m_X10_skip [rv 2, iv 58] h18 (fun _ h20 => Call G m_X10_fixed [rv 2, iv 2, iv 0, iv 59] h20 (fun r21 h22 => Call G m_X10_skip [rv 2, iv 58] h22 (fun _ h24 => ((r17 ≠ 23 → Call G m_X10_fixed [rv 2, iv 2, iv 0, iv 59] h24 (fun r25 h26 => Call G m_X1_leapsBefore [rv 12, iv r13] h26 (fun r27 h28 => Φ (w32 ((w32 ((w32 ((w32 ((w32 (r13 * 86400)) + r27)) + (w32 (r17 * 3600)))) + (w32 (r21 * 60)))) + r25)) h28))) ∧ (r17 = 23 → ((r21 ≠ 59 → Call G m_X10_fixed [rv 2, iv 2, iv 0, iv 59] h24 (fun r29 h30 => Call G m_X1_leapsBefore [rv 12, iv r13] h30 (fun r31 h32 => Φ (w32 ((w32 ((w32 ((w32 ((w32 (r13 * 86400)) + r31)) + (w32 (r17 * 3600)))) + (w32 (r21 * 60)))) + r29)) h32))) ∧ (r21 = 59 → Call G m_X1_hasLeap [rv 12, iv r13] h24 (fun r33 h34 => ((r33 = 0 → Call G m_X10_fixed [rv 2, iv 2, iv 0, iv 59] h34 (fun r35 h36 => Call G m_X1_leapsBefore [rv 12, iv r13] h36 (fun r37 h38 => Φ (w32 ((w32 ((w32 ((w32 ((w32 (r13 * 86400)) + r37)) + (w32 (r17 * 3600)))) + (w32 (r21 * 60)))) + r35)) h38))) ∧ (r33 ≠ 0 → Call G m_X10_fixed [rv 2, iv 2, iv 0, iv 60] h34 (fun r39 h40 => Call G m_X1_leapsBefore [rv 12, iv r13] h40 (fun r41 h42 => Φ (w32 ((w32 ((w32 ((w32 ((w32 (r13 * 86400)) + r41)) + (w32 (r17 * 3600)))) + (w32 (r21 * 60)))) + r39)) h42)))))))))))))))))))))) : AT G m_X1_readDate 0 [(0, rv 12), (1, rv 2)] [] h Φ := by
  refine a_aload_n (pc := 0) (dk dt_X1_readDate 0 rfl) rfl ?_
  refine a_iconst (pc := 1) (dk dt_X1_readDate 1 rfl) (ik rfl) ?_
  refine a_sipush (pc := 2) (dk dt_X1_readDate 2 rfl) (ik rfl) (spk rfl) ?_
  refine a_sipush (pc := 5) (dk dt_X1_readDate 3 rfl) (ik rfl) (spk rfl) ?_
  refine a_callVi (as := [iv 4, iv 2000, iv 2059]) (st := []) (pc := 8) (dk dt_X1_readDate 4 rfl) cl_RX1_27 ⟨Nat.le_of_ble_eq_true rfl, Nat.le_of_ble_eq_true rfl⟩ ⟨Nat.le_of_ble_eq_true rfl, Nat.le_of_ble_eq_true rfl⟩ cls_10 rfl cc_2 rfl rfl rfl (Nat.le_of_ble_eq_true rfl) (Call.mono H fun r1 h2 H => ?_)
  refine a_istore_n (pc := 11) (dk dt_X1_readDate 5 rfl) (by decide) rfl rfl ?_
  refine a_aload_n (pc := 12) (dk dt_X1_readDate 6 rfl) rfl ?_
  refine a_bipush (pc := 13) (dk dt_X1_readDate 7 rfl) (ik rfl) (bpk rfl) ?_
  refine a_callVv (as := [iv 45]) (st := []) (pc := 15) (dk dt_X1_readDate 8 rfl) cl_RX1_32 ⟨Nat.le_of_ble_eq_true rfl, Nat.le_of_ble_eq_true rfl⟩ ⟨Nat.le_of_ble_eq_true rfl, Nat.le_of_ble_eq_true rfl⟩ cls_10 rfl cc_2 rfl rfl rfl (Nat.le_of_ble_eq_true rfl) (Call.mono H fun _ h4 H => ?_)
  refine a_aload_n (pc := 18) (dk dt_X1_readDate 9 rfl) rfl ?_
  refine a_iconst (pc := 19) (dk dt_X1_readDate 10 rfl) (ik rfl) ?_
  refine a_iconst (pc := 20) (dk dt_X1_readDate 11 rfl) (ik rfl) ?_
  refine a_bipush (pc := 21) (dk dt_X1_readDate 12 rfl) (ik rfl) (bpk rfl) ?_
  refine a_callVi (as := [iv 2, iv 1, iv 12]) (st := []) (pc := 23) (dk dt_X1_readDate 13 rfl) cl_RX1_27 ⟨Nat.le_of_ble_eq_true rfl, Nat.le_of_ble_eq_true rfl⟩ ⟨Nat.le_of_ble_eq_true rfl, Nat.le_of_ble_eq_true rfl⟩ cls_10 rfl cc_2 rfl rfl rfl (Nat.le_of_ble_eq_true rfl) (Call.mono H fun r5 h6 H => ?_)
  refine a_istore_n (pc := 26) (dk dt_X1_readDate 14 rfl) (by decide) rfl rfl ?_
  refine a_aload_n (pc := 27) (dk dt_X1_readDate 15 rfl) rfl ?_
  refine a_bipush (pc := 28) (dk dt_X1_readDate 16 rfl) (ik rfl) (bpk rfl) ?_
  refine a_callVv (as := [iv 45]) (st := []) (pc := 30) (dk dt_X1_readDate 17 rfl) cl_RX1_32 ⟨Nat.le_of_ble_eq_true rfl, Nat.le_of_ble_eq_true rfl⟩ ⟨Nat.le_of_ble_eq_true rfl, Nat.le_of_ble_eq_true rfl⟩ cls_10 rfl cc_2 rfl rfl rfl (Nat.le_of_ble_eq_true rfl) (Call.mono H fun _ h8 H => ?_)
  refine a_iload_n (pc := 33) (dk dt_X1_readDate 18 rfl) rfl ?_
  refine a_iload_n (pc := 34) (dk dt_X1_readDate 19 rfl) rfl ?_
  refine a_aload_n (pc := 35) (dk dt_X1_readDate 20 rfl) rfl ?_
  refine a_iconst (pc := 36) (dk dt_X1_readDate 21 rfl) (ik rfl) ?_
  refine a_iconst (pc := 37) (dk dt_X1_readDate 22 rfl) (ik rfl) ?_
  refine a_iload_n (pc := 38) (dk dt_X1_readDate 23 rfl) rfl ?_
  refine a_iload_n (pc := 39) (dk dt_X1_readDate 24 rfl) rfl ?_
  refine a_callSi (as := [iv r1, iv r5]) (st := [iv 1, iv 2, rv 2, iv r5, iv r1]) (pc := 40) (dk dt_X1_readDate 25 rfl) cl_RX1_15 ⟨Nat.le_of_ble_eq_true rfl, Nat.le_of_ble_eq_true rfl⟩ ⟨Nat.le_of_ble_eq_true rfl, Nat.le_of_ble_eq_true rfl⟩ rfl rfl rfl (Nat.le_of_ble_eq_true rfl) (Call.mono H fun r9 h10 H => ?_)
  refine a_callVi (as := [iv 2, iv 1, iv r9]) (st := [iv r5, iv r1]) (pc := 43) (dk dt_X1_readDate 26 rfl) cl_RX1_27 ⟨Nat.le_of_ble_eq_true rfl, Nat.le_of_ble_eq_true rfl⟩ ⟨Nat.le_of_ble_eq_true rfl, Nat.le_of_ble_eq_true rfl⟩ cls_10 rfl cc_2 rfl rfl rfl (Nat.le_of_ble_eq_true rfl) (Call.mono H fun r11 h12 H => ?_)
  refine a_callSi (as := [iv r1, iv r5, iv r11]) (st := []) (pc := 46) (dk dt_X1_readDate 27 rfl) cl_RX1_19 ⟨Nat.le_of_ble_eq_true rfl, Nat.le_of_ble_eq_true rfl⟩ ⟨Nat.le_of_ble_eq_true rfl, Nat.le_of_ble_eq_true rfl⟩ rfl rfl rfl (Nat.le_of_ble_eq_true rfl) (Call.mono H fun r13 h14 H => ?_)
  refine a_istore (pc := 49) (dk dt_X1_readDate 28 rfl) (by decide) rfl rfl ?_
  refine a_aload_n (pc := 51) (dk dt_X1_readDate 29 rfl) rfl ?_
  refine a_bipush (pc := 52) (dk dt_X1_readDate 30 rfl) (ik rfl) (bpk rfl) ?_
  refine a_callVv (as := [iv 84]) (st := []) (pc := 54) (dk dt_X1_readDate 31 rfl) cl_RX1_32 ⟨Nat.le_of_ble_eq_true rfl, Nat.le_of_ble_eq_true rfl⟩ ⟨Nat.le_of_ble_eq_true rfl, Nat.le_of_ble_eq_true rfl⟩ cls_10 rfl cc_2 rfl rfl rfl (Nat.le_of_ble_eq_true rfl) (Call.mono H fun _ h16 H => ?_)
  refine a_aload_n (pc := 57) (dk dt_X1_readDate 32 rfl) rfl ?_
  refine a_iconst (pc := 58) (dk dt_X1_readDate 33 rfl) (ik rfl) ?_
  refine a_iconst (pc := 59) (dk dt_X1_readDate 34 rfl) (ik rfl) ?_
  refine a_bipush (pc := 60) (dk dt_X1_readDate 35 rfl) (ik rfl) (bpk rfl) ?_
  refine a_callVi (as := [iv 2, iv 0, iv 23]) (st := []) (pc := 62) (dk dt_X1_readDate 36 rfl) cl_RX1_27 ⟨Nat.le_of_ble_eq_true rfl, Nat.le_of_ble_eq_true rfl⟩ ⟨Nat.le_of_ble_eq_true rfl, Nat.le_of_ble_eq_true rfl⟩ cls_10 rfl cc_2 rfl rfl rfl (Nat.le_of_ble_eq_true rfl) (Call.mono H fun r17 h18 H => ?_)
  refine a_istore (pc := 65) (dk dt_X1_readDate 37 rfl) (by decide) rfl rfl ?_
  refine a_aload_n (pc := 67) (dk dt_X1_readDate 38 rfl) rfl ?_
  refine a_bipush (pc := 68) (dk dt_X1_readDate 39 rfl) (ik rfl) (bpk rfl) ?_
  refine a_callVv (as := [iv 58]) (st := []) (pc := 70) (dk dt_X1_readDate 40 rfl) cl_RX1_32 ⟨Nat.le_of_ble_eq_true rfl, Nat.le_of_ble_eq_true rfl⟩ ⟨Nat.le_of_ble_eq_true rfl, Nat.le_of_ble_eq_true rfl⟩ cls_10 rfl cc_2 rfl rfl rfl (Nat.le_of_ble_eq_true rfl) (Call.mono H fun _ h20 H => ?_)
  refine a_aload_n (pc := 73) (dk dt_X1_readDate 41 rfl) rfl ?_
  refine a_iconst (pc := 74) (dk dt_X1_readDate 42 rfl) (ik rfl) ?_
  refine a_iconst (pc := 75) (dk dt_X1_readDate 43 rfl) (ik rfl) ?_
  refine a_bipush (pc := 76) (dk dt_X1_readDate 44 rfl) (ik rfl) (bpk rfl) ?_
  refine a_callVi (as := [iv 2, iv 0, iv 59]) (st := []) (pc := 78) (dk dt_X1_readDate 45 rfl) cl_RX1_27 ⟨Nat.le_of_ble_eq_true rfl, Nat.le_of_ble_eq_true rfl⟩ ⟨Nat.le_of_ble_eq_true rfl, Nat.le_of_ble_eq_true rfl⟩ cls_10 rfl cc_2 rfl rfl rfl (Nat.le_of_ble_eq_true rfl) (Call.mono H fun r21 h22 H => ?_)
  refine a_istore (pc := 81) (dk dt_X1_readDate 46 rfl) (by decide) rfl rfl ?_
  refine a_aload_n (pc := 83) (dk dt_X1_readDate 47 rfl) rfl ?_
  refine a_bipush (pc := 84) (dk dt_X1_readDate 48 rfl) (ik rfl) (bpk rfl) ?_
  refine a_callVv (as := [iv 58]) (st := []) (pc := 86) (dk dt_X1_readDate 49 rfl) cl_RX1_32 ⟨Nat.le_of_ble_eq_true rfl, Nat.le_of_ble_eq_true rfl⟩ ⟨Nat.le_of_ble_eq_true rfl, Nat.le_of_ble_eq_true rfl⟩ cls_10 rfl cc_2 rfl rfl rfl (Nat.le_of_ble_eq_true rfl) (Call.mono H fun _ h24 H => ?_)
  refine a_iload (pc := 89) (dk dt_X1_readDate 50 rfl) rfl ?_
  refine a_bipush (pc := 91) (dk dt_X1_readDate 51 rfl) (ik rfl) (bpk rfl) ?_
  refine a_icmp_ne (pc := 93) (dk dt_X1_readDate 52 rfl) (tgt := 116) rfl ⟨fun c => ?_, fun c => ?_⟩
  · replace H := H.1 c
    refine a_iconst (pc := 116) (dk dt_X1_readDate 62 rfl) (ik rfl) ?_
    refine a_istore (pc := 117) (dk dt_X1_readDate 63 rfl) (by decide) rfl rfl ?_
    refine a_aload_n (pc := 119) (dk dt_X1_readDate 64 rfl) rfl ?_
    refine a_iconst (pc := 120) (dk dt_X1_readDate 65 rfl) (ik rfl) ?_
    refine a_iconst (pc := 121) (dk dt_X1_readDate 66 rfl) (ik rfl) ?_
    refine a_iload (pc := 122) (dk dt_X1_readDate 67 rfl) rfl ?_
    refine a_if_eq (pc := 124) (dk dt_X1_readDate 68 rfl) (tgt := 132) rfl ⟨fun _ => ?_, fun c => absurd c (by decide)⟩
    refine a_bipush (pc := 132) (dk dt_X1_readDate 71 rfl) (ik rfl) (bpk rfl) ?_
    refine a_callVi (as := [iv 2, iv 0, iv 59]) (st := []) (pc := 134) (dk dt_X1_readDate 72 rfl) cl_RX1_27 ⟨Nat.le_of_ble_eq_true rfl, Nat.le_of_ble_eq_true rfl⟩ ⟨Nat.le_of_ble_eq_true rfl, Nat.le_of_ble_eq_true rfl⟩ cls_10 rfl cc_2 rfl rfl rfl (Nat.le_of_ble_eq_true rfl) (Call.mono H fun r25 h26 H => ?_)
    refine a_istore (pc := 137) (dk dt_X1_readDate 73 rfl) (by decide) rfl rfl ?_
    refine a_iload (pc := 139) (dk dt_X1_readDate 74 rfl) rfl ?_
    refine a_ldc (n := 86400) (pc := 141) (dk dt_X1_readDate 75 rfl) (ik rfl) co_RX1_40 ?_
    refine a_imul (pc := 143) (dk dt_X1_readDate 76 rfl) ?_
    refine a_aload_n (pc := 144) (dk dt_X1_readDate 77 rfl) rfl ?_
    refine a_iload (pc := 145) (dk dt_X1_readDate 78 rfl) rfl ?_
    refine a_callVi (as := [iv r13]) (st := [iv (w32 (r13 * 86400))]) (pc := 147) (dk dt_X1_readDate 79 rfl) cl_RX1_41 ⟨Nat.le_of_ble_eq_true rfl, Nat.le_of_ble_eq_true rfl⟩ ⟨Nat.le_of_ble_eq_true rfl, Nat.le_of_ble_eq_true rfl⟩ cls_1 rfl cc_12 rfl rfl rfl (Nat.le_of_ble_eq_true rfl) (Call.mono H fun r27 h28 H => ?_)
    refine a_iadd (pc := 150) (dk dt_X1_readDate 80 rfl) ?_
    refine a_iload (pc := 151) (dk dt_X1_readDate 81 rfl) rfl ?_
    refine a_sipush (pc := 153) (dk dt_X1_readDate 82 rfl) (ik rfl) (spk rfl) ?_
    refine a_imul (pc := 156) (dk dt_X1_readDate 83 rfl) ?_
    refine a_iadd (pc := 157) (dk dt_X1_readDate 84 rfl) ?_
    refine a_iload (pc := 158) (dk dt_X1_readDate 85 rfl) rfl ?_
    refine a_bipush (pc := 160) (dk dt_X1_readDate 86 rfl) (ik rfl) (bpk rfl) ?_
    refine a_imul (pc := 162) (dk dt_X1_readDate 87 rfl) ?_
    refine a_iadd (pc := 163) (dk dt_X1_readDate 88 rfl) ?_
    refine a_iload (pc := 164) (dk dt_X1_readDate 89 rfl) rfl ?_
    refine a_iadd (pc := 166) (dk dt_X1_readDate 90 rfl) ?_
    exact a_iret (pc := 167) (dk dt_X1_readDate 91 rfl) rfl rfl H
  · replace H := H.2 c
    refine a_iload (pc := 96) (dk dt_X1_readDate 53 rfl) rfl ?_
    refine a_bipush (pc := 98) (dk dt_X1_readDate 54 rfl) (ik rfl) (bpk rfl) ?_
    refine a_icmp_ne (pc := 100) (dk dt_X1_readDate 55 rfl) (tgt := 116) rfl ⟨fun c => ?_, fun c => ?_⟩
    · replace H := H.1 c
      refine a_iconst (pc := 116) (dk dt_X1_readDate 62 rfl) (ik rfl) ?_
      refine a_istore (pc := 117) (dk dt_X1_readDate 63 rfl) (by decide) rfl rfl ?_
      refine a_aload_n (pc := 119) (dk dt_X1_readDate 64 rfl) rfl ?_
      refine a_iconst (pc := 120) (dk dt_X1_readDate 65 rfl) (ik rfl) ?_
      refine a_iconst (pc := 121) (dk dt_X1_readDate 66 rfl) (ik rfl) ?_
      refine a_iload (pc := 122) (dk dt_X1_readDate 67 rfl) rfl ?_
      refine a_if_eq (pc := 124) (dk dt_X1_readDate 68 rfl) (tgt := 132) rfl ⟨fun _ => ?_, fun c => absurd c (by decide)⟩
      refine a_bipush (pc := 132) (dk dt_X1_readDate 71 rfl) (ik rfl) (bpk rfl) ?_
      refine a_callVi (as := [iv 2, iv 0, iv 59]) (st := []) (pc := 134) (dk dt_X1_readDate 72 rfl) cl_RX1_27 ⟨Nat.le_of_ble_eq_true rfl, Nat.le_of_ble_eq_true rfl⟩ ⟨Nat.le_of_ble_eq_true rfl, Nat.le_of_ble_eq_true rfl⟩ cls_10 rfl cc_2 rfl rfl rfl (Nat.le_of_ble_eq_true rfl) (Call.mono H fun r29 h30 H => ?_)
      refine a_istore (pc := 137) (dk dt_X1_readDate 73 rfl) (by decide) rfl rfl ?_
      refine a_iload (pc := 139) (dk dt_X1_readDate 74 rfl) rfl ?_
      refine a_ldc (n := 86400) (pc := 141) (dk dt_X1_readDate 75 rfl) (ik rfl) co_RX1_40 ?_
      refine a_imul (pc := 143) (dk dt_X1_readDate 76 rfl) ?_
      refine a_aload_n (pc := 144) (dk dt_X1_readDate 77 rfl) rfl ?_
      refine a_iload (pc := 145) (dk dt_X1_readDate 78 rfl) rfl ?_
      refine a_callVi (as := [iv r13]) (st := [iv (w32 (r13 * 86400))]) (pc := 147) (dk dt_X1_readDate 79 rfl) cl_RX1_41 ⟨Nat.le_of_ble_eq_true rfl, Nat.le_of_ble_eq_true rfl⟩ ⟨Nat.le_of_ble_eq_true rfl, Nat.le_of_ble_eq_true rfl⟩ cls_1 rfl cc_12 rfl rfl rfl (Nat.le_of_ble_eq_true rfl) (Call.mono H fun r31 h32 H => ?_)
      refine a_iadd (pc := 150) (dk dt_X1_readDate 80 rfl) ?_
      refine a_iload (pc := 151) (dk dt_X1_readDate 81 rfl) rfl ?_
      refine a_sipush (pc := 153) (dk dt_X1_readDate 82 rfl) (ik rfl) (spk rfl) ?_
      refine a_imul (pc := 156) (dk dt_X1_readDate 83 rfl) ?_
      refine a_iadd (pc := 157) (dk dt_X1_readDate 84 rfl) ?_
      refine a_iload (pc := 158) (dk dt_X1_readDate 85 rfl) rfl ?_
      refine a_bipush (pc := 160) (dk dt_X1_readDate 86 rfl) (ik rfl) (bpk rfl) ?_
      refine a_imul (pc := 162) (dk dt_X1_readDate 87 rfl) ?_
      refine a_iadd (pc := 163) (dk dt_X1_readDate 88 rfl) ?_
      refine a_iload (pc := 164) (dk dt_X1_readDate 89 rfl) rfl ?_
      refine a_iadd (pc := 166) (dk dt_X1_readDate 90 rfl) ?_
      exact a_iret (pc := 167) (dk dt_X1_readDate 91 rfl) rfl rfl H
    · replace H := H.2 c
      refine a_aload_n (pc := 103) (dk dt_X1_readDate 56 rfl) rfl ?_
      refine a_iload (pc := 104) (dk dt_X1_readDate 57 rfl) rfl ?_
      refine a_callVi (as := [iv r13]) (st := []) (pc := 106) (dk dt_X1_readDate 58 rfl) cl_RX1_36 ⟨Nat.le_of_ble_eq_true rfl, Nat.le_of_ble_eq_true rfl⟩ ⟨Nat.le_of_ble_eq_true rfl, Nat.le_of_ble_eq_true rfl⟩ cls_1 rfl cc_12 rfl rfl rfl (Nat.le_of_ble_eq_true rfl) (Call.mono H fun r33 h34 H => ?_)
      refine a_if_eq (pc := 109) (dk dt_X1_readDate 59 rfl) (tgt := 116) rfl ⟨fun c => ?_, fun c => ?_⟩
      · replace H := H.1 c
        refine a_iconst (pc := 116) (dk dt_X1_readDate 62 rfl) (ik rfl) ?_
        refine a_istore (pc := 117) (dk dt_X1_readDate 63 rfl) (by decide) rfl rfl ?_
        refine a_aload_n (pc := 119) (dk dt_X1_readDate 64 rfl) rfl ?_
        refine a_iconst (pc := 120) (dk dt_X1_readDate 65 rfl) (ik rfl) ?_
        refine a_iconst (pc := 121) (dk dt_X1_readDate 66 rfl) (ik rfl) ?_
        refine a_iload (pc := 122) (dk dt_X1_readDate 67 rfl) rfl ?_
        refine a_if_eq (pc := 124) (dk dt_X1_readDate 68 rfl) (tgt := 132) rfl ⟨fun _ => ?_, fun c => absurd c (by decide)⟩
        refine a_bipush (pc := 132) (dk dt_X1_readDate 71 rfl) (ik rfl) (bpk rfl) ?_
        refine a_callVi (as := [iv 2, iv 0, iv 59]) (st := []) (pc := 134) (dk dt_X1_readDate 72 rfl) cl_RX1_27 ⟨Nat.le_of_ble_eq_true rfl, Nat.le_of_ble_eq_true rfl⟩ ⟨Nat.le_of_ble_eq_true rfl, Nat.le_of_ble_eq_true rfl⟩ cls_10 rfl cc_2 rfl rfl rfl (Nat.le_of_ble_eq_true rfl) (Call.mono H fun r35 h36 H => ?_)
        refine a_istore (pc := 137) (dk dt_X1_readDate 73 rfl) (by decide) rfl rfl ?_
        refine a_iload (pc := 139) (dk dt_X1_readDate 74 rfl) rfl ?_
        refine a_ldc (n := 86400) (pc := 141) (dk dt_X1_readDate 75 rfl) (ik rfl) co_RX1_40 ?_
        refine a_imul (pc := 143) (dk dt_X1_readDate 76 rfl) ?_
        refine a_aload_n (pc := 144) (dk dt_X1_readDate 77 rfl) rfl ?_
        refine a_iload (pc := 145) (dk dt_X1_readDate 78 rfl) rfl ?_
        refine a_callVi (as := [iv r13]) (st := [iv (w32 (r13 * 86400))]) (pc := 147) (dk dt_X1_readDate 79 rfl) cl_RX1_41 ⟨Nat.le_of_ble_eq_true rfl, Nat.le_of_ble_eq_true rfl⟩ ⟨Nat.le_of_ble_eq_true rfl, Nat.le_of_ble_eq_true rfl⟩ cls_1 rfl cc_12 rfl rfl rfl (Nat.le_of_ble_eq_true rfl) (Call.mono H fun r37 h38 H => ?_)
        refine a_iadd (pc := 150) (dk dt_X1_readDate 80 rfl) ?_
        refine a_iload (pc := 151) (dk dt_X1_readDate 81 rfl) rfl ?_
        refine a_sipush (pc := 153) (dk dt_X1_readDate 82 rfl) (ik rfl) (spk rfl) ?_
        refine a_imul (pc := 156) (dk dt_X1_readDate 83 rfl) ?_
        refine a_iadd (pc := 157) (dk dt_X1_readDate 84 rfl) ?_
        refine a_iload (pc := 158) (dk dt_X1_readDate 85 rfl) rfl ?_
        refine a_bipush (pc := 160) (dk dt_X1_readDate 86 rfl) (ik rfl) (bpk rfl) ?_
        refine a_imul (pc := 162) (dk dt_X1_readDate 87 rfl) ?_
        refine a_iadd (pc := 163) (dk dt_X1_readDate 88 rfl) ?_
        refine a_iload (pc := 164) (dk dt_X1_readDate 89 rfl) rfl ?_
        refine a_iadd (pc := 166) (dk dt_X1_readDate 90 rfl) ?_
        exact a_iret (pc := 167) (dk dt_X1_readDate 91 rfl) rfl rfl H
      · replace H := H.2 c
        refine a_iconst (pc := 112) (dk dt_X1_readDate 60 rfl) (ik rfl) ?_
        refine a_goto (pc := 113) (dk dt_X1_readDate 61 rfl) (tgt := 117) rfl ?_
        refine a_istore (pc := 117) (dk dt_X1_readDate 63 rfl) (by decide) rfl rfl ?_
        refine a_aload_n (pc := 119) (dk dt_X1_readDate 64 rfl) rfl ?_
        refine a_iconst (pc := 120) (dk dt_X1_readDate 65 rfl) (ik rfl) ?_
        refine a_iconst (pc := 121) (dk dt_X1_readDate 66 rfl) (ik rfl) ?_
        refine a_iload (pc := 122) (dk dt_X1_readDate 67 rfl) rfl ?_
        refine a_if_eq (pc := 124) (dk dt_X1_readDate 68 rfl) (tgt := 132) rfl ⟨fun c => absurd c (by decide), fun _ => ?_⟩
        refine a_bipush (pc := 127) (dk dt_X1_readDate 69 rfl) (ik rfl) (bpk rfl) ?_
        refine a_goto (pc := 129) (dk dt_X1_readDate 70 rfl) (tgt := 134) rfl ?_
        refine a_callVi (as := [iv 2, iv 0, iv 60]) (st := []) (pc := 134) (dk dt_X1_readDate 72 rfl) cl_RX1_27 ⟨Nat.le_of_ble_eq_true rfl, Nat.le_of_ble_eq_true rfl⟩ ⟨Nat.le_of_ble_eq_true rfl, Nat.le_of_ble_eq_true rfl⟩ cls_10 rfl cc_2 rfl rfl rfl (Nat.le_of_ble_eq_true rfl) (Call.mono H fun r39 h40 H => ?_)
        refine a_istore (pc := 137) (dk dt_X1_readDate 73 rfl) (by decide) rfl rfl ?_
        refine a_iload (pc := 139) (dk dt_X1_readDate 74 rfl) rfl ?_
        refine a_ldc (n := 86400) (pc := 141) (dk dt_X1_readDate 75 rfl) (ik rfl) co_RX1_40 ?_
        refine a_imul (pc := 143) (dk dt_X1_readDate 76 rfl) ?_
        refine a_aload_n (pc := 144) (dk dt_X1_readDate 77 rfl) rfl ?_
        refine a_iload (pc := 145) (dk dt_X1_readDate 78 rfl) rfl ?_
        refine a_callVi (as := [iv r13]) (st := [iv (w32 (r13 * 86400))]) (pc := 147) (dk dt_X1_readDate 79 rfl) cl_RX1_41 ⟨Nat.le_of_ble_eq_true rfl, Nat.le_of_ble_eq_true rfl⟩ ⟨Nat.le_of_ble_eq_true rfl, Nat.le_of_ble_eq_true rfl⟩ cls_1 rfl cc_12 rfl rfl rfl (Nat.le_of_ble_eq_true rfl) (Call.mono H fun r41 h42 H => ?_)
        refine a_iadd (pc := 150) (dk dt_X1_readDate 80 rfl) ?_
        refine a_iload (pc := 151) (dk dt_X1_readDate 81 rfl) rfl ?_
        refine a_sipush (pc := 153) (dk dt_X1_readDate 82 rfl) (ik rfl) (spk rfl) ?_
        refine a_imul (pc := 156) (dk dt_X1_readDate 83 rfl) ?_
        refine a_iadd (pc := 157) (dk dt_X1_readDate 84 rfl) ?_
        refine a_iload (pc := 158) (dk dt_X1_readDate 85 rfl) rfl ?_
        refine a_bipush (pc := 160) (dk dt_X1_readDate 86 rfl) (ik rfl) (bpk rfl) ?_
        refine a_imul (pc := 162) (dk dt_X1_readDate 87 rfl) ?_
        refine a_iadd (pc := 163) (dk dt_X1_readDate 88 rfl) ?_
        refine a_iload (pc := 164) (dk dt_X1_readDate 89 rfl) rfl ?_
        refine a_iadd (pc := 166) (dk dt_X1_readDate 90 rfl) ?_
        exact a_iret (pc := 167) (dk dt_X1_readDate 91 rfl) rfl rfl H
set_option maxHeartbeats 40000000 in
theorem U_X1_writeDate_12_11_0 {G : GG} {Φ : Int → Hp → Prop} {h : Hp} {x1 : Int} (H : AT G m_X1_writeDate 8 [(0, rv 12), (1, iv x1), (2, rv 11), (3, iv 0), (4, iv 0), (5, iv 0)] [] h Φ) : AT G m_X1_writeDate 0 [(0, rv 12), (1, iv x1), (2, rv 11)] [] h Φ := by
  refine a_iconst (pc := 0) (dk dt_X1_writeDate 0 rfl) (ik rfl) ?_
  refine a_istore_n (pc := 1) (dk dt_X1_writeDate 1 rfl) (by decide) rfl rfl ?_
  refine a_iconst (pc := 2) (dk dt_X1_writeDate 2 rfl) (ik rfl) ?_
  refine a_istore (pc := 3) (dk dt_X1_writeDate 3 rfl) (by decide) rfl rfl ?_
  refine a_iconst (pc := 5) (dk dt_X1_writeDate 4 rfl) (ik rfl) ?_
  refine a_istore (pc := 6) (dk dt_X1_writeDate 5 rfl) (by decide) rfl rfl ?_
  exact a_pick [0, 1, 2, 3, 4, 5] rfl H
set_option maxHeartbeats 40000000 in
theorem U_X1_writeDate_12_11_8 {G : GG} {Φ : Int → Hp → Prop} {h : Hp} {x1 : Int} {x3 : Int} {x4 : Int} {x5 : Int} (H : (((h 12 1) ≤ x5 → ((x4 = 0 → Call G m_X1_writeDay [iv (w32 ((w32 ((w32 (x1 - x3)) - 0)).tdiv 86400)), rv 11] h (fun _ h2 => Call G m_X1_writeTwo [iv (w32 (((w32 ((w32 (x1 - x3)) - 0)).tmod 86400).tdiv 3600)), rv 11, iv 11] (up h2 11 10 84) (fun _ h4 => Call G m_X1_writeTwo [iv ((w32 (((w32 ((w32 (x1 - x3)) - 0)).tmod 86400).tdiv 60)).tmod 60), rv 11, iv 14] (up h4 11 13 58) (fun _ h6 => ((x4 = 0 → Call G m_X1_writeTwo [iv (w32 ((((w32 ((w32 (x1 - x3)) - 0)).tmod 86400).tmod 60) + 0)), rv 11, iv 17] (up h6 11 16 58) (fun _ h8 => Φ 19 h8)) ∧ (x4 ≠ 0 → Call G m_X1_writeTwo [iv (w32 ((((w32 ((w32 (x1 - x3)) - 0)).tmod 86400).tmod 60) + 1)), rv 11, iv 17] (up h6 11 16 58) (fun _ h10 => Φ 19 h10))))))) ∧ (x4 ≠ 0 → Call G m_X1_writeDay [iv (w32 ((w32 ((w32 (x1 - x3)) - 1)).tdiv 86400)), rv 11] h (fun _ h12 => Call G m_X1_writeTwo [iv (w32 (((w32 ((w32 (x1 - x3)) - 1)).tmod 86400).tdiv 3600)), rv 11, iv 11] (up h12 11 10 84) (fun _ h14 => Call G m_X1_writeTwo [iv ((w32 (((w32 ((w32 (x1 - x3)) - 1)).tmod 86400).tdiv 60)).tmod 60), rv 11, iv 14] (up h14 11 13 58) (fun _ h16 => ((x4 = 0 → Call G m_X1_writeTwo [iv (w32 ((((w32 ((w32 (x1 - x3)) - 1)).tmod 86400).tmod 60) + 0)), rv 11, iv 17] (up h16 11 16 58) (fun _ h18 => Φ 19 h18)) ∧ (x4 ≠ 0 → Call G m_X1_writeTwo [iv (w32 ((((w32 ((w32 (x1 - x3)) - 1)).tmod 86400).tmod 60) + 1)), rv 11, iv 17] (up h16 11 16 58) (fun _ h20 => Φ 19 h20))))))))) ∧ (x5 < (h 12 1) → (0 ≤ x5 ∧ x5 < 10) ∧ ((x1 ≤ (w32 ((w32 ((w32 ((h 13 x5) + 1)) * 86400)) + x5)) → ((x4 ≠ 0 → AT G m_X1_writeDate 8 [(0, rv 12), (1, iv x1), (2, rv 11), (3, iv x3), (4, iv 1), (5, iv (w32 (x5 + 1)))] [] h Φ) ∧ (x4 = 0 → ((x1 ≠ (w32 ((w32 ((w32 ((h 13 x5) + 1)) * 86400)) + x5)) → AT G m_X1_writeDate 8 [(0, rv 12), (1, iv x1), (2, rv 11), (3, iv x3), (4, iv 0), (5, iv (w32 (x5 + 1)))] [] h Φ) ∧ (x1 = (w32 ((w32 ((w32 ((h 13 x5) + 1)) * 86400)) + x5)) → AT G m_X1_writeDate 8 [(0, rv 12), (1, iv x1), (2, rv 11), (3, iv x3), (4, iv 1), (5, iv (w32 (x5 + 1)))] [] h Φ))))) ∧ ((w32 ((w32 ((w32 ((h 13 x5) + 1)) * 86400)) + x5)) < x1 → ((x4 ≠ 0 → AT G m_X1_writeDate 8 [(0, rv 12), (1, iv x1), (2, rv 11), (3, iv (w32 (x3 + 1))), (4, iv 1), (5, iv (w32 (x5 + 1)))] [] h Φ) ∧ (x4 = 0 → ((x1 ≠ (w32 ((w32 ((w32 ((h 13 x5) + 1)) * 86400)) + x5)) → AT G m_X1_writeDate 8 [(0, rv 12), (1, iv x1), (2, rv 11), (3, iv (w32 (x3 + 1))), (4, iv 0), (5, iv (w32 (x5 + 1)))] [] h Φ) ∧ (x1 = (w32 ((w32 ((w32 ((h 13 x5) + 1)) * 86400)) + x5)) → AT G m_X1_writeDate 8 [(0, rv 12), (1, iv x1), (2, rv 11), (3, iv (w32 (x3 + 1))), (4, iv 1), (5, iv (w32 (x5 + 1)))] [] h Φ))))))))) : AT G m_X1_writeDate 8 [(0, rv 12), (1, iv x1), (2, rv 11), (3, iv x3), (4, iv x4), (5, iv x5)] [] h Φ := by
  refine a_iload (pc := 8) (dk dt_X1_writeDate 6 rfl) rfl ?_
  refine a_aload_n (pc := 10) (dk dt_X1_writeDate 7 rfl) rfl ?_
  refine a_geti (pc := 11) (dk dt_X1_writeDate 8 rfl) cls_1 fl_RX1_23 cf_12_1 ?_
  refine a_icmp_ge (pc := 14) (dk dt_X1_writeDate 9 rfl) (tgt := 67) rfl ⟨fun c => ?_, fun c => ?_⟩
  · replace H := H.1 c
    refine a_iload_n (pc := 67) (dk dt_X1_writeDate 36 rfl) rfl ?_
    refine a_iload_n (pc := 68) (dk dt_X1_writeDate 37 rfl) rfl ?_
    refine a_isub (pc := 69) (dk dt_X1_writeDate 38 rfl) ?_
    refine a_iload (pc := 70) (dk dt_X1_writeDate 39 rfl) rfl ?_
    refine a_callNi (as := [iv x4]) (st := [iv (w32 (x1 - x3))]) (pc := 72) (dk dt_X1_writeDate 40 rfl) cl_RX1_49 ⟨Nat.le_of_ble_eq_true rfl, Nat.le_of_ble_eq_true rfl⟩ ⟨Nat.le_of_ble_eq_true rfl, Nat.le_of_ble_eq_true rfl⟩ rfl rfl rfl (Nat.le_of_ble_eq_true rfl) (Call.of rfl (Nat.le_of_ble_eq_true rfl) rfl ?_)
    refine a_iload_n (pc := 0) (dk dt_X11_bit 0 rfl) rfl ?_
    refine a_if_eq (pc := 1) (dk dt_X11_bit 1 rfl) (tgt := 8) rfl ⟨fun c => ?_, fun c => ?_⟩
    · replace H := H.1 c
      refine a_iconst (pc := 8) (dk dt_X11_bit 4 rfl) (ik rfl) ?_
      refine a_iret (pc := 9) (dk dt_X11_bit 5 rfl) rfl rfl ?_
      show ATW _ _ _ _ _ _ _ _ _ _
      refine a_isub (pc := 75) (dk dt_X1_writeDate 41 rfl) ?_
      refine a_istore (pc := 76) (dk dt_X1_writeDate 42 rfl) (by decide) rfl rfl ?_
      refine a_iload (pc := 78) (dk dt_X1_writeDate 43 rfl) rfl ?_
      refine a_ldc (n := 86400) (pc := 80) (dk dt_X1_writeDate 44 rfl) (ik rfl) co_RX1_40 ?_
      refine a_idiv (pc := 82) (dk dt_X1_writeDate 45 rfl) ⟨by decide, ?_⟩
      refine a_aload_n (pc := 83) (dk dt_X1_writeDate 46 rfl) rfl ?_
      refine a_callSv (as := [iv (w32 ((w32 ((w32 (x1 - x3)) - 0)).tdiv 86400)), rv 11]) (st := []) (pc := 84) (dk dt_X1_writeDate 47 rfl) cl_RX1_53 ⟨Nat.le_of_ble_eq_true rfl, Nat.le_of_ble_eq_true rfl⟩ ⟨Nat.le_of_ble_eq_true rfl, Nat.le_of_ble_eq_true rfl⟩ rfl rfl rfl (Nat.le_of_ble_eq_true rfl) (Call.mono H fun _ h2 H => ?_)
      refine a_iload (pc := 87) (dk dt_X1_writeDate 48 rfl) rfl ?_
      refine a_ldc (n := 86400) (pc := 89) (dk dt_X1_writeDate 49 rfl) (ik rfl) co_RX1_40 ?_
      refine a_irem (pc := 91) (dk dt_X1_writeDate 50 rfl) ⟨by decide, ?_⟩
      refine a_istore (pc := 92) (dk dt_X1_writeDate 51 rfl) (by decide) rfl rfl ?_
      refine a_aload_n (pc := 94) (dk dt_X1_writeDate 52 rfl) rfl ?_
      refine a_bipush (pc := 95) (dk dt_X1_writeDate 53 rfl) (ik rfl) (bpk rfl) ?_
      refine a_bipush (pc := 97) (dk dt_X1_writeDate 54 rfl) (ik rfl) (bpk rfl) ?_
      refine a_iast (pc := 99) (dk dt_X1_writeDate 55 rfl) ar_11 ⟨⟨by decide, by decide⟩, ?_⟩
      refine a_iload (pc := 100) (dk dt_X1_writeDate 56 rfl) rfl ?_
      refine a_sipush (pc := 102) (dk dt_X1_writeDate 57 rfl) (ik rfl) (spk rfl) ?_
      refine a_idiv (pc := 105) (dk dt_X1_writeDate 58 rfl) ⟨by decide, ?_⟩
      refine a_aload_n (pc := 106) (dk dt_X1_writeDate 59 rfl) rfl ?_
      refine a_bipush (pc := 107) (dk dt_X1_writeDate 60 rfl) (ik rfl) (bpk rfl) ?_
      refine a_callSv (as := [iv (w32 (((w32 ((w32 (x1 - x3)) - 0)).tmod 86400).tdiv 3600)), rv 11, iv 11]) (st := []) (pc := 109) (dk dt_X1_writeDate 61 rfl) cl_RX1_57 ⟨Nat.le_of_ble_eq_true rfl, Nat.le_of_ble_eq_true rfl⟩ ⟨Nat.le_of_ble_eq_true rfl, Nat.le_of_ble_eq_true rfl⟩ rfl rfl rfl (Nat.le_of_ble_eq_true rfl) (Call.mono H fun _ h4 H => ?_)
      refine a_aload_n (pc := 112) (dk dt_X1_writeDate 62 rfl) rfl ?_
      refine a_bipush (pc := 113) (dk dt_X1_writeDate 63 rfl) (ik rfl) (bpk rfl) ?_
      refine a_bipush (pc := 115) (dk dt_X1_writeDate 64 rfl) (ik rfl) (bpk rfl) ?_
      refine a_iast (pc := 117) (dk dt_X1_writeDate 65 rfl) ar_11 ⟨⟨by decide, by decide⟩, ?_⟩
      refine a_iload (pc := 118) (dk dt_X1_writeDate 66 rfl) rfl ?_
      refine a_bipush (pc := 120) (dk dt_X1_writeDate 67 rfl) (ik rfl) (bpk rfl) ?_
      refine a_idiv (pc := 122) (dk dt_X1_writeDate 68 rfl) ⟨by decide, ?_⟩
      refine a_bipush (pc := 123) (dk dt_X1_writeDate 69 rfl) (ik rfl) (bpk rfl) ?_
      refine a_irem (pc := 125) (dk dt_X1_writeDate 70 rfl) ⟨by decide, ?_⟩
      refine a_aload_n (pc := 126) (dk dt_X1_writeDate 71 rfl) rfl ?_
      refine a_bipush (pc := 127) (dk dt_X1_writeDate 72 rfl) (ik rfl) (bpk rfl) ?_
      refine a_callSv (as := [iv ((w32 (((w32 ((w32 (x1 - x3)) - 0)).tmod 86400).tdiv 60)).tmod 60), rv 11, iv 14]) (st := []) (pc := 129) (dk dt_X1_writeDate 73 rfl) cl_RX1_57 ⟨Nat.le_of_ble_eq_true rfl, Nat.le_of_ble_eq_true rfl⟩ ⟨Nat.le_of_ble_eq_true rfl, Nat.le_of_ble_eq_true rfl⟩ rfl rfl rfl (Nat.le_of_ble_eq_true rfl) (Call.mono H fun _ h6 H => ?_)
      refine a_aload_n (pc := 132) (dk dt_X1_writeDate 74 rfl) rfl ?_
      refine a_bipush (pc := 133) (dk dt_X1_writeDate 75 rfl) (ik rfl) (bpk rfl) ?_
      refine a_bipush (pc := 135) (dk dt_X1_writeDate 76 rfl) (ik rfl) (bpk rfl) ?_
      refine a_iast (pc := 137) (dk dt_X1_writeDate 77 rfl) ar_11 ⟨⟨by decide, by decide⟩, ?_⟩
      refine a_iload (pc := 138) (dk dt_X1_writeDate 78 rfl) rfl ?_
      refine a_bipush (pc := 140) (dk dt_X1_writeDate 79 rfl) (ik rfl) (bpk rfl) ?_
      refine a_irem (pc := 142) (dk dt_X1_writeDate 80 rfl) ⟨by decide, ?_⟩
      refine a_iload (pc := 143) (dk dt_X1_writeDate 81 rfl) rfl ?_
      refine a_callNi (as := [iv x4]) (st := [iv (((w32 ((w32 (x1 - x3)) - 0)).tmod 86400).tmod 60)]) (pc := 145) (dk dt_X1_writeDate 82 rfl) cl_RX1_49 ⟨Nat.le_of_ble_eq_true rfl, Nat.le_of_ble_eq_true rfl⟩ ⟨Nat.le_of_ble_eq_true rfl, Nat.le_of_ble_eq_true rfl⟩ rfl rfl rfl (Nat.le_of_ble_eq_true rfl) (Call.of rfl (Nat.le_of_ble_eq_true rfl) rfl ?_)
      refine a_iload_n (pc := 0) (dk dt_X11_bit 0 rfl) rfl ?_
      refine a_if_eq (pc := 1) (dk dt_X11_bit 1 rfl) (tgt := 8) rfl ⟨fun c => ?_, fun c => ?_⟩
      · replace H := H.1 c
        refine a_iconst (pc := 8) (dk dt_X11_bit 4 rfl) (ik rfl) ?_
        refine a_iret (pc := 9) (dk dt_X11_bit 5 rfl) rfl rfl ?_
        show ATW _ _ _ _ _ _ _ _ _ _
        refine a_iadd (pc := 148) (dk dt_X1_writeDate 83 rfl) ?_
        refine a_aload_n (pc := 149) (dk dt_X1_writeDate 84 rfl) rfl ?_
        refine a_bipush (pc := 150) (dk dt_X1_writeDate 85 rfl) (ik rfl) (bpk rfl) ?_
        refine a_callSv (as := [iv (w32 ((((w32 ((w32 (x1 - x3)) - 0)).tmod 86400).tmod 60) + 0)), rv 11, iv 17]) (st := []) (pc := 152) (dk dt_X1_writeDate 86 rfl) cl_RX1_57 ⟨Nat.le_of_ble_eq_true rfl, Nat.le_of_ble_eq_true rfl⟩ ⟨Nat.le_of_ble_eq_true rfl, Nat.le_of_ble_eq_true rfl⟩ rfl rfl rfl (Nat.le_of_ble_eq_true rfl) (Call.mono H fun _ h8 H => ?_)
        refine a_bipush (pc := 155) (dk dt_X1_writeDate 87 rfl) (ik rfl) (bpk rfl) ?_
        exact a_iret (pc := 157) (dk dt_X1_writeDate 88 rfl) rfl rfl H
      · replace H := H.2 c
        refine a_iconst (pc := 4) (dk dt_X11_bit 2 rfl) (ik rfl) ?_
        refine a_goto (pc := 5) (dk dt_X11_bit 3 rfl) (tgt := 9) rfl ?_
        refine a_iret (pc := 9) (dk dt_X11_bit 5 rfl) rfl rfl ?_
        show ATW _ _ _ _ _ _ _ _ _ _
        refine a_iadd (pc := 148) (dk dt_X1_writeDate 83 rfl) ?_
        refine a_aload_n (pc := 149) (dk dt_X1_writeDate 84 rfl) rfl ?_
        refine a_bipush (pc := 150) (dk dt_X1_writeDate 85 rfl) (ik rfl) (bpk rfl) ?_
        refine a_callSv (as := [iv (w32 ((((w32 ((w32 (x1 - x3)) - 0)).tmod 86400).tmod 60) + 1)), rv 11, iv 17]) (st := []) (pc := 152) (dk dt_X1_writeDate 86 rfl) cl_RX1_57 ⟨Nat.le_of_ble_eq_true rfl, Nat.le_of_ble_eq_true rfl⟩ ⟨Nat.le_of_ble_eq_true rfl, Nat.le_of_ble_eq_true rfl⟩ rfl rfl rfl (Nat.le_of_ble_eq_true rfl) (Call.mono H fun _ h10 H => ?_)
        refine a_bipush (pc := 155) (dk dt_X1_writeDate 87 rfl) (ik rfl) (bpk rfl) ?_
        exact a_iret (pc := 157) (dk dt_X1_writeDate 88 rfl) rfl rfl H
    · replace H := H.2 c
      refine a_iconst (pc := 4) (dk dt_X11_bit 2 rfl) (ik rfl) ?_
      refine a_goto (pc := 5) (dk dt_X11_bit 3 rfl) (tgt := 9) rfl ?_
      refine a_iret (pc := 9) (dk dt_X11_bit 5 rfl) rfl rfl ?_
      show ATW _ _ _ _ _ _ _ _ _ _
      refine a_isub (pc := 75) (dk dt_X1_writeDate 41 rfl) ?_
      refine a_istore (pc := 76) (dk dt_X1_writeDate 42 rfl) (by decide) rfl rfl ?_
      refine a_iload (pc := 78) (dk dt_X1_writeDate 43 rfl) rfl ?_
      refine a_ldc (n := 86400) (pc := 80) (dk dt_X1_writeDate 44 rfl) (ik rfl) co_RX1_40 ?_
      refine a_idiv (pc := 82) (dk dt_X1_writeDate 45 rfl) ⟨by decide, ?_⟩
      refine a_aload_n (pc := 83) (dk dt_X1_writeDate 46 rfl) rfl ?_
      refine a_callSv (as := [iv (w32 ((w32 ((w32 (x1 - x3)) - 1)).tdiv 86400)), rv 11]) (st := []) (pc := 84) (dk dt_X1_writeDate 47 rfl) cl_RX1_53 ⟨Nat.le_of_ble_eq_true rfl, Nat.le_of_ble_eq_true rfl⟩ ⟨Nat.le_of_ble_eq_true rfl, Nat.le_of_ble_eq_true rfl⟩ rfl rfl rfl (Nat.le_of_ble_eq_true rfl) (Call.mono H fun _ h12 H => ?_)
      refine a_iload (pc := 87) (dk dt_X1_writeDate 48 rfl) rfl ?_
      refine a_ldc (n := 86400) (pc := 89) (dk dt_X1_writeDate 49 rfl) (ik rfl) co_RX1_40 ?_
      refine a_irem (pc := 91) (dk dt_X1_writeDate 50 rfl) ⟨by decide, ?_⟩
      refine a_istore (pc := 92) (dk dt_X1_writeDate 51 rfl) (by decide) rfl rfl ?_
      refine a_aload_n (pc := 94) (dk dt_X1_writeDate 52 rfl) rfl ?_
      refine a_bipush (pc := 95) (dk dt_X1_writeDate 53 rfl) (ik rfl) (bpk rfl) ?_
      refine a_bipush (pc := 97) (dk dt_X1_writeDate 54 rfl) (ik rfl) (bpk rfl) ?_
      refine a_iast (pc := 99) (dk dt_X1_writeDate 55 rfl) ar_11 ⟨⟨by decide, by decide⟩, ?_⟩
      refine a_iload (pc := 100) (dk dt_X1_writeDate 56 rfl) rfl ?_
      refine a_sipush (pc := 102) (dk dt_X1_writeDate 57 rfl) (ik rfl) (spk rfl) ?_
      refine a_idiv (pc := 105) (dk dt_X1_writeDate 58 rfl) ⟨by decide, ?_⟩
      refine a_aload_n (pc := 106) (dk dt_X1_writeDate 59 rfl) rfl ?_
      refine a_bipush (pc := 107) (dk dt_X1_writeDate 60 rfl) (ik rfl) (bpk rfl) ?_
      refine a_callSv (as := [iv (w32 (((w32 ((w32 (x1 - x3)) - 1)).tmod 86400).tdiv 3600)), rv 11, iv 11]) (st := []) (pc := 109) (dk dt_X1_writeDate 61 rfl) cl_RX1_57 ⟨Nat.le_of_ble_eq_true rfl, Nat.le_of_ble_eq_true rfl⟩ ⟨Nat.le_of_ble_eq_true rfl, Nat.le_of_ble_eq_true rfl⟩ rfl rfl rfl (Nat.le_of_ble_eq_true rfl) (Call.mono H fun _ h14 H => ?_)
      refine a_aload_n (pc := 112) (dk dt_X1_writeDate 62 rfl) rfl ?_
      refine a_bipush (pc := 113) (dk dt_X1_writeDate 63 rfl) (ik rfl) (bpk rfl) ?_
      refine a_bipush (pc := 115) (dk dt_X1_writeDate 64 rfl) (ik rfl) (bpk rfl) ?_
      refine a_iast (pc := 117) (dk dt_X1_writeDate 65 rfl) ar_11 ⟨⟨by decide, by decide⟩, ?_⟩
      refine a_iload (pc := 118) (dk dt_X1_writeDate 66 rfl) rfl ?_
      refine a_bipush (pc := 120) (dk dt_X1_writeDate 67 rfl) (ik rfl) (bpk rfl) ?_
      refine a_idiv (pc := 122) (dk dt_X1_writeDate 68 rfl) ⟨by decide, ?_⟩
      refine a_bipush (pc := 123) (dk dt_X1_writeDate 69 rfl) (ik rfl) (bpk rfl) ?_
      refine a_irem (pc := 125) (dk dt_X1_writeDate 70 rfl) ⟨by decide, ?_⟩
      refine a_aload_n (pc := 126) (dk dt_X1_writeDate 71 rfl) rfl ?_
      refine a_bipush (pc := 127) (dk dt_X1_writeDate 72 rfl) (ik rfl) (bpk rfl) ?_
      refine a_callSv (as := [iv ((w32 (((w32 ((w32 (x1 - x3)) - 1)).tmod 86400).tdiv 60)).tmod 60), rv 11, iv 14]) (st := []) (pc := 129) (dk dt_X1_writeDate 73 rfl) cl_RX1_57 ⟨Nat.le_of_ble_eq_true rfl, Nat.le_of_ble_eq_true rfl⟩ ⟨Nat.le_of_ble_eq_true rfl, Nat.le_of_ble_eq_true rfl⟩ rfl rfl rfl (Nat.le_of_ble_eq_true rfl) (Call.mono H fun _ h16 H => ?_)
      refine a_aload_n (pc := 132) (dk dt_X1_writeDate 74 rfl) rfl ?_
      refine a_bipush (pc := 133) (dk dt_X1_writeDate 75 rfl) (ik rfl) (bpk rfl) ?_
      refine a_bipush (pc := 135) (dk dt_X1_writeDate 76 rfl) (ik rfl) (bpk rfl) ?_
      refine a_iast (pc := 137) (dk dt_X1_writeDate 77 rfl) ar_11 ⟨⟨by decide, by decide⟩, ?_⟩
      refine a_iload (pc := 138) (dk dt_X1_writeDate 78 rfl) rfl ?_
      refine a_bipush (pc := 140) (dk dt_X1_writeDate 79 rfl) (ik rfl) (bpk rfl) ?_
      refine a_irem (pc := 142) (dk dt_X1_writeDate 80 rfl) ⟨by decide, ?_⟩
      refine a_iload (pc := 143) (dk dt_X1_writeDate 81 rfl) rfl ?_
      refine a_callNi (as := [iv x4]) (st := [iv (((w32 ((w32 (x1 - x3)) - 1)).tmod 86400).tmod 60)]) (pc := 145) (dk dt_X1_writeDate 82 rfl) cl_RX1_49 ⟨Nat.le_of_ble_eq_true rfl, Nat.le_of_ble_eq_true rfl⟩ ⟨Nat.le_of_ble_eq_true rfl, Nat.le_of_ble_eq_true rfl⟩ rfl rfl rfl (Nat.le_of_ble_eq_true rfl) (Call.of rfl (Nat.le_of_ble_eq_true rfl) rfl ?_)
      refine a_iload_n (pc := 0) (dk dt_X11_bit 0 rfl) rfl ?_
      refine a_if_eq (pc := 1) (dk dt_X11_bit 1 rfl) (tgt := 8) rfl ⟨fun c => ?_, fun c => ?_⟩
      · replace H := H.1 c
        refine a_iconst (pc := 8) (dk dt_X11_bit 4 rfl) (ik rfl) ?_
        refine a_iret (pc := 9) (dk dt_X11_bit 5 rfl) rfl rfl ?_
        show ATW _ _ _ _ _ _ _ _ _ _
        refine a_iadd (pc := 148) (dk dt_X1_writeDate 83 rfl) ?_
        refine a_aload_n (pc := 149) (dk dt_X1_writeDate 84 rfl) rfl ?_
        refine a_bipush (pc := 150) (dk dt_X1_writeDate 85 rfl) (ik rfl) (bpk rfl) ?_
        refine a_callSv (as := [iv (w32 ((((w32 ((w32 (x1 - x3)) - 1)).tmod 86400).tmod 60) + 0)), rv 11, iv 17]) (st := []) (pc := 152) (dk dt_X1_writeDate 86 rfl) cl_RX1_57 ⟨Nat.le_of_ble_eq_true rfl, Nat.le_of_ble_eq_true rfl⟩ ⟨Nat.le_of_ble_eq_true rfl, Nat.le_of_ble_eq_true rfl⟩ rfl rfl rfl (Nat.le_of_ble_eq_true rfl) (Call.mono H fun _ h18 H => ?_)
        refine a_bipush (pc := 155) (dk dt_X1_writeDate 87 rfl) (ik rfl) (bpk rfl) ?_
        exact a_iret (pc := 157) (dk dt_X1_writeDate 88 rfl) rfl rfl H
      · replace H := H.2 c
        refine a_iconst (pc := 4) (dk dt_X11_bit 2 rfl) (ik rfl) ?_
        refine a_goto (pc := 5) (dk dt_X11_bit 3 rfl) (tgt := 9) rfl ?_
        refine a_iret (pc := 9) (dk dt_X11_bit 5 rfl) rfl rfl ?_
        show ATW _ _ _ _ _ _ _ _ _ _
        refine a_iadd (pc := 148) (dk dt_X1_writeDate 83 rfl) ?_
        refine a_aload_n (pc := 149) (dk dt_X1_writeDate 84 rfl) rfl ?_
        refine a_bipush (pc := 150) (dk dt_X1_writeDate 85 rfl) (ik rfl) (bpk rfl) ?_
        refine a_callSv (as := [iv (w32 ((((w32 ((w32 (x1 - x3)) - 1)).tmod 86400).tmod 60) + 1)), rv 11, iv 17]) (st := []) (pc := 152) (dk dt_X1_writeDate 86 rfl) cl_RX1_57 ⟨Nat.le_of_ble_eq_true rfl, Nat.le_of_ble_eq_true rfl⟩ ⟨Nat.le_of_ble_eq_true rfl, Nat.le_of_ble_eq_true rfl⟩ rfl rfl rfl (Nat.le_of_ble_eq_true rfl) (Call.mono H fun _ h20 H => ?_)
        refine a_bipush (pc := 155) (dk dt_X1_writeDate 87 rfl) (ik rfl) (bpk rfl) ?_
        exact a_iret (pc := 157) (dk dt_X1_writeDate 88 rfl) rfl rfl H
  · replace H := H.2 c
    refine a_aload_n (pc := 17) (dk dt_X1_writeDate 10 rfl) rfl ?_
    refine a_getr (r := 12) (pc := 18) (dk dt_X1_writeDate 11 rfl) cls_1 fl_RX1_11 cf_12_0 ?_
    refine a_iload (pc := 21) (dk dt_X1_writeDate 12 rfl) rfl ?_
    refine a_iald (pc := 23) (dk dt_X1_writeDate 13 rfl) ar_13 ⟨H.1, ?_⟩
    replace H := H.2
    refine a_iconst (pc := 24) (dk dt_X1_writeDate 14 rfl) (ik rfl) ?_
    refine a_iadd (pc := 25) (dk dt_X1_writeDate 15 rfl) ?_
    refine a_ldc (n := 86400) (pc := 26) (dk dt_X1_writeDate 16 rfl) (ik rfl) co_RX1_40 ?_
    refine a_imul (pc := 28) (dk dt_X1_writeDate 17 rfl) ?_
    refine a_iload (pc := 29) (dk dt_X1_writeDate 18 rfl) rfl ?_
    refine a_iadd (pc := 31) (dk dt_X1_writeDate 19 rfl) ?_
    refine a_istore (pc := 32) (dk dt_X1_writeDate 20 rfl) (by decide) rfl rfl ?_
    refine a_iload_n (pc := 34) (dk dt_X1_writeDate 21 rfl) rfl ?_
    refine a_iload (pc := 35) (dk dt_X1_writeDate 22 rfl) rfl ?_
    refine a_icmp_le (pc := 37) (dk dt_X1_writeDate 23 rfl) (tgt := 43) rfl ⟨fun c => ?_, fun c => ?_⟩
    · replace H := H.1 c
      refine a_iload (pc := 43) (dk dt_X1_writeDate 25 rfl) rfl ?_
      refine a_if_ne (pc := 45) (dk dt_X1_writeDate 26 rfl) (tgt := 54) rfl ⟨fun c => ?_, fun c => ?_⟩
      · replace H := H.1 c
        refine a_iconst (pc := 54) (dk dt_X1_writeDate 30 rfl) (ik rfl) ?_
        refine a_goto (pc := 55) (dk dt_X1_writeDate 31 rfl) (tgt := 59) rfl ?_
        refine a_istore (pc := 59) (dk dt_X1_writeDate 33 rfl) (by decide) rfl rfl ?_
        refine a_iinc (pc := 61) (dk dt_X1_writeDate 34 rfl) (by decide) rfl rfl rfl ?_
        refine a_goto (pc := 64) (dk dt_X1_writeDate 35 rfl) (tgt := 8) rfl ?_
        exact a_pick [0, 1, 2, 3, 4, 5] rfl H
      · replace H := H.2 c
        refine a_iload_n (pc := 48) (dk dt_X1_writeDate 27 rfl) rfl ?_
        refine a_iload (pc := 49) (dk dt_X1_writeDate 28 rfl) rfl ?_
        refine a_icmp_ne (pc := 51) (dk dt_X1_writeDate 29 rfl) (tgt := 58) rfl ⟨fun c => ?_, fun c => ?_⟩
        · replace H := H.1 c
          refine a_iconst (pc := 58) (dk dt_X1_writeDate 32 rfl) (ik rfl) ?_
          refine a_istore (pc := 59) (dk dt_X1_writeDate 33 rfl) (by decide) rfl rfl ?_
          refine a_iinc (pc := 61) (dk dt_X1_writeDate 34 rfl) (by decide) rfl rfl rfl ?_
          refine a_goto (pc := 64) (dk dt_X1_writeDate 35 rfl) (tgt := 8) rfl ?_
          exact a_pick [0, 1, 2, 3, 4, 5] rfl H
        · replace H := H.2 c
          refine a_iconst (pc := 54) (dk dt_X1_writeDate 30 rfl) (ik rfl) ?_
          refine a_goto (pc := 55) (dk dt_X1_writeDate 31 rfl) (tgt := 59) rfl ?_
          refine a_istore (pc := 59) (dk dt_X1_writeDate 33 rfl) (by decide) rfl rfl ?_
          refine a_iinc (pc := 61) (dk dt_X1_writeDate 34 rfl) (by decide) rfl rfl rfl ?_
          refine a_goto (pc := 64) (dk dt_X1_writeDate 35 rfl) (tgt := 8) rfl ?_
          exact a_pick [0, 1, 2, 3, 4, 5] rfl H
    · replace H := H.2 c
      refine a_iinc (pc := 40) (dk dt_X1_writeDate 24 rfl) (by decide) rfl rfl rfl ?_
      refine a_iload (pc := 43) (dk dt_X1_writeDate 25 rfl) rfl ?_
      refine a_if_ne (pc := 45) (dk dt_X1_writeDate 26 rfl) (tgt := 54) rfl ⟨fun c => ?_, fun c => ?_⟩
      · replace H := H.1 c
        refine a_iconst (pc := 54) (dk dt_X1_writeDate 30 rfl) (ik rfl) ?_
        refine a_goto (pc := 55) (dk dt_X1_writeDate 31 rfl) (tgt := 59) rfl ?_
        refine a_istore (pc := 59) (dk dt_X1_writeDate 33 rfl) (by decide) rfl rfl ?_
        refine a_iinc (pc := 61) (dk dt_X1_writeDate 34 rfl) (by decide) rfl rfl rfl ?_
        refine a_goto (pc := 64) (dk dt_X1_writeDate 35 rfl) (tgt := 8) rfl ?_
        exact a_pick [0, 1, 2, 3, 4, 5] rfl H
      · replace H := H.2 c
        refine a_iload_n (pc := 48) (dk dt_X1_writeDate 27 rfl) rfl ?_
        refine a_iload (pc := 49) (dk dt_X1_writeDate 28 rfl) rfl ?_
        refine a_icmp_ne (pc := 51) (dk dt_X1_writeDate 29 rfl) (tgt := 58) rfl ⟨fun c => ?_, fun c => ?_⟩
        · replace H := H.1 c
          refine a_iconst (pc := 58) (dk dt_X1_writeDate 32 rfl) (ik rfl) ?_
          refine a_istore (pc := 59) (dk dt_X1_writeDate 33 rfl) (by decide) rfl rfl ?_
          refine a_iinc (pc := 61) (dk dt_X1_writeDate 34 rfl) (by decide) rfl rfl rfl ?_
          refine a_goto (pc := 64) (dk dt_X1_writeDate 35 rfl) (tgt := 8) rfl ?_
          exact a_pick [0, 1, 2, 3, 4, 5] rfl H
        · replace H := H.2 c
          refine a_iconst (pc := 54) (dk dt_X1_writeDate 30 rfl) (ik rfl) ?_
          refine a_goto (pc := 55) (dk dt_X1_writeDate 31 rfl) (tgt := 59) rfl ?_
          refine a_istore (pc := 59) (dk dt_X1_writeDate 33 rfl) (by decide) rfl rfl ?_
          refine a_iinc (pc := 61) (dk dt_X1_writeDate 34 rfl) (by decide) rfl rfl rfl ?_
          refine a_goto (pc := 64) (dk dt_X1_writeDate 35 rfl) (tgt := 8) rfl ?_
          exact a_pick [0, 1, 2, 3, 4, 5] rfl H
set_option maxHeartbeats 40000000 in
theorem U_X1_hasSecond_12_0 {G : GG} {Φ : Int → Hp → Prop} {h : Hp} {x1 : Int} (H : Call G m_X1_dayOf [iv 2060, iv 1, iv 1] h (fun r1 h2 => ((x1 < 0 → Φ 0 h2) ∧ (0 ≤ x1 → (((w32 ((w32 ((w32 (r1 * 86400)) + (h2 12 1))) - 1)) < x1 → Φ 0 h2) ∧ (x1 ≤ (w32 ((w32 ((w32 (r1 * 86400)) + (h2 12 1))) - 1)) → Φ 1 h2)))))) : AT G m_X1_hasSecond 0 [(0, rv 12), (1, iv x1)] [] h Φ := by
  refine a_iload_n (pc := 0) (dk dt_X1_hasSecond 0 rfl) rfl ?_
  refine a_iconst (pc := 1) (dk dt_X1_hasSecond 1 rfl) (ik rfl) ?_
  refine a_sipush (pc := 2) (dk dt_X1_hasSecond 2 rfl) (ik rfl) (spk rfl) ?_
  refine a_iconst (pc := 5) (dk dt_X1_hasSecond 3 rfl) (ik rfl) ?_
  refine a_iconst (pc := 6) (dk dt_X1_hasSecond 4 rfl) (ik rfl) ?_
  refine a_callSi (as := [iv 2060, iv 1, iv 1]) (st := [iv 0, iv x1]) (pc := 7) (dk dt_X1_hasSecond 5 rfl) cl_RX1_19 ⟨Nat.le_of_ble_eq_true rfl, Nat.le_of_ble_eq_true rfl⟩ ⟨Nat.le_of_ble_eq_true rfl, Nat.le_of_ble_eq_true rfl⟩ rfl rfl rfl (Nat.le_of_ble_eq_true rfl) (Call.mono H fun r1 h2 H => ?_)
  refine a_ldc (n := 86400) (pc := 10) (dk dt_X1_hasSecond 6 rfl) (ik rfl) co_RX1_40 ?_
  refine a_imul (pc := 12) (dk dt_X1_hasSecond 7 rfl) ?_
  refine a_aload_n (pc := 13) (dk dt_X1_hasSecond 8 rfl) rfl ?_
  refine a_geti (pc := 14) (dk dt_X1_hasSecond 9 rfl) cls_1 fl_RX1_23 cf_12_1 ?_
  refine a_iadd (pc := 17) (dk dt_X1_hasSecond 10 rfl) ?_
  refine a_iconst (pc := 18) (dk dt_X1_hasSecond 11 rfl) (ik rfl) ?_
  refine a_isub (pc := 19) (dk dt_X1_hasSecond 12 rfl) ?_
  refine a_callNi (as := [iv x1, iv 0, iv (w32 ((w32 ((w32 (r1 * 86400)) + (h2 12 1))) - 1))]) (st := []) (pc := 20) (dk dt_X1_hasSecond 13 rfl) cl_RX1_45 ⟨Nat.le_of_ble_eq_true rfl, Nat.le_of_ble_eq_true rfl⟩ ⟨Nat.le_of_ble_eq_true rfl, Nat.le_of_ble_eq_true rfl⟩ rfl rfl rfl (Nat.le_of_ble_eq_true rfl) (Call.of rfl (Nat.le_of_ble_eq_true rfl) rfl ?_)
  refine a_iload_n (pc := 0) (dk dt_X11_within 0 rfl) rfl ?_
  refine a_iload_n (pc := 1) (dk dt_X11_within 1 rfl) rfl ?_
  refine a_icmp_lt (pc := 2) (dk dt_X11_within 2 rfl) (tgt := 14) rfl ⟨fun c => ?_, fun c => ?_⟩
  · replace H := H.1 c
    refine a_iconst (pc := 14) (dk dt_X11_within 8 rfl) (ik rfl) ?_
    refine a_zret (pc := 15) (dk dt_X11_within 9 rfl) rfl rfl ⟨by decide, ?_⟩
    show ATW _ _ _ _ _ _ _ _ _ _
    exact a_zret (pc := 23) (dk dt_X1_hasSecond 14 rfl) rfl rfl ⟨by decide, H⟩
  · replace H := H.2 c
    refine a_iload_n (pc := 5) (dk dt_X11_within 3 rfl) rfl ?_
    refine a_iload_n (pc := 6) (dk dt_X11_within 4 rfl) rfl ?_
    refine a_icmp_gt (pc := 7) (dk dt_X11_within 5 rfl) (tgt := 14) rfl ⟨fun c => ?_, fun c => ?_⟩
    · replace H := H.1 c
      refine a_iconst (pc := 14) (dk dt_X11_within 8 rfl) (ik rfl) ?_
      refine a_zret (pc := 15) (dk dt_X11_within 9 rfl) rfl rfl ⟨by decide, ?_⟩
      show ATW _ _ _ _ _ _ _ _ _ _
      exact a_zret (pc := 23) (dk dt_X1_hasSecond 14 rfl) rfl rfl ⟨by decide, H⟩
    · replace H := H.2 c
      refine a_iconst (pc := 10) (dk dt_X11_within 6 rfl) (ik rfl) ?_
      refine a_goto (pc := 11) (dk dt_X11_within 7 rfl) (tgt := 15) rfl ?_
      refine a_zret (pc := 15) (dk dt_X11_within 9 rfl) rfl rfl ⟨by decide, ?_⟩
      show ATW _ _ _ _ _ _ _ _ _ _
      exact a_zret (pc := 23) (dk dt_X1_hasSecond 14 rfl) rfl rfl ⟨by decide, H⟩
set_option maxHeartbeats 40000000 in
theorem U_X1_daysIn_0 {G : GG} {Φ : Int → Hp → Prop} {h : Hp} {x0 : Int} {x1 : Int} (H : ((x1 < 1 → Φ 0 h) ∧ (1 ≤ x1 → ((12 < x1 → Φ 0 h) ∧ (x1 ≤ 12 → (0 ≤ (w32 (x1 - 1)) ∧ (w32 (x1 - 1)) < 12) ∧ ((x1 ≠ 2 → Φ (w32 ((xc 901 (w32 (x1 - 1))) + 0)) h) ∧ (x1 = 2 → (((x0.tmod 4) ≠ 0 → Φ (w32 ((xc 901 (w32 (x1 - 1))) + 0)) h) ∧ ((x0.tmod 4) = 0 → Φ (w32 ((xc 901 (w32 (x1 - 1))) + 1)) h))))))))) : AT G m_X1_daysIn 0 [(0, iv x0), (1, iv x1)] [] h Φ := by
  refine a_iload_n (pc := 0) (dk dt_X1_daysIn 0 rfl) rfl ?_
  refine a_iconst (pc := 1) (dk dt_X1_daysIn 1 rfl) (ik rfl) ?_
  refine a_bipush (pc := 2) (dk dt_X1_daysIn 2 rfl) (ik rfl) (bpk rfl) ?_
  refine a_callNi (as := [iv x1, iv 1, iv 12]) (st := []) (pc := 4) (dk dt_X1_daysIn 3 rfl) cl_RX1_45 ⟨Nat.le_of_ble_eq_true rfl, Nat.le_of_ble_eq_true rfl⟩ ⟨Nat.le_of_ble_eq_true rfl, Nat.le_of_ble_eq_true rfl⟩ rfl rfl rfl (Nat.le_of_ble_eq_true rfl) (Call.of rfl (Nat.le_of_ble_eq_true rfl) rfl ?_)
  refine a_iload_n (pc := 0) (dk dt_X11_within 0 rfl) rfl ?_
  refine a_iload_n (pc := 1) (dk dt_X11_within 1 rfl) rfl ?_
  refine a_icmp_lt (pc := 2) (dk dt_X11_within 2 rfl) (tgt := 14) rfl ⟨fun c => ?_, fun c => ?_⟩
  · replace H := H.1 c
    refine a_iconst (pc := 14) (dk dt_X11_within 8 rfl) (ik rfl) ?_
    refine a_zret (pc := 15) (dk dt_X11_within 9 rfl) rfl rfl ⟨by decide, ?_⟩
    show ATW _ _ _ _ _ _ _ _ _ _
    refine a_if_ne (pc := 7) (dk dt_X1_daysIn 4 rfl) (tgt := 12) rfl ⟨fun c => absurd c (by decide), fun _ => ?_⟩
    refine a_iconst (pc := 10) (dk dt_X1_daysIn 5 rfl) (ik rfl) ?_
    exact a_iret (pc := 11) (dk dt_X1_daysIn 6 rfl) rfl rfl H
  · replace H := H.2 c
    refine a_iload_n (pc := 5) (dk dt_X11_within 3 rfl) rfl ?_
    refine a_iload_n (pc := 6) (dk dt_X11_within 4 rfl) rfl ?_
    refine a_icmp_gt (pc := 7) (dk dt_X11_within 5 rfl) (tgt := 14) rfl ⟨fun c => ?_, fun c => ?_⟩
    · replace H := H.1 c
      refine a_iconst (pc := 14) (dk dt_X11_within 8 rfl) (ik rfl) ?_
      refine a_zret (pc := 15) (dk dt_X11_within 9 rfl) rfl rfl ⟨by decide, ?_⟩
      show ATW _ _ _ _ _ _ _ _ _ _
      refine a_if_ne (pc := 7) (dk dt_X1_daysIn 4 rfl) (tgt := 12) rfl ⟨fun c => absurd c (by decide), fun _ => ?_⟩
      refine a_iconst (pc := 10) (dk dt_X1_daysIn 5 rfl) (ik rfl) ?_
      exact a_iret (pc := 11) (dk dt_X1_daysIn 6 rfl) rfl rfl H
    · replace H := H.2 c
      refine a_iconst (pc := 10) (dk dt_X11_within 6 rfl) (ik rfl) ?_
      refine a_goto (pc := 11) (dk dt_X11_within 7 rfl) (tgt := 15) rfl ?_
      refine a_zret (pc := 15) (dk dt_X11_within 9 rfl) rfl rfl ⟨by decide, ?_⟩
      show ATW _ _ _ _ _ _ _ _ _ _
      refine a_if_ne (pc := 7) (dk dt_X1_daysIn 4 rfl) (tgt := 12) rfl ⟨fun _ => ?_, fun c => absurd c (by decide)⟩
      refine a_gst901 (pc := 12) (dk dt_X1_daysIn 7 rfl) fs_RX1_61 ?_
      refine a_iload_n (pc := 15) (dk dt_X1_daysIn 8 rfl) rfl ?_
      refine a_iconst (pc := 16) (dk dt_X1_daysIn 9 rfl) (ik rfl) ?_
      refine a_isub (pc := 17) (dk dt_X1_daysIn 10 rfl) ?_
      refine a_xald (N := 12) (pc := 18) (dk dt_X1_daysIn 11 rfl) (by decide) ⟨H.1, ?_⟩
      replace H := H.2
      refine a_iload_n (pc := 19) (dk dt_X1_daysIn 12 rfl) rfl ?_
      refine a_iconst (pc := 20) (dk dt_X1_daysIn 13 rfl) (ik rfl) ?_
      refine a_icmp_ne (pc := 21) (dk dt_X1_daysIn 14 rfl) (tgt := 34) rfl ⟨fun c => ?_, fun c => ?_⟩
      · replace H := H.1 c
        refine a_iconst (pc := 34) (dk dt_X1_daysIn 21 rfl) (ik rfl) ?_
        refine a_callNi (as := [iv 0]) (st := [iv (xc 901 (w32 (x1 - 1)))]) (pc := 35) (dk dt_X1_daysIn 22 rfl) cl_RX1_49 ⟨Nat.le_of_ble_eq_true rfl, Nat.le_of_ble_eq_true rfl⟩ ⟨Nat.le_of_ble_eq_true rfl, Nat.le_of_ble_eq_true rfl⟩ rfl rfl rfl (Nat.le_of_ble_eq_true rfl) (Call.of rfl (Nat.le_of_ble_eq_true rfl) rfl ?_)
        refine a_iload_n (pc := 0) (dk dt_X11_bit 0 rfl) rfl ?_
        refine a_if_eq (pc := 1) (dk dt_X11_bit 1 rfl) (tgt := 8) rfl ⟨fun _ => ?_, fun c => absurd c (by decide)⟩
        refine a_iconst (pc := 8) (dk dt_X11_bit 4 rfl) (ik rfl) ?_
        refine a_iret (pc := 9) (dk dt_X11_bit 5 rfl) rfl rfl ?_
        show ATW _ _ _ _ _ _ _ _ _ _
        refine a_iadd (pc := 38) (dk dt_X1_daysIn 23 rfl) ?_
        exact a_iret (pc := 39) (dk dt_X1_daysIn 24 rfl) rfl rfl H
      · replace H := H.2 c
        refine a_iload_n (pc := 24) (dk dt_X1_daysIn 15 rfl) rfl ?_
        refine a_iconst (pc := 25) (dk dt_X1_daysIn 16 rfl) (ik rfl) ?_
        refine a_irem (pc := 26) (dk dt_X1_daysIn 17 rfl) ⟨by decide, ?_⟩
        refine a_if_ne (pc := 27) (dk dt_X1_daysIn 18 rfl) (tgt := 34) rfl ⟨fun c => ?_, fun c => ?_⟩
        · replace H := H.1 c
          refine a_iconst (pc := 34) (dk dt_X1_daysIn 21 rfl) (ik rfl) ?_
          refine a_callNi (as := [iv 0]) (st := [iv (xc 901 (w32 (x1 - 1)))]) (pc := 35) (dk dt_X1_daysIn 22 rfl) cl_RX1_49 ⟨Nat.le_of_ble_eq_true rfl, Nat.le_of_ble_eq_true rfl⟩ ⟨Nat.le_of_ble_eq_true rfl, Nat.le_of_ble_eq_true rfl⟩ rfl rfl rfl (Nat.le_of_ble_eq_true rfl) (Call.of rfl (Nat.le_of_ble_eq_true rfl) rfl ?_)
          refine a_iload_n (pc := 0) (dk dt_X11_bit 0 rfl) rfl ?_
          refine a_if_eq (pc := 1) (dk dt_X11_bit 1 rfl) (tgt := 8) rfl ⟨fun _ => ?_, fun c => absurd c (by decide)⟩
          refine a_iconst (pc := 8) (dk dt_X11_bit 4 rfl) (ik rfl) ?_
          refine a_iret (pc := 9) (dk dt_X11_bit 5 rfl) rfl rfl ?_
          show ATW _ _ _ _ _ _ _ _ _ _
          refine a_iadd (pc := 38) (dk dt_X1_daysIn 23 rfl) ?_
          exact a_iret (pc := 39) (dk dt_X1_daysIn 24 rfl) rfl rfl H
        · replace H := H.2 c
          refine a_iconst (pc := 30) (dk dt_X1_daysIn 19 rfl) (ik rfl) ?_
          refine a_goto (pc := 31) (dk dt_X1_daysIn 20 rfl) (tgt := 35) rfl ?_
          refine a_callNi (as := [iv 1]) (st := [iv (xc 901 (w32 (x1 - 1)))]) (pc := 35) (dk dt_X1_daysIn 22 rfl) cl_RX1_49 ⟨Nat.le_of_ble_eq_true rfl, Nat.le_of_ble_eq_true rfl⟩ ⟨Nat.le_of_ble_eq_true rfl, Nat.le_of_ble_eq_true rfl⟩ rfl rfl rfl (Nat.le_of_ble_eq_true rfl) (Call.of rfl (Nat.le_of_ble_eq_true rfl) rfl ?_)
          refine a_iload_n (pc := 0) (dk dt_X11_bit 0 rfl) rfl ?_
          refine a_if_eq (pc := 1) (dk dt_X11_bit 1 rfl) (tgt := 8) rfl ⟨fun c => absurd c (by decide), fun _ => ?_⟩
          refine a_iconst (pc := 4) (dk dt_X11_bit 2 rfl) (ik rfl) ?_
          refine a_goto (pc := 5) (dk dt_X11_bit 3 rfl) (tgt := 9) rfl ?_
          refine a_iret (pc := 9) (dk dt_X11_bit 5 rfl) rfl rfl ?_
          show ATW _ _ _ _ _ _ _ _ _ _
          refine a_iadd (pc := 38) (dk dt_X1_daysIn 23 rfl) ?_
          exact a_iret (pc := 39) (dk dt_X1_daysIn 24 rfl) rfl rfl H
set_option maxHeartbeats 40000000 in
theorem U_X1_dayOf_0 {G : GG} {Φ : Int → Hp → Prop} {h : Hp} {x0 : Int} {x1 : Int} {x2 : Int} (H : AT G m_X1_dayOf 23 [(0, iv x0), (1, iv x1), (2, iv x2), (3, iv (w32 ((w32 ((w32 (x0 - 2000)) * 365)) + (w32 ((w32 ((w32 (x0 - 2000)) + 3)).tdiv 4))))), (4, iv 1)] [] h Φ) : AT G m_X1_dayOf 0 [(0, iv x0), (1, iv x1), (2, iv x2)] [] h Φ := by
  refine a_iload_n (pc := 0) (dk dt_X1_dayOf 0 rfl) rfl ?_
  refine a_sipush (pc := 1) (dk dt_X1_dayOf 1 rfl) (ik rfl) (spk rfl) ?_
  refine a_isub (pc := 4) (dk dt_X1_dayOf 2 rfl) ?_
  refine a_sipush (pc := 5) (dk dt_X1_dayOf 3 rfl) (ik rfl) (spk rfl) ?_
  refine a_imul (pc := 8) (dk dt_X1_dayOf 4 rfl) ?_
  refine a_iload_n (pc := 9) (dk dt_X1_dayOf 5 rfl) rfl ?_
  refine a_sipush (pc := 10) (dk dt_X1_dayOf 6 rfl) (ik rfl) (spk rfl) ?_
  refine a_isub (pc := 13) (dk dt_X1_dayOf 7 rfl) ?_
  refine a_iconst (pc := 14) (dk dt_X1_dayOf 8 rfl) (ik rfl) ?_
  refine a_iadd (pc := 15) (dk dt_X1_dayOf 9 rfl) ?_
  refine a_iconst (pc := 16) (dk dt_X1_dayOf 10 rfl) (ik rfl) ?_
  refine a_idiv (pc := 17) (dk dt_X1_dayOf 11 rfl) ⟨by decide, ?_⟩
  refine a_iadd (pc := 18) (dk dt_X1_dayOf 12 rfl) ?_
  refine a_istore_n (pc := 19) (dk dt_X1_dayOf 13 rfl) (by decide) rfl rfl ?_
  refine a_iconst (pc := 20) (dk dt_X1_dayOf 14 rfl) (ik rfl) ?_
  refine a_istore (pc := 21) (dk dt_X1_dayOf 15 rfl) (by decide) rfl rfl ?_
  exact a_pick [0, 1, 2, 3, 4] rfl H
set_option maxHeartbeats 40000000 in
theorem U_X1_dayOf_23 {G : GG} {Φ : Int → Hp → Prop} {h : Hp} {x0 : Int} {x1 : Int} {x2 : Int} {x3 : Int} {x4 : Int} (H : ((x1 ≤ x4 → Φ (w32 ((w32 (x3 + x2)) - 1)) h) ∧ (x4 < x1 → Call G m_X1_daysIn [iv x0, iv x4] h (fun r1 h2 => AT G m_X1_dayOf 23 [(0, iv x0), (1, iv x1), (2, iv x2), (3, iv (w32 (x3 + r1))), (4, iv (w32 (x4 + 1)))] [] h2 Φ)))) : AT G m_X1_dayOf 23 [(0, iv x0), (1, iv x1), (2, iv x2), (3, iv x3), (4, iv x4)] [] h Φ := by
  refine a_iload (pc := 23) (dk dt_X1_dayOf 16 rfl) rfl ?_
  refine a_iload_n (pc := 25) (dk dt_X1_dayOf 17 rfl) rfl ?_
  refine a_icmp_ge (pc := 26) (dk dt_X1_dayOf 18 rfl) (tgt := 44) rfl ⟨fun c => ?_, fun c => ?_⟩
  · replace H := H.1 c
    refine a_iload_n (pc := 44) (dk dt_X1_dayOf 27 rfl) rfl ?_
    refine a_iload_n (pc := 45) (dk dt_X1_dayOf 28 rfl) rfl ?_
    refine a_iadd (pc := 46) (dk dt_X1_dayOf 29 rfl) ?_
    refine a_iconst (pc := 47) (dk dt_X1_dayOf 30 rfl) (ik rfl) ?_
    refine a_isub (pc := 48) (dk dt_X1_dayOf 31 rfl) ?_
    exact a_iret (pc := 49) (dk dt_X1_dayOf 32 rfl) rfl rfl H
  · replace H := H.2 c
    refine a_iload_n (pc := 29) (dk dt_X1_dayOf 19 rfl) rfl ?_
    refine a_iload_n (pc := 30) (dk dt_X1_dayOf 20 rfl) rfl ?_
    refine a_iload (pc := 31) (dk dt_X1_dayOf 21 rfl) rfl ?_
    refine a_callSi (as := [iv x0, iv x4]) (st := [iv x3]) (pc := 33) (dk dt_X1_dayOf 22 rfl) cl_RX1_15 ⟨Nat.le_of_ble_eq_true rfl, Nat.le_of_ble_eq_true rfl⟩ ⟨Nat.le_of_ble_eq_true rfl, Nat.le_of_ble_eq_true rfl⟩ rfl rfl rfl (Nat.le_of_ble_eq_true rfl) (Call.mono H fun r1 h2 H => ?_)
    refine a_iadd (pc := 36) (dk dt_X1_dayOf 23 rfl) ?_
    refine a_istore_n (pc := 37) (dk dt_X1_dayOf 24 rfl) (by decide) rfl rfl ?_
    refine a_iinc (pc := 38) (dk dt_X1_dayOf 25 rfl) (by decide) rfl rfl rfl ?_
    refine a_goto (pc := 41) (dk dt_X1_dayOf 26 rfl) (tgt := 23) rfl ?_
    exact a_pick [0, 1, 2, 3, 4] rfl H
set_option maxHeartbeats 40000000 in
theorem U_X1_hasLeap_12_0 {G : GG} {Φ : Int → Hp → Prop} {h : Hp} {x1 : Int} (H : Call G m_X1_leapsBefore [rv 12, iv (w32 (x1 + 1))] h (fun r1 h2 => Call G m_X1_leapsBefore [rv 12, iv x1] h2 (fun r3 h4 => ((r1 ≤ r3 → Φ 0 h4) ∧ (r3 < r1 → Φ 1 h4))))) : AT G m_X1_hasLeap 0 [(0, rv 12), (1, iv x1)] [] h Φ := by
  refine a_aload_n (pc := 0) (dk dt_X1_hasLeap 0 rfl) rfl ?_
  refine a_iload_n (pc := 1) (dk dt_X1_hasLeap 1 rfl) rfl ?_
  refine a_iconst (pc := 2) (dk dt_X1_hasLeap 2 rfl) (ik rfl) ?_
  refine a_iadd (pc := 3) (dk dt_X1_hasLeap 3 rfl) ?_
  refine a_callVi (as := [iv (w32 (x1 + 1))]) (st := []) (pc := 4) (dk dt_X1_hasLeap 4 rfl) cl_RX1_41 ⟨Nat.le_of_ble_eq_true rfl, Nat.le_of_ble_eq_true rfl⟩ ⟨Nat.le_of_ble_eq_true rfl, Nat.le_of_ble_eq_true rfl⟩ cls_1 rfl cc_12 rfl rfl rfl (Nat.le_of_ble_eq_true rfl) (Call.mono H fun r1 h2 H => ?_)
  refine a_aload_n (pc := 7) (dk dt_X1_hasLeap 5 rfl) rfl ?_
  refine a_iload_n (pc := 8) (dk dt_X1_hasLeap 6 rfl) rfl ?_
  refine a_callVi (as := [iv x1]) (st := [iv r1]) (pc := 9) (dk dt_X1_hasLeap 7 rfl) cl_RX1_41 ⟨Nat.le_of_ble_eq_true rfl, Nat.le_of_ble_eq_true rfl⟩ ⟨Nat.le_of_ble_eq_true rfl, Nat.le_of_ble_eq_true rfl⟩ cls_1 rfl cc_12 rfl rfl rfl (Nat.le_of_ble_eq_true rfl) (Call.mono H fun r3 h4 H => ?_)
  refine a_icmp_le (pc := 12) (dk dt_X1_hasLeap 8 rfl) (tgt := 19) rfl ⟨fun c => ?_, fun c => ?_⟩
  · replace H := H.1 c
    refine a_iconst (pc := 19) (dk dt_X1_hasLeap 11 rfl) (ik rfl) ?_
    exact a_zret (pc := 20) (dk dt_X1_hasLeap 12 rfl) rfl rfl ⟨by decide, H⟩
  · replace H := H.2 c
    refine a_iconst (pc := 15) (dk dt_X1_hasLeap 9 rfl) (ik rfl) ?_
    refine a_goto (pc := 16) (dk dt_X1_hasLeap 10 rfl) (tgt := 20) rfl ?_
    exact a_zret (pc := 20) (dk dt_X1_hasLeap 12 rfl) rfl rfl ⟨by decide, H⟩
set_option maxHeartbeats 40000000 in
theorem U_X1_leapsBefore_12_0 {G : GG} {Φ : Int → Hp → Prop} {h : Hp} {x1 : Int} (H : AT G m_X1_leapsBefore 2 [(0, rv 12), (1, iv x1), (2, iv 0)] [] h Φ) : AT G m_X1_leapsBefore 0 [(0, rv 12), (1, iv x1)] [] h Φ := by
  refine a_iconst (pc := 0) (dk dt_X1_leapsBefore 0 rfl) (ik rfl) ?_
  refine a_istore_n (pc := 1) (dk dt_X1_leapsBefore 1 rfl) (by decide) rfl rfl ?_
  exact a_pick [0, 1, 2] rfl H
set_option maxHeartbeats 40000000 in
theorem U_X1_leapsBefore_12_2 {G : GG} {Φ : Int → Hp → Prop} {h : Hp} {x1 : Int} {x2 : Int} (H : (((h 12 1) ≤ x2 → Φ x2 h) ∧ (x2 < (h 12 1) → (0 ≤ x2 ∧ x2 < 10) ∧ ((x1 ≤ (h 13 x2) → Φ x2 h) ∧ ((h 13 x2) < x1 → AT G m_X1_leapsBefore 2 [(0, rv 12), (1, iv x1), (2, iv (w32 (x2 + 1)))] [] h Φ))))) : AT G m_X1_leapsBefore 2 [(0, rv 12), (1, iv x1), (2, iv x2)] [] h Φ := by
  refine a_iload_n (pc := 2) (dk dt_X1_leapsBefore 2 rfl) rfl ?_
  refine a_aload_n (pc := 3) (dk dt_X1_leapsBefore 3 rfl) rfl ?_
  refine a_geti (pc := 4) (dk dt_X1_leapsBefore 4 rfl) cls_1 fl_RX1_23 cf_12_1 ?_
  refine a_icmp_ge (pc := 7) (dk dt_X1_leapsBefore 5 rfl) (tgt := 26) rfl ⟨fun c => ?_, fun c => ?_⟩
  · replace H := H.1 c
    refine a_iload_n (pc := 26) (dk dt_X1_leapsBefore 14 rfl) rfl ?_
    exact a_iret (pc := 27) (dk dt_X1_leapsBefore 15 rfl) rfl rfl H
  · replace H := H.2 c
    refine a_aload_n (pc := 10) (dk dt_X1_leapsBefore 6 rfl) rfl ?_
    refine a_getr (r := 12) (pc := 11) (dk dt_X1_leapsBefore 7 rfl) cls_1 fl_RX1_11 cf_12_0 ?_
    refine a_iload_n (pc := 14) (dk dt_X1_leapsBefore 8 rfl) rfl ?_
    refine a_iald (pc := 15) (dk dt_X1_leapsBefore 9 rfl) ar_13 ⟨H.1, ?_⟩
    replace H := H.2
    refine a_iload_n (pc := 16) (dk dt_X1_leapsBefore 10 rfl) rfl ?_
    refine a_icmp_ge (pc := 17) (dk dt_X1_leapsBefore 11 rfl) (tgt := 26) rfl ⟨fun c => ?_, fun c => ?_⟩
    · replace H := H.1 c
      refine a_iload_n (pc := 26) (dk dt_X1_leapsBefore 14 rfl) rfl ?_
      exact a_iret (pc := 27) (dk dt_X1_leapsBefore 15 rfl) rfl rfl H
    · replace H := H.2 c
      refine a_iinc (pc := 20) (dk dt_X1_leapsBefore 12 rfl) (by decide) rfl rfl rfl ?_
      refine a_goto (pc := 23) (dk dt_X1_leapsBefore 13 rfl) (tgt := 2) rfl ?_
      exact a_pick [0, 1, 2] rfl H
set_option maxHeartbeats 40000000 in
theorem U_X1_writeTwo_11_0 {G : GG} {Φ : Int → Hp → Prop} {h : Hp} {x0 : Int} {x2 : Int} (H : (0 ≤ x2 ∧ x2 < 288) ∧ (0 ≤ (w32 (x2 + 1)) ∧ (w32 (x2 + 1)) < 288) ∧ Φ 0 (up (up h 11 x2 (w32 (48 + (w32 (x0.tdiv 10))))) 11 (w32 (x2 + 1)) (w32 (48 + (x0.tmod 10))))) : AT G m_X1_writeTwo 0 [(0, iv x0), (1, rv 11), (2, iv x2)] [] h Φ := by
  refine a_aload_n (pc := 0) (dk dt_X1_writeTwo 0 rfl) rfl ?_
  refine a_iload_n (pc := 1) (dk dt_X1_writeTwo 1 rfl) rfl ?_
  refine a_bipush (pc := 2) (dk dt_X1_writeTwo 2 rfl) (ik rfl) (bpk rfl) ?_
  refine a_iload_n (pc := 4) (dk dt_X1_writeTwo 3 rfl) rfl ?_
  refine a_bipush (pc := 5) (dk dt_X1_writeTwo 4 rfl) (ik rfl) (bpk rfl) ?_
  refine a_idiv (pc := 7) (dk dt_X1_writeTwo 5 rfl) ⟨by decide, ?_⟩
  refine a_iadd (pc := 8) (dk dt_X1_writeTwo 6 rfl) ?_
  refine a_iast (pc := 9) (dk dt_X1_writeTwo 7 rfl) ar_11 ⟨H.1, ?_⟩
  replace H := H.2
  refine a_aload_n (pc := 10) (dk dt_X1_writeTwo 8 rfl) rfl ?_
  refine a_iload_n (pc := 11) (dk dt_X1_writeTwo 9 rfl) rfl ?_
  refine a_iconst (pc := 12) (dk dt_X1_writeTwo 10 rfl) (ik rfl) ?_
  refine a_iadd (pc := 13) (dk dt_X1_writeTwo 11 rfl) ?_
  refine a_bipush (pc := 14) (dk dt_X1_writeTwo 12 rfl) (ik rfl) (bpk rfl) ?_
  refine a_iload_n (pc := 16) (dk dt_X1_writeTwo 13 rfl) rfl ?_
  refine a_bipush (pc := 17) (dk dt_X1_writeTwo 14 rfl) (ik rfl) (bpk rfl) ?_
  refine a_irem (pc := 19) (dk dt_X1_writeTwo 15 rfl) ⟨by decide, ?_⟩
  refine a_iadd (pc := 20) (dk dt_X1_writeTwo 16 rfl) ?_
  refine a_iast (pc := 21) (dk dt_X1_writeTwo 17 rfl) ar_11 ⟨H.1, ?_⟩
  replace H := H.2
  exact a_vret (pc := 22) (dk dt_X1_writeTwo 18 rfl) rfl rfl H
set_option maxHeartbeats 40000000 in
theorem U_X1_writeDay_11_0 {G : GG} {Φ : Int → Hp → Prop} {h : Hp} {x0 : Int} (H : AT G m_X1_writeDay 4 [(0, iv x0), (1, rv 11), (2, iv 2000)] [] h Φ) : AT G m_X1_writeDay 0 [(0, iv x0), (1, rv 11)] [] h Φ := by
  refine a_sipush (pc := 0) (dk dt_X1_writeDay 0 rfl) (ik rfl) (spk rfl) ?_
  refine a_istore_n (pc := 3) (dk dt_X1_writeDay 1 rfl) (by decide) rfl rfl ?_
  exact a_pick [0, 1, 2] rfl H
set_option maxHeartbeats 40000000 in
theorem U_X1_writeDay_11_4 {G : GG} {Φ : Int → Hp → Prop} {h : Hp} {x0 : Int} {x2 : Int} (H : ((2059 ≤ x2 → AT G m_X1_writeDay 31 [(0, iv x0), (1, rv 11), (2, iv x2), (3, iv 1)] [] h Φ) ∧ (x2 < 2059 → Call G m_X1_dayOf [iv (w32 (x2 + 1)), iv 1, iv 1] h (fun r1 h2 => ((x0 < r1 → AT G m_X1_writeDay 31 [(0, iv x0), (1, rv 11), (2, iv x2), (3, iv 1)] [] h2 Φ) ∧ (r1 ≤ x0 → AT G m_X1_writeDay 4 [(0, iv x0), (1, rv 11), (2, iv (w32 (x2 + 1)))] [] h2 Φ)))))) : AT G m_X1_writeDay 4 [(0, iv x0), (1, rv 11), (2, iv x2)] [] h Φ := by
  refine a_iload_n (pc := 4) (dk dt_X1_writeDay 2 rfl) rfl ?_
  refine a_sipush (pc := 5) (dk dt_X1_writeDay 3 rfl) (ik rfl) (spk rfl) ?_
  refine a_icmp_ge (pc := 8) (dk dt_X1_writeDay 4 rfl) (tgt := 29) rfl ⟨fun c => ?_, fun c => ?_⟩
  · replace H := H.1 c
    refine a_iconst (pc := 29) (dk dt_X1_writeDay 15 rfl) (ik rfl) ?_
    refine a_istore_n (pc := 30) (dk dt_X1_writeDay 16 rfl) (by decide) rfl rfl ?_
    exact a_pick [0, 1, 2, 3] rfl H
  · replace H := H.2 c
    refine a_iload_n (pc := 11) (dk dt_X1_writeDay 5 rfl) rfl ?_
    refine a_iconst (pc := 12) (dk dt_X1_writeDay 6 rfl) (ik rfl) ?_
    refine a_iadd (pc := 13) (dk dt_X1_writeDay 7 rfl) ?_
    refine a_iconst (pc := 14) (dk dt_X1_writeDay 8 rfl) (ik rfl) ?_
    refine a_iconst (pc := 15) (dk dt_X1_writeDay 9 rfl) (ik rfl) ?_
    refine a_callSi (as := [iv (w32 (x2 + 1)), iv 1, iv 1]) (st := []) (pc := 16) (dk dt_X1_writeDay 10 rfl) cl_RX1_19 ⟨Nat.le_of_ble_eq_true rfl, Nat.le_of_ble_eq_true rfl⟩ ⟨Nat.le_of_ble_eq_true rfl, Nat.le_of_ble_eq_true rfl⟩ rfl rfl rfl (Nat.le_of_ble_eq_true rfl) (Call.mono H fun r1 h2 H => ?_)
    refine a_iload_n (pc := 19) (dk dt_X1_writeDay 11 rfl) rfl ?_
    refine a_icmp_gt (pc := 20) (dk dt_X1_writeDay 12 rfl) (tgt := 29) rfl ⟨fun c => ?_, fun c => ?_⟩
    · replace H := H.1 c
      refine a_iconst (pc := 29) (dk dt_X1_writeDay 15 rfl) (ik rfl) ?_
      refine a_istore_n (pc := 30) (dk dt_X1_writeDay 16 rfl) (by decide) rfl rfl ?_
      exact a_pick [0, 1, 2, 3] rfl H
    · replace H := H.2 c
      refine a_iinc (pc := 23) (dk dt_X1_writeDay 13 rfl) (by decide) rfl rfl rfl ?_
      refine a_goto (pc := 26) (dk dt_X1_writeDay 14 rfl) (tgt := 4) rfl ?_
      exact a_pick [0, 1, 2] rfl H
set_option maxHeartbeats 40000000 in
theorem U_X1_writeDay_11_31 {G : GG} {Φ : Int → Hp → Prop} {h : Hp} {x0 : Int} {x2 : Int} {x3 : Int} (H : ((12 ≤ x3 → Call G m_X1_writeTwo [iv (w32 (x2.tdiv 100)), rv 11, iv 0] h (fun _ h2 => Call G m_X1_writeTwo [iv (x2.tmod 100), rv 11, iv 2] h2 (fun _ h4 => Call G m_X1_writeTwo [iv x3, rv 11, iv 5] (up h4 11 4 45) (fun _ h6 => Call G m_X1_dayOf [iv x2, iv x3, iv 1] (up h6 11 7 45) (fun r7 h8 => Call G m_X1_writeTwo [iv (w32 ((w32 (x0 - r7)) + 1)), rv 11, iv 8] h8 (fun _ h10 => Φ 0 h10)))))) ∧ (x3 < 12 → Call G m_X1_dayOf [iv x2, iv (w32 (x3 + 1)), iv 1] h (fun r11 h12 => ((x0 < r11 → Call G m_X1_writeTwo [iv (w32 (x2.tdiv 100)), rv 11, iv 0] h12 (fun _ h14 => Call G m_X1_writeTwo [iv (x2.tmod 100), rv 11, iv 2] h14 (fun _ h16 => Call G m_X1_writeTwo [iv x3, rv 11, iv 5] (up h16 11 4 45) (fun _ h18 => Call G m_X1_dayOf [iv x2, iv x3, iv 1] (up h18 11 7 45) (fun r19 h20 => Call G m_X1_writeTwo [iv (w32 ((w32 (x0 - r19)) + 1)), rv 11, iv 8] h20 (fun _ h22 => Φ 0 h22)))))) ∧ (r11 ≤ x0 → AT G m_X1_writeDay 31 [(0, iv x0), (1, rv 11), (2, iv x2), (3, iv (w32 (x3 + 1)))] [] h12 Φ)))))) : AT G m_X1_writeDay 31 [(0, iv x0), (1, rv 11), (2, iv x2), (3, iv x3)] [] h Φ := by
  refine a_iload_n (pc := 31) (dk dt_X1_writeDay 17 rfl) rfl ?_
  refine a_bipush (pc := 32) (dk dt_X1_writeDay 18 rfl) (ik rfl) (bpk rfl) ?_
  refine a_icmp_ge (pc := 34) (dk dt_X1_writeDay 19 rfl) (tgt := 55) rfl ⟨fun c => ?_, fun c => ?_⟩
  · replace H := H.1 c
    refine a_iload_n (pc := 55) (dk dt_X1_writeDay 30 rfl) rfl ?_
    refine a_bipush (pc := 56) (dk dt_X1_writeDay 31 rfl) (ik rfl) (bpk rfl) ?_
    refine a_idiv (pc := 58) (dk dt_X1_writeDay 32 rfl) ⟨by decide, ?_⟩
    refine a_aload_n (pc := 59) (dk dt_X1_writeDay 33 rfl) rfl ?_
    refine a_iconst (pc := 60) (dk dt_X1_writeDay 34 rfl) (ik rfl) ?_
    refine a_callSv (as := [iv (w32 (x2.tdiv 100)), rv 11, iv 0]) (st := []) (pc := 61) (dk dt_X1_writeDay 35 rfl) cl_RX1_57 ⟨Nat.le_of_ble_eq_true rfl, Nat.le_of_ble_eq_true rfl⟩ ⟨Nat.le_of_ble_eq_true rfl, Nat.le_of_ble_eq_true rfl⟩ rfl rfl rfl (Nat.le_of_ble_eq_true rfl) (Call.mono H fun _ h2 H => ?_)
    refine a_iload_n (pc := 64) (dk dt_X1_writeDay 36 rfl) rfl ?_
    refine a_bipush (pc := 65) (dk dt_X1_writeDay 37 rfl) (ik rfl) (bpk rfl) ?_
    refine a_irem (pc := 67) (dk dt_X1_writeDay 38 rfl) ⟨by decide, ?_⟩
    refine a_aload_n (pc := 68) (dk dt_X1_writeDay 39 rfl) rfl ?_
    refine a_iconst (pc := 69) (dk dt_X1_writeDay 40 rfl) (ik rfl) ?_
    refine a_callSv (as := [iv (x2.tmod 100), rv 11, iv 2]) (st := []) (pc := 70) (dk dt_X1_writeDay 41 rfl) cl_RX1_57 ⟨Nat.le_of_ble_eq_true rfl, Nat.le_of_ble_eq_true rfl⟩ ⟨Nat.le_of_ble_eq_true rfl, Nat.le_of_ble_eq_true rfl⟩ rfl rfl rfl (Nat.le_of_ble_eq_true rfl) (Call.mono H fun _ h4 H => ?_)
    refine a_aload_n (pc := 73) (dk dt_X1_writeDay 42 rfl) rfl ?_
    refine a_iconst (pc := 74) (dk dt_X1_writeDay 43 rfl) (ik rfl) ?_
    refine a_bipush (pc := 75) (dk dt_X1_writeDay 44 rfl) (ik rfl) (bpk rfl) ?_
    refine a_iast (pc := 77) (dk dt_X1_writeDay 45 rfl) ar_11 ⟨⟨by decide, by decide⟩, ?_⟩
    refine a_iload_n (pc := 78) (dk dt_X1_writeDay 46 rfl) rfl ?_
    refine a_aload_n (pc := 79) (dk dt_X1_writeDay 47 rfl) rfl ?_
    refine a_iconst (pc := 80) (dk dt_X1_writeDay 48 rfl) (ik rfl) ?_
    refine a_callSv (as := [iv x3, rv 11, iv 5]) (st := []) (pc := 81) (dk dt_X1_writeDay 49 rfl) cl_RX1_57 ⟨Nat.le_of_ble_eq_true rfl, Nat.le_of_ble_eq_true rfl⟩ ⟨Nat.le_of_ble_eq_true rfl, Nat.le_of_ble_eq_true rfl⟩ rfl rfl rfl (Nat.le_of_ble_eq_true rfl) (Call.mono H fun _ h6 H => ?_)
    refine a_aload_n (pc := 84) (dk dt_X1_writeDay 50 rfl) rfl ?_
    refine a_bipush (pc := 85) (dk dt_X1_writeDay 51 rfl) (ik rfl) (bpk rfl) ?_
    refine a_bipush (pc := 87) (dk dt_X1_writeDay 52 rfl) (ik rfl) (bpk rfl) ?_
    refine a_iast (pc := 89) (dk dt_X1_writeDay 53 rfl) ar_11 ⟨⟨by decide, by decide⟩, ?_⟩
    refine a_iload_n (pc := 90) (dk dt_X1_writeDay 54 rfl) rfl ?_
    refine a_iload_n (pc := 91) (dk dt_X1_writeDay 55 rfl) rfl ?_
    refine a_iload_n (pc := 92) (dk dt_X1_writeDay 56 rfl) rfl ?_
    refine a_iconst (pc := 93) (dk dt_X1_writeDay 57 rfl) (ik rfl) ?_
    refine a_callSi (as := [iv x2, iv x3, iv 1]) (st := [iv x0]) (pc := 94) (dk dt_X1_writeDay 58 rfl) cl_RX1_19 ⟨Nat.le_of_ble_eq_true rfl, Nat.le_of_ble_eq_true rfl⟩ ⟨Nat.le_of_ble_eq_true rfl, Nat.le_of_ble_eq_true rfl⟩ rfl rfl rfl (Nat.le_of_ble_eq_true rfl) (Call.mono H fun r7 h8 H => ?_)
    refine a_isub (pc := 97) (dk dt_X1_writeDay 59 rfl) ?_
    refine a_iconst (pc := 98) (dk dt_X1_writeDay 60 rfl) (ik rfl) ?_
    refine a_iadd (pc := 99) (dk dt_X1_writeDay 61 rfl) ?_
    refine a_aload_n (pc := 100) (dk dt_X1_writeDay 62 rfl) rfl ?_
    refine a_bipush (pc := 101) (dk dt_X1_writeDay 63 rfl) (ik rfl) (bpk rfl) ?_
    refine a_callSv (as := [iv (w32 ((w32 (x0 - r7)) + 1)), rv 11, iv 8]) (st := []) (pc := 103) (dk dt_X1_writeDay 64 rfl) cl_RX1_57 ⟨Nat.le_of_ble_eq_true rfl, Nat.le_of_ble_eq_true rfl⟩ ⟨Nat.le_of_ble_eq_true rfl, Nat.le_of_ble_eq_true rfl⟩ rfl rfl rfl (Nat.le_of_ble_eq_true rfl) (Call.mono H fun _ h10 H => ?_)
    exact a_vret (pc := 106) (dk dt_X1_writeDay 65 rfl) rfl rfl H
  · replace H := H.2 c
    refine a_iload_n (pc := 37) (dk dt_X1_writeDay 20 rfl) rfl ?_
    refine a_iload_n (pc := 38) (dk dt_X1_writeDay 21 rfl) rfl ?_
    refine a_iconst (pc := 39) (dk dt_X1_writeDay 22 rfl) (ik rfl) ?_
    refine a_iadd (pc := 40) (dk dt_X1_writeDay 23 rfl) ?_
    refine a_iconst (pc := 41) (dk dt_X1_writeDay 24 rfl) (ik rfl) ?_
    refine a_callSi (as := [iv x2, iv (w32 (x3 + 1)), iv 1]) (st := []) (pc := 42) (dk dt_X1_writeDay 25 rfl) cl_RX1_19 ⟨Nat.le_of_ble_eq_true rfl, Nat.le_of_ble_eq_true rfl⟩ ⟨Nat.le_of_ble_eq_true rfl, Nat.le_of_ble_eq_true rfl⟩ rfl rfl rfl (Nat.le_of_ble_eq_true rfl) (Call.mono H fun r11 h12 H => ?_)
    refine a_iload_n (pc := 45) (dk dt_X1_writeDay 26 rfl) rfl ?_
    refine a_icmp_gt (pc := 46) (dk dt_X1_writeDay 27 rfl) (tgt := 55) rfl ⟨fun c => ?_, fun c => ?_⟩
    · replace H := H.1 c
      refine a_iload_n (pc := 55) (dk dt_X1_writeDay 30 rfl) rfl ?_
      refine a_bipush (pc := 56) (dk dt_X1_writeDay 31 rfl) (ik rfl) (bpk rfl) ?_
      refine a_idiv (pc := 58) (dk dt_X1_writeDay 32 rfl) ⟨by decide, ?_⟩
      refine a_aload_n (pc := 59) (dk dt_X1_writeDay 33 rfl) rfl ?_
      refine a_iconst (pc := 60) (dk dt_X1_writeDay 34 rfl) (ik rfl) ?_
      refine a_callSv (as := [iv (w32 (x2.tdiv 100)), rv 11, iv 0]) (st := []) (pc := 61) (dk dt_X1_writeDay 35 rfl) cl_RX1_57 ⟨Nat.le_of_ble_eq_true rfl, Nat.le_of_ble_eq_true rfl⟩ ⟨Nat.le_of_ble_eq_true rfl, Nat.le_of_ble_eq_true rfl⟩ rfl rfl rfl (Nat.le_of_ble_eq_true rfl) (Call.mono H fun _ h14 H => ?_)
      refine a_iload_n (pc := 64) (dk dt_X1_writeDay 36 rfl) rfl ?_
      refine a_bipush (pc := 65) (dk dt_X1_writeDay 37 rfl) (ik rfl) (bpk rfl) ?_
      refine a_irem (pc := 67) (dk dt_X1_writeDay 38 rfl) ⟨by decide, ?_⟩
      refine a_aload_n (pc := 68) (dk dt_X1_writeDay 39 rfl) rfl ?_
      refine a_iconst (pc := 69) (dk dt_X1_writeDay 40 rfl) (ik rfl) ?_
      refine a_callSv (as := [iv (x2.tmod 100), rv 11, iv 2]) (st := []) (pc := 70) (dk dt_X1_writeDay 41 rfl) cl_RX1_57 ⟨Nat.le_of_ble_eq_true rfl, Nat.le_of_ble_eq_true rfl⟩ ⟨Nat.le_of_ble_eq_true rfl, Nat.le_of_ble_eq_true rfl⟩ rfl rfl rfl (Nat.le_of_ble_eq_true rfl) (Call.mono H fun _ h16 H => ?_)
      refine a_aload_n (pc := 73) (dk dt_X1_writeDay 42 rfl) rfl ?_
      refine a_iconst (pc := 74) (dk dt_X1_writeDay 43 rfl) (ik rfl) ?_
      refine a_bipush (pc := 75) (dk dt_X1_writeDay 44 rfl) (ik rfl) (bpk rfl) ?_
      refine a_iast (pc := 77) (dk dt_X1_writeDay 45 rfl) ar_11 ⟨⟨by decide, by decide⟩, ?_⟩
      refine a_iload_n (pc := 78) (dk dt_X1_writeDay 46 rfl) rfl ?_
      refine a_aload_n (pc := 79) (dk dt_X1_writeDay 47 rfl) rfl ?_
      refine a_iconst (pc := 80) (dk dt_X1_writeDay 48 rfl) (ik rfl) ?_
      refine a_callSv (as := [iv x3, rv 11, iv 5]) (st := []) (pc := 81) (dk dt_X1_writeDay 49 rfl) cl_RX1_57 ⟨Nat.le_of_ble_eq_true rfl, Nat.le_of_ble_eq_true rfl⟩ ⟨Nat.le_of_ble_eq_true rfl, Nat.le_of_ble_eq_true rfl⟩ rfl rfl rfl (Nat.le_of_ble_eq_true rfl) (Call.mono H fun _ h18 H => ?_)
      refine a_aload_n (pc := 84) (dk dt_X1_writeDay 50 rfl) rfl ?_
      refine a_bipush (pc := 85) (dk dt_X1_writeDay 51 rfl) (ik rfl) (bpk rfl) ?_
      refine a_bipush (pc := 87) (dk dt_X1_writeDay 52 rfl) (ik rfl) (bpk rfl) ?_
      refine a_iast (pc := 89) (dk dt_X1_writeDay 53 rfl) ar_11 ⟨⟨by decide, by decide⟩, ?_⟩
      refine a_iload_n (pc := 90) (dk dt_X1_writeDay 54 rfl) rfl ?_
      refine a_iload_n (pc := 91) (dk dt_X1_writeDay 55 rfl) rfl ?_
      refine a_iload_n (pc := 92) (dk dt_X1_writeDay 56 rfl) rfl ?_
      refine a_iconst (pc := 93) (dk dt_X1_writeDay 57 rfl) (ik rfl) ?_
      refine a_callSi (as := [iv x2, iv x3, iv 1]) (st := [iv x0]) (pc := 94) (dk dt_X1_writeDay 58 rfl) cl_RX1_19 ⟨Nat.le_of_ble_eq_true rfl, Nat.le_of_ble_eq_true rfl⟩ ⟨Nat.le_of_ble_eq_true rfl, Nat.le_of_ble_eq_true rfl⟩ rfl rfl rfl (Nat.le_of_ble_eq_true rfl) (Call.mono H fun r19 h20 H => ?_)
      refine a_isub (pc := 97) (dk dt_X1_writeDay 59 rfl) ?_
      refine a_iconst (pc := 98) (dk dt_X1_writeDay 60 rfl) (ik rfl) ?_
      refine a_iadd (pc := 99) (dk dt_X1_writeDay 61 rfl) ?_
      refine a_aload_n (pc := 100) (dk dt_X1_writeDay 62 rfl) rfl ?_
      refine a_bipush (pc := 101) (dk dt_X1_writeDay 63 rfl) (ik rfl) (bpk rfl) ?_
      refine a_callSv (as := [iv (w32 ((w32 (x0 - r19)) + 1)), rv 11, iv 8]) (st := []) (pc := 103) (dk dt_X1_writeDay 64 rfl) cl_RX1_57 ⟨Nat.le_of_ble_eq_true rfl, Nat.le_of_ble_eq_true rfl⟩ ⟨Nat.le_of_ble_eq_true rfl, Nat.le_of_ble_eq_true rfl⟩ rfl rfl rfl (Nat.le_of_ble_eq_true rfl) (Call.mono H fun _ h22 H => ?_)
      exact a_vret (pc := 106) (dk dt_X1_writeDay 65 rfl) rfl rfl H
    · replace H := H.2 c
      refine a_iinc (pc := 49) (dk dt_X1_writeDay 28 rfl) (by decide) rfl rfl rfl ?_
      refine a_goto (pc := 52) (dk dt_X1_writeDay 29 rfl) (tgt := 31) rfl ?_
      exact a_pick [0, 1, 2, 3] rfl H
