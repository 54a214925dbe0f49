set_option maxHeartbeats 40000000 in
theorem U_X12_clear_85_0 {G : GG} {Φ : Int → Hp → Prop} {h : Hp} (H : Φ (h 85 102) (up h 85 102 0)) : AT G m_X12_clear 0 [(0, rv 85)] [] h Φ := by
  refine a_aload_n (pc := 0) (dk dt_X12_clear 0 rfl) rfl ?_
  refine a_geti (pc := 1) (dk dt_X12_clear 1 rfl) cls_12 fl_RX12_589 cf_85_102 ?_
  refine a_istore_n (pc := 4) (dk dt_X12_clear 2 rfl) (by decide) rfl rfl ?_
  refine a_aload_n (pc := 5) (dk dt_X12_clear 3 rfl) rfl ?_
  refine a_iconst (pc := 6) (dk dt_X12_clear 4 rfl) (ik rfl) ?_
  refine a_puti (pc := 7) (dk dt_X12_clear 5 rfl) cls_12 fl_RX12_589 cf_85_102 rfl rfl ?_
  refine a_iload_n (pc := 10) (dk dt_X12_clear 6 rfl) rfl ?_
  exact a_iret (pc := 11) (dk dt_X12_clear 7 rfl) rfl rfl H
set_option maxHeartbeats 40000000 in
theorem U_X12_best_85_0 {G : GG} {Φ : Int → Hp → Prop} {h : Hp} {x1 : Int} (H : ((x1 < 0 → ((x1 = 100 → ((12 ≤ x1 → AT G m_X12_best 45 [(0, rv 85), (1, iv x1), (2, iv 0), (3, iv (-1)), (4, iv 0)] [] h Φ) ∧ (x1 < 12 → ((x1 < (h 85 102) → AT G m_X12_best 45 [(0, rv 85), (1, iv x1), (2, iv 0), (3, iv (-1)), (4, iv 0)] [] h Φ) ∧ ((h 85 102) ≤ x1 → Φ (-1) h))))) ∧ (x1 ≠ 100 → ((x1 ≠ 101 → Φ (-1) h) ∧ (x1 = 101 → ((12 ≤ x1 → AT G m_X12_best 45 [(0, rv 85), (1, iv x1), (2, iv 0), (3, iv (-1)), (4, iv 0)] [] h Φ) ∧ (x1 < 12 → ((x1 < (h 85 102) → AT G m_X12_best 45 [(0, rv 85), (1, iv x1), (2, iv 0), (3, iv (-1)), (4, iv 0)] [] h Φ) ∧ ((h 85 102) ≤ x1 → Φ (-1) h))))))))) ∧ (0 ≤ x1 → ((11 < x1 → ((x1 = 100 → ((12 ≤ x1 → AT G m_X12_best 45 [(0, rv 85), (1, iv x1), (2, iv 0), (3, iv (-1)), (4, iv 0)] [] h Φ) ∧ (x1 < 12 → ((x1 < (h 85 102) → AT G m_X12_best 45 [(0, rv 85), (1, iv x1), (2, iv 0), (3, iv (-1)), (4, iv 0)] [] h Φ) ∧ ((h 85 102) ≤ x1 → Φ (-1) h))))) ∧ (x1 ≠ 100 → ((x1 ≠ 101 → Φ (-1) h) ∧ (x1 = 101 → ((12 ≤ x1 → AT G m_X12_best 45 [(0, rv 85), (1, iv x1), (2, iv 0), (3, iv (-1)), (4, iv 0)] [] h Φ) ∧ (x1 < 12 → ((x1 < (h 85 102) → AT G m_X12_best 45 [(0, rv 85), (1, iv x1), (2, iv 0), (3, iv (-1)), (4, iv 0)] [] h Φ) ∧ ((h 85 102) ≤ x1 → Φ (-1) h))))))))) ∧ (x1 ≤ 11 → ((12 ≤ x1 → AT G m_X12_best 45 [(0, rv 85), (1, iv x1), (2, iv 0), (3, iv (-1)), (4, iv 0)] [] h Φ) ∧ (x1 < 12 → ((x1 < (h 85 102) → AT G m_X12_best 45 [(0, rv 85), (1, iv x1), (2, iv 0), (3, iv (-1)), (4, iv 0)] [] h Φ) ∧ ((h 85 102) ≤ x1 → Φ (-1) h))))))))) : AT G m_X12_best 0 [(0, rv 85), (1, iv x1)] [] h Φ := by
  refine a_iload_n (pc := 0) (dk dt_X12_best 0 rfl) rfl ?_
  refine a_iconst (pc := 1) (dk dt_X12_best 1 rfl) (ik rfl) ?_
  refine a_bipush (pc := 2) (dk dt_X12_best 2 rfl) (ik rfl) (bpk rfl) ?_
  refine a_callSi (as := [iv x1, iv 0, iv 11]) (st := []) (pc := 4) (dk dt_X12_best 3 rfl) cl_RX12_302 ⟨Nat.le_of_ble_eq_true rfl, Nat.le_of_ble_eq_true rfl⟩ ⟨Nat.le_of_ble_eq_true rfl, Nat.le_of_ble_eq_true rfl⟩ rfl rfl rfl (Nat.le_of_ble_eq_true rfl) (Call.of rfl (Nat.le_of_ble_eq_true rfl) rfl ?_)
  refine a_iload_n (pc := 0) (dk dt_X12_is 0 rfl) rfl ?_
  refine a_iload_n (pc := 1) (dk dt_X12_is 1 rfl) rfl ?_
  refine a_icmp_lt (pc := 2) (dk dt_X12_is 2 rfl) (tgt := 14) rfl ⟨fun c => ?_, fun c => ?_⟩
  · replace H := H.1 c
    refine a_iconst (pc := 14) (dk dt_X12_is 8 rfl) (ik rfl) ?_
    refine a_zret (pc := 15) (dk dt_X12_is 9 rfl) rfl rfl ⟨by decide, ?_⟩
    show ATW _ _ _ _ _ _ _ _ _ _
    refine a_if_ne (pc := 7) (dk dt_X12_best 4 rfl) (tgt := 22) rfl ⟨fun c => absurd c (by decide), fun _ => ?_⟩
    refine a_iload_n (pc := 10) (dk dt_X12_best 5 rfl) rfl ?_
    refine a_bipush (pc := 11) (dk dt_X12_best 6 rfl) (ik rfl) (bpk rfl) ?_
    refine a_icmp_eq (pc := 13) (dk dt_X12_best 7 rfl) (tgt := 22) rfl ⟨fun c => ?_, fun c => ?_⟩
    · replace H := H.1 c
      refine a_iload_n (pc := 22) (dk dt_X12_best 11 rfl) rfl ?_
      refine a_bipush (pc := 23) (dk dt_X12_best 12 rfl) (ik rfl) (bpk rfl) ?_
      refine a_icmp_ge (pc := 25) (dk dt_X12_best 13 rfl) (tgt := 38) rfl ⟨fun c => ?_, fun c => ?_⟩
      · replace H := H.1 c
        refine a_iconst (pc := 38) (dk dt_X12_best 20 rfl) (ik rfl) ?_
        refine a_istore_n (pc := 39) (dk dt_X12_best 21 rfl) (by decide) rfl rfl ?_
        refine a_iconst (pc := 40) (dk dt_X12_best 22 rfl) (ik rfl) ?_
        refine a_istore_n (pc := 41) (dk dt_X12_best 23 rfl) (by decide) rfl rfl ?_
        refine a_iconst (pc := 42) (dk dt_X12_best 24 rfl) (ik rfl) ?_
        refine a_istore (pc := 43) (dk dt_X12_best 25 rfl) (by decide) rfl rfl ?_
        exact a_pick [0, 1, 2, 3, 4] rfl H
      · replace H := H.2 c
        refine a_iload_n (pc := 28) (dk dt_X12_best 14 rfl) rfl ?_
        refine a_aload_n (pc := 29) (dk dt_X12_best 15 rfl) rfl ?_
        refine a_geti (pc := 30) (dk dt_X12_best 16 rfl) cls_12 fl_RX12_589 cf_85_102 ?_
        refine a_icmp_lt (pc := 33) (dk dt_X12_best 17 rfl) (tgt := 38) rfl ⟨fun c => ?_, fun c => ?_⟩
        · replace H := H.1 c
          refine a_iconst (pc := 38) (dk dt_X12_best 20 rfl) (ik rfl) ?_
          refine a_istore_n (pc := 39) (dk dt_X12_best 21 rfl) (by decide) rfl rfl ?_
          refine a_iconst (pc := 40) (dk dt_X12_best 22 rfl) (ik rfl) ?_
          refine a_istore_n (pc := 41) (dk dt_X12_best 23 rfl) (by decide) rfl rfl ?_
          refine a_iconst (pc := 42) (dk dt_X12_best 24 rfl) (ik rfl) ?_
          refine a_istore (pc := 43) (dk dt_X12_best 25 rfl) (by decide) rfl rfl ?_
          exact a_pick [0, 1, 2, 3, 4] rfl H
        · replace H := H.2 c
          refine a_iconst (pc := 36) (dk dt_X12_best 18 rfl) (ik rfl) ?_
          exact a_iret (pc := 37) (dk dt_X12_best 19 rfl) rfl rfl H
    · replace H := H.2 c
      refine a_iload_n (pc := 16) (dk dt_X12_best 8 rfl) rfl ?_
      refine a_bipush (pc := 17) (dk dt_X12_best 9 rfl) (ik rfl) (bpk rfl) ?_
      refine a_icmp_ne (pc := 19) (dk dt_X12_best 10 rfl) (tgt := 36) rfl ⟨fun c => ?_, fun c => ?_⟩
      · replace H := H.1 c
        refine a_iconst (pc := 36) (dk dt_X12_best 18 rfl) (ik rfl) ?_
        exact a_iret (pc := 37) (dk dt_X12_best 19 rfl) rfl rfl H
      · replace H := H.2 c
        refine a_iload_n (pc := 22) (dk dt_X12_best 11 rfl) rfl ?_
        refine a_bipush (pc := 23) (dk dt_X12_best 12 rfl) (ik rfl) (bpk rfl) ?_
        refine a_icmp_ge (pc := 25) (dk dt_X12_best 13 rfl) (tgt := 38) rfl ⟨fun c => ?_, fun c => ?_⟩
        · replace H := H.1 c
          refine a_iconst (pc := 38) (dk dt_X12_best 20 rfl) (ik rfl) ?_
          refine a_istore_n (pc := 39) (dk dt_X12_best 21 rfl) (by decide) rfl rfl ?_
          refine a_iconst (pc := 40) (dk dt_X12_best 22 rfl) (ik rfl) ?_
          refine a_istore_n (pc := 41) (dk dt_X12_best 23 rfl) (by decide) rfl rfl ?_
          refine a_iconst (pc := 42) (dk dt_X12_best 24 rfl) (ik rfl) ?_
          refine a_istore (pc := 43) (dk dt_X12_best 25 rfl) (by decide) rfl rfl ?_
          exact a_pick [0, 1, 2, 3, 4] rfl H
        · replace H := H.2 c
          refine a_iload_n (pc := 28) (dk dt_X12_best 14 rfl) rfl ?_
          refine a_aload_n (pc := 29) (dk dt_X12_best 15 rfl) rfl ?_
          refine a_geti (pc := 30) (dk dt_X12_best 16 rfl) cls_12 fl_RX12_589 cf_85_102 ?_
          refine a_icmp_lt (pc := 33) (dk dt_X12_best 17 rfl) (tgt := 38) rfl ⟨fun c => ?_, fun c => ?_⟩
          · replace H := H.1 c
            refine a_iconst (pc := 38) (dk dt_X12_best 20 rfl) (ik rfl) ?_
            refine a_istore_n (pc := 39) (dk dt_X12_best 21 rfl) (by decide) rfl rfl ?_
            refine a_iconst (pc := 40) (dk dt_X12_best 22 rfl) (ik rfl) ?_
            refine a_istore_n (pc := 41) (dk dt_X12_best 23 rfl) (by decide) rfl rfl ?_
            refine a_iconst (pc := 42) (dk dt_X12_best 24 rfl) (ik rfl) ?_
            refine a_istore (pc := 43) (dk dt_X12_best 25 rfl) (by decide) rfl rfl ?_
            exact a_pick [0, 1, 2, 3, 4] rfl H
          · replace H := H.2 c
            refine a_iconst (pc := 36) (dk dt_X12_best 18 rfl) (ik rfl) ?_
            exact a_iret (pc := 37) (dk dt_X12_best 19 rfl) rfl rfl H
  · replace H := H.2 c
    refine a_iload_n (pc := 5) (dk dt_X12_is 3 rfl) rfl ?_
    refine a_iload_n (pc := 6) (dk dt_X12_is 4 rfl) rfl ?_
    refine a_icmp_gt (pc := 7) (dk dt_X12_is 5 rfl) (tgt := 14) rfl ⟨fun c => ?_, fun c => ?_⟩
    · replace H := H.1 c
      refine a_iconst (pc := 14) (dk dt_X12_is 8 rfl) (ik rfl) ?_
      refine a_zret (pc := 15) (dk dt_X12_is 9 rfl) rfl rfl ⟨by decide, ?_⟩
      show ATW _ _ _ _ _ _ _ _ _ _
      refine a_if_ne (pc := 7) (dk dt_X12_best 4 rfl) (tgt := 22) rfl ⟨fun c => absurd c (by decide), fun _ => ?_⟩
      refine a_iload_n (pc := 10) (dk dt_X12_best 5 rfl) rfl ?_
      refine a_bipush (pc := 11) (dk dt_X12_best 6 rfl) (ik rfl) (bpk rfl) ?_
      refine a_icmp_eq (pc := 13) (dk dt_X12_best 7 rfl) (tgt := 22) rfl ⟨fun c => ?_, fun c => ?_⟩
      · replace H := H.1 c
        refine a_iload_n (pc := 22) (dk dt_X12_best 11 rfl) rfl ?_
        refine a_bipush (pc := 23) (dk dt_X12_best 12 rfl) (ik rfl) (bpk rfl) ?_
        refine a_icmp_ge (pc := 25) (dk dt_X12_best 13 rfl) (tgt := 38) rfl ⟨fun c => ?_, fun c => ?_⟩
        · replace H := H.1 c
          refine a_iconst (pc := 38) (dk dt_X12_best 20 rfl) (ik rfl) ?_
          refine a_istore_n (pc := 39) (dk dt_X12_best 21 rfl) (by decide) rfl rfl ?_
          refine a_iconst (pc := 40) (dk dt_X12_best 22 rfl) (ik rfl) ?_
          refine a_istore_n (pc := 41) (dk dt_X12_best 23 rfl) (by decide) rfl rfl ?_
          refine a_iconst (pc := 42) (dk dt_X12_best 24 rfl) (ik rfl) ?_
          refine a_istore (pc := 43) (dk dt_X12_best 25 rfl) (by decide) rfl rfl ?_
          exact a_pick [0, 1, 2, 3, 4] rfl H
        · replace H := H.2 c
          refine a_iload_n (pc := 28) (dk dt_X12_best 14 rfl) rfl ?_
          refine a_aload_n (pc := 29) (dk dt_X12_best 15 rfl) rfl ?_
          refine a_geti (pc := 30) (dk dt_X12_best 16 rfl) cls_12 fl_RX12_589 cf_85_102 ?_
          refine a_icmp_lt (pc := 33) (dk dt_X12_best 17 rfl) (tgt := 38) rfl ⟨fun c => ?_, fun c => ?_⟩
          · replace H := H.1 c
            refine a_iconst (pc := 38) (dk dt_X12_best 20 rfl) (ik rfl) ?_
            refine a_istore_n (pc := 39) (dk dt_X12_best 21 rfl) (by decide) rfl rfl ?_
            refine a_iconst (pc := 40) (dk dt_X12_best 22 rfl) (ik rfl) ?_
            refine a_istore_n (pc := 41) (dk dt_X12_best 23 rfl) (by decide) rfl rfl ?_
            refine a_iconst (pc := 42) (dk dt_X12_best 24 rfl) (ik rfl) ?_
            refine a_istore (pc := 43) (dk dt_X12_best 25 rfl) (by decide) rfl rfl ?_
            exact a_pick [0, 1, 2, 3, 4] rfl H
          · replace H := H.2 c
            refine a_iconst (pc := 36) (dk dt_X12_best 18 rfl) (ik rfl) ?_
            exact a_iret (pc := 37) (dk dt_X12_best 19 rfl) rfl rfl H
      · replace H := H.2 c
        refine a_iload_n (pc := 16) (dk dt_X12_best 8 rfl) rfl ?_
        refine a_bipush (pc := 17) (dk dt_X12_best 9 rfl) (ik rfl) (bpk rfl) ?_
        refine a_icmp_ne (pc := 19) (dk dt_X12_best 10 rfl) (tgt := 36) rfl ⟨fun c => ?_, fun c => ?_⟩
        · replace H := H.1 c
          refine a_iconst (pc := 36) (dk dt_X12_best 18 rfl) (ik rfl) ?_
          exact a_iret (pc := 37) (dk dt_X12_best 19 rfl) rfl rfl H
        · replace H := H.2 c
          refine a_iload_n (pc := 22) (dk dt_X12_best 11 rfl) rfl ?_
          refine a_bipush (pc := 23) (dk dt_X12_best 12 rfl) (ik rfl) (bpk rfl) ?_
          refine a_icmp_ge (pc := 25) (dk dt_X12_best 13 rfl) (tgt := 38) rfl ⟨fun c => ?_, fun c => ?_⟩
          · replace H := H.1 c
            refine a_iconst (pc := 38) (dk dt_X12_best 20 rfl) (ik rfl) ?_
            refine a_istore_n (pc := 39) (dk dt_X12_best 21 rfl) (by decide) rfl rfl ?_
            refine a_iconst (pc := 40) (dk dt_X12_best 22 rfl) (ik rfl) ?_
            refine a_istore_n (pc := 41) (dk dt_X12_best 23 rfl) (by decide) rfl rfl ?_
            refine a_iconst (pc := 42) (dk dt_X12_best 24 rfl) (ik rfl) ?_
            refine a_istore (pc := 43) (dk dt_X12_best 25 rfl) (by decide) rfl rfl ?_
            exact a_pick [0, 1, 2, 3, 4] rfl H
          · replace H := H.2 c
            refine a_iload_n (pc := 28) (dk dt_X12_best 14 rfl) rfl ?_
            refine a_aload_n (pc := 29) (dk dt_X12_best 15 rfl) rfl ?_
            refine a_geti (pc := 30) (dk dt_X12_best 16 rfl) cls_12 fl_RX12_589 cf_85_102 ?_
            refine a_icmp_lt (pc := 33) (dk dt_X12_best 17 rfl) (tgt := 38) rfl ⟨fun c => ?_, fun c => ?_⟩
            · replace H := H.1 c
              refine a_iconst (pc := 38) (dk dt_X12_best 20 rfl) (ik rfl) ?_
              refine a_istore_n (pc := 39) (dk dt_X12_best 21 rfl) (by decide) rfl rfl ?_
              refine a_iconst (pc := 40) (dk dt_X12_best 22 rfl) (ik rfl) ?_
              refine a_istore_n (pc := 41) (dk dt_X12_best 23 rfl) (by decide) rfl rfl ?_
              refine a_iconst (pc := 42) (dk dt_X12_best 24 rfl) (ik rfl) ?_
              refine a_istore (pc := 43) (dk dt_X12_best 25 rfl) (by decide) rfl rfl ?_
              exact a_pick [0, 1, 2, 3, 4] rfl H
            · replace H := H.2 c
              refine a_iconst (pc := 36) (dk dt_X12_best 18 rfl) (ik rfl) ?_
              exact a_iret (pc := 37) (dk dt_X12_best 19 rfl) rfl rfl H
    · replace H := H.2 c
      refine a_iconst (pc := 10) (dk dt_X12_is 6 rfl) (ik rfl) ?_
      refine a_goto (pc := 11) (dk dt_X12_is 7 rfl) (tgt := 15) rfl ?_
      refine a_zret (pc := 15) (dk dt_X12_is 9 rfl) rfl rfl ⟨by decide, ?_⟩
      show ATW _ _ _ _ _ _ _ _ _ _
      refine a_if_ne (pc := 7) (dk dt_X12_best 4 rfl) (tgt := 22) rfl ⟨fun _ => ?_, fun c => absurd c (by decide)⟩
      refine a_iload_n (pc := 22) (dk dt_X12_best 11 rfl) rfl ?_
      refine a_bipush (pc := 23) (dk dt_X12_best 12 rfl) (ik rfl) (bpk rfl) ?_
      refine a_icmp_ge (pc := 25) (dk dt_X12_best 13 rfl) (tgt := 38) rfl ⟨fun c => ?_, fun c => ?_⟩
      · replace H := H.1 c
        refine a_iconst (pc := 38) (dk dt_X12_best 20 rfl) (ik rfl) ?_
        refine a_istore_n (pc := 39) (dk dt_X12_best 21 rfl) (by decide) rfl rfl ?_
        refine a_iconst (pc := 40) (dk dt_X12_best 22 rfl) (ik rfl) ?_
        refine a_istore_n (pc := 41) (dk dt_X12_best 23 rfl) (by decide) rfl rfl ?_
        refine a_iconst (pc := 42) (dk dt_X12_best 24 rfl) (ik rfl) ?_
        refine a_istore (pc := 43) (dk dt_X12_best 25 rfl) (by decide) rfl rfl ?_
        exact a_pick [0, 1, 2, 3, 4] rfl H
      · replace H := H.2 c
        refine a_iload_n (pc := 28) (dk dt_X12_best 14 rfl) rfl ?_
        refine a_aload_n (pc := 29) (dk dt_X12_best 15 rfl) rfl ?_
        refine a_geti (pc := 30) (dk dt_X12_best 16 rfl) cls_12 fl_RX12_589 cf_85_102 ?_
        refine a_icmp_lt (pc := 33) (dk dt_X12_best 17 rfl) (tgt := 38) rfl ⟨fun c => ?_, fun c => ?_⟩
        · replace H := H.1 c
          refine a_iconst (pc := 38) (dk dt_X12_best 20 rfl) (ik rfl) ?_
          refine a_istore_n (pc := 39) (dk dt_X12_best 21 rfl) (by decide) rfl rfl ?_
          refine a_iconst (pc := 40) (dk dt_X12_best 22 rfl) (ik rfl) ?_
          refine a_istore_n (pc := 41) (dk dt_X12_best 23 rfl) (by decide) rfl rfl ?_
          refine a_iconst (pc := 42) (dk dt_X12_best 24 rfl) (ik rfl) ?_
          refine a_istore (pc := 43) (dk dt_X12_best 25 rfl) (by decide) rfl rfl ?_
          exact a_pick [0, 1, 2, 3, 4] rfl H
        · replace H := H.2 c
          refine a_iconst (pc := 36) (dk dt_X12_best 18 rfl) (ik rfl) ?_
          exact a_iret (pc := 37) (dk dt_X12_best 19 rfl) rfl rfl H
set_option maxHeartbeats 40000000 in
theorem U_X12_best_85_45 {G : GG} {Φ : Int → Hp → Prop} {h : Hp} {x1 : Int} {x2 : Int} {x3 : Int} {x4 : Int} (H : (((bshl 1 (h 85 102)) ≤ x4 → AT G m_X12_best 213 [(0, rv 85), (1, iv x1), (2, iv x2), (4, iv 0), (5, iv 0), (6, iv 0)] [] h Φ) ∧ (x4 < (bshl 1 (h 85 102)) → AT G m_X12_best 65 [(0, rv 85), (1, iv x1), (2, iv x2), (3, iv x3), (4, iv x4), (5, iv 0), (6, iv 1), (7, iv 0)] [] h Φ))) : AT G m_X12_best 45 [(0, rv 85), (1, iv x1), (2, iv x2), (3, iv x3), (4, iv x4)] [] h Φ := by
  refine a_iload (pc := 45) (dk dt_X12_best 26 rfl) rfl ?_
  refine a_iconst (pc := 47) (dk dt_X12_best 27 rfl) (ik rfl) ?_
  refine a_aload_n (pc := 48) (dk dt_X12_best 28 rfl) rfl ?_
  refine a_geti (pc := 49) (dk dt_X12_best 29 rfl) cls_12 fl_RX12_589 cf_85_102 ?_
  refine a_ishl (pc := 52) (dk dt_X12_best 30 rfl) ?_
  refine a_icmp_ge (pc := 53) (dk dt_X12_best 31 rfl) (tgt := 204) rfl ⟨fun c => ?_, fun c => ?_⟩
  · replace H := H.1 c
    refine a_iconst (pc := 204) (dk dt_X12_best 110 rfl) (ik rfl) ?_
    refine a_istore (pc := 205) (dk dt_X12_best 111 rfl) (by decide) rfl rfl ?_
    refine a_iconst (pc := 207) (dk dt_X12_best 112 rfl) (ik rfl) ?_
    refine a_istore (pc := 208) (dk dt_X12_best 113 rfl) (by decide) rfl rfl ?_
    refine a_iconst (pc := 210) (dk dt_X12_best 114 rfl) (ik rfl) ?_
    refine a_istore (pc := 211) (dk dt_X12_best 115 rfl) (by decide) rfl rfl ?_
    exact a_pick [0, 1, 2, 4, 5, 6] rfl H
  · replace H := H.2 c
    refine a_iconst (pc := 56) (dk dt_X12_best 32 rfl) (ik rfl) ?_
    refine a_istore (pc := 57) (dk dt_X12_best 33 rfl) (by decide) rfl rfl ?_
    refine a_iconst (pc := 59) (dk dt_X12_best 34 rfl) (ik rfl) ?_
    refine a_istore (pc := 60) (dk dt_X12_best 35 rfl) (by decide) rfl rfl ?_
    refine a_iconst (pc := 62) (dk dt_X12_best 36 rfl) (ik rfl) ?_
    refine a_istore (pc := 63) (dk dt_X12_best 37 rfl) (by decide) rfl rfl ?_
    exact a_pick [0, 1, 2, 3, 4, 5, 6, 7] rfl H
set_option maxHeartbeats 40000000 in
theorem U_X12_best_85_213 {G : GG} {Φ : Int → Hp → Prop} {h : Hp} {x1 : Int} {x2 : Int} {x4 : Int} {x5 : Int} {x6 : Int} (H : (((h 85 102) ≤ x6 → ((x1 ≠ 100 → ((x1 ≠ 101 → Φ (band (bshr x2 (w32 ((w32 ((h 85 102) - 1)) - x1))) 1) h) ∧ (x1 = 101 → Φ x5 h))) ∧ (x1 = 100 → Φ x4 h))) ∧ (x6 < (h 85 102) → (0 ≤ x6 ∧ x6 < 12) ∧ AT G m_X12_best 213 [(0, rv 85), (1, iv x1), (2, iv x2), (4, iv (w32 (x4 + (w32 ((band (bshr x2 (w32 ((w32 ((h 85 102) - 1)) - x6))) 1) * (h 150 x6)))))), (5, iv (w32 (x5 + (band (bshr x2 (w32 ((w32 ((h 85 102) - 1)) - x6))) 1)))), (6, iv (w32 (x6 + 1)))] [] h Φ))) : AT G m_X12_best 213 [(0, rv 85), (1, iv x1), (2, iv x2), (4, iv x4), (5, iv x5), (6, iv x6)] [] h Φ := by
  refine a_iload (pc := 213) (dk dt_X12_best 116 rfl) rfl ?_
  refine a_aload_n (pc := 215) (dk dt_X12_best 117 rfl) rfl ?_
  refine a_geti (pc := 216) (dk dt_X12_best 118 rfl) cls_12 fl_RX12_589 cf_85_102 ?_
  refine a_icmp_ge (pc := 219) (dk dt_X12_best 119 rfl) (tgt := 265) rfl ⟨fun c => ?_, fun c => ?_⟩
  · replace H := H.1 c
    refine a_iload_n (pc := 265) (dk dt_X12_best 146 rfl) rfl ?_
    refine a_bipush (pc := 266) (dk dt_X12_best 147 rfl) (ik rfl) (bpk rfl) ?_
    refine a_icmp_ne (pc := 268) (dk dt_X12_best 148 rfl) (tgt := 276) rfl ⟨fun c => ?_, fun c => ?_⟩
    · replace H := H.1 c
      refine a_iload_n (pc := 276) (dk dt_X12_best 151 rfl) rfl ?_
      refine a_bipush (pc := 277) (dk dt_X12_best 152 rfl) (ik rfl) (bpk rfl) ?_
      refine a_icmp_ne (pc := 279) (dk dt_X12_best 153 rfl) (tgt := 287) rfl ⟨fun c => ?_, fun c => ?_⟩
      · replace H := H.1 c
        refine a_iload_n (pc := 287) (dk dt_X12_best 156 rfl) rfl ?_
        refine a_aload_n (pc := 288) (dk dt_X12_best 157 rfl) rfl ?_
        refine a_geti (pc := 289) (dk dt_X12_best 158 rfl) cls_12 fl_RX12_589 cf_85_102 ?_
        refine a_iconst (pc := 292) (dk dt_X12_best 159 rfl) (ik rfl) ?_
        refine a_isub (pc := 293) (dk dt_X12_best 160 rfl) ?_
        refine a_iload_n (pc := 294) (dk dt_X12_best 161 rfl) rfl ?_
        refine a_isub (pc := 295) (dk dt_X12_best 162 rfl) ?_
        refine a_ishr (pc := 296) (dk dt_X12_best 163 rfl) ?_
        refine a_iconst (pc := 297) (dk dt_X12_best 164 rfl) (ik rfl) ?_
        refine a_iand (pc := 298) (dk dt_X12_best 165 rfl) ?_
        exact a_iret (pc := 299) (dk dt_X12_best 166 rfl) rfl rfl H
      · replace H := H.2 c
        refine a_iload (pc := 282) (dk dt_X12_best 154 rfl) rfl ?_
        refine a_goto (pc := 284) (dk dt_X12_best 155 rfl) (tgt := 299) rfl ?_
        exact a_iret (pc := 299) (dk dt_X12_best 166 rfl) rfl rfl H
    · replace H := H.2 c
      refine a_iload (pc := 271) (dk dt_X12_best 149 rfl) rfl ?_
      refine a_goto (pc := 273) (dk dt_X12_best 150 rfl) (tgt := 299) rfl ?_
      exact a_iret (pc := 299) (dk dt_X12_best 166 rfl) rfl rfl H
  · replace H := H.2 c
    refine a_iload_n (pc := 222) (dk dt_X12_best 120 rfl) rfl ?_
    refine a_aload_n (pc := 223) (dk dt_X12_best 121 rfl) rfl ?_
    refine a_geti (pc := 224) (dk dt_X12_best 122 rfl) cls_12 fl_RX12_589 cf_85_102 ?_
    refine a_iconst (pc := 227) (dk dt_X12_best 123 rfl) (ik rfl) ?_
    refine a_isub (pc := 228) (dk dt_X12_best 124 rfl) ?_
    refine a_iload (pc := 229) (dk dt_X12_best 125 rfl) rfl ?_
    refine a_isub (pc := 231) (dk dt_X12_best 126 rfl) ?_
    refine a_ishr (pc := 232) (dk dt_X12_best 127 rfl) ?_
    refine a_iconst (pc := 233) (dk dt_X12_best 128 rfl) (ik rfl) ?_
    refine a_iand (pc := 234) (dk dt_X12_best 129 rfl) ?_
    refine a_istore (pc := 235) (dk dt_X12_best 130 rfl) (by decide) rfl rfl ?_
    refine a_iload (pc := 237) (dk dt_X12_best 131 rfl) rfl ?_
    refine a_iload (pc := 239) (dk dt_X12_best 132 rfl) rfl ?_
    refine a_aload_n (pc := 241) (dk dt_X12_best 133 rfl) rfl ?_
    refine a_getr (r := 149) (pc := 242) (dk dt_X12_best 134 rfl) cls_12 fl_RX12_280 cf_85_101 ?_
    refine a_iload (pc := 245) (dk dt_X12_best 135 rfl) rfl ?_
    refine a_iald (pc := 247) (dk dt_X12_best 136 rfl) ar_150 ⟨H.1, ?_⟩
    replace H := H.2
    refine a_imul (pc := 248) (dk dt_X12_best 137 rfl) ?_
    refine a_iadd (pc := 249) (dk dt_X12_best 138 rfl) ?_
    refine a_istore (pc := 250) (dk dt_X12_best 139 rfl) (by decide) rfl rfl ?_
    refine a_iload (pc := 252) (dk dt_X12_best 140 rfl) rfl ?_
    refine a_iload (pc := 254) (dk dt_X12_best 141 rfl) rfl ?_
    refine a_iadd (pc := 256) (dk dt_X12_best 142 rfl) ?_
    refine a_istore (pc := 257) (dk dt_X12_best 143 rfl) (by decide) rfl rfl ?_
    refine a_iinc (pc := 259) (dk dt_X12_best 144 rfl) (by decide) rfl rfl rfl ?_
    refine a_goto (pc := 262) (dk dt_X12_best 145 rfl) (tgt := 213) rfl ?_
    exact a_pick [0, 1, 2, 3, 4, 5] rfl H
set_option maxHeartbeats 40000000 in
theorem U_X12_best_85_65 {G : GG} {Φ : Int → Hp → Prop} {h : Hp} {x1 : Int} {x2 : Int} {x3 : Int} {x4 : Int} {x5 : Int} {x6 : Int} {x7 : Int} (H : (((h 85 102) ≤ x7 → ((x6 = 0 → AT G m_X12_best 45 [(0, rv 85), (1, iv x1), (2, iv x2), (3, iv x3), (4, iv (w32 (x4 + 1)))] [] h Φ) ∧ (x6 ≠ 0 → ((x3 ≤ x5 → AT G m_X12_best 45 [(0, rv 85), (1, iv x1), (2, iv x4), (3, iv x5), (4, iv (w32 (x4 + 1)))] [] h Φ) ∧ (x5 < x3 → AT G m_X12_best 45 [(0, rv 85), (1, iv x1), (2, iv x2), (3, iv x3), (4, iv (w32 (x4 + 1)))] [] h Φ))))) ∧ (x7 < (h 85 102) → ((x6 = 0 → ((x6 = 0 → AT G m_X12_best 45 [(0, rv 85), (1, iv x1), (2, iv x2), (3, iv x3), (4, iv (w32 (x4 + 1)))] [] h Φ) ∧ (x6 ≠ 0 → ((x3 ≤ x5 → AT G m_X12_best 45 [(0, rv 85), (1, iv x1), (2, iv x4), (3, iv x5), (4, iv (w32 (x4 + 1)))] [] h Φ) ∧ (x5 < x3 → AT G m_X12_best 45 [(0, rv 85), (1, iv x1), (2, iv x2), (3, iv x3), (4, iv (w32 (x4 + 1)))] [] h Φ))))) ∧ (x6 ≠ 0 → (((band (bshr x4 (w32 ((w32 ((h 85 102) - 1)) - x7))) 1) ≠ 0 → (0 ≤ x7 ∧ x7 < 12) ∧ AT G m_X12_best 119 [(0, rv 85), (1, iv x1), (2, iv x2), (3, iv x3), (4, iv x4), (5, iv (w32 (x5 + (w32 ((w32 (100 * (h 150 x7))) - 1))))), (6, iv x6), (7, iv x7), (8, iv 0)] [] h Φ) ∧ ((band (bshr x4 (w32 ((w32 ((h 85 102) - 1)) - x7))) 1) = 0 → AT G m_X12_best 65 [(0, rv 85), (1, iv x1), (2, iv x2), (3, iv x3), (4, iv x4), (5, iv x5), (6, iv x6), (7, iv (w32 (x7 + 1)))] [] h Φ))))))) : AT G m_X12_best 65 [(0, rv 85), (1, iv x1), (2, iv x2), (3, iv x3), (4, iv x4), (5, iv x5), (6, iv x6), (7, iv x7)] [] h Φ := by
  refine a_iload (pc := 65) (dk dt_X12_best 38 rfl) rfl ?_
  refine a_aload_n (pc := 67) (dk dt_X12_best 39 rfl) rfl ?_
  refine a_geti (pc := 68) (dk dt_X12_best 40 rfl) cls_12 fl_RX12_589 cf_85_102 ?_
  refine a_icmp_ge (pc := 71) (dk dt_X12_best 41 rfl) (tgt := 178) rfl ⟨fun c => ?_, fun c => ?_⟩
  · replace H := H.1 c
    refine a_iload (pc := 178) (dk dt_X12_best 98 rfl) rfl ?_
    refine a_if_eq (pc := 180) (dk dt_X12_best 99 rfl) (tgt := 198) rfl ⟨fun c => ?_, fun c => ?_⟩
    · replace H := H.1 c
      refine a_iinc (pc := 198) (dk dt_X12_best 108 rfl) (by decide) rfl rfl rfl ?_
      refine a_goto (pc := 201) (dk dt_X12_best 109 rfl) (tgt := 45) rfl ?_
      exact a_pick [0, 1, 2, 3, 4] rfl H
    · replace H := H.2 c
      refine a_iload (pc := 183) (dk dt_X12_best 100 rfl) rfl ?_
      refine a_iload_n (pc := 185) (dk dt_X12_best 101 rfl) rfl ?_
      refine a_icmp_ge (pc := 186) (dk dt_X12_best 102 rfl) (tgt := 192) rfl ⟨fun c => ?_, fun c => ?_⟩
      · replace H := H.1 c
        refine a_iload (pc := 192) (dk dt_X12_best 104 rfl) rfl ?_
        refine a_istore_n (pc := 194) (dk dt_X12_best 105 rfl) (by decide) rfl rfl ?_
        refine a_iload (pc := 195) (dk dt_X12_best 106 rfl) rfl ?_
        refine a_istore_n (pc := 197) (dk dt_X12_best 107 rfl) (by decide) rfl rfl ?_
        refine a_iinc (pc := 198) (dk dt_X12_best 108 rfl) (by decide) rfl rfl rfl ?_
        refine a_goto (pc := 201) (dk dt_X12_best 109 rfl) (tgt := 45) rfl ?_
        exact a_pick [0, 1, 2, 3, 4] rfl H
      · replace H := H.2 c
        refine a_goto (pc := 189) (dk dt_X12_best 103 rfl) (tgt := 198) rfl ?_
        refine a_iinc (pc := 198) (dk dt_X12_best 108 rfl) (by decide) rfl rfl rfl ?_
        refine a_goto (pc := 201) (dk dt_X12_best 109 rfl) (tgt := 45) rfl ?_
        exact a_pick [0, 1, 2, 3, 4] rfl H
  · replace H := H.2 c
    refine a_iload (pc := 74) (dk dt_X12_best 42 rfl) rfl ?_
    refine a_if_eq (pc := 76) (dk dt_X12_best 43 rfl) (tgt := 178) rfl ⟨fun c => ?_, fun c => ?_⟩
    · replace H := H.1 c
      refine a_iload (pc := 178) (dk dt_X12_best 98 rfl) rfl ?_
      refine a_if_eq (pc := 180) (dk dt_X12_best 99 rfl) (tgt := 198) rfl ⟨fun c => ?_, fun c => ?_⟩
      · replace H := H.1 c
        refine a_iinc (pc := 198) (dk dt_X12_best 108 rfl) (by decide) rfl rfl rfl ?_
        refine a_goto (pc := 201) (dk dt_X12_best 109 rfl) (tgt := 45) rfl ?_
        exact a_pick [0, 1, 2, 3, 4] rfl H
      · replace H := H.2 c
        refine a_iload (pc := 183) (dk dt_X12_best 100 rfl) rfl ?_
        refine a_iload_n (pc := 185) (dk dt_X12_best 101 rfl) rfl ?_
        refine a_icmp_ge (pc := 186) (dk dt_X12_best 102 rfl) (tgt := 192) rfl ⟨fun c => ?_, fun c => ?_⟩
        · replace H := H.1 c
          refine a_iload (pc := 192) (dk dt_X12_best 104 rfl) rfl ?_
          refine a_istore_n (pc := 194) (dk dt_X12_best 105 rfl) (by decide) rfl rfl ?_
          refine a_iload (pc := 195) (dk dt_X12_best 106 rfl) rfl ?_
          refine a_istore_n (pc := 197) (dk dt_X12_best 107 rfl) (by decide) rfl rfl ?_
          refine a_iinc (pc := 198) (dk dt_X12_best 108 rfl) (by decide) rfl rfl rfl ?_
          refine a_goto (pc := 201) (dk dt_X12_best 109 rfl) (tgt := 45) rfl ?_
          exact a_pick [0, 1, 2, 3, 4] rfl H
        · replace H := H.2 c
          refine a_goto (pc := 189) (dk dt_X12_best 103 rfl) (tgt := 198) rfl ?_
          refine a_iinc (pc := 198) (dk dt_X12_best 108 rfl) (by decide) rfl rfl rfl ?_
          refine a_goto (pc := 201) (dk dt_X12_best 109 rfl) (tgt := 45) rfl ?_
          exact a_pick [0, 1, 2, 3, 4] rfl H
    · replace H := H.2 c
      refine a_iload (pc := 79) (dk dt_X12_best 44 rfl) rfl ?_
      refine a_aload_n (pc := 81) (dk dt_X12_best 45 rfl) rfl ?_
      refine a_geti (pc := 82) (dk dt_X12_best 46 rfl) cls_12 fl_RX12_589 cf_85_102 ?_
      refine a_iconst (pc := 85) (dk dt_X12_best 47 rfl) (ik rfl) ?_
      refine a_isub (pc := 86) (dk dt_X12_best 48 rfl) ?_
      refine a_iload (pc := 87) (dk dt_X12_best 49 rfl) rfl ?_
      refine a_isub (pc := 89) (dk dt_X12_best 50 rfl) ?_
      refine a_ishr (pc := 90) (dk dt_X12_best 51 rfl) ?_
      refine a_iconst (pc := 91) (dk dt_X12_best 52 rfl) (ik rfl) ?_
      refine a_iand (pc := 92) (dk dt_X12_best 53 rfl) ?_
      refine a_if_ne (pc := 93) (dk dt_X12_best 54 rfl) (tgt := 99) rfl ⟨fun c => ?_, fun c => ?_⟩
      · replace H := H.1 c
        refine a_iload (pc := 99) (dk dt_X12_best 56 rfl) rfl ?_
        refine a_bipush (pc := 101) (dk dt_X12_best 57 rfl) (ik rfl) (bpk rfl) ?_
        refine a_aload_n (pc := 103) (dk dt_X12_best 58 rfl) rfl ?_
        refine a_getr (r := 149) (pc := 104) (dk dt_X12_best 59 rfl) cls_12 fl_RX12_280 cf_85_101 ?_
        refine a_iload (pc := 107) (dk dt_X12_best 60 rfl) rfl ?_
        refine a_iald (pc := 109) (dk dt_X12_best 61 rfl) ar_150 ⟨H.1, ?_⟩
        replace H := H.2
        refine a_imul (pc := 110) (dk dt_X12_best 62 rfl) ?_
        refine a_iconst (pc := 111) (dk dt_X12_best 63 rfl) (ik rfl) ?_
        refine a_isub (pc := 112) (dk dt_X12_best 64 rfl) ?_
        refine a_iadd (pc := 113) (dk dt_X12_best 65 rfl) ?_
        refine a_istore (pc := 114) (dk dt_X12_best 66 rfl) (by decide) rfl rfl ?_
        refine a_iconst (pc := 116) (dk dt_X12_best 67 rfl) (ik rfl) ?_
        refine a_istore (pc := 117) (dk dt_X12_best 68 rfl) (by decide) rfl rfl ?_
        exact a_pick [0, 1, 2, 3, 4, 5, 6, 7, 8] rfl H
      · replace H := H.2 c
        refine a_goto (pc := 96) (dk dt_X12_best 55 rfl) (tgt := 172) rfl ?_
        refine a_iinc (pc := 172) (dk dt_X12_best 96 rfl) (by decide) rfl rfl rfl ?_
        refine a_goto (pc := 175) (dk dt_X12_best 97 rfl) (tgt := 65) rfl ?_
        exact a_pick [0, 1, 2, 3, 4, 5, 6, 7] rfl H
set_option maxHeartbeats 40000000 in
theorem U_X12_best_85_119 {G : GG} {Φ : Int → Hp → Prop} {h : Hp} {x1 : Int} {x2 : Int} {x3 : Int} {x4 : Int} {x5 : Int} {x6 : Int} {x7 : Int} {x8 : Int} (H : ((x7 ≤ x8 → AT G m_X12_best 65 [(0, rv 85), (1, iv x1), (2, iv x2), (3, iv x3), (4, iv x4), (5, iv x5), (6, iv x6), (7, iv (w32 (x7 + 1)))] [] h Φ) ∧ (x8 < x7 → ((x6 = 0 → AT G m_X12_best 65 [(0, rv 85), (1, iv x1), (2, iv x2), (3, iv x3), (4, iv x4), (5, iv x5), (6, iv x6), (7, iv (w32 (x7 + 1)))] [] h Φ) ∧ (x6 ≠ 0 → (((band (bshr x4 (w32 ((w32 ((h 85 102) - 1)) - x8))) 1) = 0 → AT G m_X12_best 119 [(0, rv 85), (1, iv x1), (2, iv x2), (3, iv x3), (4, iv x4), (5, iv x5), (6, iv 1), (7, iv x7), (8, iv (w32 (x8 + 1)))] [] h Φ) ∧ ((band (bshr x4 (w32 ((w32 ((h 85 102) - 1)) - x8))) 1) ≠ 0 → Call G m_X12_areApart [rv 85, iv x7, iv x8] h (fun r1 h2 => ((r1 = 0 → AT G m_X12_best 119 [(0, rv 85), (1, iv x1), (2, iv x2), (3, iv x3), (4, iv x4), (5, iv x5), (6, iv 0), (7, iv x7), (8, iv (w32 (x8 + 1)))] [] h2 Φ) ∧ (r1 ≠ 0 → AT G m_X12_best 119 [(0, rv 85), (1, iv x1), (2, iv x2), (3, iv x3), (4, iv x4), (5, iv x5), (6, iv 1), (7, iv x7), (8, iv (w32 (x8 + 1)))] [] h2 Φ)))))))))) : AT G m_X12_best 119 [(0, rv 85), (1, iv x1), (2, iv x2), (3, iv x3), (4, iv x4), (5, iv x5), (6, iv x6), (7, iv x7), (8, iv x8)] [] h Φ := by
  refine a_iload (pc := 119) (dk dt_X12_best 69 rfl) rfl ?_
  refine a_iload (pc := 121) (dk dt_X12_best 70 rfl) rfl ?_
  refine a_icmp_ge (pc := 123) (dk dt_X12_best 71 rfl) (tgt := 172) rfl ⟨fun c => ?_, fun c => ?_⟩
  · replace H := H.1 c
    refine a_iinc (pc := 172) (dk dt_X12_best 96 rfl) (by decide) rfl rfl rfl ?_
    refine a_goto (pc := 175) (dk dt_X12_best 97 rfl) (tgt := 65) rfl ?_
    exact a_pick [0, 1, 2, 3, 4, 5, 6, 7] rfl H
  · replace H := H.2 c
    refine a_iload (pc := 126) (dk dt_X12_best 72 rfl) rfl ?_
    refine a_if_eq (pc := 128) (dk dt_X12_best 73 rfl) (tgt := 172) rfl ⟨fun c => ?_, fun c => ?_⟩
    · replace H := H.1 c
      refine a_iinc (pc := 172) (dk dt_X12_best 96 rfl) (by decide) rfl rfl rfl ?_
      refine a_goto (pc := 175) (dk dt_X12_best 97 rfl) (tgt := 65) rfl ?_
      exact a_pick [0, 1, 2, 3, 4, 5, 6, 7] rfl H
    · replace H := H.2 c
      refine a_iload (pc := 131) (dk dt_X12_best 74 rfl) rfl ?_
      refine a_aload_n (pc := 133) (dk dt_X12_best 75 rfl) rfl ?_
      refine a_geti (pc := 134) (dk dt_X12_best 76 rfl) cls_12 fl_RX12_589 cf_85_102 ?_
      refine a_iconst (pc := 137) (dk dt_X12_best 77 rfl) (ik rfl) ?_
      refine a_isub (pc := 138) (dk dt_X12_best 78 rfl) ?_
      refine a_iload (pc := 139) (dk dt_X12_best 79 rfl) rfl ?_
      refine a_isub (pc := 141) (dk dt_X12_best 80 rfl) ?_
      refine a_ishr (pc := 142) (dk dt_X12_best 81 rfl) ?_
      refine a_iconst (pc := 143) (dk dt_X12_best 82 rfl) (ik rfl) ?_
      refine a_iand (pc := 144) (dk dt_X12_best 83 rfl) ?_
      refine a_if_eq (pc := 145) (dk dt_X12_best 84 rfl) (tgt := 159) rfl ⟨fun c => ?_, fun c => ?_⟩
      · replace H := H.1 c
        refine a_iconst (pc := 159) (dk dt_X12_best 90 rfl) (ik rfl) ?_
        refine a_goto (pc := 160) (dk dt_X12_best 91 rfl) (tgt := 164) rfl ?_
        refine a_istore (pc := 164) (dk dt_X12_best 93 rfl) (by decide) rfl rfl ?_
        refine a_iinc (pc := 166) (dk dt_X12_best 94 rfl) (by decide) rfl rfl rfl ?_
        refine a_goto (pc := 169) (dk dt_X12_best 95 rfl) (tgt := 119) rfl ?_
        exact a_pick [0, 1, 2, 3, 4, 5, 6, 7, 8] rfl H
      · replace H := H.2 c
        refine a_aload_n (pc := 148) (dk dt_X12_best 85 rfl) rfl ?_
        refine a_iload (pc := 149) (dk dt_X12_best 86 rfl) rfl ?_
        refine a_iload (pc := 151) (dk dt_X12_best 87 rfl) rfl ?_
        refine a_callVi (as := [iv x7, iv x8]) (st := []) (pc := 153) (dk dt_X12_best 88 rfl) cl_RX12_592 ⟨Nat.le_of_ble_eq_true rfl, Nat.le_of_ble_eq_true rfl⟩ ⟨Nat.le_of_ble_eq_true rfl, Nat.le_of_ble_eq_true rfl⟩ cls_12 rfl cc_85 rfl rfl rfl (Nat.le_of_ble_eq_true rfl) (Call.mono H fun r1 h2 H => ?_)
        refine a_if_eq (pc := 156) (dk dt_X12_best 89 rfl) (tgt := 163) rfl ⟨fun c => ?_, fun c => ?_⟩
        · replace H := H.1 c
          refine a_iconst (pc := 163) (dk dt_X12_best 92 rfl) (ik rfl) ?_
          refine a_istore (pc := 164) (dk dt_X12_best 93 rfl) (by decide) rfl rfl ?_
          refine a_iinc (pc := 166) (dk dt_X12_best 94 rfl) (by decide) rfl rfl rfl ?_
          refine a_goto (pc := 169) (dk dt_X12_best 95 rfl) (tgt := 119) rfl ?_
          exact a_pick [0, 1, 2, 3, 4, 5, 6, 7, 8] rfl H
        · replace H := H.2 c
          refine a_iconst (pc := 159) (dk dt_X12_best 90 rfl) (ik rfl) ?_
          refine a_goto (pc := 160) (dk dt_X12_best 91 rfl) (tgt := 164) rfl ?_
          refine a_istore (pc := 164) (dk dt_X12_best 93 rfl) (by decide) rfl rfl ?_
          refine a_iinc (pc := 166) (dk dt_X12_best 94 rfl) (by decide) rfl rfl rfl ?_
          refine a_goto (pc := 169) (dk dt_X12_best 95 rfl) (tgt := 119) rfl ?_
          exact a_pick [0, 1, 2, 3, 4, 5, 6, 7, 8] rfl H
set_option maxHeartbeats 40000000 in
theorem U_X12_bar_85_0 {G : GG} {Φ : Int → Hp → Prop} {h : Hp} {x1 : Int} {x2 : Int} {x3 : Int} (H : ((x1 < 0 → Φ (-1) h) ∧ (0 ≤ x1 → ((23 < x1 → Φ (-1) h) ∧ (x1 ≤ 23 → ((x2 < 0 → Φ (-1) h) ∧ (0 ≤ x2 → ((11 < x2 → Φ (-1) h) ∧ (x2 ≤ 11 → (0 ≤ (w32 ((w32 (24 * x2)) + x1)) ∧ (w32 ((w32 (24 * x2)) + x1)) < 288) ∧ (((h 151 (w32 ((w32 (24 * x2)) + x1))) = 0 → (0 ≤ (w32 ((w32 (24 * x2)) + x1)) ∧ (w32 ((w32 (24 * x2)) + x1)) < 288) ∧ (x3 = 0 ∨ x3 = 1) ∧ Φ 0 (up h 151 (w32 ((w32 (24 * x2)) + x1)) x3)) ∧ ((h 151 (w32 ((w32 (24 * x2)) + x1))) ≠ 0 → (0 ≤ (w32 ((w32 (24 * x2)) + x1)) ∧ (w32 ((w32 (24 * x2)) + x1)) < 288) ∧ (x3 = 0 ∨ x3 = 1) ∧ Φ 1 (up h 151 (w32 ((w32 (24 * x2)) + x1)) x3)))))))))))) : AT G m_X12_bar 0 [(0, rv 85), (1, iv x1), (2, iv x2), (3, iv x3)] [] h Φ := by
  refine a_iload_n (pc := 0) (dk dt_X12_bar 0 rfl) rfl ?_
  refine a_iload_n (pc := 1) (dk dt_X12_bar 1 rfl) rfl ?_
  refine a_callSi (as := [iv x1, iv x2]) (st := []) (pc := 2) (dk dt_X12_bar 2 rfl) cl_RX12_595 ⟨Nat.le_of_ble_eq_true rfl, Nat.le_of_ble_eq_true rfl⟩ ⟨Nat.le_of_ble_eq_true rfl, Nat.le_of_ble_eq_true rfl⟩ rfl rfl rfl (Nat.le_of_ble_eq_true rfl) (Call.of rfl (Nat.le_of_ble_eq_true rfl) rfl ?_)
  refine a_iload_n (pc := 0) (dk dt_X12_isField 0 rfl) rfl ?_
  refine a_iconst (pc := 1) (dk dt_X12_isField 1 rfl) (ik rfl) ?_
  refine a_bipush (pc := 2) (dk dt_X12_isField 2 rfl) (ik rfl) (bpk rfl) ?_
  refine a_callSi (as := [iv x1, iv 0, iv 23]) (st := []) (pc := 4) (dk dt_X12_isField 3 rfl) cl_RX12_302 ⟨Nat.le_of_ble_eq_true rfl, Nat.le_of_ble_eq_true rfl⟩ ⟨Nat.le_of_ble_eq_true rfl, Nat.le_of_ble_eq_true rfl⟩ rfl rfl rfl (Nat.le_of_ble_eq_true rfl) (Call.of rfl (Nat.le_of_ble_eq_true rfl) rfl ?_)
  refine a_iload_n (pc := 0) (dk dt_X12_is 0 rfl) rfl ?_
  refine a_iload_n (pc := 1) (dk dt_X12_is 1 rfl) rfl ?_
  refine a_icmp_lt (pc := 2) (dk dt_X12_is 2 rfl) (tgt := 14) rfl ⟨fun c => ?_, fun c => ?_⟩
  · replace H := H.1 c
    refine a_iconst (pc := 14) (dk dt_X12_is 8 rfl) (ik rfl) ?_
    refine a_zret (pc := 15) (dk dt_X12_is 9 rfl) rfl rfl ⟨by decide, ?_⟩
    show ATW _ _ _ _ _ _ _ _ _ _
    refine a_if_eq (pc := 7) (dk dt_X12_isField 4 rfl) (tgt := 24) rfl ⟨fun _ => ?_, fun c => absurd c (by decide)⟩
    refine a_iconst (pc := 24) (dk dt_X12_isField 12 rfl) (ik rfl) ?_
    refine a_zret (pc := 25) (dk dt_X12_isField 13 rfl) rfl rfl ⟨by decide, ?_⟩
    show ATW _ _ _ _ _ _ _ _ _ _
    refine a_if_ne (pc := 5) (dk dt_X12_bar 3 rfl) (tgt := 10) rfl ⟨fun c => absurd c (by decide), fun _ => ?_⟩
    refine a_iconst (pc := 8) (dk dt_X12_bar 4 rfl) (ik rfl) ?_
    exact a_iret (pc := 9) (dk dt_X12_bar 5 rfl) rfl rfl H
  · replace H := H.2 c
    refine a_iload_n (pc := 5) (dk dt_X12_is 3 rfl) rfl ?_
    refine a_iload_n (pc := 6) (dk dt_X12_is 4 rfl) rfl ?_
    refine a_icmp_gt (pc := 7) (dk dt_X12_is 5 rfl) (tgt := 14) rfl ⟨fun c => ?_, fun c => ?_⟩
    · replace H := H.1 c
      refine a_iconst (pc := 14) (dk dt_X12_is 8 rfl) (ik rfl) ?_
      refine a_zret (pc := 15) (dk dt_X12_is 9 rfl) rfl rfl ⟨by decide, ?_⟩
      show ATW _ _ _ _ _ _ _ _ _ _
      refine a_if_eq (pc := 7) (dk dt_X12_isField 4 rfl) (tgt := 24) rfl ⟨fun _ => ?_, fun c => absurd c (by decide)⟩
      refine a_iconst (pc := 24) (dk dt_X12_isField 12 rfl) (ik rfl) ?_
      refine a_zret (pc := 25) (dk dt_X12_isField 13 rfl) rfl rfl ⟨by decide, ?_⟩
      show ATW _ _ _ _ _ _ _ _ _ _
      refine a_if_ne (pc := 5) (dk dt_X12_bar 3 rfl) (tgt := 10) rfl ⟨fun c => absurd c (by decide), fun _ => ?_⟩
      refine a_iconst (pc := 8) (dk dt_X12_bar 4 rfl) (ik rfl) ?_
      exact a_iret (pc := 9) (dk dt_X12_bar 5 rfl) rfl rfl H
    · replace H := H.2 c
      refine a_iconst (pc := 10) (dk dt_X12_is 6 rfl) (ik rfl) ?_
      refine a_goto (pc := 11) (dk dt_X12_is 7 rfl) (tgt := 15) rfl ?_
      refine a_zret (pc := 15) (dk dt_X12_is 9 rfl) rfl rfl ⟨by decide, ?_⟩
      show ATW _ _ _ _ _ _ _ _ _ _
      refine a_if_eq (pc := 7) (dk dt_X12_isField 4 rfl) (tgt := 24) rfl ⟨fun c => absurd c (by decide), fun _ => ?_⟩
      refine a_iload_n (pc := 10) (dk dt_X12_isField 5 rfl) rfl ?_
      refine a_iconst (pc := 11) (dk dt_X12_isField 6 rfl) (ik rfl) ?_
      refine a_bipush (pc := 12) (dk dt_X12_isField 7 rfl) (ik rfl) (bpk rfl) ?_
      refine a_callSi (as := [iv x2, iv 0, iv 11]) (st := []) (pc := 14) (dk dt_X12_isField 8 rfl) cl_RX12_302 ⟨Nat.le_of_ble_eq_true rfl, Nat.le_of_ble_eq_true rfl⟩ ⟨Nat.le_of_ble_eq_true rfl, Nat.le_of_ble_eq_true rfl⟩ rfl rfl rfl (Nat.le_of_ble_eq_true rfl) (Call.of rfl (Nat.le_of_ble_eq_true rfl) rfl ?_)
      refine a_iload_n (pc := 0) (dk dt_X12_is 0 rfl) rfl ?_
      refine a_iload_n (pc := 1) (dk dt_X12_is 1 rfl) rfl ?_
      refine a_icmp_lt (pc := 2) (dk dt_X12_is 2 rfl) (tgt := 14) rfl ⟨fun c => ?_, fun c => ?_⟩
      · replace H := H.1 c
        refine a_iconst (pc := 14) (dk dt_X12_is 8 rfl) (ik rfl) ?_
        refine a_zret (pc := 15) (dk dt_X12_is 9 rfl) rfl rfl ⟨by decide, ?_⟩
        show ATW _ _ _ _ _ _ _ _ _ _
        refine a_if_eq (pc := 17) (dk dt_X12_isField 9 rfl) (tgt := 24) rfl ⟨fun _ => ?_, fun c => absurd c (by decide)⟩
        refine a_iconst (pc := 24) (dk dt_X12_isField 12 rfl) (ik rfl) ?_
        refine a_zret (pc := 25) (dk dt_X12_isField 13 rfl) rfl rfl ⟨by decide, ?_⟩
        show ATW _ _ _ _ _ _ _ _ _ _
        refine a_if_ne (pc := 5) (dk dt_X12_bar 3 rfl) (tgt := 10) rfl ⟨fun c => absurd c (by decide), fun _ => ?_⟩
        refine a_iconst (pc := 8) (dk dt_X12_bar 4 rfl) (ik rfl) ?_
        exact a_iret (pc := 9) (dk dt_X12_bar 5 rfl) rfl rfl H
      · replace H := H.2 c
        refine a_iload_n (pc := 5) (dk dt_X12_is 3 rfl) rfl ?_
        refine a_iload_n (pc := 6) (dk dt_X12_is 4 rfl) rfl ?_
        refine a_icmp_gt (pc := 7) (dk dt_X12_is 5 rfl) (tgt := 14) rfl ⟨fun c => ?_, fun c => ?_⟩
        · replace H := H.1 c
          refine a_iconst (pc := 14) (dk dt_X12_is 8 rfl) (ik rfl) ?_
          refine a_zret (pc := 15) (dk dt_X12_is 9 rfl) rfl rfl ⟨by decide, ?_⟩
          show ATW _ _ _ _ _ _ _ _ _ _
          refine a_if_eq (pc := 17) (dk dt_X12_isField 9 rfl) (tgt := 24) rfl ⟨fun _ => ?_, fun c => absurd c (by decide)⟩
          refine a_iconst (pc := 24) (dk dt_X12_isField 12 rfl) (ik rfl) ?_
          refine a_zret (pc := 25) (dk dt_X12_isField 13 rfl) rfl rfl ⟨by decide, ?_⟩
          show ATW _ _ _ _ _ _ _ _ _ _
          refine a_if_ne (pc := 5) (dk dt_X12_bar 3 rfl) (tgt := 10) rfl ⟨fun c => absurd c (by decide), fun _ => ?_⟩
          refine a_iconst (pc := 8) (dk dt_X12_bar 4 rfl) (ik rfl) ?_
          exact a_iret (pc := 9) (dk dt_X12_bar 5 rfl) rfl rfl H
        · replace H := H.2 c
          refine a_iconst (pc := 10) (dk dt_X12_is 6 rfl) (ik rfl) ?_
          refine a_goto (pc := 11) (dk dt_X12_is 7 rfl) (tgt := 15) rfl ?_
          refine a_zret (pc := 15) (dk dt_X12_is 9 rfl) rfl rfl ⟨by decide, ?_⟩
          show ATW _ _ _ _ _ _ _ _ _ _
          refine a_if_eq (pc := 17) (dk dt_X12_isField 9 rfl) (tgt := 24) rfl ⟨fun c => absurd c (by decide), fun _ => ?_⟩
          refine a_iconst (pc := 20) (dk dt_X12_isField 10 rfl) (ik rfl) ?_
          refine a_goto (pc := 21) (dk dt_X12_isField 11 rfl) (tgt := 25) rfl ?_
          refine a_zret (pc := 25) (dk dt_X12_isField 13 rfl) rfl rfl ⟨by decide, ?_⟩
          show ATW _ _ _ _ _ _ _ _ _ _
          refine a_if_ne (pc := 5) (dk dt_X12_bar 3 rfl) (tgt := 10) rfl ⟨fun _ => ?_, fun c => absurd c (by decide)⟩
          refine a_aload_n (pc := 10) (dk dt_X12_bar 6 rfl) rfl ?_
          refine a_getr (r := 150) (pc := 11) (dk dt_X12_bar 7 rfl) cls_12 fl_RX12_286 cf_85_104 ?_
          refine a_bipush (pc := 14) (dk dt_X12_bar 8 rfl) (ik rfl) (bpk rfl) ?_
          refine a_iload_n (pc := 16) (dk dt_X12_bar 9 rfl) rfl ?_
          refine a_imul (pc := 17) (dk dt_X12_bar 10 rfl) ?_
          refine a_iload_n (pc := 18) (dk dt_X12_bar 11 rfl) rfl ?_
          refine a_iadd (pc := 19) (dk dt_X12_bar 12 rfl) ?_
          refine a_zald (pc := 20) (dk dt_X12_bar 13 rfl) ar_151 ⟨H.1, ?_⟩
          replace H := H.2
          refine a_if_eq (pc := 21) (dk dt_X12_bar 14 rfl) (tgt := 28) rfl ⟨fun c => ?_, fun c => ?_⟩
          · replace H := H.1 c
            refine a_iconst (pc := 28) (dk dt_X12_bar 17 rfl) (ik rfl) ?_
            refine a_istore (pc := 29) (dk dt_X12_bar 18 rfl) (by decide) rfl rfl ?_
            refine a_aload_n (pc := 31) (dk dt_X12_bar 19 rfl) rfl ?_
            refine a_getr (r := 150) (pc := 32) (dk dt_X12_bar 20 rfl) cls_12 fl_RX12_286 cf_85_104 ?_
            refine a_bipush (pc := 35) (dk dt_X12_bar 21 rfl) (ik rfl) (bpk rfl) ?_
            refine a_iload_n (pc := 37) (dk dt_X12_bar 22 rfl) rfl ?_
            refine a_imul (pc := 38) (dk dt_X12_bar 23 rfl) ?_
            refine a_iload_n (pc := 39) (dk dt_X12_bar 24 rfl) rfl ?_
            refine a_iadd (pc := 40) (dk dt_X12_bar 25 rfl) ?_
            refine a_iload_n (pc := 41) (dk dt_X12_bar 26 rfl) rfl ?_
            refine a_zast (pc := 42) (dk dt_X12_bar 27 rfl) ar_151 ⟨H.1, H.2.1, ?_⟩
            replace H := H.2.2
            refine a_iload (pc := 43) (dk dt_X12_bar 28 rfl) rfl ?_
            exact a_iret (pc := 45) (dk dt_X12_bar 29 rfl) rfl rfl H
          · replace H := H.2 c
            refine a_iconst (pc := 24) (dk dt_X12_bar 15 rfl) (ik rfl) ?_
            refine a_goto (pc := 25) (dk dt_X12_bar 16 rfl) (tgt := 29) rfl ?_
            refine a_istore (pc := 29) (dk dt_X12_bar 18 rfl) (by decide) rfl rfl ?_
            refine a_aload_n (pc := 31) (dk dt_X12_bar 19 rfl) rfl ?_
            refine a_getr (r := 150) (pc := 32) (dk dt_X12_bar 20 rfl) cls_12 fl_RX12_286 cf_85_104 ?_
            refine a_bipush (pc := 35) (dk dt_X12_bar 21 rfl) (ik rfl) (bpk rfl) ?_
            refine a_iload_n (pc := 37) (dk dt_X12_bar 22 rfl) rfl ?_
            refine a_imul (pc := 38) (dk dt_X12_bar 23 rfl) ?_
            refine a_iload_n (pc := 39) (dk dt_X12_bar 24 rfl) rfl ?_
            refine a_iadd (pc := 40) (dk dt_X12_bar 25 rfl) ?_
            refine a_iload_n (pc := 41) (dk dt_X12_bar 26 rfl) rfl ?_
            refine a_zast (pc := 42) (dk dt_X12_bar 27 rfl) ar_151 ⟨H.1, H.2.1, ?_⟩
            replace H := H.2.2
            refine a_iload (pc := 43) (dk dt_X12_bar 28 rfl) rfl ?_
            exact a_iret (pc := 45) (dk dt_X12_bar 29 rfl) rfl rfl H
set_option maxHeartbeats 40000000 in
theorem U_X12_way_85_0 {G : GG} {Φ : Int → Hp → Prop} {h : Hp} {x1 : Int} {x2 : Int} {x3 : Int} {x4 : Int} (H : ((x1 < 0 → Φ (-1) h) ∧ (0 ≤ x1 → ((23 < x1 → Φ (-1) h) ∧ (x1 ≤ 23 → ((x2 < 0 → Φ (-1) h) ∧ (0 ≤ x2 → ((11 < x2 → Φ (-1) h) ∧ (x2 ≤ 11 → ((x3 < 0 → Φ (-1) h) ∧ (0 ≤ x3 → ((23 < x3 → Φ (-1) h) ∧ (x3 ≤ 23 → ((x4 < 0 → Φ (-1) h) ∧ (0 ≤ x4 → ((11 < x4 → Φ (-1) h) ∧ (x4 ≤ 11 → (0 ≤ (w32 ((w32 (24 * x2)) + x1)) ∧ (w32 ((w32 (24 * x2)) + x1)) < 288) ∧ (((h 151 (w32 ((w32 (24 * x2)) + x1))) ≠ 0 → Φ (-1) h) ∧ ((h 151 (w32 ((w32 (24 * x2)) + x1))) = 0 → (0 ≤ (w32 ((w32 (24 * x4)) + x3)) ∧ (w32 ((w32 (24 * x4)) + x3)) < 288) ∧ (((h 151 (w32 ((w32 (24 * x4)) + x3))) = 0 → AT G m_X12_way 61 [(0, rv 85), (5, iv (w32 ((w32 (24 * x2)) + x1))), (6, iv (w32 ((w32 (24 * x4)) + x3))), (7, iv 0)] [] h Φ) ∧ ((h 151 (w32 ((w32 (24 * x4)) + x3))) ≠ 0 → Φ (-1) h))))))))))))))))))))) : AT G m_X12_way 0 [(0, rv 85), (1, iv x1), (2, iv x2), (3, iv x3), (4, iv x4)] [] h Φ := by
  refine a_iload_n (pc := 0) (dk dt_X12_way 0 rfl) rfl ?_
  refine a_iload_n (pc := 1) (dk dt_X12_way 1 rfl) rfl ?_
  refine a_callSi (as := [iv x1, iv x2]) (st := []) (pc := 2) (dk dt_X12_way 2 rfl) cl_RX12_595 ⟨Nat.le_of_ble_eq_true rfl, Nat.le_of_ble_eq_true rfl⟩ ⟨Nat.le_of_ble_eq_true rfl, Nat.le_of_ble_eq_true rfl⟩ rfl rfl rfl (Nat.le_of_ble_eq_true rfl) (Call.of rfl (Nat.le_of_ble_eq_true rfl) rfl ?_)
  refine a_iload_n (pc := 0) (dk dt_X12_isField 0 rfl) rfl ?_
  refine a_iconst (pc := 1) (dk dt_X12_isField 1 rfl) (ik rfl) ?_
  refine a_bipush (pc := 2) (dk dt_X12_isField 2 rfl) (ik rfl) (bpk rfl) ?_
  refine a_callSi (as := [iv x1, iv 0, iv 23]) (st := []) (pc := 4) (dk dt_X12_isField 3 rfl) cl_RX12_302 ⟨Nat.le_of_ble_eq_true rfl, Nat.le_of_ble_eq_true rfl⟩ ⟨Nat.le_of_ble_eq_true rfl, Nat.le_of_ble_eq_true rfl⟩ rfl rfl rfl (Nat.le_of_ble_eq_true rfl) (Call.of rfl (Nat.le_of_ble_eq_true rfl) rfl ?_)
  refine a_iload_n (pc := 0) (dk dt_X12_is 0 rfl) rfl ?_
  refine a_iload_n (pc := 1) (dk dt_X12_is 1 rfl) rfl ?_
  refine a_icmp_lt (pc := 2) (dk dt_X12_is 2 rfl) (tgt := 14) rfl ⟨fun c => ?_, fun c => ?_⟩
  · replace H := H.1 c
    refine a_iconst (pc := 14) (dk dt_X12_is 8 rfl) (ik rfl) ?_
    refine a_zret (pc := 15) (dk dt_X12_is 9 rfl) rfl rfl ⟨by decide, ?_⟩
    show ATW _ _ _ _ _ _ _ _ _ _
    refine a_if_eq (pc := 7) (dk dt_X12_isField 4 rfl) (tgt := 24) rfl ⟨fun _ => ?_, fun c => absurd c (by decide)⟩
    refine a_iconst (pc := 24) (dk dt_X12_isField 12 rfl) (ik rfl) ?_
    refine a_zret (pc := 25) (dk dt_X12_isField 13 rfl) rfl rfl ⟨by decide, ?_⟩
    show ATW _ _ _ _ _ _ _ _ _ _
    refine a_if_eq (pc := 5) (dk dt_X12_way 3 rfl) (tgt := 17) rfl ⟨fun _ => ?_, fun c => absurd c (by decide)⟩
    refine a_iconst (pc := 17) (dk dt_X12_way 8 rfl) (ik rfl) ?_
    exact a_iret (pc := 18) (dk dt_X12_way 9 rfl) rfl rfl H
  · replace H := H.2 c
    refine a_iload_n (pc := 5) (dk dt_X12_is 3 rfl) rfl ?_
    refine a_iload_n (pc := 6) (dk dt_X12_is 4 rfl) rfl ?_
    refine a_icmp_gt (pc := 7) (dk dt_X12_is 5 rfl) (tgt := 14) rfl ⟨fun c => ?_, fun c => ?_⟩
    · replace H := H.1 c
      refine a_iconst (pc := 14) (dk dt_X12_is 8 rfl) (ik rfl) ?_
      refine a_zret (pc := 15) (dk dt_X12_is 9 rfl) rfl rfl ⟨by decide, ?_⟩
      show ATW _ _ _ _ _ _ _ _ _ _
      refine a_if_eq (pc := 7) (dk dt_X12_isField 4 rfl) (tgt := 24) rfl ⟨fun _ => ?_, fun c => absurd c (by decide)⟩
      refine a_iconst (pc := 24) (dk dt_X12_isField 12 rfl) (ik rfl) ?_
      refine a_zret (pc := 25) (dk dt_X12_isField 13 rfl) rfl rfl ⟨by decide, ?_⟩
      show ATW _ _ _ _ _ _ _ _ _ _
      refine a_if_eq (pc := 5) (dk dt_X12_way 3 rfl) (tgt := 17) rfl ⟨fun _ => ?_, fun c => absurd c (by decide)⟩
      refine a_iconst (pc := 17) (dk dt_X12_way 8 rfl) (ik rfl) ?_
      exact a_iret (pc := 18) (dk dt_X12_way 9 rfl) rfl rfl H
    · replace H := H.2 c
      refine a_iconst (pc := 10) (dk dt_X12_is 6 rfl) (ik rfl) ?_
      refine a_goto (pc := 11) (dk dt_X12_is 7 rfl) (tgt := 15) rfl ?_
      refine a_zret (pc := 15) (dk dt_X12_is 9 rfl) rfl rfl ⟨by decide, ?_⟩
      show ATW _ _ _ _ _ _ _ _ _ _
      refine a_if_eq (pc := 7) (dk dt_X12_isField 4 rfl) (tgt := 24) rfl ⟨fun c => absurd c (by decide), fun _ => ?_⟩
      refine a_iload_n (pc := 10) (dk dt_X12_isField 5 rfl) rfl ?_
      refine a_iconst (pc := 11) (dk dt_X12_isField 6 rfl) (ik rfl) ?_
      refine a_bipush (pc := 12) (dk dt_X12_isField 7 rfl) (ik rfl) (bpk rfl) ?_
      refine a_callSi (as := [iv x2, iv 0, iv 11]) (st := []) (pc := 14) (dk dt_X12_isField 8 rfl) cl_RX12_302 ⟨Nat.le_of_ble_eq_true rfl, Nat.le_of_ble_eq_true rfl⟩ ⟨Nat.le_of_ble_eq_true rfl, Nat.le_of_ble_eq_true rfl⟩ rfl rfl rfl (Nat.le_of_ble_eq_true rfl) (Call.of rfl (Nat.le_of_ble_eq_true rfl) rfl ?_)
      refine a_iload_n (pc := 0) (dk dt_X12_is 0 rfl) rfl ?_
      refine a_iload_n (pc := 1) (dk dt_X12_is 1 rfl) rfl ?_
      refine a_icmp_lt (pc := 2) (dk dt_X12_is 2 rfl) (tgt := 14) rfl ⟨fun c => ?_, fun c => ?_⟩
      · replace H := H.1 c
        refine a_iconst (pc := 14) (dk dt_X12_is 8 rfl) (ik rfl) ?_
        refine a_zret (pc := 15) (dk dt_X12_is 9 rfl) rfl rfl ⟨by decide, ?_⟩
        show ATW _ _ _ _ _ _ _ _ _ _
        refine a_if_eq (pc := 17) (dk dt_X12_isField 9 rfl) (tgt := 24) rfl ⟨fun _ => ?_, fun c => absurd c (by decide)⟩
        refine a_iconst (pc := 24) (dk dt_X12_isField 12 rfl) (ik rfl) ?_
        refine a_zret (pc := 25) (dk dt_X12_isField 13 rfl) rfl rfl ⟨by decide, ?_⟩
        show ATW _ _ _ _ _ _ _ _ _ _
        refine a_if_eq (pc := 5) (dk dt_X12_way 3 rfl) (tgt := 17) rfl ⟨fun _ => ?_, fun c => absurd c (by decide)⟩
        refine a_iconst (pc := 17) (dk dt_X12_way 8 rfl) (ik rfl) ?_
        exact a_iret (pc := 18) (dk dt_X12_way 9 rfl) rfl rfl H
      · replace H := H.2 c
        refine a_iload_n (pc := 5) (dk dt_X12_is 3 rfl) rfl ?_
        refine a_iload_n (pc := 6) (dk dt_X12_is 4 rfl) rfl ?_
        refine a_icmp_gt (pc := 7) (dk dt_X12_is 5 rfl) (tgt := 14) rfl ⟨fun c => ?_, fun c => ?_⟩
        · replace H := H.1 c
          refine a_iconst (pc := 14) (dk dt_X12_is 8 rfl) (ik rfl) ?_
          refine a_zret (pc := 15) (dk dt_X12_is 9 rfl) rfl rfl ⟨by decide, ?_⟩
          show ATW _ _ _ _ _ _ _ _ _ _
          refine a_if_eq (pc := 17) (dk dt_X12_isField 9 rfl) (tgt := 24) rfl ⟨fun _ => ?_, fun c => absurd c (by decide)⟩
          refine a_iconst (pc := 24) (dk dt_X12_isField 12 rfl) (ik rfl) ?_
          refine a_zret (pc := 25) (dk dt_X12_isField 13 rfl) rfl rfl ⟨by decide, ?_⟩
          show ATW _ _ _ _ _ _ _ _ _ _
          refine a_if_eq (pc := 5) (dk dt_X12_way 3 rfl) (tgt := 17) rfl ⟨fun _ => ?_, fun c => absurd c (by decide)⟩
          refine a_iconst (pc := 17) (dk dt_X12_way 8 rfl) (ik rfl) ?_
          exact a_iret (pc := 18) (dk dt_X12_way 9 rfl) rfl rfl H
        · replace H := H.2 c
          refine a_iconst (pc := 10) (dk dt_X12_is 6 rfl) (ik rfl) ?_
          refine a_goto (pc := 11) (dk dt_X12_is 7 rfl) (tgt := 15) rfl ?_
          refine a_zret (pc := 15) (dk dt_X12_is 9 rfl) rfl rfl ⟨by decide, ?_⟩
          show ATW _ _ _ _ _ _ _ _ _ _
          refine a_if_eq (pc := 17) (dk dt_X12_isField 9 rfl) (tgt := 24) rfl ⟨fun c => absurd c (by decide), fun _ => ?_⟩
          refine a_iconst (pc := 20) (dk dt_X12_isField 10 rfl) (ik rfl) ?_
          refine a_goto (pc := 21) (dk dt_X12_isField 11 rfl) (tgt := 25) rfl ?_
          refine a_zret (pc := 25) (dk dt_X12_isField 13 rfl) rfl rfl ⟨by decide, ?_⟩
          show ATW _ _ _ _ _ _ _ _ _ _
          refine a_if_eq (pc := 5) (dk dt_X12_way 3 rfl) (tgt := 17) rfl ⟨fun c => absurd c (by decide), fun _ => ?_⟩
          refine a_iload_n (pc := 8) (dk dt_X12_way 4 rfl) rfl ?_
          refine a_iload (pc := 9) (dk dt_X12_way 5 rfl) rfl ?_
          refine a_callSi (as := [iv x3, iv x4]) (st := []) (pc := 11) (dk dt_X12_way 6 rfl) cl_RX12_595 ⟨Nat.le_of_ble_eq_true rfl, Nat.le_of_ble_eq_true rfl⟩ ⟨Nat.le_of_ble_eq_true rfl, Nat.le_of_ble_eq_true rfl⟩ rfl rfl rfl (Nat.le_of_ble_eq_true rfl) (Call.of rfl (Nat.le_of_ble_eq_true rfl) rfl ?_)
          refine a_iload_n (pc := 0) (dk dt_X12_isField 0 rfl) rfl ?_
          refine a_iconst (pc := 1) (dk dt_X12_isField 1 rfl) (ik rfl) ?_
          refine a_bipush (pc := 2) (dk dt_X12_isField 2 rfl) (ik rfl) (bpk rfl) ?_
          refine a_callSi (as := [iv x3, iv 0, iv 23]) (st := []) (pc := 4) (dk dt_X12_isField 3 rfl) cl_RX12_302 ⟨Nat.le_of_ble_eq_true rfl, Nat.le_of_ble_eq_true rfl⟩ ⟨Nat.le_of_ble_eq_true rfl, Nat.le_of_ble_eq_true rfl⟩ rfl rfl rfl (Nat.le_of_ble_eq_true rfl) (Call.of rfl (Nat.le_of_ble_eq_true rfl) rfl ?_)
          refine a_iload_n (pc := 0) (dk dt_X12_is 0 rfl) rfl ?_
          refine a_iload_n (pc := 1) (dk dt_X12_is 1 rfl) rfl ?_
          refine a_icmp_lt (pc := 2) (dk dt_X12_is 2 rfl) (tgt := 14) rfl ⟨fun c => ?_, fun c => ?_⟩
          · replace H := H.1 c
            refine a_iconst (pc := 14) (dk dt_X12_is 8 rfl) (ik rfl) ?_
            refine a_zret (pc := 15) (dk dt_X12_is 9 rfl) rfl rfl ⟨by decide, ?_⟩
            show ATW _ _ _ _ _ _ _ _ _ _
            refine a_if_eq (pc := 7) (dk dt_X12_isField 4 rfl) (tgt := 24) rfl ⟨fun _ => ?_, fun c => absurd c (by decide)⟩
            refine a_iconst (pc := 24) (dk dt_X12_isField 12 rfl) (ik rfl) ?_
            refine a_zret (pc := 25) (dk dt_X12_isField 13 rfl) rfl rfl ⟨by decide, ?_⟩
            show ATW _ _ _ _ _ _ _ _ _ _
            refine a_if_ne (pc := 14) (dk dt_X12_way 7 rfl) (tgt := 19) rfl ⟨fun c => absurd c (by decide), fun _ => ?_⟩
            refine a_iconst (pc := 17) (dk dt_X12_way 8 rfl) (ik rfl) ?_
            exact a_iret (pc := 18) (dk dt_X12_way 9 rfl) rfl rfl H
          · replace H := H.2 c
            refine a_iload_n (pc := 5) (dk dt_X12_is 3 rfl) rfl ?_
            refine a_iload_n (pc := 6) (dk dt_X12_is 4 rfl) rfl ?_
            refine a_icmp_gt (pc := 7) (dk dt_X12_is 5 rfl) (tgt := 14) rfl ⟨fun c => ?_, fun c => ?_⟩
            · replace H := H.1 c
              refine a_iconst (pc := 14) (dk dt_X12_is 8 rfl) (ik rfl) ?_
              refine a_zret (pc := 15) (dk dt_X12_is 9 rfl) rfl rfl ⟨by decide, ?_⟩
              show ATW _ _ _ _ _ _ _ _ _ _
              refine a_if_eq (pc := 7) (dk dt_X12_isField 4 rfl) (tgt := 24) rfl ⟨fun _ => ?_, fun c => absurd c (by decide)⟩
              refine a_iconst (pc := 24) (dk dt_X12_isField 12 rfl) (ik rfl) ?_
              refine a_zret (pc := 25) (dk dt_X12_isField 13 rfl) rfl rfl ⟨by decide, ?_⟩
              show ATW _ _ _ _ _ _ _ _ _ _
              refine a_if_ne (pc := 14) (dk dt_X12_way 7 rfl) (tgt := 19) rfl ⟨fun c => absurd c (by decide), fun _ => ?_⟩
              refine a_iconst (pc := 17) (dk dt_X12_way 8 rfl) (ik rfl) ?_
              exact a_iret (pc := 18) (dk dt_X12_way 9 rfl) rfl rfl H
            · replace H := H.2 c
              refine a_iconst (pc := 10) (dk dt_X12_is 6 rfl) (ik rfl) ?_
              refine a_goto (pc := 11) (dk dt_X12_is 7 rfl) (tgt := 15) rfl ?_
              refine a_zret (pc := 15) (dk dt_X12_is 9 rfl) rfl rfl ⟨by decide, ?_⟩
              show ATW _ _ _ _ _ _ _ _ _ _
              refine a_if_eq (pc := 7) (dk dt_X12_isField 4 rfl) (tgt := 24) rfl ⟨fun c => absurd c (by decide), fun _ => ?_⟩
              refine a_iload_n (pc := 10) (dk dt_X12_isField 5 rfl) rfl ?_
              refine a_iconst (pc := 11) (dk dt_X12_isField 6 rfl) (ik rfl) ?_
              refine a_bipush (pc := 12) (dk dt_X12_isField 7 rfl) (ik rfl) (bpk rfl) ?_
              refine a_callSi (as := [iv x4, iv 0, iv 11]) (st := []) (pc := 14) (dk dt_X12_isField 8 rfl) cl_RX12_302 ⟨Nat.le_of_ble_eq_true rfl, Nat.le_of_ble_eq_true rfl⟩ ⟨Nat.le_of_ble_eq_true rfl, Nat.le_of_ble_eq_true rfl⟩ rfl rfl rfl (Nat.le_of_ble_eq_true rfl) (Call.of rfl (Nat.le_of_ble_eq_true rfl) rfl ?_)
              refine a_iload_n (pc := 0) (dk dt_X12_is 0 rfl) rfl ?_
              refine a_iload_n (pc := 1) (dk dt_X12_is 1 rfl) rfl ?_
              refine a_icmp_lt (pc := 2) (dk dt_X12_is 2 rfl) (tgt := 14) rfl ⟨fun c => ?_, fun c => ?_⟩
              · replace H := H.1 c
                refine a_iconst (pc := 14) (dk dt_X12_is 8 rfl) (ik rfl) ?_
                refine a_zret (pc := 15) (dk dt_X12_is 9 rfl) rfl rfl ⟨by decide, ?_⟩
                show ATW _ _ _ _ _ _ _ _ _ _
                refine a_if_eq (pc := 17) (dk dt_X12_isField 9 rfl) (tgt := 24) rfl ⟨fun _ => ?_, fun c => absurd c (by decide)⟩
                refine a_iconst (pc := 24) (dk dt_X12_isField 12 rfl) (ik rfl) ?_
                refine a_zret (pc := 25) (dk dt_X12_isField 13 rfl) rfl rfl ⟨by decide, ?_⟩
                show ATW _ _ _ _ _ _ _ _ _ _
                refine a_if_ne (pc := 14) (dk dt_X12_way 7 rfl) (tgt := 19) rfl ⟨fun c => absurd c (by decide), fun _ => ?_⟩
                refine a_iconst (pc := 17) (dk dt_X12_way 8 rfl) (ik rfl) ?_
                exact a_iret (pc := 18) (dk dt_X12_way 9 rfl) rfl rfl H
              · replace H := H.2 c
                refine a_iload_n (pc := 5) (dk dt_X12_is 3 rfl) rfl ?_
                refine a_iload_n (pc := 6) (dk dt_X12_is 4 rfl) rfl ?_
                refine a_icmp_gt (pc := 7) (dk dt_X12_is 5 rfl) (tgt := 14) rfl ⟨fun c => ?_, fun c => ?_⟩
                · replace H := H.1 c
                  refine a_iconst (pc := 14) (dk dt_X12_is 8 rfl) (ik rfl) ?_
                  refine a_zret (pc := 15) (dk dt_X12_is 9 rfl) rfl rfl ⟨by decide, ?_⟩
                  show ATW _ _ _ _ _ _ _ _ _ _
                  refine a_if_eq (pc := 17) (dk dt_X12_isField 9 rfl) (tgt := 24) rfl ⟨fun _ => ?_, fun c => absurd c (by decide)⟩
                  refine a_iconst (pc := 24) (dk dt_X12_isField 12 rfl) (ik rfl) ?_
                  refine a_zret (pc := 25) (dk dt_X12_isField 13 rfl) rfl rfl ⟨by decide, ?_⟩
                  show ATW _ _ _ _ _ _ _ _ _ _
                  refine a_if_ne (pc := 14) (dk dt_X12_way 7 rfl) (tgt := 19) rfl ⟨fun c => absurd c (by decide), fun _ => ?_⟩
                  refine a_iconst (pc := 17) (dk dt_X12_way 8 rfl) (ik rfl) ?_
                  exact a_iret (pc := 18) (dk dt_X12_way 9 rfl) rfl rfl H
                · replace H := H.2 c
                  refine a_iconst (pc := 10) (dk dt_X12_is 6 rfl) (ik rfl) ?_
                  refine a_goto (pc := 11) (dk dt_X12_is 7 rfl) (tgt := 15) rfl ?_
                  refine a_zret (pc := 15) (dk dt_X12_is 9 rfl) rfl rfl ⟨by decide, ?_⟩
                  show ATW _ _ _ _ _ _ _ _ _ _
                  refine a_if_eq (pc := 17) (dk dt_X12_isField 9 rfl) (tgt := 24) rfl ⟨fun c => absurd c (by decide), fun _ => ?_⟩
                  refine a_iconst (pc := 20) (dk dt_X12_isField 10 rfl) (ik rfl) ?_
                  refine a_goto (pc := 21) (dk dt_X12_isField 11 rfl) (tgt := 25) rfl ?_
                  refine a_zret (pc := 25) (dk dt_X12_isField 13 rfl) rfl rfl ⟨by decide, ?_⟩
                  show ATW _ _ _ _ _ _ _ _ _ _
                  refine a_if_ne (pc := 14) (dk dt_X12_way 7 rfl) (tgt := 19) rfl ⟨fun _ => ?_, fun c => absurd c (by decide)⟩
                  refine a_bipush (pc := 19) (dk dt_X12_way 10 rfl) (ik rfl) (bpk rfl) ?_
                  refine a_iload_n (pc := 21) (dk dt_X12_way 11 rfl) rfl ?_
                  refine a_imul (pc := 22) (dk dt_X12_way 12 rfl) ?_
                  refine a_iload_n (pc := 23) (dk dt_X12_way 13 rfl) rfl ?_
                  refine a_iadd (pc := 24) (dk dt_X12_way 14 rfl) ?_
                  refine a_istore (pc := 25) (dk dt_X12_way 15 rfl) (by decide) rfl rfl ?_
                  refine a_bipush (pc := 27) (dk dt_X12_way 16 rfl) (ik rfl) (bpk rfl) ?_
                  refine a_iload (pc := 29) (dk dt_X12_way 17 rfl) rfl ?_
                  refine a_imul (pc := 31) (dk dt_X12_way 18 rfl) ?_
                  refine a_iload_n (pc := 32) (dk dt_X12_way 19 rfl) rfl ?_
                  refine a_iadd (pc := 33) (dk dt_X12_way 20 rfl) ?_
                  refine a_istore (pc := 34) (dk dt_X12_way 21 rfl) (by decide) rfl rfl ?_
                  refine a_aload_n (pc := 36) (dk dt_X12_way 22 rfl) rfl ?_
                  refine a_getr (r := 150) (pc := 37) (dk dt_X12_way 23 rfl) cls_12 fl_RX12_286 cf_85_104 ?_
                  refine a_iload (pc := 40) (dk dt_X12_way 24 rfl) rfl ?_
                  refine a_zald (pc := 42) (dk dt_X12_way 25 rfl) ar_151 ⟨H.1, ?_⟩
                  replace H := H.2
                  refine a_if_ne (pc := 43) (dk dt_X12_way 26 rfl) (tgt := 56) rfl ⟨fun c => ?_, fun c => ?_⟩
                  · replace H := H.1 c
                    refine a_iconst (pc := 56) (dk dt_X12_way 32 rfl) (ik rfl) ?_
                    exact a_iret (pc := 57) (dk dt_X12_way 33 rfl) rfl rfl H
                  · replace H := H.2 c
                    refine a_aload_n (pc := 46) (dk dt_X12_way 27 rfl) rfl ?_
                    refine a_getr (r := 150) (pc := 47) (dk dt_X12_way 28 rfl) cls_12 fl_RX12_286 cf_85_104 ?_
                    refine a_iload (pc := 50) (dk dt_X12_way 29 rfl) rfl ?_
                    refine a_zald (pc := 52) (dk dt_X12_way 30 rfl) ar_151 ⟨H.1, ?_⟩
                    replace H := H.2
                    refine a_if_eq (pc := 53) (dk dt_X12_way 31 rfl) (tgt := 58) rfl ⟨fun c => ?_, fun c => ?_⟩
                    · replace H := H.1 c
                      refine a_iconst (pc := 58) (dk dt_X12_way 34 rfl) (ik rfl) ?_
                      refine a_istore (pc := 59) (dk dt_X12_way 35 rfl) (by decide) rfl rfl ?_
                      exact a_pick [0, 5, 6, 7] rfl H
                    · replace H := H.2 c
                      refine a_iconst (pc := 56) (dk dt_X12_way 32 rfl) (ik rfl) ?_
                      exact a_iret (pc := 57) (dk dt_X12_way 33 rfl) rfl rfl H
set_option maxHeartbeats 40000000 in
theorem U_X12_way_85_61 {G : GG} {Φ : Int → Hp → Prop} {h : Hp} {x5 : Int} {x6 : Int} {x7 : Int} (H : ((288 ≤ x7 → (0 ≤ x6 ∧ x6 < 288) ∧ AT G m_X12_way 97 [(0, rv 85), (5, iv x5), (6, iv x6), (7, iv 1), (8, iv 0)] [] (up h 152 x6 0) Φ) ∧ (x7 < 288 → (0 ≤ x7 ∧ x7 < 288) ∧ AT G m_X12_way 61 [(0, rv 85), (5, iv x5), (6, iv x6), (7, iv (w32 (x7 + 1)))] [] (up h 152 x7 (-1)) Φ))) : AT G m_X12_way 61 [(0, rv 85), (5, iv x5), (6, iv x6), (7, iv x7)] [] h Φ := by
  refine a_iload (pc := 61) (dk dt_X12_way 36 rfl) rfl ?_
  refine a_sipush (pc := 63) (dk dt_X12_way 37 rfl) (ik rfl) (spk rfl) ?_
  refine a_icmp_ge (pc := 66) (dk dt_X12_way 38 rfl) (tgt := 83) rfl ⟨fun c => ?_, fun c => ?_⟩
  · replace H := H.1 c
    refine a_aload_n (pc := 83) (dk dt_X12_way 46 rfl) rfl ?_
    refine a_getr (r := 151) (pc := 84) (dk dt_X12_way 47 rfl) cls_12 fl_RX12_289 cf_85_105 ?_
    refine a_iload (pc := 87) (dk dt_X12_way 48 rfl) rfl ?_
    refine a_iconst (pc := 89) (dk dt_X12_way 49 rfl) (ik rfl) ?_
    refine a_iast (pc := 90) (dk dt_X12_way 50 rfl) ar_152 ⟨H.1, ?_⟩
    replace H := H.2
    refine a_iconst (pc := 91) (dk dt_X12_way 51 rfl) (ik rfl) ?_
    refine a_istore (pc := 92) (dk dt_X12_way 52 rfl) (by decide) rfl rfl ?_
    refine a_iconst (pc := 94) (dk dt_X12_way 53 rfl) (ik rfl) ?_
    refine a_istore (pc := 95) (dk dt_X12_way 54 rfl) (by decide) rfl rfl ?_
    exact a_pick [0, 1, 2, 3, 4] rfl H
  · replace H := H.2 c
    refine a_aload_n (pc := 69) (dk dt_X12_way 39 rfl) rfl ?_
    refine a_getr (r := 151) (pc := 70) (dk dt_X12_way 40 rfl) cls_12 fl_RX12_289 cf_85_105 ?_
    refine a_iload (pc := 73) (dk dt_X12_way 41 rfl) rfl ?_
    refine a_iconst (pc := 75) (dk dt_X12_way 42 rfl) (ik rfl) ?_
    refine a_iast (pc := 76) (dk dt_X12_way 43 rfl) ar_152 ⟨H.1, ?_⟩
    replace H := H.2
    refine a_iinc (pc := 77) (dk dt_X12_way 44 rfl) (by decide) rfl rfl rfl ?_
    refine a_goto (pc := 80) (dk dt_X12_way 45 rfl) (tgt := 61) rfl ?_
    exact a_pick [0, 1, 2, 3] rfl H
set_option maxHeartbeats 40000000 in
theorem U_X12_way_85_97 {G : GG} {Φ : Int → Hp → Prop} {h : Hp} {x5 : Int} {x6 : Int} {x7 : Int} {x8 : Int} (H : ((x7 = 0 → (0 ≤ x5 ∧ x5 < 288) ∧ (((h 152 x5) ≠ (-1) → (0 ≤ x5 ∧ x5 < 288) ∧ AT G m_X12_way 238 [(0, rv 85), (5, iv x5), (6, iv x6), (8, iv (h 152 x5))] [] (up h 85 7 0) Φ) ∧ ((h 152 x5) = (-1) → Φ (-1) h))) ∧ (x7 ≠ 0 → AT G m_X12_way 108 [(0, rv 85), (5, iv x5), (6, iv x6), (7, iv 0), (8, iv x8), (9, iv 0)] [] h Φ))) : AT G m_X12_way 97 [(0, rv 85), (5, iv x5), (6, iv x6), (7, iv x7), (8, iv x8)] [] h Φ := by
  refine a_iload (pc := 97) (dk dt_X12_way 55 rfl) rfl ?_
  refine a_if_eq (pc := 99) (dk dt_X12_way 56 rfl) (tgt := 211) rfl ⟨fun c => ?_, fun c => ?_⟩
  · replace H := H.1 c
    refine a_aload_n (pc := 211) (dk dt_X12_way 110 rfl) rfl ?_
    refine a_getr (r := 151) (pc := 212) (dk dt_X12_way 111 rfl) cls_12 fl_RX12_289 cf_85_105 ?_
    refine a_iload (pc := 215) (dk dt_X12_way 112 rfl) rfl ?_
    refine a_iald (pc := 217) (dk dt_X12_way 113 rfl) ar_152 ⟨H.1, ?_⟩
    replace H := H.2
    refine a_iconst (pc := 218) (dk dt_X12_way 114 rfl) (ik rfl) ?_
    refine a_icmp_ne (pc := 219) (dk dt_X12_way 115 rfl) (tgt := 224) rfl ⟨fun c => ?_, fun c => ?_⟩
    · replace H := H.1 c
      refine a_aload_n (pc := 224) (dk dt_X12_way 118 rfl) rfl ?_
      refine a_getr (r := 151) (pc := 225) (dk dt_X12_way 119 rfl) cls_12 fl_RX12_289 cf_85_105 ?_
      refine a_iload (pc := 228) (dk dt_X12_way 120 rfl) rfl ?_
      refine a_iald (pc := 230) (dk dt_X12_way 121 rfl) ar_152 ⟨H.1, ?_⟩
      replace H := H.2
      refine a_istore (pc := 231) (dk dt_X12_way 122 rfl) (by decide) rfl rfl ?_
      refine a_aload_n (pc := 233) (dk dt_X12_way 123 rfl) rfl ?_
      refine a_iconst (pc := 234) (dk dt_X12_way 124 rfl) (ik rfl) ?_
      refine a_puti (pc := 235) (dk dt_X12_way 125 rfl) cls_12 fl_RX12_299 cf_85_7 rfl rfl ?_
      exact a_pick [0, 1, 2, 4] rfl H
    · replace H := H.2 c
      refine a_iconst (pc := 222) (dk dt_X12_way 116 rfl) (ik rfl) ?_
      exact a_iret (pc := 223) (dk dt_X12_way 117 rfl) rfl rfl H
  · replace H := H.2 c
    refine a_iconst (pc := 102) (dk dt_X12_way 57 rfl) (ik rfl) ?_
    refine a_istore (pc := 103) (dk dt_X12_way 58 rfl) (by decide) rfl rfl ?_
    refine a_iconst (pc := 105) (dk dt_X12_way 59 rfl) (ik rfl) ?_
    refine a_istore (pc := 106) (dk dt_X12_way 60 rfl) (by decide) rfl rfl ?_
    exact a_pick [0, 1, 2, 3, 4, 5] rfl H
set_option maxHeartbeats 40000000 in
theorem U_X12_way_85_238 {G : GG} {Φ : Int → Hp → Prop} {h : Hp} {x5 : Int} {x6 : Int} {x8 : Int} (H : ((x5 = x6 → Φ x8 h) ∧ (x5 ≠ x6 → AT G m_X12_way 248 [(0, rv 85), (5, iv x5), (6, iv x6), (8, iv x8), (9, iv 0)] [] h Φ))) : AT G m_X12_way 238 [(0, rv 85), (5, iv x5), (6, iv x6), (8, iv x8)] [] h Φ := by
  refine a_iload (pc := 238) (dk dt_X12_way 126 rfl) rfl ?_
  refine a_iload (pc := 240) (dk dt_X12_way 127 rfl) rfl ?_
  refine a_icmp_eq (pc := 242) (dk dt_X12_way 128 rfl) (tgt := 354) rfl ⟨fun c => ?_, fun c => ?_⟩
  · replace H := H.1 c
    refine a_iload (pc := 354) (dk dt_X12_way 180 rfl) rfl ?_
    exact a_iret (pc := 356) (dk dt_X12_way 181 rfl) rfl rfl H
  · replace H := H.2 c
    refine a_iconst (pc := 245) (dk dt_X12_way 129 rfl) (ik rfl) ?_
    refine a_istore (pc := 246) (dk dt_X12_way 130 rfl) (by decide) rfl rfl ?_
    exact a_pick [0, 1, 2, 3, 4] rfl H
set_option maxHeartbeats 40000000 in
theorem U_X12_way_85_108 {G : GG} {Φ : Int → Hp → Prop} {h : Hp} {x5 : Int} {x6 : Int} {x7 : Int} {x8 : Int} {x9 : Int} (H : ((288 ≤ x9 → AT G m_X12_way 97 [(0, rv 85), (5, iv x5), (6, iv x6), (7, iv x7), (8, iv (w32 (x8 + 1)))] [] h Φ) ∧ (x9 < 288 → (0 ≤ x9 ∧ x9 < 288) ∧ (((h 152 x9) = x8 → AT G m_X12_way 134 [(0, rv 85), (5, iv x5), (6, iv x6), (7, iv x7), (8, iv x8), (9, iv x9), (10, iv 0)] [] h Φ) ∧ ((h 152 x9) ≠ x8 → AT G m_X12_way 108 [(0, rv 85), (5, iv x5), (6, iv x6), (7, iv x7), (8, iv x8), (9, iv (w32 (x9 + 1)))] [] h Φ))))) : AT G m_X12_way 108 [(0, rv 85), (5, iv x5), (6, iv x6), (7, iv x7), (8, iv x8), (9, iv x9)] [] h Φ := by
  refine a_iload (pc := 108) (dk dt_X12_way 61 rfl) rfl ?_
  refine a_sipush (pc := 110) (dk dt_X12_way 62 rfl) (ik rfl) (spk rfl) ?_
  refine a_icmp_ge (pc := 113) (dk dt_X12_way 63 rfl) (tgt := 205) rfl ⟨fun c => ?_, fun c => ?_⟩
  · replace H := H.1 c
    refine a_iinc (pc := 205) (dk dt_X12_way 108 rfl) (by decide) rfl rfl rfl ?_
    refine a_goto (pc := 208) (dk dt_X12_way 109 rfl) (tgt := 97) rfl ?_
    exact a_pick [0, 1, 2, 3, 4] rfl H
  · replace H := H.2 c
    refine a_aload_n (pc := 116) (dk dt_X12_way 64 rfl) rfl ?_
    refine a_getr (r := 151) (pc := 117) (dk dt_X12_way 65 rfl) cls_12 fl_RX12_289 cf_85_105 ?_
    refine a_iload (pc := 120) (dk dt_X12_way 66 rfl) rfl ?_
    refine a_iald (pc := 122) (dk dt_X12_way 67 rfl) ar_152 ⟨H.1, ?_⟩
    replace H := H.2
    refine a_iload (pc := 123) (dk dt_X12_way 68 rfl) rfl ?_
    refine a_icmp_eq (pc := 125) (dk dt_X12_way 69 rfl) (tgt := 131) rfl ⟨fun c => ?_, fun c => ?_⟩
    · replace H := H.1 c
      refine a_iconst (pc := 131) (dk dt_X12_way 71 rfl) (ik rfl) ?_
      refine a_istore (pc := 132) (dk dt_X12_way 72 rfl) (by decide) rfl rfl ?_
      exact a_pick [0, 1, 2, 3, 4, 5, 6] rfl H
    · replace H := H.2 c
      refine a_goto (pc := 128) (dk dt_X12_way 70 rfl) (tgt := 199) rfl ?_
      refine a_iinc (pc := 199) (dk dt_X12_way 106 rfl) (by decide) rfl rfl rfl ?_
      refine a_goto (pc := 202) (dk dt_X12_way 107 rfl) (tgt := 108) rfl ?_
      exact a_pick [0, 1, 2, 3, 4, 5] rfl H
set_option maxHeartbeats 40000000 in
theorem U_X12_way_85_248 {G : GG} {Φ : Int → Hp → Prop} {h : Hp} {x5 : Int} {x6 : Int} {x8 : Int} {x9 : Int} (H : Call G m_X12_beside [iv x5, iv x9] h (fun r1 h2 => ((r1 = (-1) → AT G m_X12_way 248 [(0, rv 85), (5, iv x5), (6, iv x6), (8, iv x8), (9, iv (w32 (x9 + 1)))] [] h2 Φ) ∧ (r1 ≠ (-1) → Call G m_X12_beside [iv x5, iv x9] h2 (fun r3 h4 => (0 ≤ r3 ∧ r3 < 288) ∧ (0 ≤ x5 ∧ x5 < 288) ∧ (((h4 152 r3) ≠ (w32 ((h4 152 x5) - 1)) → AT G m_X12_way 248 [(0, rv 85), (5, iv x5), (6, iv x6), (8, iv x8), (9, iv (w32 (x9 + 1)))] [] h4 Φ) ∧ ((h4 152 r3) = (w32 ((h4 152 x5) - 1)) → Call G m_X12_beside [iv x5, iv x9] h4 (fun r5 h6 => (0 ≤ r5 ∧ r5 < 288) ∧ (((h6 151 r5) = 0 → ((x9 ≠ 0 → ((x9 ≠ 1 → ((x9 ≠ 2 → Call G m_X12_add [rv 85, iv 100] h6 (fun _ h8 => Call G m_X12_beside [iv x5, iv x9] h8 (fun r9 h10 => AT G m_X12_way 238 [(0, rv 85), (5, iv r9), (6, iv x6), (8, iv x8)] [] h10 Φ))) ∧ (x9 = 2 → Call G m_X12_add [rv 85, iv 114] h6 (fun _ h12 => Call G m_X12_beside [iv x5, iv x9] h12 (fun r13 h14 => AT G m_X12_way 238 [(0, rv 85), (5, iv r13), (6, iv x6), (8, iv x8)] [] h14 Φ))))) ∧ (x9 = 1 → Call G m_X12_add [rv 85, iv 108] h6 (fun _ h16 => Call G m_X12_beside [iv x5, iv x9] h16 (fun r17 h18 => AT G m_X12_way 238 [(0, rv 85), (5, iv r17), (6, iv x6), (8, iv x8)] [] h18 Φ))))) ∧ (x9 = 0 → Call G m_X12_add [rv 85, iv 117] h6 (fun _ h20 => Call G m_X12_beside [iv x5, iv x9] h20 (fun r21 h22 => AT G m_X12_way 238 [(0, rv 85), (5, iv r21), (6, iv x6), (8, iv x8)] [] h22 Φ))))) ∧ ((h6 151 r5) ≠ 0 → AT G m_X12_way 248 [(0, rv 85), (5, iv x5), (6, iv x6), (8, iv x8), (9, iv (w32 (x9 + 1)))] [] h6 Φ)))))))))) : AT G m_X12_way 248 [(0, rv 85), (5, iv x5), (6, iv x6), (8, iv x8), (9, iv x9)] [] h Φ := by
  refine a_iload (pc := 248) (dk dt_X12_way 131 rfl) rfl ?_
  refine a_iload (pc := 250) (dk dt_X12_way 132 rfl) rfl ?_
  refine a_callSi (as := [iv x5, iv x9]) (st := []) (pc := 252) (dk dt_X12_way 133 rfl) cl_RX12_598 ⟨Nat.le_of_ble_eq_true rfl, Nat.le_of_ble_eq_true rfl⟩ ⟨Nat.le_of_ble_eq_true rfl, Nat.le_of_ble_eq_true rfl⟩ rfl rfl rfl (Nat.le_of_ble_eq_true rfl) (Call.mono H fun r1 h2 H => ?_)
  refine a_iconst (pc := 255) (dk dt_X12_way 134 rfl) (ik rfl) ?_
  refine a_icmp_eq (pc := 256) (dk dt_X12_way 135 rfl) (tgt := 298) rfl ⟨fun c => ?_, fun c => ?_⟩
  · replace H := H.1 c
    refine a_iinc (pc := 298) (dk dt_X12_way 156 rfl) (by decide) rfl rfl rfl ?_
    refine a_goto (pc := 301) (dk dt_X12_way 157 rfl) (tgt := 248) rfl ?_
    exact a_pick [0, 1, 2, 3, 4] rfl H
  · replace H := H.2 c
    refine a_aload_n (pc := 259) (dk dt_X12_way 136 rfl) rfl ?_
    refine a_getr (r := 151) (pc := 260) (dk dt_X12_way 137 rfl) cls_12 fl_RX12_289 cf_85_105 ?_
    refine a_iload (pc := 263) (dk dt_X12_way 138 rfl) rfl ?_
    refine a_iload (pc := 265) (dk dt_X12_way 139 rfl) rfl ?_
    refine a_callSi (as := [iv x5, iv x9]) (st := [rv 152]) (pc := 267) (dk dt_X12_way 140 rfl) cl_RX12_598 ⟨Nat.le_of_ble_eq_true rfl, Nat.le_of_ble_eq_true rfl⟩ ⟨Nat.le_of_ble_eq_true rfl, Nat.le_of_ble_eq_true rfl⟩ rfl rfl rfl (Nat.le_of_ble_eq_true rfl) (Call.mono H fun r3 h4 H => ?_)
    refine a_iald (pc := 270) (dk dt_X12_way 141 rfl) ar_152 ⟨H.1, ?_⟩
    replace H := H.2
    refine a_aload_n (pc := 271) (dk dt_X12_way 142 rfl) rfl ?_
    refine a_getr (r := 151) (pc := 272) (dk dt_X12_way 143 rfl) cls_12 fl_RX12_289 cf_85_105 ?_
    refine a_iload (pc := 275) (dk dt_X12_way 144 rfl) rfl ?_
    refine a_iald (pc := 277) (dk dt_X12_way 145 rfl) ar_152 ⟨H.1, ?_⟩
    replace H := H.2
    refine a_iconst (pc := 278) (dk dt_X12_way 146 rfl) (ik rfl) ?_
    refine a_isub (pc := 279) (dk dt_X12_way 147 rfl) ?_
    refine a_icmp_ne (pc := 280) (dk dt_X12_way 148 rfl) (tgt := 298) rfl ⟨fun c => ?_, fun c => ?_⟩
    · replace H := H.1 c
      refine a_iinc (pc := 298) (dk dt_X12_way 156 rfl) (by decide) rfl rfl rfl ?_
      refine a_goto (pc := 301) (dk dt_X12_way 157 rfl) (tgt := 248) rfl ?_
      exact a_pick [0, 1, 2, 3, 4] rfl H
    · replace H := H.2 c
      refine a_aload_n (pc := 283) (dk dt_X12_way 149 rfl) rfl ?_
      refine a_getr (r := 150) (pc := 284) (dk dt_X12_way 150 rfl) cls_12 fl_RX12_286 cf_85_104 ?_
      refine a_iload (pc := 287) (dk dt_X12_way 151 rfl) rfl ?_
      refine a_iload (pc := 289) (dk dt_X12_way 152 rfl) rfl ?_
      refine a_callSi (as := [iv x5, iv x9]) (st := [rv 151]) (pc := 291) (dk dt_X12_way 153 rfl) cl_RX12_598 ⟨Nat.le_of_ble_eq_true rfl, Nat.le_of_ble_eq_true rfl⟩ ⟨Nat.le_of_ble_eq_true rfl, Nat.le_of_ble_eq_true rfl⟩ rfl rfl rfl (Nat.le_of_ble_eq_true rfl) (Call.mono H fun r5 h6 H => ?_)
      refine a_zald (pc := 294) (dk dt_X12_way 154 rfl) ar_151 ⟨H.1, ?_⟩
      replace H := H.2
      refine a_if_eq (pc := 295) (dk dt_X12_way 155 rfl) (tgt := 304) rfl ⟨fun c => ?_, fun c => ?_⟩
      · replace H := H.1 c
        refine a_aload_n (pc := 304) (dk dt_X12_way 158 rfl) rfl ?_
        refine a_iload (pc := 305) (dk dt_X12_way 159 rfl) rfl ?_
        refine a_if_ne (pc := 307) (dk dt_X12_way 160 rfl) (tgt := 315) rfl ⟨fun c => ?_, fun c => ?_⟩
        · replace H := H.1 c
          refine a_iload (pc := 315) (dk dt_X12_way 163 rfl) rfl ?_
          refine a_iconst (pc := 317) (dk dt_X12_way 164 rfl) (ik rfl) ?_
          refine a_icmp_ne (pc := 318) (dk dt_X12_way 165 rfl) (tgt := 326) rfl ⟨fun c => ?_, fun c => ?_⟩
          · replace H := H.1 c
            refine a_iload (pc := 326) (dk dt_X12_way 168 rfl) rfl ?_
            refine a_iconst (pc := 328) (dk dt_X12_way 169 rfl) (ik rfl) ?_
            refine a_icmp_ne (pc := 329) (dk dt_X12_way 170 rfl) (tgt := 337) rfl ⟨fun c => ?_, fun c => ?_⟩
            · replace H := H.1 c
              refine a_bipush (pc := 337) (dk dt_X12_way 173 rfl) (ik rfl) (bpk rfl) ?_
              refine a_callVv (as := [iv 100]) (st := []) (pc := 339) (dk dt_X12_way 174 rfl) cl_RX12_381 ⟨Nat.le_of_ble_eq_true rfl, Nat.le_of_ble_eq_true rfl⟩ ⟨Nat.le_of_ble_eq_true rfl, Nat.le_of_ble_eq_true rfl⟩ cls_12 rfl cc_85 rfl rfl rfl (Nat.le_of_ble_eq_true rfl) (Call.mono H fun _ h8 H => ?_)
              refine a_iload (pc := 342) (dk dt_X12_way 175 rfl) rfl ?_
              refine a_iload (pc := 344) (dk dt_X12_way 176 rfl) rfl ?_
              refine a_callSi (as := [iv x5, iv x9]) (st := []) (pc := 346) (dk dt_X12_way 177 rfl) cl_RX12_598 ⟨Nat.le_of_ble_eq_true rfl, Nat.le_of_ble_eq_true rfl⟩ ⟨Nat.le_of_ble_eq_true rfl, Nat.le_of_ble_eq_true rfl⟩ rfl rfl rfl (Nat.le_of_ble_eq_true rfl) (Call.mono H fun r9 h10 H => ?_)
              refine a_istore (pc := 349) (dk dt_X12_way 178 rfl) (by decide) rfl rfl ?_
              refine a_goto (pc := 351) (dk dt_X12_way 179 rfl) (tgt := 238) rfl ?_
              exact a_pick [0, 1, 2, 3] rfl H
            · replace H := H.2 c
              refine a_bipush (pc := 332) (dk dt_X12_way 171 rfl) (ik rfl) (bpk rfl) ?_
              refine a_goto (pc := 334) (dk dt_X12_way 172 rfl) (tgt := 339) rfl ?_
              refine a_callVv (as := [iv 114]) (st := []) (pc := 339) (dk dt_X12_way 174 rfl) cl_RX12_381 ⟨Nat.le_of_ble_eq_true rfl, Nat.le_of_ble_eq_true rfl⟩ ⟨Nat.le_of_ble_eq_true rfl, Nat.le_of_ble_eq_true rfl⟩ cls_12 rfl cc_85 rfl rfl rfl (Nat.le_of_ble_eq_true rfl) (Call.mono H fun _ h12 H => ?_)
              refine a_iload (pc := 342) (dk dt_X12_way 175 rfl) rfl ?_
              refine a_iload (pc := 344) (dk dt_X12_way 176 rfl) rfl ?_
              refine a_callSi (as := [iv x5, iv x9]) (st := []) (pc := 346) (dk dt_X12_way 177 rfl) cl_RX12_598 ⟨Nat.le_of_ble_eq_true rfl, Nat.le_of_ble_eq_true rfl⟩ ⟨Nat.le_of_ble_eq_true rfl, Nat.le_of_ble_eq_true rfl⟩ rfl rfl rfl (Nat.le_of_ble_eq_true rfl) (Call.mono H fun r13 h14 H => ?_)
              refine a_istore (pc := 349) (dk dt_X12_way 178 rfl) (by decide) rfl rfl ?_
              refine a_goto (pc := 351) (dk dt_X12_way 179 rfl) (tgt := 238) rfl ?_
              exact a_pick [0, 1, 2, 3] rfl H
          · replace H := H.2 c
            refine a_bipush (pc := 321) (dk dt_X12_way 166 rfl) (ik rfl) (bpk rfl) ?_
            refine a_goto (pc := 323) (dk dt_X12_way 167 rfl) (tgt := 339) rfl ?_
            refine a_callVv (as := [iv 108]) (st := []) (pc := 339) (dk dt_X12_way 174 rfl) cl_RX12_381 ⟨Nat.le_of_ble_eq_true rfl, Nat.le_of_ble_eq_true rfl⟩ ⟨Nat.le_of_ble_eq_true rfl, Nat.le_of_ble_eq_true rfl⟩ cls_12 rfl cc_85 rfl rfl rfl (Nat.le_of_ble_eq_true rfl) (Call.mono H fun _ h16 H => ?_)
            refine a_iload (pc := 342) (dk dt_X12_way 175 rfl) rfl ?_
            refine a_iload (pc := 344) (dk dt_X12_way 176 rfl) rfl ?_
            refine a_callSi (as := [iv x5, iv x9]) (st := []) (pc := 346) (dk dt_X12_way 177 rfl) cl_RX12_598 ⟨Nat.le_of_ble_eq_true rfl, Nat.le_of_ble_eq_true rfl⟩ ⟨Nat.le_of_ble_eq_true rfl, Nat.le_of_ble_eq_true rfl⟩ rfl rfl rfl (Nat.le_of_ble_eq_true rfl) (Call.mono H fun r17 h18 H => ?_)
            refine a_istore (pc := 349) (dk dt_X12_way 178 rfl) (by decide) rfl rfl ?_
            refine a_goto (pc := 351) (dk dt_X12_way 179 rfl) (tgt := 238) rfl ?_
            exact a_pick [0, 1, 2, 3] rfl H
        · replace H := H.2 c
          refine a_bipush (pc := 310) (dk dt_X12_way 161 rfl) (ik rfl) (bpk rfl) ?_
          refine a_goto (pc := 312) (dk dt_X12_way 162 rfl) (tgt := 339) rfl ?_
          refine a_callVv (as := [iv 117]) (st := []) (pc := 339) (dk dt_X12_way 174 rfl) cl_RX12_381 ⟨Nat.le_of_ble_eq_true rfl, Nat.le_of_ble_eq_true rfl⟩ ⟨Nat.le_of_ble_eq_true rfl, Nat.le_of_ble_eq_true rfl⟩ cls_12 rfl cc_85 rfl rfl rfl (Nat.le_of_ble_eq_true rfl) (Call.mono H fun _ h20 H => ?_)
          refine a_iload (pc := 342) (dk dt_X12_way 175 rfl) rfl ?_
          refine a_iload (pc := 344) (dk dt_X12_way 176 rfl) rfl ?_
          refine a_callSi (as := [iv x5, iv x9]) (st := []) (pc := 346) (dk dt_X12_way 177 rfl) cl_RX12_598 ⟨Nat.le_of_ble_eq_true rfl, Nat.le_of_ble_eq_true rfl⟩ ⟨Nat.le_of_ble_eq_true rfl, Nat.le_of_ble_eq_true rfl⟩ rfl rfl rfl (Nat.le_of_ble_eq_true rfl) (Call.mono H fun r21 h22 H => ?_)
          refine a_istore (pc := 349) (dk dt_X12_way 178 rfl) (by decide) rfl rfl ?_
          refine a_goto (pc := 351) (dk dt_X12_way 179 rfl) (tgt := 238) rfl ?_
          exact a_pick [0, 1, 2, 3] rfl H
      · replace H := H.2 c
        refine a_iinc (pc := 298) (dk dt_X12_way 156 rfl) (by decide) rfl rfl rfl ?_
        refine a_goto (pc := 301) (dk dt_X12_way 157 rfl) (tgt := 248) rfl ?_
        exact a_pick [0, 1, 2, 3, 4] rfl H
set_option maxHeartbeats 40000000 in
theorem U_X12_way_85_134 {G : GG} {Φ : Int → Hp → Prop} {h : Hp} {x5 : Int} {x6 : Int} {x7 : Int} {x8 : Int} {x9 : Int} {x10 : Int} (H : ((4 ≤ x10 → AT G m_X12_way 108 [(0, rv 85), (5, iv x5), (6, iv x6), (7, iv x7), (8, iv x8), (9, iv (w32 (x9 + 1)))] [] h Φ) ∧ (x10 < 4 → Call G m_X12_beside [iv x9, iv x10] h (fun r1 h2 => ((r1 = (-1) → AT G m_X12_way 134 [(0, rv 85), (5, iv x5), (6, iv x6), (7, iv x7), (8, iv x8), (9, iv x9), (10, iv (w32 (x10 + 1)))] [] h2 Φ) ∧ (r1 ≠ (-1) → (0 ≤ r1 ∧ r1 < 288) ∧ (((h2 151 r1) ≠ 0 → AT G m_X12_way 134 [(0, rv 85), (5, iv x5), (6, iv x6), (7, iv x7), (8, iv x8), (9, iv x9), (10, iv (w32 (x10 + 1)))] [] h2 Φ) ∧ ((h2 151 r1) = 0 → (0 ≤ r1 ∧ r1 < 288) ∧ (((h2 152 r1) = (-1) → (0 ≤ r1 ∧ r1 < 288) ∧ AT G m_X12_way 134 [(0, rv 85), (5, iv x5), (6, iv x6), (7, iv 1), (8, iv x8), (9, iv x9), (10, iv (w32 (x10 + 1)))] [] (up h2 152 r1 (w32 (x8 + 1))) Φ) ∧ ((h2 152 r1) ≠ (-1) → AT G m_X12_way 134 [(0, rv 85), (5, iv x5), (6, iv x6), (7, iv x7), (8, iv x8), (9, iv x9), (10, iv (w32 (x10 + 1)))] [] h2 Φ)))))))))) : AT G m_X12_way 134 [(0, rv 85), (5, iv x5), (6, iv x6), (7, iv x7), (8, iv x8), (9, iv x9), (10, iv x10)] [] h Φ := by
  refine a_iload (pc := 134) (dk dt_X12_way 73 rfl) rfl ?_
  refine a_iconst (pc := 136) (dk dt_X12_way 74 rfl) (ik rfl) ?_
  refine a_icmp_ge (pc := 137) (dk dt_X12_way 75 rfl) (tgt := 199) rfl ⟨fun c => ?_, fun c => ?_⟩
  · replace H := H.1 c
    refine a_iinc (pc := 199) (dk dt_X12_way 106 rfl) (by decide) rfl rfl rfl ?_
    refine a_goto (pc := 202) (dk dt_X12_way 107 rfl) (tgt := 108) rfl ?_
    exact a_pick [0, 1, 2, 3, 4, 5] rfl H
  · replace H := H.2 c
    refine a_iload (pc := 140) (dk dt_X12_way 76 rfl) rfl ?_
    refine a_iload (pc := 142) (dk dt_X12_way 77 rfl) rfl ?_
    refine a_callSi (as := [iv x9, iv x10]) (st := []) (pc := 144) (dk dt_X12_way 78 rfl) cl_RX12_598 ⟨Nat.le_of_ble_eq_true rfl, Nat.le_of_ble_eq_true rfl⟩ ⟨Nat.le_of_ble_eq_true rfl, Nat.le_of_ble_eq_true rfl⟩ rfl rfl rfl (Nat.le_of_ble_eq_true rfl) (Call.mono H fun r1 h2 H => ?_)
    refine a_istore (pc := 147) (dk dt_X12_way 79 rfl) (by decide) rfl rfl ?_
    refine a_iload (pc := 149) (dk dt_X12_way 80 rfl) rfl ?_
    refine a_iconst (pc := 151) (dk dt_X12_way 81 rfl) (ik rfl) ?_
    refine a_icmp_eq (pc := 152) (dk dt_X12_way 82 rfl) (tgt := 193) rfl ⟨fun c => ?_, fun c => ?_⟩
    · replace H := H.1 c
      refine a_iinc (pc := 193) (dk dt_X12_way 104 rfl) (by decide) rfl rfl rfl ?_
      refine a_goto (pc := 196) (dk dt_X12_way 105 rfl) (tgt := 134) rfl ?_
      exact a_pick [0, 1, 2, 3, 4, 5, 6] rfl H
    · replace H := H.2 c
      refine a_aload_n (pc := 155) (dk dt_X12_way 83 rfl) rfl ?_
      refine a_getr (r := 150) (pc := 156) (dk dt_X12_way 84 rfl) cls_12 fl_RX12_286 cf_85_104 ?_
      refine a_iload (pc := 159) (dk dt_X12_way 85 rfl) rfl ?_
      refine a_zald (pc := 161) (dk dt_X12_way 86 rfl) ar_151 ⟨H.1, ?_⟩
      replace H := H.2
      refine a_if_ne (pc := 162) (dk dt_X12_way 87 rfl) (tgt := 193) rfl ⟨fun c => ?_, fun c => ?_⟩
      · replace H := H.1 c
        refine a_iinc (pc := 193) (dk dt_X12_way 104 rfl) (by decide) rfl rfl rfl ?_
        refine a_goto (pc := 196) (dk dt_X12_way 105 rfl) (tgt := 134) rfl ?_
        exact a_pick [0, 1, 2, 3, 4, 5, 6] rfl H
      · replace H := H.2 c
        refine a_aload_n (pc := 165) (dk dt_X12_way 88 rfl) rfl ?_
        refine a_getr (r := 151) (pc := 166) (dk dt_X12_way 89 rfl) cls_12 fl_RX12_289 cf_85_105 ?_
        refine a_iload (pc := 169) (dk dt_X12_way 90 rfl) rfl ?_
        refine a_iald (pc := 171) (dk dt_X12_way 91 rfl) ar_152 ⟨H.1, ?_⟩
        replace H := H.2
        refine a_iconst (pc := 172) (dk dt_X12_way 92 rfl) (ik rfl) ?_
        refine a_icmp_eq (pc := 173) (dk dt_X12_way 93 rfl) (tgt := 179) rfl ⟨fun c => ?_, fun c => ?_⟩
        · replace H := H.1 c
          refine a_aload_n (pc := 179) (dk dt_X12_way 95 rfl) rfl ?_
          refine a_getr (r := 151) (pc := 180) (dk dt_X12_way 96 rfl) cls_12 fl_RX12_289 cf_85_105 ?_
          refine a_iload (pc := 183) (dk dt_X12_way 97 rfl) rfl ?_
          refine a_iload (pc := 185) (dk dt_X12_way 98 rfl) rfl ?_
          refine a_iconst (pc := 187) (dk dt_X12_way 99 rfl) (ik rfl) ?_
          refine a_iadd (pc := 188) (dk dt_X12_way 100 rfl) ?_
          refine a_iast (pc := 189) (dk dt_X12_way 101 rfl) ar_152 ⟨H.1, ?_⟩
          replace H := H.2
          refine a_iconst (pc := 190) (dk dt_X12_way 102 rfl) (ik rfl) ?_
          refine a_istore (pc := 191) (dk dt_X12_way 103 rfl) (by decide) rfl rfl ?_
          refine a_iinc (pc := 193) (dk dt_X12_way 104 rfl) (by decide) rfl rfl rfl ?_
          refine a_goto (pc := 196) (dk dt_X12_way 105 rfl) (tgt := 134) rfl ?_
          exact a_pick [0, 1, 2, 3, 4, 5, 6] rfl H
        · replace H := H.2 c
          refine a_goto (pc := 176) (dk dt_X12_way 94 rfl) (tgt := 193) rfl ?_
          refine a_iinc (pc := 193) (dk dt_X12_way 104 rfl) (by decide) rfl rfl rfl ?_
          refine a_goto (pc := 196) (dk dt_X12_way 105 rfl) (tgt := 134) rfl ?_
          exact a_pick [0, 1, 2, 3, 4, 5, 6] rfl H
set_option maxHeartbeats 40000000 in
theorem U_X12_four_85_0 {G : GG} {Φ : Int → Hp → Prop} {h : Hp} {x1 : Int} (H : AT G m_X12_four 3 [(0, rv 85), (1, iv x1), (2, iv 24)] [] h Φ) : AT G m_X12_four 0 [(0, rv 85), (1, iv x1)] [] h Φ := by
  refine a_bipush (pc := 0) (dk dt_X12_four 0 rfl) (ik rfl) (bpk rfl) ?_
  refine a_istore_n (pc := 2) (dk dt_X12_four 1 rfl) (by decide) rfl rfl ?_
  exact a_pick [0, 1, 2] rfl H
set_option maxHeartbeats 40000000 in
theorem U_X12_four_85_3 {G : GG} {Φ : Int → Hp → Prop} {h : Hp} {x1 : Int} {x2 : Int} (H : ((x2 < 0 → Φ 0 h) ∧ (0 ≤ x2 → (0 ≤ (h 85 3) ∧ (h 85 3) < 1600) ∧ AT G m_X12_four 3 [(0, rv 85), (1, iv x1), (2, iv (w32 (x2 + (-8))))] [] (up (up h 86 (h 85 3) (band (bshr x1 x2) 255)) 85 3 (w32 ((h 85 3) + 1))) Φ))) : AT G m_X12_four 3 [(0, rv 85), (1, iv x1), (2, iv x2)] [] h Φ := by
  refine a_iload_n (pc := 3) (dk dt_X12_four 2 rfl) rfl ?_
  refine a_if_lt (pc := 4) (dk dt_X12_four 3 rfl) (tgt := 39) rfl ⟨fun c => ?_, fun c => ?_⟩
  · replace H := H.1 c
    exact a_vret (pc := 39) (dk dt_X12_four 22 rfl) rfl rfl H
  · replace H := H.2 c
    refine a_aload_n (pc := 7) (dk dt_X12_four 4 rfl) rfl ?_
    refine a_getr (r := 85) (pc := 8) (dk dt_X12_four 5 rfl) cls_12 fl_RX12_7 cf_85_0 ?_
    refine a_aload_n (pc := 11) (dk dt_X12_four 6 rfl) rfl ?_
    refine a_geti (pc := 12) (dk dt_X12_four 7 rfl) cls_12 fl_RX12_292 cf_85_3 ?_
    refine a_iload_n (pc := 15) (dk dt_X12_four 8 rfl) rfl ?_
    refine a_iload_n (pc := 16) (dk dt_X12_four 9 rfl) rfl ?_
    refine a_ishr (pc := 17) (dk dt_X12_four 10 rfl) ?_
    refine a_sipush (pc := 18) (dk dt_X12_four 11 rfl) (ik rfl) (spk rfl) ?_
    refine a_iand (pc := 21) (dk dt_X12_four 12 rfl) ?_
    refine a_iast (pc := 22) (dk dt_X12_four 13 rfl) ar_86 ⟨H.1, ?_⟩
    replace H := H.2
    refine a_aload_n (pc := 23) (dk dt_X12_four 14 rfl) rfl ?_
    refine a_dup (pc := 24) (dk dt_X12_four 15 rfl) rfl ?_
    refine a_geti (pc := 25) (dk dt_X12_four 16 rfl) cls_12 fl_RX12_292 cf_85_3 ?_
    refine a_top (y := (h 85 3)) (by simp [up, cpy]) ?_
    refine a_iconst (pc := 28) (dk dt_X12_four 17 rfl) (ik rfl) ?_
    refine a_iadd (pc := 29) (dk dt_X12_four 18 rfl) ?_
    refine a_puti (pc := 30) (dk dt_X12_four 19 rfl) cls_12 fl_RX12_292 cf_85_3 rfl rfl ?_
    refine a_iinc (pc := 33) (dk dt_X12_four 20 rfl) (by decide) rfl rfl rfl ?_
    refine a_goto (pc := 36) (dk dt_X12_four 21 rfl) (tgt := 3) rfl ?_
    exact a_pick [0, 1, 2] rfl H
set_option maxHeartbeats 40000000 in
theorem U_X12_dayOf_0 {G : GG} {Φ : Int → Hp → Prop} {h : Hp} {x0 : Int} {x1 : Int} (H : AT G m_X12_dayOf 6 [(0, iv x0), (1, iv x1), (2, iv 0), (3, iv 2000)] [] h Φ) : AT G m_X12_dayOf 0 [(0, iv x0), (1, iv x1)] [] h Φ := by
  refine a_iconst (pc := 0) (dk dt_X12_dayOf 0 rfl) (ik rfl) ?_
  refine a_istore_n (pc := 1) (dk dt_X12_dayOf 1 rfl) (by decide) rfl rfl ?_
  refine a_sipush (pc := 2) (dk dt_X12_dayOf 2 rfl) (ik rfl) (spk rfl) ?_
  refine a_istore_n (pc := 5) (dk dt_X12_dayOf 3 rfl) (by decide) rfl rfl ?_
  exact a_pick [0, 1, 2, 3] rfl H
set_option maxHeartbeats 40000000 in
theorem U_X12_dayOf_6 {G : GG} {Φ : Int → Hp → Prop} {h : Hp} {x0 : Int} {x1 : Int} {x2 : Int} {x3 : Int} (H : ((x0 ≤ x3 → AT G m_X12_dayOf 38 [(0, iv x0), (1, iv x1), (2, iv x2), (3, iv 1)] [] h Φ) ∧ (x3 < x0 → Call G m_X12_isLong [iv x3] h (fun r1 h2 => ((r1 = 0 → AT G m_X12_dayOf 6 [(0, iv x0), (1, iv x1), (2, iv (w32 (x2 + 365))), (3, iv (w32 (x3 + 1)))] [] h2 Φ) ∧ (r1 ≠ 0 → AT G m_X12_dayOf 6 [(0, iv x0), (1, iv x1), (2, iv (w32 (x2 + 366))), (3, iv (w32 (x3 + 1)))] [] h2 Φ)))))) : AT G m_X12_dayOf 6 [(0, iv x0), (1, iv x1), (2, iv x2), (3, iv x3)] [] h Φ := by
  refine a_iload_n (pc := 6) (dk dt_X12_dayOf 4 rfl) rfl ?_
  refine a_iload_n (pc := 7) (dk dt_X12_dayOf 5 rfl) rfl ?_
  refine a_icmp_ge (pc := 8) (dk dt_X12_dayOf 6 rfl) (tgt := 36) rfl ⟨fun c => ?_, fun c => ?_⟩
  · replace H := H.1 c
    refine a_iconst (pc := 36) (dk dt_X12_dayOf 18 rfl) (ik rfl) ?_
    refine a_istore_n (pc := 37) (dk dt_X12_dayOf 19 rfl) (by decide) rfl rfl ?_
    exact a_pick [0, 1, 2, 3] rfl H
  · replace H := H.2 c
    refine a_iload_n (pc := 11) (dk dt_X12_dayOf 7 rfl) rfl ?_
    refine a_iload_n (pc := 12) (dk dt_X12_dayOf 8 rfl) rfl ?_
    refine a_callSi (as := [iv x3]) (st := [iv x2]) (pc := 13) (dk dt_X12_dayOf 9 rfl) cl_RX12_350 ⟨Nat.le_of_ble_eq_true rfl, Nat.le_of_ble_eq_true rfl⟩ ⟨Nat.le_of_ble_eq_true rfl, Nat.le_of_ble_eq_true rfl⟩ rfl rfl rfl (Nat.le_of_ble_eq_true rfl) (Call.mono H fun r1 h2 H => ?_)
    refine a_if_eq (pc := 16) (dk dt_X12_dayOf 10 rfl) (tgt := 25) rfl ⟨fun c => ?_, fun c => ?_⟩
    · replace H := H.1 c
      refine a_sipush (pc := 25) (dk dt_X12_dayOf 13 rfl) (ik rfl) (spk rfl) ?_
      refine a_iadd (pc := 28) (dk dt_X12_dayOf 14 rfl) ?_
      refine a_istore_n (pc := 29) (dk dt_X12_dayOf 15 rfl) (by decide) rfl rfl ?_
      refine a_iinc (pc := 30) (dk dt_X12_dayOf 16 rfl) (by decide) rfl rfl rfl ?_
      refine a_goto (pc := 33) (dk dt_X12_dayOf 17 rfl) (tgt := 6) rfl ?_
      exact a_pick [0, 1, 2, 3] rfl H
    · replace H := H.2 c
      refine a_sipush (pc := 19) (dk dt_X12_dayOf 11 rfl) (ik rfl) (spk rfl) ?_
      refine a_goto (pc := 22) (dk dt_X12_dayOf 12 rfl) (tgt := 28) rfl ?_
      refine a_iadd (pc := 28) (dk dt_X12_dayOf 14 rfl) ?_
      refine a_istore_n (pc := 29) (dk dt_X12_dayOf 15 rfl) (by decide) rfl rfl ?_
      refine a_iinc (pc := 30) (dk dt_X12_dayOf 16 rfl) (by decide) rfl rfl rfl ?_
      refine a_goto (pc := 33) (dk dt_X12_dayOf 17 rfl) (tgt := 6) rfl ?_
      exact a_pick [0, 1, 2, 3] rfl H
set_option maxHeartbeats 40000000 in
theorem U_X12_dayOf_38 {G : GG} {Φ : Int → Hp → Prop} {h : Hp} {x0 : Int} {x1 : Int} {x2 : Int} {x3 : Int} (H : ((x1 ≤ x3 → Φ x2 h) ∧ (x3 < x1 → Call G m_X12_days [iv x0, iv x3] h (fun r1 h2 => AT G m_X12_dayOf 38 [(0, iv x0), (1, iv x1), (2, iv (w32 (x2 + r1))), (3, iv (w32 (x3 + 1)))] [] h2 Φ)))) : AT G m_X12_dayOf 38 [(0, iv x0), (1, iv x1), (2, iv x2), (3, iv x3)] [] h Φ := by
  refine a_iload_n (pc := 38) (dk dt_X12_dayOf 20 rfl) rfl ?_
  refine a_iload_n (pc := 39) (dk dt_X12_dayOf 21 rfl) rfl ?_
  refine a_icmp_ge (pc := 40) (dk dt_X12_dayOf 22 rfl) (tgt := 57) rfl ⟨fun c => ?_, fun c => ?_⟩
  · replace H := H.1 c
    refine a_iload_n (pc := 57) (dk dt_X12_dayOf 31 rfl) rfl ?_
    exact a_iret (pc := 58) (dk dt_X12_dayOf 32 rfl) rfl rfl H
  · replace H := H.2 c
    refine a_iload_n (pc := 43) (dk dt_X12_dayOf 23 rfl) rfl ?_
    refine a_iload_n (pc := 44) (dk dt_X12_dayOf 24 rfl) rfl ?_
    refine a_iload_n (pc := 45) (dk dt_X12_dayOf 25 rfl) rfl ?_
    refine a_callSi (as := [iv x0, iv x3]) (st := [iv x2]) (pc := 46) (dk dt_X12_dayOf 26 rfl) cl_RX12_353 ⟨Nat.le_of_ble_eq_true rfl, Nat.le_of_ble_eq_true rfl⟩ ⟨Nat.le_of_ble_eq_true rfl, Nat.le_of_ble_eq_true rfl⟩ rfl rfl rfl (Nat.le_of_ble_eq_true rfl) (Call.mono H fun r1 h2 H => ?_)
    refine a_iadd (pc := 49) (dk dt_X12_dayOf 27 rfl) ?_
    refine a_istore_n (pc := 50) (dk dt_X12_dayOf 28 rfl) (by decide) rfl rfl ?_
    refine a_iinc (pc := 51) (dk dt_X12_dayOf 29 rfl) (by decide) rfl rfl rfl ?_
    refine a_goto (pc := 54) (dk dt_X12_dayOf 30 rfl) (tgt := 38) rfl ?_
    exact a_pick [0, 1, 2, 3] rfl H
set_option maxHeartbeats 40000000 in
theorem U_X12_days_0 {G : GG} {Φ : Int → Hp → Prop} {h : Hp} {x0 : Int} {x1 : Int} (H : (((x1 = 2) → Call G m_X12_isLong [iv x0] h (fun r1 h2 => ((r1 = 0 → Φ 28 h2) ∧ (r1 ≠ 0 → Φ 29 h2)))) ∧ ((x1 = 4 ∨ x1 = 6 ∨ x1 = 9 ∨ x1 = 11) → Φ 30 h) ∧ (((x1 < 2 ∨ 11 < x1) ∨ x1 = 3 ∨ x1 = 5 ∨ x1 = 7 ∨ x1 = 8 ∨ x1 = 10) → Φ 31 h))) : AT G m_X12_days 0 [(0, iv x0), (1, iv x1)] [] h Φ := by
  refine a_iload_n (pc := 0) (dk dt_X12_days 0 rfl) rfl ?_
  have B0 : (x1 = 2) → AT G m_X12_days 56 [(0, iv x0), (1, iv x1)] [] h Φ := by
    intro c
    replace H := H.1 c
    refine a_iload_n (pc := 56) (dk dt_X12_days 2 rfl) rfl ?_
    refine a_callSi (as := [iv x0]) (st := []) (pc := 57) (dk dt_X12_days 3 rfl) cl_RX12_350 ⟨Nat.le_of_ble_eq_true rfl, Nat.le_of_ble_eq_true rfl⟩ ⟨Nat.le_of_ble_eq_true rfl, Nat.le_of_ble_eq_true rfl⟩ rfl rfl rfl (Nat.le_of_ble_eq_true rfl) (Call.mono H fun r1 h2 H => ?_)
    refine a_if_eq (pc := 60) (dk dt_X12_days 4 rfl) (tgt := 68) rfl ⟨fun c => ?_, fun c => ?_⟩
    · replace H := H.1 c
      refine a_bipush (pc := 68) (dk dt_X12_days 7 rfl) (ik rfl) (bpk rfl) ?_
      exact a_iret (pc := 70) (dk dt_X12_days 8 rfl) rfl rfl H
    · replace H := H.2 c
      refine a_bipush (pc := 63) (dk dt_X12_days 5 rfl) (ik rfl) (bpk rfl) ?_
      refine a_goto (pc := 65) (dk dt_X12_days 6 rfl) (tgt := 70) rfl ?_
      exact a_iret (pc := 70) (dk dt_X12_days 8 rfl) rfl rfl H
  have B1 : (x1 = 4 ∨ x1 = 6 ∨ x1 = 9 ∨ x1 = 11) → AT G m_X12_days 71 [(0, iv x0), (1, iv x1)] [] h Φ := by
    intro c
    replace H := H.2.1 c
    refine a_bipush (pc := 71) (dk dt_X12_days 9 rfl) (ik rfl) (bpk rfl) ?_
    exact a_iret (pc := 73) (dk dt_X12_days 10 rfl) rfl rfl H
  have BD : ((x1 < 2 ∨ 11 < x1) ∨ x1 = 3 ∨ x1 = 5 ∨ x1 = 7 ∨ x1 = 8 ∨ x1 = 10) → AT G m_X12_days 74 [(0, iv x0), (1, iv x1)] [] h Φ := by
    intro c
    replace H := H.2.2 c
    refine a_bipush (pc := 74) (dk dt_X12_days 11 rfl) (ik rfl) (bpk rfl) ?_
    exact a_iret (pc := 76) (dk dt_X12_days 12 rfl) rfl rfl H
  exact a_tsw [56, 74, 71, 74, 71, 74, 74, 71, 74, 71] (pc := 1) (dk dt_X12_days 1 rfl) (by decide) (dt := 74) rfl (by decide) ⟨⟨fun c => B0 (c), fun c => BD (Or.inr (Or.inl c)), fun c => B1 (Or.inl c), fun c => BD (Or.inr (Or.inr (Or.inl c))), fun c => B1 (Or.inr (Or.inl c)), fun c => BD (Or.inr (Or.inr (Or.inr (Or.inl c)))), fun c => BD (Or.inr (Or.inr (Or.inr (Or.inr (Or.inl c))))), fun c => B1 (Or.inr (Or.inr (Or.inl c))), fun c => BD (Or.inr (Or.inr (Or.inr (Or.inr (Or.inr (c)))))), fun c => B1 (Or.inr (Or.inr (Or.inr (c)))), trivial⟩, fun c => BD (Or.inl c)⟩
set_option maxHeartbeats 40000000 in
theorem U_X12_digits_85_0 {G : GG} {Φ : Int → Hp → Prop} {h : Hp} {x1 : Int} {x2 : Int} {x3 : Int} (H : (((h 85 6) < 0 → AT G m_X12_digits 21 [(0, rv 85), (1, iv x1), (2, iv x2), (3, iv x3), (4, iv (h 85 5)), (5, iv 0), (6, iv 0)] [] h Φ) ∧ (0 ≤ (h 85 6) → Φ 0 h))) : AT G m_X12_digits 0 [(0, rv 85), (1, iv x1), (2, iv x2), (3, iv x3)] [] h Φ := by
  refine a_aload_n (pc := 0) (dk dt_X12_digits 0 rfl) rfl ?_
  refine a_callVi (as := []) (st := []) (pc := 1) (dk dt_X12_digits 1 rfl) cl_RX12_315 ⟨Nat.le_of_ble_eq_true rfl, Nat.le_of_ble_eq_true rfl⟩ ⟨Nat.le_of_ble_eq_true rfl, Nat.le_of_ble_eq_true rfl⟩ cls_12 rfl cc_85 rfl rfl rfl (Nat.le_of_ble_eq_true rfl) (Call.of rfl (Nat.le_of_ble_eq_true rfl) rfl ?_)
  refine a_aload_n (pc := 0) (dk dt_X12_bad 0 rfl) rfl ?_
  refine a_geti (pc := 1) (dk dt_X12_bad 1 rfl) cls_12 fl_RX12_312 cf_85_6 ?_
  refine a_if_lt (pc := 4) (dk dt_X12_bad 2 rfl) (tgt := 11) rfl ⟨fun c => ?_, fun c => ?_⟩
  · replace H := H.1 c
    refine a_iconst (pc := 11) (dk dt_X12_bad 5 rfl) (ik rfl) ?_
    refine a_zret (pc := 12) (dk dt_X12_bad 6 rfl) rfl rfl ⟨by decide, ?_⟩
    show ATW _ _ _ _ _ _ _ _ _ _
    refine a_if_eq (pc := 4) (dk dt_X12_digits 2 rfl) (tgt := 9) rfl ⟨fun _ => ?_, fun c => absurd c (by decide)⟩
    refine a_aload_n (pc := 9) (dk dt_X12_digits 5 rfl) rfl ?_
    refine a_geti (pc := 10) (dk dt_X12_digits 6 rfl) cls_12 fl_RX12_309 cf_85_5 ?_
    refine a_istore (pc := 13) (dk dt_X12_digits 7 rfl) (by decide) rfl rfl ?_
    refine a_iconst (pc := 15) (dk dt_X12_digits 8 rfl) (ik rfl) ?_
    refine a_istore (pc := 16) (dk dt_X12_digits 9 rfl) (by decide) rfl rfl ?_
    refine a_iconst (pc := 18) (dk dt_X12_digits 10 rfl) (ik rfl) ?_
    refine a_istore (pc := 19) (dk dt_X12_digits 11 rfl) (by decide) rfl rfl ?_
    exact a_pick [0, 1, 2, 3, 4, 5, 6] rfl H
  · replace H := H.2 c
    refine a_iconst (pc := 7) (dk dt_X12_bad 3 rfl) (ik rfl) ?_
    refine a_goto (pc := 8) (dk dt_X12_bad 4 rfl) (tgt := 12) rfl ?_
    refine a_zret (pc := 12) (dk dt_X12_bad 6 rfl) rfl rfl ⟨by decide, ?_⟩
    show ATW _ _ _ _ _ _ _ _ _ _
    refine a_if_eq (pc := 4) (dk dt_X12_digits 2 rfl) (tgt := 9) rfl ⟨fun c => absurd c (by decide), fun _ => ?_⟩
    refine a_iconst (pc := 7) (dk dt_X12_digits 3 rfl) (ik rfl) ?_
    exact a_iret (pc := 8) (dk dt_X12_digits 4 rfl) rfl rfl H
set_option maxHeartbeats 40000000 in
theorem U_X12_digits_85_21 {G : GG} {Φ : Int → Hp → Prop} {h : Hp} {x1 : Int} {x2 : Int} {x3 : Int} {x4 : Int} {x5 : Int} {x6 : Int} (H : ((x1 ≤ x6 → (((h 85 6) < 0 → ((x5 < x2 → ((0 ≤ (h 85 6) → Φ x5 h) ∧ ((h 85 6) < 0 → Φ x5 (up h 85 6 x4)))) ∧ (x2 ≤ x5 → ((x3 < x5 → ((0 ≤ (h 85 6) → Φ x5 h) ∧ ((h 85 6) < 0 → Φ x5 (up h 85 6 x4)))) ∧ (x5 ≤ x3 → Φ x5 h))))) ∧ (0 ≤ (h 85 6) → Φ x5 h))) ∧ (x6 < x1 → (((h 85 6) < 0 → Call G m_X12_here [rv 85] h (fun r1 h2 => ((r1 < 48 → ((0 ≤ (h2 85 6) → AT G m_X12_digits 21 [(0, rv 85), (1, iv x1), (2, iv x2), (3, iv x3), (4, iv x4), (5, iv x5), (6, iv (w32 (x6 + 1)))] [] h2 Φ) ∧ ((h2 85 6) < 0 → AT G m_X12_digits 21 [(0, rv 85), (1, iv x1), (2, iv x2), (3, iv x3), (4, iv x4), (5, iv x5), (6, iv (w32 (x6 + 1)))] [] (up h2 85 6 (h2 85 5)) Φ))) ∧ (48 ≤ r1 → ((57 < r1 → ((0 ≤ (h2 85 6) → AT G m_X12_digits 21 [(0, rv 85), (1, iv x1), (2, iv x2), (3, iv x3), (4, iv x4), (5, iv x5), (6, iv (w32 (x6 + 1)))] [] h2 Φ) ∧ ((h2 85 6) < 0 → AT G m_X12_digits 21 [(0, rv 85), (1, iv x1), (2, iv x2), (3, iv x3), (4, iv x4), (5, iv x5), (6, iv (w32 (x6 + 1)))] [] (up h2 85 6 (h2 85 5)) Φ))) ∧ (r1 ≤ 57 → Call G m_X12_here [rv 85] h2 (fun r3 h4 => AT G m_X12_digits 21 [(0, rv 85), (1, iv x1), (2, iv x2), (3, iv x3), (4, iv x4), (5, iv (w32 ((w32 ((w32 (10 * x5)) + r3)) - 48))), (6, iv (w32 (x6 + 1)))] [] (up h4 85 5 (w32 ((h4 85 5) + 1))) Φ))))))) ∧ (0 ≤ (h 85 6) → (((h 85 6) < 0 → ((x5 < x2 → ((0 ≤ (h 85 6) → Φ x5 h) ∧ ((h 85 6) < 0 → Φ x5 (up h 85 6 x4)))) ∧ (x2 ≤ x5 → ((x3 < x5 → ((0 ≤ (h 85 6) → Φ x5 h) ∧ ((h 85 6) < 0 → Φ x5 (up h 85 6 x4)))) ∧ (x5 ≤ x3 → Φ x5 h))))) ∧ (0 ≤ (h 85 6) → Φ x5 h))))))) : AT G m_X12_digits 21 [(0, rv 85), (1, iv x1), (2, iv x2), (3, iv x3), (4, iv x4), (5, iv x5), (6, iv x6)] [] h Φ := by
  refine a_iload (pc := 21) (dk dt_X12_digits 12 rfl) rfl ?_
  refine a_iload_n (pc := 23) (dk dt_X12_digits 13 rfl) rfl ?_
  refine a_icmp_ge (pc := 24) (dk dt_X12_digits 14 rfl) (tgt := 86) rfl ⟨fun c => ?_, fun c => ?_⟩
  · replace H := H.1 c
    refine a_aload_n (pc := 86) (dk dt_X12_digits 44 rfl) rfl ?_
    refine a_callVi (as := []) (st := []) (pc := 87) (dk dt_X12_digits 45 rfl) cl_RX12_315 ⟨Nat.le_of_ble_eq_true rfl, Nat.le_of_ble_eq_true rfl⟩ ⟨Nat.le_of_ble_eq_true rfl, Nat.le_of_ble_eq_true rfl⟩ cls_12 rfl cc_85 rfl rfl rfl (Nat.le_of_ble_eq_true rfl) (Call.of rfl (Nat.le_of_ble_eq_true rfl) rfl ?_)
    refine a_aload_n (pc := 0) (dk dt_X12_bad 0 rfl) rfl ?_
    refine a_geti (pc := 1) (dk dt_X12_bad 1 rfl) cls_12 fl_RX12_312 cf_85_6 ?_
    refine a_if_lt (pc := 4) (dk dt_X12_bad 2 rfl) (tgt := 11) rfl ⟨fun c => ?_, fun c => ?_⟩
    · replace H := H.1 c
      refine a_iconst (pc := 11) (dk dt_X12_bad 5 rfl) (ik rfl) ?_
      refine a_zret (pc := 12) (dk dt_X12_bad 6 rfl) rfl rfl ⟨by decide, ?_⟩
      show ATW _ _ _ _ _ _ _ _ _ _
      refine a_if_ne (pc := 90) (dk dt_X12_digits 46 rfl) (tgt := 109) rfl ⟨fun c => absurd c (by decide), fun _ => ?_⟩
      refine a_iload (pc := 93) (dk dt_X12_digits 47 rfl) rfl ?_
      refine a_iload_n (pc := 95) (dk dt_X12_digits 48 rfl) rfl ?_
      refine a_iload_n (pc := 96) (dk dt_X12_digits 49 rfl) rfl ?_
      refine a_callSi (as := [iv x5, iv x2, iv x3]) (st := []) (pc := 97) (dk dt_X12_digits 50 rfl) cl_RX12_302 ⟨Nat.le_of_ble_eq_true rfl, Nat.le_of_ble_eq_true rfl⟩ ⟨Nat.le_of_ble_eq_true rfl, Nat.le_of_ble_eq_true rfl⟩ rfl rfl rfl (Nat.le_of_ble_eq_true rfl) (Call.of rfl (Nat.le_of_ble_eq_true rfl) rfl ?_)
      refine a_iload_n (pc := 0) (dk dt_X12_is 0 rfl) rfl ?_
      refine a_iload_n (pc := 1) (dk dt_X12_is 1 rfl) rfl ?_
      refine a_icmp_lt (pc := 2) (dk dt_X12_is 2 rfl) (tgt := 14) rfl ⟨fun c => ?_, fun c => ?_⟩
      · replace H := H.1 c
        refine a_iconst (pc := 14) (dk dt_X12_is 8 rfl) (ik rfl) ?_
        refine a_zret (pc := 15) (dk dt_X12_is 9 rfl) rfl rfl ⟨by decide, ?_⟩
        show ATW _ _ _ _ _ _ _ _ _ _
        refine a_if_ne (pc := 100) (dk dt_X12_digits 51 rfl) (tgt := 109) rfl ⟨fun c => absurd c (by decide), fun _ => ?_⟩
        refine a_aload_n (pc := 103) (dk dt_X12_digits 52 rfl) rfl ?_
        refine a_iload (pc := 104) (dk dt_X12_digits 53 rfl) rfl ?_
        refine a_callVv (as := [iv x4]) (st := []) (pc := 106) (dk dt_X12_digits 54 rfl) cl_RX12_323 ⟨Nat.le_of_ble_eq_true rfl, Nat.le_of_ble_eq_true rfl⟩ ⟨Nat.le_of_ble_eq_true rfl, Nat.le_of_ble_eq_true rfl⟩ cls_12 rfl cc_85 rfl rfl rfl (Nat.le_of_ble_eq_true rfl) (Call.of rfl (Nat.le_of_ble_eq_true rfl) rfl ?_)
        refine a_aload_n (pc := 0) (dk dt_X12_fail 0 rfl) rfl ?_
        refine a_geti (pc := 1) (dk dt_X12_fail 1 rfl) cls_12 fl_RX12_312 cf_85_6 ?_
        refine a_if_ge (pc := 4) (dk dt_X12_fail 2 rfl) (tgt := 12) rfl ⟨fun c => ?_, fun c => ?_⟩
        · replace H := H.1 c
          refine a_vret (pc := 12) (dk dt_X12_fail 6 rfl) rfl rfl ?_
          show ATW _ _ _ _ _ _ _ _ _ _
          refine a_iload (pc := 109) (dk dt_X12_digits 55 rfl) rfl ?_
          exact a_iret (pc := 111) (dk dt_X12_digits 56 rfl) rfl rfl H
        · replace H := H.2 c
          refine a_aload_n (pc := 7) (dk dt_X12_fail 3 rfl) rfl ?_
          refine a_iload_n (pc := 8) (dk dt_X12_fail 4 rfl) rfl ?_
          refine a_puti (pc := 9) (dk dt_X12_fail 5 rfl) cls_12 fl_RX12_312 cf_85_6 rfl rfl ?_
          refine a_vret (pc := 12) (dk dt_X12_fail 6 rfl) rfl rfl ?_
          show ATW _ _ _ _ _ _ _ _ _ _
          refine a_iload (pc := 109) (dk dt_X12_digits 55 rfl) rfl ?_
          exact a_iret (pc := 111) (dk dt_X12_digits 56 rfl) rfl rfl H
      · replace H := H.2 c
        refine a_iload_n (pc := 5) (dk dt_X12_is 3 rfl) rfl ?_
        refine a_iload_n (pc := 6) (dk dt_X12_is 4 rfl) rfl ?_
        refine a_icmp_gt (pc := 7) (dk dt_X12_is 5 rfl) (tgt := 14) rfl ⟨fun c => ?_, fun c => ?_⟩
        · replace H := H.1 c
          refine a_iconst (pc := 14) (dk dt_X12_is 8 rfl) (ik rfl) ?_
          refine a_zret (pc := 15) (dk dt_X12_is 9 rfl) rfl rfl ⟨by decide, ?_⟩
          show ATW _ _ _ _ _ _ _ _ _ _
          refine a_if_ne (pc := 100) (dk dt_X12_digits 51 rfl) (tgt := 109) rfl ⟨fun c => absurd c (by decide), fun _ => ?_⟩
          refine a_aload_n (pc := 103) (dk dt_X12_digits 52 rfl) rfl ?_
          refine a_iload (pc := 104) (dk dt_X12_digits 53 rfl) rfl ?_
          refine a_callVv (as := [iv x4]) (st := []) (pc := 106) (dk dt_X12_digits 54 rfl) cl_RX12_323 ⟨Nat.le_of_ble_eq_true rfl, Nat.le_of_ble_eq_true rfl⟩ ⟨Nat.le_of_ble_eq_true rfl, Nat.le_of_ble_eq_true rfl⟩ cls_12 rfl cc_85 rfl rfl rfl (Nat.le_of_ble_eq_true rfl) (Call.of rfl (Nat.le_of_ble_eq_true rfl) rfl ?_)
          refine a_aload_n (pc := 0) (dk dt_X12_fail 0 rfl) rfl ?_
          refine a_geti (pc := 1) (dk dt_X12_fail 1 rfl) cls_12 fl_RX12_312 cf_85_6 ?_
          refine a_if_ge (pc := 4) (dk dt_X12_fail 2 rfl) (tgt := 12) rfl ⟨fun c => ?_, fun c => ?_⟩
          · replace H := H.1 c
            refine a_vret (pc := 12) (dk dt_X12_fail 6 rfl) rfl rfl ?_
            show ATW _ _ _ _ _ _ _ _ _ _
            refine a_iload (pc := 109) (dk dt_X12_digits 55 rfl) rfl ?_
            exact a_iret (pc := 111) (dk dt_X12_digits 56 rfl) rfl rfl H
          · replace H := H.2 c
            refine a_aload_n (pc := 7) (dk dt_X12_fail 3 rfl) rfl ?_
            refine a_iload_n (pc := 8) (dk dt_X12_fail 4 rfl) rfl ?_
            refine a_puti (pc := 9) (dk dt_X12_fail 5 rfl) cls_12 fl_RX12_312 cf_85_6 rfl rfl ?_
            refine a_vret (pc := 12) (dk dt_X12_fail 6 rfl) rfl rfl ?_
            show ATW _ _ _ _ _ _ _ _ _ _
            refine a_iload (pc := 109) (dk dt_X12_digits 55 rfl) rfl ?_
            exact a_iret (pc := 111) (dk dt_X12_digits 56 rfl) rfl rfl H
        · replace H := H.2 c
          refine a_iconst (pc := 10) (dk dt_X12_is 6 rfl) (ik rfl) ?_
          refine a_goto (pc := 11) (dk dt_X12_is 7 rfl) (tgt := 15) rfl ?_
          refine a_zret (pc := 15) (dk dt_X12_is 9 rfl) rfl rfl ⟨by decide, ?_⟩
          show ATW _ _ _ _ _ _ _ _ _ _
          refine a_if_ne (pc := 100) (dk dt_X12_digits 51 rfl) (tgt := 109) rfl ⟨fun _ => ?_, fun c => absurd c (by decide)⟩
          refine a_iload (pc := 109) (dk dt_X12_digits 55 rfl) rfl ?_
          exact a_iret (pc := 111) (dk dt_X12_digits 56 rfl) rfl rfl H
    · replace H := H.2 c
      refine a_iconst (pc := 7) (dk dt_X12_bad 3 rfl) (ik rfl) ?_
      refine a_goto (pc := 8) (dk dt_X12_bad 4 rfl) (tgt := 12) rfl ?_
      refine a_zret (pc := 12) (dk dt_X12_bad 6 rfl) rfl rfl ⟨by decide, ?_⟩
      show ATW _ _ _ _ _ _ _ _ _ _
      refine a_if_ne (pc := 90) (dk dt_X12_digits 46 rfl) (tgt := 109) rfl ⟨fun _ => ?_, fun c => absurd c (by decide)⟩
      refine a_iload (pc := 109) (dk dt_X12_digits 55 rfl) rfl ?_
      exact a_iret (pc := 111) (dk dt_X12_digits 56 rfl) rfl rfl H
  · replace H := H.2 c
    refine a_aload_n (pc := 27) (dk dt_X12_digits 15 rfl) rfl ?_
    refine a_callVi (as := []) (st := []) (pc := 28) (dk dt_X12_digits 16 rfl) cl_RX12_315 ⟨Nat.le_of_ble_eq_true rfl, Nat.le_of_ble_eq_true rfl⟩ ⟨Nat.le_of_ble_eq_true rfl, Nat.le_of_ble_eq_true rfl⟩ cls_12 rfl cc_85 rfl rfl rfl (Nat.le_of_ble_eq_true rfl) (Call.of rfl (Nat.le_of_ble_eq_true rfl) rfl ?_)
    refine a_aload_n (pc := 0) (dk dt_X12_bad 0 rfl) rfl ?_
    refine a_geti (pc := 1) (dk dt_X12_bad 1 rfl) cls_12 fl_RX12_312 cf_85_6 ?_
    refine a_if_lt (pc := 4) (dk dt_X12_bad 2 rfl) (tgt := 11) rfl ⟨fun c => ?_, fun c => ?_⟩
    · replace H := H.1 c
      refine a_iconst (pc := 11) (dk dt_X12_bad 5 rfl) (ik rfl) ?_
      refine a_zret (pc := 12) (dk dt_X12_bad 6 rfl) rfl rfl ⟨by decide, ?_⟩
      show ATW _ _ _ _ _ _ _ _ _ _
      refine a_if_ne (pc := 31) (dk dt_X12_digits 17 rfl) (tgt := 86) rfl ⟨fun c => absurd c (by decide), fun _ => ?_⟩
      refine a_aload_n (pc := 34) (dk dt_X12_digits 18 rfl) rfl ?_
      refine a_callVi (as := []) (st := []) (pc := 35) (dk dt_X12_digits 19 rfl) cl_RX12_319 ⟨Nat.le_of_ble_eq_true rfl, Nat.le_of_ble_eq_true rfl⟩ ⟨Nat.le_of_ble_eq_true rfl, Nat.le_of_ble_eq_true rfl⟩ cls_12 rfl cc_85 rfl rfl rfl (Nat.le_of_ble_eq_true rfl) (Call.mono H fun r1 h2 H => ?_)
      refine a_callSi (as := [iv r1]) (st := []) (pc := 38) (dk dt_X12_digits 20 rfl) cl_RX12_326 ⟨Nat.le_of_ble_eq_true rfl, Nat.le_of_ble_eq_true rfl⟩ ⟨Nat.le_of_ble_eq_true rfl, Nat.le_of_ble_eq_true rfl⟩ rfl rfl rfl (Nat.le_of_ble_eq_true rfl) (Call.of rfl (Nat.le_of_ble_eq_true rfl) rfl ?_)
      refine a_iload_n (pc := 0) (dk dt_X12_isDigit 0 rfl) rfl ?_
      refine a_bipush (pc := 1) (dk dt_X12_isDigit 1 rfl) (ik rfl) (bpk rfl) ?_
      refine a_icmp_lt (pc := 3) (dk dt_X12_isDigit 2 rfl) (tgt := 16) rfl ⟨fun c => ?_, fun c => ?_⟩
      · replace H := H.1 c
        refine a_iconst (pc := 16) (dk dt_X12_isDigit 8 rfl) (ik rfl) ?_
        refine a_zret (pc := 17) (dk dt_X12_isDigit 9 rfl) rfl rfl ⟨by decide, ?_⟩
        show ATW _ _ _ _ _ _ _ _ _ _
        refine a_if_ne (pc := 41) (dk dt_X12_digits 21 rfl) (tgt := 55) rfl ⟨fun c => absurd c (by decide), fun _ => ?_⟩
        refine a_aload_n (pc := 44) (dk dt_X12_digits 22 rfl) rfl ?_
        refine a_aload_n (pc := 45) (dk dt_X12_digits 23 rfl) rfl ?_
        refine a_geti (pc := 46) (dk dt_X12_digits 24 rfl) cls_12 fl_RX12_309 cf_85_5 ?_
        refine a_callVv (as := [iv (h2 85 5)]) (st := []) (pc := 49) (dk dt_X12_digits 25 rfl) cl_RX12_323 ⟨Nat.le_of_ble_eq_true rfl, Nat.le_of_ble_eq_true rfl⟩ ⟨Nat.le_of_ble_eq_true rfl, Nat.le_of_ble_eq_true rfl⟩ cls_12 rfl cc_85 rfl rfl rfl (Nat.le_of_ble_eq_true rfl) (Call.of rfl (Nat.le_of_ble_eq_true rfl) rfl ?_)
        refine a_aload_n (pc := 0) (dk dt_X12_fail 0 rfl) rfl ?_
        refine a_geti (pc := 1) (dk dt_X12_fail 1 rfl) cls_12 fl_RX12_312 cf_85_6 ?_
        refine a_if_ge (pc := 4) (dk dt_X12_fail 2 rfl) (tgt := 12) rfl ⟨fun c => ?_, fun c => ?_⟩
        · replace H := H.1 c
          refine a_vret (pc := 12) (dk dt_X12_fail 6 rfl) rfl rfl ?_
          show ATW _ _ _ _ _ _ _ _ _ _
          refine a_goto (pc := 52) (dk dt_X12_digits 26 rfl) (tgt := 80) rfl ?_
          refine a_iinc (pc := 80) (dk dt_X12_digits 42 rfl) (by decide) rfl rfl rfl ?_
          refine a_goto (pc := 83) (dk dt_X12_digits 43 rfl) (tgt := 21) rfl ?_
          exact a_pick [0, 1, 2, 3, 4, 5, 6] rfl H
        · replace H := H.2 c
          refine a_aload_n (pc := 7) (dk dt_X12_fail 3 rfl) rfl ?_
          refine a_iload_n (pc := 8) (dk dt_X12_fail 4 rfl) rfl ?_
          refine a_puti (pc := 9) (dk dt_X12_fail 5 rfl) cls_12 fl_RX12_312 cf_85_6 rfl rfl ?_
          refine a_vret (pc := 12) (dk dt_X12_fail 6 rfl) rfl rfl ?_
          show ATW _ _ _ _ _ _ _ _ _ _
          refine a_goto (pc := 52) (dk dt_X12_digits 26 rfl) (tgt := 80) rfl ?_
          refine a_iinc (pc := 80) (dk dt_X12_digits 42 rfl) (by decide) rfl rfl rfl ?_
          refine a_goto (pc := 83) (dk dt_X12_digits 43 rfl) (tgt := 21) rfl ?_
          exact a_pick [0, 1, 2, 3, 4, 5, 6] rfl H
      · replace H := H.2 c
        refine a_iload_n (pc := 6) (dk dt_X12_isDigit 3 rfl) rfl ?_
        refine a_bipush (pc := 7) (dk dt_X12_isDigit 4 rfl) (ik rfl) (bpk rfl) ?_
        refine a_icmp_gt (pc := 9) (dk dt_X12_isDigit 5 rfl) (tgt := 16) rfl ⟨fun c => ?_, fun c => ?_⟩
        · replace H := H.1 c
          refine a_iconst (pc := 16) (dk dt_X12_isDigit 8 rfl) (ik rfl) ?_
          refine a_zret (pc := 17) (dk dt_X12_isDigit 9 rfl) rfl rfl ⟨by decide, ?_⟩
          show ATW _ _ _ _ _ _ _ _ _ _
          refine a_if_ne (pc := 41) (dk dt_X12_digits 21 rfl) (tgt := 55) rfl ⟨fun c => absurd c (by decide), fun _ => ?_⟩
          refine a_aload_n (pc := 44) (dk dt_X12_digits 22 rfl) rfl ?_
          refine a_aload_n (pc := 45) (dk dt_X12_digits 23 rfl) rfl ?_
          refine a_geti (pc := 46) (dk dt_X12_digits 24 rfl) cls_12 fl_RX12_309 cf_85_5 ?_
          refine a_callVv (as := [iv (h2 85 5)]) (st := []) (pc := 49) (dk dt_X12_digits 25 rfl) cl_RX12_323 ⟨Nat.le_of_ble_eq_true rfl, Nat.le_of_ble_eq_true rfl⟩ ⟨Nat.le_of_ble_eq_true rfl, Nat.le_of_ble_eq_true rfl⟩ cls_12 rfl cc_85 rfl rfl rfl (Nat.le_of_ble_eq_true rfl) (Call.of rfl (Nat.le_of_ble_eq_true rfl) rfl ?_)
          refine a_aload_n (pc := 0) (dk dt_X12_fail 0 rfl) rfl ?_
          refine a_geti (pc := 1) (dk dt_X12_fail 1 rfl) cls_12 fl_RX12_312 cf_85_6 ?_
          refine a_if_ge (pc := 4) (dk dt_X12_fail 2 rfl) (tgt := 12) rfl ⟨fun c => ?_, fun c => ?_⟩
          · replace H := H.1 c
            refine a_vret (pc := 12) (dk dt_X12_fail 6 rfl) rfl rfl ?_
            show ATW _ _ _ _ _ _ _ _ _ _
            refine a_goto (pc := 52) (dk dt_X12_digits 26 rfl) (tgt := 80) rfl ?_
            refine a_iinc (pc := 80) (dk dt_X12_digits 42 rfl) (by decide) rfl rfl rfl ?_
            refine a_goto (pc := 83) (dk dt_X12_digits 43 rfl) (tgt := 21) rfl ?_
            exact a_pick [0, 1, 2, 3, 4, 5, 6] rfl H
          · replace H := H.2 c
            refine a_aload_n (pc := 7) (dk dt_X12_fail 3 rfl) rfl ?_
            refine a_iload_n (pc := 8) (dk dt_X12_fail 4 rfl) rfl ?_
            refine a_puti (pc := 9) (dk dt_X12_fail 5 rfl) cls_12 fl_RX12_312 cf_85_6 rfl rfl ?_
            refine a_vret (pc := 12) (dk dt_X12_fail 6 rfl) rfl rfl ?_
            show ATW _ _ _ _ _ _ _ _ _ _
            refine a_goto (pc := 52) (dk dt_X12_digits 26 rfl) (tgt := 80) rfl ?_
            refine a_iinc (pc := 80) (dk dt_X12_digits 42 rfl) (by decide) rfl rfl rfl ?_
            refine a_goto (pc := 83) (dk dt_X12_digits 43 rfl) (tgt := 21) rfl ?_
            exact a_pick [0, 1, 2, 3, 4, 5, 6] rfl H
        · replace H := H.2 c
          refine a_iconst (pc := 12) (dk dt_X12_isDigit 6 rfl) (ik rfl) ?_
          refine a_goto (pc := 13) (dk dt_X12_isDigit 7 rfl) (tgt := 17) rfl ?_
          refine a_zret (pc := 17) (dk dt_X12_isDigit 9 rfl) rfl rfl ⟨by decide, ?_⟩
          show ATW _ _ _ _ _ _ _ _ _ _
          refine a_if_ne (pc := 41) (dk dt_X12_digits 21 rfl) (tgt := 55) rfl ⟨fun _ => ?_, fun c => absurd c (by decide)⟩
          refine a_bipush (pc := 55) (dk dt_X12_digits 27 rfl) (ik rfl) (bpk rfl) ?_
          refine a_iload (pc := 57) (dk dt_X12_digits 28 rfl) rfl ?_
          refine a_imul (pc := 59) (dk dt_X12_digits 29 rfl) ?_
          refine a_aload_n (pc := 60) (dk dt_X12_digits 30 rfl) rfl ?_
          refine a_callVi (as := []) (st := [iv (w32 (10 * x5))]) (pc := 61) (dk dt_X12_digits 31 rfl) cl_RX12_319 ⟨Nat.le_of_ble_eq_true rfl, Nat.le_of_ble_eq_true rfl⟩ ⟨Nat.le_of_ble_eq_true rfl, Nat.le_of_ble_eq_true rfl⟩ cls_12 rfl cc_85 rfl rfl rfl (Nat.le_of_ble_eq_true rfl) (Call.mono H fun r3 h4 H => ?_)
          refine a_iadd (pc := 64) (dk dt_X12_digits 32 rfl) ?_
          refine a_bipush (pc := 65) (dk dt_X12_digits 33 rfl) (ik rfl) (bpk rfl) ?_
          refine a_isub (pc := 67) (dk dt_X12_digits 34 rfl) ?_
          refine a_istore (pc := 68) (dk dt_X12_digits 35 rfl) (by decide) rfl rfl ?_
          refine a_aload_n (pc := 70) (dk dt_X12_digits 36 rfl) rfl ?_
          refine a_dup (pc := 71) (dk dt_X12_digits 37 rfl) rfl ?_
          refine a_geti (pc := 72) (dk dt_X12_digits 38 rfl) cls_12 fl_RX12_309 cf_85_5 ?_
          refine a_iconst (pc := 75) (dk dt_X12_digits 39 rfl) (ik rfl) ?_
          refine a_iadd (pc := 76) (dk dt_X12_digits 40 rfl) ?_
          refine a_puti (pc := 77) (dk dt_X12_digits 41 rfl) cls_12 fl_RX12_309 cf_85_5 rfl rfl ?_
          refine a_iinc (pc := 80) (dk dt_X12_digits 42 rfl) (by decide) rfl rfl rfl ?_
          refine a_goto (pc := 83) (dk dt_X12_digits 43 rfl) (tgt := 21) rfl ?_
          exact a_pick [0, 1, 2, 3, 4, 5, 6] rfl H
    · replace H := H.2 c
      refine a_iconst (pc := 7) (dk dt_X12_bad 3 rfl) (ik rfl) ?_
      refine a_goto (pc := 8) (dk dt_X12_bad 4 rfl) (tgt := 12) rfl ?_
      refine a_zret (pc := 12) (dk dt_X12_bad 6 rfl) rfl rfl ⟨by decide, ?_⟩
      show ATW _ _ _ _ _ _ _ _ _ _
      refine a_if_ne (pc := 31) (dk dt_X12_digits 17 rfl) (tgt := 86) rfl ⟨fun _ => ?_, fun c => absurd c (by decide)⟩
      refine a_aload_n (pc := 86) (dk dt_X12_digits 44 rfl) rfl ?_
      refine a_callVi (as := []) (st := []) (pc := 87) (dk dt_X12_digits 45 rfl) cl_RX12_315 ⟨Nat.le_of_ble_eq_true rfl, Nat.le_of_ble_eq_true rfl⟩ ⟨Nat.le_of_ble_eq_true rfl, Nat.le_of_ble_eq_true rfl⟩ cls_12 rfl cc_85 rfl rfl rfl (Nat.le_of_ble_eq_true rfl) (Call.of rfl (Nat.le_of_ble_eq_true rfl) rfl ?_)
      refine a_aload_n (pc := 0) (dk dt_X12_bad 0 rfl) rfl ?_
      refine a_geti (pc := 1) (dk dt_X12_bad 1 rfl) cls_12 fl_RX12_312 cf_85_6 ?_
      refine a_if_lt (pc := 4) (dk dt_X12_bad 2 rfl) (tgt := 11) rfl ⟨fun c => ?_, fun c => ?_⟩
      · replace H := H.1 c
        refine a_iconst (pc := 11) (dk dt_X12_bad 5 rfl) (ik rfl) ?_
        refine a_zret (pc := 12) (dk dt_X12_bad 6 rfl) rfl rfl ⟨by decide, ?_⟩
        show ATW _ _ _ _ _ _ _ _ _ _
        refine a_if_ne (pc := 90) (dk dt_X12_digits 46 rfl) (tgt := 109) rfl ⟨fun c => absurd c (by decide), fun _ => ?_⟩
        refine a_iload (pc := 93) (dk dt_X12_digits 47 rfl) rfl ?_
        refine a_iload_n (pc := 95) (dk dt_X12_digits 48 rfl) rfl ?_
        refine a_iload_n (pc := 96) (dk dt_X12_digits 49 rfl) rfl ?_
        refine a_callSi (as := [iv x5, iv x2, iv x3]) (st := []) (pc := 97) (dk dt_X12_digits 50 rfl) cl_RX12_302 ⟨Nat.le_of_ble_eq_true rfl, Nat.le_of_ble_eq_true rfl⟩ ⟨Nat.le_of_ble_eq_true rfl, Nat.le_of_ble_eq_true rfl⟩ rfl rfl rfl (Nat.le_of_ble_eq_true rfl) (Call.of rfl (Nat.le_of_ble_eq_true rfl) rfl ?_)
        refine a_iload_n (pc := 0) (dk dt_X12_is 0 rfl) rfl ?_
        refine a_iload_n (pc := 1) (dk dt_X12_is 1 rfl) rfl ?_
        refine a_icmp_lt (pc := 2) (dk dt_X12_is 2 rfl) (tgt := 14) rfl ⟨fun c => ?_, fun c => ?_⟩
        · replace H := H.1 c
          refine a_iconst (pc := 14) (dk dt_X12_is 8 rfl) (ik rfl) ?_
          refine a_zret (pc := 15) (dk dt_X12_is 9 rfl) rfl rfl ⟨by decide, ?_⟩
          show ATW _ _ _ _ _ _ _ _ _ _
          refine a_if_ne (pc := 100) (dk dt_X12_digits 51 rfl) (tgt := 109) rfl ⟨fun c => absurd c (by decide), fun _ => ?_⟩
          refine a_aload_n (pc := 103) (dk dt_X12_digits 52 rfl) rfl ?_
          refine a_iload (pc := 104) (dk dt_X12_digits 53 rfl) rfl ?_
          refine a_callVv (as := [iv x4]) (st := []) (pc := 106) (dk dt_X12_digits 54 rfl) cl_RX12_323 ⟨Nat.le_of_ble_eq_true rfl, Nat.le_of_ble_eq_true rfl⟩ ⟨Nat.le_of_ble_eq_true rfl, Nat.le_of_ble_eq_true rfl⟩ cls_12 rfl cc_85 rfl rfl rfl (Nat.le_of_ble_eq_true rfl) (Call.of rfl (Nat.le_of_ble_eq_true rfl) rfl ?_)
          refine a_aload_n (pc := 0) (dk dt_X12_fail 0 rfl) rfl ?_
          refine a_geti (pc := 1) (dk dt_X12_fail 1 rfl) cls_12 fl_RX12_312 cf_85_6 ?_
          refine a_if_ge (pc := 4) (dk dt_X12_fail 2 rfl) (tgt := 12) rfl ⟨fun c => ?_, fun c => ?_⟩
          · replace H := H.1 c
            refine a_vret (pc := 12) (dk dt_X12_fail 6 rfl) rfl rfl ?_
            show ATW _ _ _ _ _ _ _ _ _ _
            refine a_iload (pc := 109) (dk dt_X12_digits 55 rfl) rfl ?_
            exact a_iret (pc := 111) (dk dt_X12_digits 56 rfl) rfl rfl H
          · replace H := H.2 c
            refine a_aload_n (pc := 7) (dk dt_X12_fail 3 rfl) rfl ?_
            refine a_iload_n (pc := 8) (dk dt_X12_fail 4 rfl) rfl ?_
            refine a_puti (pc := 9) (dk dt_X12_fail 5 rfl) cls_12 fl_RX12_312 cf_85_6 rfl rfl ?_
            refine a_vret (pc := 12) (dk dt_X12_fail 6 rfl) rfl rfl ?_
            show ATW _ _ _ _ _ _ _ _ _ _
            refine a_iload (pc := 109) (dk dt_X12_digits 55 rfl) rfl ?_
            exact a_iret (pc := 111) (dk dt_X12_digits 56 rfl) rfl rfl H
        · replace H := H.2 c
          refine a_iload_n (pc := 5) (dk dt_X12_is 3 rfl) rfl ?_
          refine a_iload_n (pc := 6) (dk dt_X12_is 4 rfl) rfl ?_
          refine a_icmp_gt (pc := 7) (dk dt_X12_is 5 rfl) (tgt := 14) rfl ⟨fun c => ?_, fun c => ?_⟩
          · replace H := H.1 c
            refine a_iconst (pc := 14) (dk dt_X12_is 8 rfl) (ik rfl) ?_
            refine a_zret (pc := 15) (dk dt_X12_is 9 rfl) rfl rfl ⟨by decide, ?_⟩
            show ATW _ _ _ _ _ _ _ _ _ _
            refine a_if_ne (pc := 100) (dk dt_X12_digits 51 rfl) (tgt := 109) rfl ⟨fun c => absurd c (by decide), fun _ => ?_⟩
            refine a_aload_n (pc := 103) (dk dt_X12_digits 52 rfl) rfl ?_
            refine a_iload (pc := 104) (dk dt_X12_digits 53 rfl) rfl ?_
            refine a_callVv (as := [iv x4]) (st := []) (pc := 106) (dk dt_X12_digits 54 rfl) cl_RX12_323 ⟨Nat.le_of_ble_eq_true rfl, Nat.le_of_ble_eq_true rfl⟩ ⟨Nat.le_of_ble_eq_true rfl, Nat.le_of_ble_eq_true rfl⟩ cls_12 rfl cc_85 rfl rfl rfl (Nat.le_of_ble_eq_true rfl) (Call.of rfl (Nat.le_of_ble_eq_true rfl) rfl ?_)
            refine a_aload_n (pc := 0) (dk dt_X12_fail 0 rfl) rfl ?_
            refine a_geti (pc := 1) (dk dt_X12_fail 1 rfl) cls_12 fl_RX12_312 cf_85_6 ?_
            refine a_if_ge (pc := 4) (dk dt_X12_fail 2 rfl) (tgt := 12) rfl ⟨fun c => ?_, fun c => ?_⟩
            · replace H := H.1 c
              refine a_vret (pc := 12) (dk dt_X12_fail 6 rfl) rfl rfl ?_
              show ATW _ _ _ _ _ _ _ _ _ _
              refine a_iload (pc := 109) (dk dt_X12_digits 55 rfl) rfl ?_
              exact a_iret (pc := 111) (dk dt_X12_digits 56 rfl) rfl rfl H
            · replace H := H.2 c
              refine a_aload_n (pc := 7) (dk dt_X12_fail 3 rfl) rfl ?_
              refine a_iload_n (pc := 8) (dk dt_X12_fail 4 rfl) rfl ?_
              refine a_puti (pc := 9) (dk dt_X12_fail 5 rfl) cls_12 fl_RX12_312 cf_85_6 rfl rfl ?_
              refine a_vret (pc := 12) (dk dt_X12_fail 6 rfl) rfl rfl ?_
              show ATW _ _ _ _ _ _ _ _ _ _
              refine a_iload (pc := 109) (dk dt_X12_digits 55 rfl) rfl ?_
              exact a_iret (pc := 111) (dk dt_X12_digits 56 rfl) rfl rfl H
          · replace H := H.2 c
            refine a_iconst (pc := 10) (dk dt_X12_is 6 rfl) (ik rfl) ?_
            refine a_goto (pc := 11) (dk dt_X12_is 7 rfl) (tgt := 15) rfl ?_
            refine a_zret (pc := 15) (dk dt_X12_is 9 rfl) rfl rfl ⟨by decide, ?_⟩
            show ATW _ _ _ _ _ _ _ _ _ _
            refine a_if_ne (pc := 100) (dk dt_X12_digits 51 rfl) (tgt := 109) rfl ⟨fun _ => ?_, fun c => absurd c (by decide)⟩
            refine a_iload (pc := 109) (dk dt_X12_digits 55 rfl) rfl ?_
            exact a_iret (pc := 111) (dk dt_X12_digits 56 rfl) rfl rfl H
      · replace H := H.2 c
        refine a_iconst (pc := 7) (dk dt_X12_bad 3 rfl) (ik rfl) ?_
        refine a_goto (pc := 8) (dk dt_X12_bad 4 rfl) (tgt := 12) rfl ?_
        refine a_zret (pc := 12) (dk dt_X12_bad 6 rfl) rfl rfl ⟨by decide, ?_⟩
        show ATW _ _ _ _ _ _ _ _ _ _
        refine a_if_ne (pc := 90) (dk dt_X12_digits 46 rfl) (tgt := 109) rfl ⟨fun _ => ?_, fun c => absurd c (by decide)⟩
        refine a_iload (pc := 109) (dk dt_X12_digits 55 rfl) rfl ?_
        exact a_iret (pc := 111) (dk dt_X12_digits 56 rfl) rfl rfl H
set_option maxHeartbeats 40000000 in
theorem U_X12_take_85_0 {G : GG} {Φ : Int → Hp → Prop} {h : Hp} (H : AT G m_X12_take 10 [(0, rv 85), (1, iv 0)] [] (up h 85 4 (h 85 3)) Φ) : AT G m_X12_take 0 [(0, rv 85)] [] h Φ := by
  refine a_aload_n (pc := 0) (dk dt_X12_take 0 rfl) rfl ?_
  refine a_aload_n (pc := 1) (dk dt_X12_take 1 rfl) rfl ?_
  refine a_geti (pc := 2) (dk dt_X12_take 2 rfl) cls_12 fl_RX12_292 cf_85_3 ?_
  refine a_puti (pc := 5) (dk dt_X12_take 3 rfl) cls_12 fl_RX12_306 cf_85_4 rfl rfl ?_
  refine a_iconst (pc := 8) (dk dt_X12_take 4 rfl) (ik rfl) ?_
  refine a_istore_n (pc := 9) (dk dt_X12_take 5 rfl) (by decide) rfl rfl ?_
  exact a_pick [0, 1] rfl H
set_option maxHeartbeats 40000000 in
theorem U_X12_take_85_10 {G : GG} {Φ : Int → Hp → Prop} {h : Hp} {x1 : Int} (H : (((h 85 4) ≤ x1 → Φ 0 (up (up (up h 85 3 0) 85 5 0) 85 6 (-1))) ∧ (x1 < (h 85 4) → (0 ≤ x1 ∧ x1 < 1600) ∧ (0 ≤ x1 ∧ x1 < 1600) ∧ AT G m_X12_take 10 [(0, rv 85), (1, iv (w32 (x1 + 1)))] [] (up h 87 x1 (h 86 x1)) Φ))) : AT G m_X12_take 10 [(0, rv 85), (1, iv x1)] [] h Φ := by
  refine a_iload_n (pc := 10) (dk dt_X12_take 6 rfl) rfl ?_
  refine a_aload_n (pc := 11) (dk dt_X12_take 7 rfl) rfl ?_
  refine a_geti (pc := 12) (dk dt_X12_take 8 rfl) cls_12 fl_RX12_306 cf_85_4 ?_
  refine a_icmp_ge (pc := 15) (dk dt_X12_take 9 rfl) (tgt := 36) rfl ⟨fun c => ?_, fun c => ?_⟩
  · replace H := H.1 c
    refine a_aload_n (pc := 36) (dk dt_X12_take 20 rfl) rfl ?_
    refine a_iconst (pc := 37) (dk dt_X12_take 21 rfl) (ik rfl) ?_
    refine a_puti (pc := 38) (dk dt_X12_take 22 rfl) cls_12 fl_RX12_292 cf_85_3 rfl rfl ?_
    refine a_aload_n (pc := 41) (dk dt_X12_take 23 rfl) rfl ?_
    refine a_iconst (pc := 42) (dk dt_X12_take 24 rfl) (ik rfl) ?_
    refine a_puti (pc := 43) (dk dt_X12_take 25 rfl) cls_12 fl_RX12_309 cf_85_5 rfl rfl ?_
    refine a_aload_n (pc := 46) (dk dt_X12_take 26 rfl) rfl ?_
    refine a_iconst (pc := 47) (dk dt_X12_take 27 rfl) (ik rfl) ?_
    refine a_puti (pc := 48) (dk dt_X12_take 28 rfl) cls_12 fl_RX12_312 cf_85_6 rfl rfl ?_
    exact a_vret (pc := 51) (dk dt_X12_take 29 rfl) rfl rfl H
  · replace H := H.2 c
    refine a_aload_n (pc := 18) (dk dt_X12_take 10 rfl) rfl ?_
    refine a_getr (r := 86) (pc := 19) (dk dt_X12_take 11 rfl) cls_12 fl_RX12_13 cf_85_1 ?_
    refine a_iload_n (pc := 22) (dk dt_X12_take 12 rfl) rfl ?_
    refine a_aload_n (pc := 23) (dk dt_X12_take 13 rfl) rfl ?_
    refine a_getr (r := 85) (pc := 24) (dk dt_X12_take 14 rfl) cls_12 fl_RX12_7 cf_85_0 ?_
    refine a_iload_n (pc := 27) (dk dt_X12_take 15 rfl) rfl ?_
    refine a_iald (pc := 28) (dk dt_X12_take 16 rfl) ar_86 ⟨H.1, ?_⟩
    replace H := H.2
    refine a_iast (pc := 29) (dk dt_X12_take 17 rfl) ar_87 ⟨H.1, ?_⟩
    replace H := H.2
    refine a_iinc (pc := 30) (dk dt_X12_take 18 rfl) (by decide) rfl rfl rfl ?_
    refine a_goto (pc := 33) (dk dt_X12_take 19 rfl) (tgt := 10) rfl ?_
    exact a_pick [0, 1] rfl H
set_option maxHeartbeats 40000000 in
theorem U_X12_hasLeap_85_0 {G : GG} {Φ : Int → Hp → Prop} {h : Hp} {x1 : Int} (H : AT G m_X12_hasLeap 4 [(0, rv 85), (1, iv x1), (2, iv 0), (3, iv 0)] [] h Φ) : AT G m_X12_hasLeap 0 [(0, rv 85), (1, iv x1)] [] h Φ := by
  refine a_iconst (pc := 0) (dk dt_X12_hasLeap 0 rfl) (ik rfl) ?_
  refine a_istore_n (pc := 1) (dk dt_X12_hasLeap 1 rfl) (by decide) rfl rfl ?_
  refine a_iconst (pc := 2) (dk dt_X12_hasLeap 2 rfl) (ik rfl) ?_
  refine a_istore_n (pc := 3) (dk dt_X12_hasLeap 3 rfl) (by decide) rfl rfl ?_
  exact a_pick [0, 1, 2, 3] rfl H
set_option maxHeartbeats 40000000 in
theorem U_X12_hasLeap_85_4 {G : GG} {Φ : Int → Hp → Prop} {h : Hp} {x1 : Int} {x2 : Int} {x3 : Int} (H : (((h 85 9) ≤ x3 → (x2 = 0 ∨ x2 = 1) ∧ Φ x2 h) ∧ (x3 < (h 85 9) → ((x2 ≠ 0 → AT G m_X12_hasLeap 4 [(0, rv 85), (1, iv x1), (2, iv 1), (3, iv (w32 (x3 + 1)))] [] h Φ) ∧ (x2 = 0 → (0 ≤ x3 ∧ x3 < 10) ∧ (((h 89 x3) ≠ x1 → AT G m_X12_hasLeap 4 [(0, rv 85), (1, iv x1), (2, iv 0), (3, iv (w32 (x3 + 1)))] [] h Φ) ∧ ((h 89 x3) = x1 → AT G m_X12_hasLeap 4 [(0, rv 85), (1, iv x1), (2, iv 1), (3, iv (w32 (x3 + 1)))] [] h Φ))))))) : AT G m_X12_hasLeap 4 [(0, rv 85), (1, iv x1), (2, iv x2), (3, iv x3)] [] h Φ := by
  refine a_iload_n (pc := 4) (dk dt_X12_hasLeap 4 rfl) rfl ?_
  refine a_aload_n (pc := 5) (dk dt_X12_hasLeap 5 rfl) rfl ?_
  refine a_geti (pc := 6) (dk dt_X12_hasLeap 6 rfl) cls_12 fl_RX12_360 cf_85_9 ?_
  refine a_icmp_ge (pc := 9) (dk dt_X12_hasLeap 7 rfl) (tgt := 38) rfl ⟨fun c => ?_, fun c => ?_⟩
  · replace H := H.1 c
    refine a_iload_n (pc := 38) (dk dt_X12_hasLeap 22 rfl) rfl ?_
    exact a_zret (pc := 39) (dk dt_X12_hasLeap 23 rfl) rfl rfl H
  · replace H := H.2 c
    refine a_iload_n (pc := 12) (dk dt_X12_hasLeap 8 rfl) rfl ?_
    refine a_if_ne (pc := 13) (dk dt_X12_hasLeap 9 rfl) (tgt := 26) rfl ⟨fun c => ?_, fun c => ?_⟩
    · replace H := H.1 c
      refine a_iconst (pc := 26) (dk dt_X12_hasLeap 16 rfl) (ik rfl) ?_
      refine a_goto (pc := 27) (dk dt_X12_hasLeap 17 rfl) (tgt := 31) rfl ?_
      refine a_istore_n (pc := 31) (dk dt_X12_hasLeap 19 rfl) (by decide) rfl rfl ?_
      refine a_iinc (pc := 32) (dk dt_X12_hasLeap 20 rfl) (by decide) rfl rfl rfl ?_
      refine a_goto (pc := 35) (dk dt_X12_hasLeap 21 rfl) (tgt := 4) rfl ?_
      exact a_pick [0, 1, 2, 3] rfl H
    · replace H := H.2 c
      refine a_aload_n (pc := 16) (dk dt_X12_hasLeap 10 rfl) rfl ?_
      refine a_getr (r := 88) (pc := 17) (dk dt_X12_hasLeap 11 rfl) cls_12 fl_RX12_19 cf_85_8 ?_
      refine a_iload_n (pc := 20) (dk dt_X12_hasLeap 12 rfl) rfl ?_
      refine a_iald (pc := 21) (dk dt_X12_hasLeap 13 rfl) ar_89 ⟨H.1, ?_⟩
      replace H := H.2
      refine a_iload_n (pc := 22) (dk dt_X12_hasLeap 14 rfl) rfl ?_
      refine a_icmp_ne (pc := 23) (dk dt_X12_hasLeap 15 rfl) (tgt := 30) rfl ⟨fun c => ?_, fun c => ?_⟩
      · replace H := H.1 c
        refine a_iconst (pc := 30) (dk dt_X12_hasLeap 18 rfl) (ik rfl) ?_
        refine a_istore_n (pc := 31) (dk dt_X12_hasLeap 19 rfl) (by decide) rfl rfl ?_
        refine a_iinc (pc := 32) (dk dt_X12_hasLeap 20 rfl) (by decide) rfl rfl rfl ?_
        refine a_goto (pc := 35) (dk dt_X12_hasLeap 21 rfl) (tgt := 4) rfl ?_
        exact a_pick [0, 1, 2, 3] rfl H
      · replace H := H.2 c
        refine a_iconst (pc := 26) (dk dt_X12_hasLeap 16 rfl) (ik rfl) ?_
        refine a_goto (pc := 27) (dk dt_X12_hasLeap 17 rfl) (tgt := 31) rfl ?_
        refine a_istore_n (pc := 31) (dk dt_X12_hasLeap 19 rfl) (by decide) rfl rfl ?_
        refine a_iinc (pc := 32) (dk dt_X12_hasLeap 20 rfl) (by decide) rfl rfl rfl ?_
        refine a_goto (pc := 35) (dk dt_X12_hasLeap 21 rfl) (tgt := 4) rfl ?_
        exact a_pick [0, 1, 2, 3] rfl H
set_option maxHeartbeats 40000000 in
theorem U_X12_need_85_0 {G : GG} {Φ : Int → Hp → Prop} {h : Hp} {x1 : Int} (H : (((h 85 6) < 0 → Call G m_X12_here [rv 85] h (fun r1 h2 => ((r1 ≠ x1 → ((0 ≤ (h2 85 6) → Φ 0 h2) ∧ ((h2 85 6) < 0 → Φ 0 (up h2 85 6 (h2 85 5))))) ∧ (r1 = x1 → Φ 0 (up h2 85 5 (w32 ((h2 85 5) + 1))))))) ∧ (0 ≤ (h 85 6) → Φ 0 h))) : AT G m_X12_need 0 [(0, rv 85), (1, iv x1)] [] h Φ := by
  refine a_aload_n (pc := 0) (dk dt_X12_need 0 rfl) rfl ?_
  refine a_callVi (as := []) (st := []) (pc := 1) (dk dt_X12_need 1 rfl) cl_RX12_315 ⟨Nat.le_of_ble_eq_true rfl, Nat.le_of_ble_eq_true rfl⟩ ⟨Nat.le_of_ble_eq_true rfl, Nat.le_of_ble_eq_true rfl⟩ cls_12 rfl cc_85 rfl rfl rfl (Nat.le_of_ble_eq_true rfl) (Call.of rfl (Nat.le_of_ble_eq_true rfl) rfl ?_)
  refine a_aload_n (pc := 0) (dk dt_X12_bad 0 rfl) rfl ?_
  refine a_geti (pc := 1) (dk dt_X12_bad 1 rfl) cls_12 fl_RX12_312 cf_85_6 ?_
  refine a_if_lt (pc := 4) (dk dt_X12_bad 2 rfl) (tgt := 11) rfl ⟨fun c => ?_, fun c => ?_⟩
  · replace H := H.1 c
    refine a_iconst (pc := 11) (dk dt_X12_bad 5 rfl) (ik rfl) ?_
    refine a_zret (pc := 12) (dk dt_X12_bad 6 rfl) rfl rfl ⟨by decide, ?_⟩
    show ATW _ _ _ _ _ _ _ _ _ _
    refine a_if_eq (pc := 4) (dk dt_X12_need 2 rfl) (tgt := 8) rfl ⟨fun _ => ?_, fun c => absurd c (by decide)⟩
    refine a_aload_n (pc := 8) (dk dt_X12_need 4 rfl) rfl ?_
    refine a_callVi (as := []) (st := []) (pc := 9) (dk dt_X12_need 5 rfl) cl_RX12_319 ⟨Nat.le_of_ble_eq_true rfl, Nat.le_of_ble_eq_true rfl⟩ ⟨Nat.le_of_ble_eq_true rfl, Nat.le_of_ble_eq_true rfl⟩ cls_12 rfl cc_85 rfl rfl rfl (Nat.le_of_ble_eq_true rfl) (Call.mono H fun r1 h2 H => ?_)
    refine a_iload_n (pc := 12) (dk dt_X12_need 6 rfl) rfl ?_
    refine a_icmp_ne (pc := 13) (dk dt_X12_need 7 rfl) (tgt := 29) rfl ⟨fun c => ?_, fun c => ?_⟩
    · replace H := H.1 c
      refine a_aload_n (pc := 29) (dk dt_X12_need 15 rfl) rfl ?_
      refine a_aload_n (pc := 30) (dk dt_X12_need 16 rfl) rfl ?_
      refine a_geti (pc := 31) (dk dt_X12_need 17 rfl) cls_12 fl_RX12_309 cf_85_5 ?_
      refine a_callVv (as := [iv (h2 85 5)]) (st := []) (pc := 34) (dk dt_X12_need 18 rfl) cl_RX12_323 ⟨Nat.le_of_ble_eq_true rfl, Nat.le_of_ble_eq_true rfl⟩ ⟨Nat.le_of_ble_eq_true rfl, Nat.le_of_ble_eq_true rfl⟩ cls_12 rfl cc_85 rfl rfl rfl (Nat.le_of_ble_eq_true rfl) (Call.of rfl (Nat.le_of_ble_eq_true rfl) rfl ?_)
      refine a_aload_n (pc := 0) (dk dt_X12_fail 0 rfl) rfl ?_
      refine a_geti (pc := 1) (dk dt_X12_fail 1 rfl) cls_12 fl_RX12_312 cf_85_6 ?_
      refine a_if_ge (pc := 4) (dk dt_X12_fail 2 rfl) (tgt := 12) rfl ⟨fun c => ?_, fun c => ?_⟩
      · replace H := H.1 c
        refine a_vret (pc := 12) (dk dt_X12_fail 6 rfl) rfl rfl ?_
        show ATW _ _ _ _ _ _ _ _ _ _
        exact a_vret (pc := 37) (dk dt_X12_need 19 rfl) rfl rfl H
      · replace H := H.2 c
        refine a_aload_n (pc := 7) (dk dt_X12_fail 3 rfl) rfl ?_
        refine a_iload_n (pc := 8) (dk dt_X12_fail 4 rfl) rfl ?_
        refine a_puti (pc := 9) (dk dt_X12_fail 5 rfl) cls_12 fl_RX12_312 cf_85_6 rfl rfl ?_
        refine a_vret (pc := 12) (dk dt_X12_fail 6 rfl) rfl rfl ?_
        show ATW _ _ _ _ _ _ _ _ _ _
        exact a_vret (pc := 37) (dk dt_X12_need 19 rfl) rfl rfl H
    · replace H := H.2 c
      refine a_aload_n (pc := 16) (dk dt_X12_need 8 rfl) rfl ?_
      refine a_dup (pc := 17) (dk dt_X12_need 9 rfl) rfl ?_
      refine a_geti (pc := 18) (dk dt_X12_need 10 rfl) cls_12 fl_RX12_309 cf_85_5 ?_
      refine a_iconst (pc := 21) (dk dt_X12_need 11 rfl) (ik rfl) ?_
      refine a_iadd (pc := 22) (dk dt_X12_need 12 rfl) ?_
      refine a_puti (pc := 23) (dk dt_X12_need 13 rfl) cls_12 fl_RX12_309 cf_85_5 rfl rfl ?_
      refine a_goto (pc := 26) (dk dt_X12_need 14 rfl) (tgt := 37) rfl ?_
      exact a_vret (pc := 37) (dk dt_X12_need 19 rfl) rfl rfl H
  · replace H := H.2 c
    refine a_iconst (pc := 7) (dk dt_X12_bad 3 rfl) (ik rfl) ?_
    refine a_goto (pc := 8) (dk dt_X12_bad 4 rfl) (tgt := 12) rfl ?_
    refine a_zret (pc := 12) (dk dt_X12_bad 6 rfl) rfl rfl ⟨by decide, ?_⟩
    show ATW _ _ _ _ _ _ _ _ _ _
    refine a_if_eq (pc := 4) (dk dt_X12_need 2 rfl) (tgt := 8) rfl ⟨fun c => absurd c (by decide), fun _ => ?_⟩
    exact a_vret (pc := 7) (dk dt_X12_need 3 rfl) rfl rfl H
set_option maxHeartbeats 40000000 in
theorem U_X12_firstSecond_85_0 {G : GG} {Φ : Int → Hp → Prop} {h : Hp} {x1 : Int} (H : AT G m_X12_firstSecond 8 [(0, rv 85), (1, iv x1), (2, iv (w32 (86400 * x1))), (3, iv 0)] [] h Φ) : AT G m_X12_firstSecond 0 [(0, rv 85), (1, iv x1)] [] h Φ := by
  refine a_ldcw (n := 86400) (pc := 0) (dk dt_X12_firstSecond 0 rfl) (ik rfl) co_RX12_363 ?_
  refine a_iload_n (pc := 3) (dk dt_X12_firstSecond 1 rfl) rfl ?_
  refine a_imul (pc := 4) (dk dt_X12_firstSecond 2 rfl) ?_
  refine a_istore_n (pc := 5) (dk dt_X12_firstSecond 3 rfl) (by decide) rfl rfl ?_
  refine a_iconst (pc := 6) (dk dt_X12_firstSecond 4 rfl) (ik rfl) ?_
  refine a_istore_n (pc := 7) (dk dt_X12_firstSecond 5 rfl) (by decide) rfl rfl ?_
  exact a_pick [0, 1, 2, 3] rfl H
set_option maxHeartbeats 40000000 in
theorem U_X12_firstSecond_85_8 {G : GG} {Φ : Int → Hp → Prop} {h : Hp} {x1 : Int} {x2 : Int} {x3 : Int} (H : (((h 85 9) ≤ x3 → Φ x2 h) ∧ (x3 < (h 85 9) → (0 ≤ x3 ∧ x3 < 10) ∧ ((x1 ≤ (h 89 x3) → AT G m_X12_firstSecond 8 [(0, rv 85), (1, iv x1), (2, iv (w32 (x2 + 0))), (3, iv (w32 (x3 + 1)))] [] h Φ) ∧ ((h 89 x3) < x1 → AT G m_X12_firstSecond 8 [(0, rv 85), (1, iv x1), (2, iv (w32 (x2 + 1))), (3, iv (w32 (x3 + 1)))] [] h Φ))))) : AT G m_X12_firstSecond 8 [(0, rv 85), (1, iv x1), (2, iv x2), (3, iv x3)] [] h Φ := by
  refine a_iload_n (pc := 8) (dk dt_X12_firstSecond 6 rfl) rfl ?_
  refine a_aload_n (pc := 9) (dk dt_X12_firstSecond 7 rfl) rfl ?_
  refine a_geti (pc := 10) (dk dt_X12_firstSecond 8 rfl) cls_12 fl_RX12_360 cf_85_9 ?_
  refine a_icmp_ge (pc := 13) (dk dt_X12_firstSecond 9 rfl) (tgt := 40) rfl ⟨fun c => ?_, fun c => ?_⟩
  · replace H := H.1 c
    refine a_iload_n (pc := 40) (dk dt_X12_firstSecond 24 rfl) rfl ?_
    exact a_iret (pc := 41) (dk dt_X12_firstSecond 25 rfl) rfl rfl H
  · replace H := H.2 c
    refine a_iload_n (pc := 16) (dk dt_X12_firstSecond 10 rfl) rfl ?_
    refine a_aload_n (pc := 17) (dk dt_X12_firstSecond 11 rfl) rfl ?_
    refine a_getr (r := 88) (pc := 18) (dk dt_X12_firstSecond 12 rfl) cls_12 fl_RX12_19 cf_85_8 ?_
    refine a_iload_n (pc := 21) (dk dt_X12_firstSecond 13 rfl) rfl ?_
    refine a_iald (pc := 22) (dk dt_X12_firstSecond 14 rfl) ar_89 ⟨H.1, ?_⟩
    replace H := H.2
    refine a_iload_n (pc := 23) (dk dt_X12_firstSecond 15 rfl) rfl ?_
    refine a_icmp_ge (pc := 24) (dk dt_X12_firstSecond 16 rfl) (tgt := 31) rfl ⟨fun c => ?_, fun c => ?_⟩
    · replace H := H.1 c
      refine a_iconst (pc := 31) (dk dt_X12_firstSecond 19 rfl) (ik rfl) ?_
      refine a_iadd (pc := 32) (dk dt_X12_firstSecond 20 rfl) ?_
      refine a_istore_n (pc := 33) (dk dt_X12_firstSecond 21 rfl) (by decide) rfl rfl ?_
      refine a_iinc (pc := 34) (dk dt_X12_firstSecond 22 rfl) (by decide) rfl rfl rfl ?_
      refine a_goto (pc := 37) (dk dt_X12_firstSecond 23 rfl) (tgt := 8) rfl ?_
      exact a_pick [0, 1, 2, 3] rfl H
    · replace H := H.2 c
      refine a_iconst (pc := 27) (dk dt_X12_firstSecond 17 rfl) (ik rfl) ?_
      refine a_goto (pc := 28) (dk dt_X12_firstSecond 18 rfl) (tgt := 32) rfl ?_
      refine a_iadd (pc := 32) (dk dt_X12_firstSecond 20 rfl) ?_
      refine a_istore_n (pc := 33) (dk dt_X12_firstSecond 21 rfl) (by decide) rfl rfl ?_
      refine a_iinc (pc := 34) (dk dt_X12_firstSecond 22 rfl) (by decide) rfl rfl rfl ?_
      refine a_goto (pc := 37) (dk dt_X12_firstSecond 23 rfl) (tgt := 8) rfl ?_
      exact a_pick [0, 1, 2, 3] rfl H
set_option maxHeartbeats 40000000 in
theorem U_X12_done_85_0 {G : GG} {Φ : Int → Hp → Prop} {h : Hp} (H : (((h 85 6) < 0 → (((h 85 4) ≤ (h 85 5) → Φ 0 h) ∧ ((h 85 5) < (h 85 4) → ((0 ≤ (h 85 6) → Φ 0 h) ∧ ((h 85 6) < 0 → Φ 0 (up h 85 6 (h 85 5))))))) ∧ (0 ≤ (h 85 6) → Φ 0 h))) : AT G m_X12_done 0 [(0, rv 85)] [] h Φ := by
  refine a_aload_n (pc := 0) (dk dt_X12_done 0 rfl) rfl ?_
  refine a_callVi (as := []) (st := []) (pc := 1) (dk dt_X12_done 1 rfl) cl_RX12_315 ⟨Nat.le_of_ble_eq_true rfl, Nat.le_of_ble_eq_true rfl⟩ ⟨Nat.le_of_ble_eq_true rfl, Nat.le_of_ble_eq_true rfl⟩ cls_12 rfl cc_85 rfl rfl rfl (Nat.le_of_ble_eq_true rfl) (Call.of rfl (Nat.le_of_ble_eq_true rfl) rfl ?_)
  refine a_aload_n (pc := 0) (dk dt_X12_bad 0 rfl) rfl ?_
  refine a_geti (pc := 1) (dk dt_X12_bad 1 rfl) cls_12 fl_RX12_312 cf_85_6 ?_
  refine a_if_lt (pc := 4) (dk dt_X12_bad 2 rfl) (tgt := 11) rfl ⟨fun c => ?_, fun c => ?_⟩
  · replace H := H.1 c
    refine a_iconst (pc := 11) (dk dt_X12_bad 5 rfl) (ik rfl) ?_
    refine a_zret (pc := 12) (dk dt_X12_bad 6 rfl) rfl rfl ⟨by decide, ?_⟩
    show ATW _ _ _ _ _ _ _ _ _ _
    refine a_if_ne (pc := 4) (dk dt_X12_done 2 rfl) (tgt := 26) rfl ⟨fun c => absurd c (by decide), fun _ => ?_⟩
    refine a_aload_n (pc := 7) (dk dt_X12_done 3 rfl) rfl ?_
    refine a_geti (pc := 8) (dk dt_X12_done 4 rfl) cls_12 fl_RX12_309 cf_85_5 ?_
    refine a_aload_n (pc := 11) (dk dt_X12_done 5 rfl) rfl ?_
    refine a_geti (pc := 12) (dk dt_X12_done 6 rfl) cls_12 fl_RX12_306 cf_85_4 ?_
    refine a_icmp_ge (pc := 15) (dk dt_X12_done 7 rfl) (tgt := 26) rfl ⟨fun c => ?_, fun c => ?_⟩
    · replace H := H.1 c
      exact a_vret (pc := 26) (dk dt_X12_done 12 rfl) rfl rfl H
    · replace H := H.2 c
      refine a_aload_n (pc := 18) (dk dt_X12_done 8 rfl) rfl ?_
      refine a_aload_n (pc := 19) (dk dt_X12_done 9 rfl) rfl ?_
      refine a_geti (pc := 20) (dk dt_X12_done 10 rfl) cls_12 fl_RX12_309 cf_85_5 ?_
      refine a_callVv (as := [iv (h 85 5)]) (st := []) (pc := 23) (dk dt_X12_done 11 rfl) cl_RX12_323 ⟨Nat.le_of_ble_eq_true rfl, Nat.le_of_ble_eq_true rfl⟩ ⟨Nat.le_of_ble_eq_true rfl, Nat.le_of_ble_eq_true rfl⟩ cls_12 rfl cc_85 rfl rfl rfl (Nat.le_of_ble_eq_true rfl) (Call.of rfl (Nat.le_of_ble_eq_true rfl) rfl ?_)
      refine a_aload_n (pc := 0) (dk dt_X12_fail 0 rfl) rfl ?_
      refine a_geti (pc := 1) (dk dt_X12_fail 1 rfl) cls_12 fl_RX12_312 cf_85_6 ?_
      refine a_if_ge (pc := 4) (dk dt_X12_fail 2 rfl) (tgt := 12) rfl ⟨fun c => ?_, fun c => ?_⟩
      · replace H := H.1 c
        refine a_vret (pc := 12) (dk dt_X12_fail 6 rfl) rfl rfl ?_
        show ATW _ _ _ _ _ _ _ _ _ _
        exact a_vret (pc := 26) (dk dt_X12_done 12 rfl) rfl rfl H
      · replace H := H.2 c
        refine a_aload_n (pc := 7) (dk dt_X12_fail 3 rfl) rfl ?_
        refine a_iload_n (pc := 8) (dk dt_X12_fail 4 rfl) rfl ?_
        refine a_puti (pc := 9) (dk dt_X12_fail 5 rfl) cls_12 fl_RX12_312 cf_85_6 rfl rfl ?_
        refine a_vret (pc := 12) (dk dt_X12_fail 6 rfl) rfl rfl ?_
        show ATW _ _ _ _ _ _ _ _ _ _
        exact a_vret (pc := 26) (dk dt_X12_done 12 rfl) rfl rfl H
  · replace H := H.2 c
    refine a_iconst (pc := 7) (dk dt_X12_bad 3 rfl) (ik rfl) ?_
    refine a_goto (pc := 8) (dk dt_X12_bad 4 rfl) (tgt := 12) rfl ?_
    refine a_zret (pc := 12) (dk dt_X12_bad 6 rfl) rfl rfl ⟨by decide, ?_⟩
    show ATW _ _ _ _ _ _ _ _ _ _
    refine a_if_ne (pc := 4) (dk dt_X12_done 2 rfl) (tgt := 26) rfl ⟨fun _ => ?_, fun c => absurd c (by decide)⟩
    exact a_vret (pc := 26) (dk dt_X12_done 12 rfl) rfl rfl H
set_option maxHeartbeats 40000000 in
theorem U_X12_isLong_0 {G : GG} {Φ : Int → Hp → Prop} {h : Hp} {x0 : Int} (H : (((x0.tmod 4) ≠ 0 → Φ 0 h) ∧ ((x0.tmod 4) = 0 → (((x0.tmod 100) ≠ 0 → Φ 1 h) ∧ ((x0.tmod 100) = 0 → (((x0.tmod 400) ≠ 0 → Φ 0 h) ∧ ((x0.tmod 400) = 0 → Φ 1 h))))))) : AT G m_X12_isLong 0 [(0, iv x0)] [] h Φ := by
  refine a_iload_n (pc := 0) (dk dt_X12_isLong 0 rfl) rfl ?_
  refine a_iconst (pc := 1) (dk dt_X12_isLong 1 rfl) (ik rfl) ?_
  refine a_irem (pc := 2) (dk dt_X12_isLong 2 rfl) ⟨by decide, ?_⟩
  refine a_if_ne (pc := 3) (dk dt_X12_isLong 3 rfl) (tgt := 25) rfl ⟨fun c => ?_, fun c => ?_⟩
  · replace H := H.1 c
    refine a_iconst (pc := 25) (dk dt_X12_isLong 14 rfl) (ik rfl) ?_
    exact a_zret (pc := 26) (dk dt_X12_isLong 15 rfl) rfl rfl ⟨by decide, H⟩
  · replace H := H.2 c
    refine a_iload_n (pc := 6) (dk dt_X12_isLong 4 rfl) rfl ?_
    refine a_bipush (pc := 7) (dk dt_X12_isLong 5 rfl) (ik rfl) (bpk rfl) ?_
    refine a_irem (pc := 9) (dk dt_X12_isLong 6 rfl) ⟨by decide, ?_⟩
    refine a_if_ne (pc := 10) (dk dt_X12_isLong 7 rfl) (tgt := 21) rfl ⟨fun c => ?_, fun c => ?_⟩
    · replace H := H.1 c
      refine a_iconst (pc := 21) (dk dt_X12_isLong 12 rfl) (ik rfl) ?_
      refine a_goto (pc := 22) (dk dt_X12_isLong 13 rfl) (tgt := 26) rfl ?_
      exact a_zret (pc := 26) (dk dt_X12_isLong 15 rfl) rfl rfl ⟨by decide, H⟩
    · replace H := H.2 c
      refine a_iload_n (pc := 13) (dk dt_X12_isLong 8 rfl) rfl ?_
      refine a_sipush (pc := 14) (dk dt_X12_isLong 9 rfl) (ik rfl) (spk rfl) ?_
      refine a_irem (pc := 17) (dk dt_X12_isLong 10 rfl) ⟨by decide, ?_⟩
      refine a_if_ne (pc := 18) (dk dt_X12_isLong 11 rfl) (tgt := 25) rfl ⟨fun c => ?_, fun c => ?_⟩
      · replace H := H.1 c
        refine a_iconst (pc := 25) (dk dt_X12_isLong 14 rfl) (ik rfl) ?_
        exact a_zret (pc := 26) (dk dt_X12_isLong 15 rfl) rfl rfl ⟨by decide, H⟩
      · replace H := H.2 c
        refine a_iconst (pc := 21) (dk dt_X12_isLong 12 rfl) (ik rfl) ?_
        refine a_goto (pc := 22) (dk dt_X12_isLong 13 rfl) (tgt := 26) rfl ?_
        exact a_zret (pc := 26) (dk dt_X12_isLong 15 rfl) rfl rfl ⟨by decide, H⟩
set_option maxHeartbeats 40000000 in
theorem U_X12_add_85_0 {G : GG} {Φ : Int → Hp → Prop} {h : Hp} {x1 : Int} (H : ((288 ≤ (h 85 7) → Φ 0 h) ∧ ((h 85 7) < 288 → (0 ≤ (h 85 7) ∧ (h 85 7) < 288) ∧ Φ 0 (up (up h 88 (h 85 7) x1) 85 7 (w32 ((h 85 7) + 1)))))) : AT G m_X12_add 0 [(0, rv 85), (1, iv x1)] [] h Φ := by
  refine a_aload_n (pc := 0) (dk dt_X12_add 0 rfl) rfl ?_
  refine a_geti (pc := 1) (dk dt_X12_add 1 rfl) cls_12 fl_RX12_299 cf_85_7 ?_
  refine a_sipush (pc := 4) (dk dt_X12_add 2 rfl) (ik rfl) (spk rfl) ?_
  refine a_icmp_ge (pc := 7) (dk dt_X12_add 3 rfl) (tgt := 30) rfl ⟨fun c => ?_, fun c => ?_⟩
  · replace H := H.1 c
    exact a_vret (pc := 30) (dk dt_X12_add 16 rfl) rfl rfl H
  · replace H := H.2 c
    refine a_aload_n (pc := 10) (dk dt_X12_add 4 rfl) rfl ?_
    refine a_getr (r := 87) (pc := 11) (dk dt_X12_add 5 rfl) cls_12 fl_RX12_16 cf_85_2 ?_
    refine a_aload_n (pc := 14) (dk dt_X12_add 6 rfl) rfl ?_
    refine a_geti (pc := 15) (dk dt_X12_add 7 rfl) cls_12 fl_RX12_299 cf_85_7 ?_
    refine a_iload_n (pc := 18) (dk dt_X12_add 8 rfl) rfl ?_
    refine a_iast (pc := 19) (dk dt_X12_add 9 rfl) ar_88 ⟨H.1, ?_⟩
    replace H := H.2
    refine a_aload_n (pc := 20) (dk dt_X12_add 10 rfl) rfl ?_
    refine a_dup (pc := 21) (dk dt_X12_add 11 rfl) rfl ?_
    refine a_geti (pc := 22) (dk dt_X12_add 12 rfl) cls_12 fl_RX12_299 cf_85_7 ?_
    refine a_top (y := (h 85 7)) (by simp [up, cpy]) ?_
    refine a_iconst (pc := 25) (dk dt_X12_add 13 rfl) (ik rfl) ?_
    refine a_iadd (pc := 26) (dk dt_X12_add 14 rfl) ?_
    refine a_puti (pc := 27) (dk dt_X12_add 15 rfl) cls_12 fl_RX12_299 cf_85_7 rfl rfl ?_
    exact a_vret (pc := 30) (dk dt_X12_add 16 rfl) rfl rfl H
set_option maxHeartbeats 40000000 in
theorem U_X12_digit_85_0 {G : GG} {Φ : Int → Hp → Prop} {h : Hp} {x1 : Int} {x2 : Int} (H : AT G m_X12_digit 5 [(0, rv 85), (1, iv x1), (2, iv x2), (3, iv 1), (4, iv 1)] [] h Φ) : AT G m_X12_digit 0 [(0, rv 85), (1, iv x1), (2, iv x2)] [] h Φ := by
  refine a_iconst (pc := 0) (dk dt_X12_digit 0 rfl) (ik rfl) ?_
  refine a_istore_n (pc := 1) (dk dt_X12_digit 1 rfl) (by decide) rfl rfl ?_
  refine a_iconst (pc := 2) (dk dt_X12_digit 2 rfl) (ik rfl) ?_
  refine a_istore (pc := 3) (dk dt_X12_digit 3 rfl) (by decide) rfl rfl ?_
  exact a_pick [0, 1, 2, 3, 4] rfl H
set_option maxHeartbeats 40000000 in
theorem U_X12_digit_85_5 {G : GG} {Φ : Int → Hp → Prop} {h : Hp} {x1 : Int} {x2 : Int} {x3 : Int} {x4 : Int} (H : ((x2 ≤ x4 → AT G m_X12_digit 22 [(0, rv 85), (1, iv x1), (3, iv x3)] [] h Φ) ∧ (x4 < x2 → AT G m_X12_digit 5 [(0, rv 85), (1, iv x1), (2, iv x2), (3, iv (w32 (x3 * 10))), (4, iv (w32 (x4 + 1)))] [] h Φ))) : AT G m_X12_digit 5 [(0, rv 85), (1, iv x1), (2, iv x2), (3, iv x3), (4, iv x4)] [] h Φ := by
  refine a_iload (pc := 5) (dk dt_X12_digit 4 rfl) rfl ?_
  refine a_iload_n (pc := 7) (dk dt_X12_digit 5 rfl) rfl ?_
  refine a_icmp_ge (pc := 8) (dk dt_X12_digit 6 rfl) (tgt := 22) rfl ⟨fun c => ?_, fun c => ?_⟩
  · replace H := H.1 c
    exact a_pick [0, 1, 3] rfl H
  · replace H := H.2 c
    refine a_iload_n (pc := 11) (dk dt_X12_digit 7 rfl) rfl ?_
    refine a_bipush (pc := 12) (dk dt_X12_digit 8 rfl) (ik rfl) (bpk rfl) ?_
    refine a_imul (pc := 14) (dk dt_X12_digit 9 rfl) ?_
    refine a_istore_n (pc := 15) (dk dt_X12_digit 10 rfl) (by decide) rfl rfl ?_
    refine a_iinc (pc := 16) (dk dt_X12_digit 11 rfl) (by decide) rfl rfl rfl ?_
    refine a_goto (pc := 19) (dk dt_X12_digit 12 rfl) (tgt := 5) rfl ?_
    exact a_pick [0, 1, 2, 3, 4] rfl H
set_option maxHeartbeats 40000000 in
theorem U_X12_digit_85_22 {G : GG} {Φ : Int → Hp → Prop} {h : Hp} {x1 : Int} {x3 : Int} (H : ((x3 ≤ 0 → Φ 0 h) ∧ (0 < x3 → x3 ≠ 0 ∧ Call G m_X12_add [rv 85, iv (w32 (48 + ((w32 (x1.tdiv x3)).tmod 10)))] h (fun _ h2 => AT G m_X12_digit 22 [(0, rv 85), (1, iv x1), (3, iv (w32 (x3.tdiv 10)))] [] h2 Φ)))) : AT G m_X12_digit 22 [(0, rv 85), (1, iv x1), (3, iv x3)] [] h Φ := by
  refine a_iload_n (pc := 22) (dk dt_X12_digit 13 rfl) rfl ?_
  refine a_if_le (pc := 23) (dk dt_X12_digit 14 rfl) (tgt := 47) rfl ⟨fun c => ?_, fun c => ?_⟩
  · replace H := H.1 c
    exact a_vret (pc := 47) (dk dt_X12_digit 29 rfl) rfl rfl H
  · replace H := H.2 c
    refine a_aload_n (pc := 26) (dk dt_X12_digit 15 rfl) rfl ?_
    refine a_bipush (pc := 27) (dk dt_X12_digit 16 rfl) (ik rfl) (bpk rfl) ?_
    refine a_iload_n (pc := 29) (dk dt_X12_digit 17 rfl) rfl ?_
    refine a_iload_n (pc := 30) (dk dt_X12_digit 18 rfl) rfl ?_
    refine a_idiv (pc := 31) (dk dt_X12_digit 19 rfl) ⟨H.1, ?_⟩
    replace H := H.2
    refine a_bipush (pc := 32) (dk dt_X12_digit 20 rfl) (ik rfl) (bpk rfl) ?_
    refine a_irem (pc := 34) (dk dt_X12_digit 21 rfl) ⟨by decide, ?_⟩
    refine a_iadd (pc := 35) (dk dt_X12_digit 22 rfl) ?_
    refine a_callVv (as := [iv (w32 (48 + ((w32 (x1.tdiv x3)).tmod 10)))]) (st := []) (pc := 36) (dk dt_X12_digit 23 rfl) cl_RX12_381 ⟨Nat.le_of_ble_eq_true rfl, Nat.le_of_ble_eq_true rfl⟩ ⟨Nat.le_of_ble_eq_true rfl, Nat.le_of_ble_eq_true rfl⟩ cls_12 rfl cc_85 rfl rfl rfl (Nat.le_of_ble_eq_true rfl) (Call.mono H fun _ h2 H => ?_)
    refine a_iload_n (pc := 39) (dk dt_X12_digit 24 rfl) rfl ?_
    refine a_bipush (pc := 40) (dk dt_X12_digit 25 rfl) (ik rfl) (bpk rfl) ?_
    refine a_idiv (pc := 42) (dk dt_X12_digit 26 rfl) ⟨by decide, ?_⟩
    refine a_istore_n (pc := 43) (dk dt_X12_digit 27 rfl) (by decide) rfl rfl ?_
    refine a_goto (pc := 44) (dk dt_X12_digit 28 rfl) (tgt := 22) rfl ?_
    exact a_pick [0, 1, 2] rfl H
set_option maxHeartbeats 40000000 in
theorem U_X12_sees_85_0 {G : GG} {Φ : Int → Hp → Prop} {h : Hp} {x1 : Int} {x2 : Int} (H : Call G m_X12_angle [rv 85, iv x2] h (fun r1 h2 => (0 ≤ x1 ∧ x1 < 4) ∧ (h2 85 11) ≠ 0 ∧ (0 ≤ x1 ∧ x1 < 4) ∧ Call G m_X12_round [jv (w64 ((w32 (r1 - (h2 90 x1))) - (w64 ((w32 (x2.tdiv (h2 85 11))) * (h2 92 x1)))))] h2 (fun r3 h4 => (0 ≤ x1 ∧ x1 < 4) ∧ (((h4 91 x1) ≤ r3 → Φ 0 h4) ∧ (r3 < (h4 91 x1) → Φ 1 h4))))) : AT G m_X12_sees 0 [(0, rv 85), (1, iv x1), (2, iv x2)] [] h Φ := by
  refine a_aload_n (pc := 0) (dk dt_X12_sees 0 rfl) rfl ?_
  refine a_iload_n (pc := 1) (dk dt_X12_sees 1 rfl) rfl ?_
  refine a_callVi (as := [iv x2]) (st := []) (pc := 2) (dk dt_X12_sees 2 rfl) cl_RX12_401 ⟨Nat.le_of_ble_eq_true rfl, Nat.le_of_ble_eq_true rfl⟩ ⟨Nat.le_of_ble_eq_true rfl, Nat.le_of_ble_eq_true rfl⟩ cls_12 rfl cc_85 rfl rfl rfl (Nat.le_of_ble_eq_true rfl) (Call.mono H fun r1 h2 H => ?_)
  refine a_aload_n (pc := 5) (dk dt_X12_sees 3 rfl) rfl ?_
  refine a_getr (r := 89) (pc := 6) (dk dt_X12_sees 4 rfl) cls_12 fl_RX12_26 cf_85_15 ?_
  refine a_iload_n (pc := 9) (dk dt_X12_sees 5 rfl) rfl ?_
  refine a_iald (pc := 10) (dk dt_X12_sees 6 rfl) ar_90 ⟨H.1, ?_⟩
  replace H := H.2
  refine a_isub (pc := 11) (dk dt_X12_sees 7 rfl) ?_
  refine a_i2l (pc := 12) (dk dt_X12_sees 8 rfl) ?_
  refine a_iload_n (pc := 13) (dk dt_X12_sees 9 rfl) rfl ?_
  refine a_aload_n (pc := 14) (dk dt_X12_sees 10 rfl) rfl ?_
  refine a_geti (pc := 15) (dk dt_X12_sees 11 rfl) cls_12 fl_RX12_22 cf_85_11 ?_
  refine a_idiv (pc := 18) (dk dt_X12_sees 12 rfl) ⟨H.1, ?_⟩
  replace H := H.2
  refine a_i2l (pc := 19) (dk dt_X12_sees 13 rfl) ?_
  refine a_aload_n (pc := 20) (dk dt_X12_sees 14 rfl) rfl ?_
  refine a_getr (r := 91) (pc := 21) (dk dt_X12_sees 15 rfl) cls_12 fl_RX12_32 cf_85_17 ?_
  refine a_iload_n (pc := 24) (dk dt_X12_sees 16 rfl) rfl ?_
  refine a_iald (pc := 25) (dk dt_X12_sees 17 rfl) ar_92 ⟨H.1, ?_⟩
  replace H := H.2
  refine a_i2l (pc := 26) (dk dt_X12_sees 18 rfl) ?_
  refine a_lmul (pc := 27) (dk dt_X12_sees 19 rfl) ?_
  refine a_lsub (pc := 28) (dk dt_X12_sees 20 rfl) ?_
  refine a_callSi (as := [jv (w64 ((w32 (r1 - (h2 90 x1))) - (w64 ((w32 (x2.tdiv (h2 85 11))) * (h2 92 x1)))))]) (st := []) (pc := 29) (dk dt_X12_sees 21 rfl) cl_RX12_404 ⟨Nat.le_of_ble_eq_true rfl, Nat.le_of_ble_eq_true rfl⟩ ⟨Nat.le_of_ble_eq_true rfl, Nat.le_of_ble_eq_true rfl⟩ rfl rfl rfl (Nat.le_of_ble_eq_true rfl) (Call.mono H fun r3 h4 H => ?_)
  refine a_aload_n (pc := 32) (dk dt_X12_sees 22 rfl) rfl ?_
  refine a_getr (r := 90) (pc := 33) (dk dt_X12_sees 23 rfl) cls_12 fl_RX12_29 cf_85_16 ?_
  refine a_iload_n (pc := 36) (dk dt_X12_sees 24 rfl) rfl ?_
  refine a_iald (pc := 37) (dk dt_X12_sees 25 rfl) ar_91 ⟨H.1, ?_⟩
  replace H := H.2
  refine a_icmp_ge (pc := 38) (dk dt_X12_sees 26 rfl) (tgt := 45) rfl ⟨fun c => ?_, fun c => ?_⟩
  · replace H := H.1 c
    refine a_iconst (pc := 45) (dk dt_X12_sees 29 rfl) (ik rfl) ?_
    exact a_zret (pc := 46) (dk dt_X12_sees 30 rfl) rfl rfl ⟨by decide, H⟩
  · replace H := H.2 c
    refine a_iconst (pc := 41) (dk dt_X12_sees 27 rfl) (ik rfl) ?_
    refine a_goto (pc := 42) (dk dt_X12_sees 28 rfl) (tgt := 46) rfl ?_
    exact a_zret (pc := 46) (dk dt_X12_sees 30 rfl) rfl rfl ⟨by decide, H⟩
set_option maxHeartbeats 40000000 in
theorem U_X12_line_85_99_0 {G : GG} {Φ : Int → Hp → Prop} {h : Hp} (H : Call G m_X12_wordOf [rv 85, rv 99] h (fun r1 h2 => (((r1 = 0 ∨ r1 = 1) → Call G m_X12_behind [rv 85, iv 0, iv 7] (up h2 103 240 r1) (fun r3 h4 => Φ 0 (up h4 104 240 r3))) ∧ ((r1 = 2) → Call G m_X12_behind [rv 85, iv 1, iv 9999] (up h2 103 240 r1) (fun r5 h6 => Φ 0 (up h6 105 240 r5))) ∧ ((r1 = 3) → Call G m_X12_need [rv 85, iv 32] (up h2 103 240 r1) (fun _ h8 => Call G m_X12_condition [rv 85, iv 240] h8 (fun _ h10 => Φ 0 h10))) ∧ ((r1 = 4) → Call G m_X12_need [rv 85, iv 32] (up h2 103 240 r1) (fun _ h12 => Call G m_X12_condition [rv 85, iv 240] h12 (fun _ h14 => Call G m_X12_need [rv 85, iv 32] h14 (fun _ h16 => Call G m_X12_wordOf [rv 85, rv 102] h16 (fun r17 h18 => Call G m_X12_behind [rv 85, iv 0, iv 29] h18 (fun r19 h20 => Φ 0 (up h20 105 240 r19))))))) ∧ ((r1 = 5) → Call G m_X12_behind [rv 85, iv 0, iv 29] (up h2 103 240 r1) (fun r21 h22 => Φ 0 (up h22 105 240 r21))) ∧ ((r1 = 6 ∨ r1 = 7) → Call G m_X12_need [rv 85, iv 32] (up h2 103 240 r1) (fun _ h24 => Call G m_X12_wordOf [rv 85, rv 101] h24 (fun r25 h26 => Call G m_X12_behind [rv 85, iv 0, iv 255] (up h26 104 240 r25) (fun r27 h28 => Φ 0 (up h28 105 240 r27))))) ∧ ((r1 = 8) → Call G m_X12_behind [rv 85, iv 0, iv 15] (up h2 103 240 r1) (fun r29 h30 => Φ 0 (up h30 105 240 r29))) ∧ ((r1 = 9) → Call G m_X12_behind [rv 85, iv 0, iv 3] (up h2 103 240 r1) (fun r31 h32 => Φ 0 (up h32 105 240 r31))) ∧ ((r1 = 10 ∨ r1 = 11) → Call G m_X12_behind [rv 85, iv 0, iv 7] (up h2 103 240 r1) (fun r33 h34 => Φ 0 (up h34 104 240 r33))) ∧ (((r1 < 0 ∨ 11 < r1)) → Φ 0 (up h2 103 240 r1))))) : AT G m_X12_line 0 [(0, rv 85), (1, rv 99)] [] h Φ := by
  refine a_aload_n (pc := 0) (dk dt_X12_line 0 rfl) rfl ?_
  refine a_aload_n (pc := 1) (dk dt_X12_line 1 rfl) rfl ?_
  refine a_callVi (as := [rv 99]) (st := []) (pc := 2) (dk dt_X12_line 2 rfl) cl_RX12_450 ⟨Nat.le_of_ble_eq_true rfl, Nat.le_of_ble_eq_true rfl⟩ ⟨Nat.le_of_ble_eq_true rfl, Nat.le_of_ble_eq_true rfl⟩ cls_12 rfl cc_85 rfl rfl rfl (Nat.le_of_ble_eq_true rfl) (Call.mono H fun r1 h2 H => ?_)
  refine a_istore_n (pc := 5) (dk dt_X12_line 3 rfl) (by decide) rfl rfl ?_
  refine a_aload_n (pc := 6) (dk dt_X12_line 4 rfl) rfl ?_
  refine a_getr (r := 102) (pc := 7) (dk dt_X12_line 5 rfl) cls_12 fl_RX12_138 cf_85_36 ?_
  refine a_sipush (pc := 10) (dk dt_X12_line 6 rfl) (ik rfl) (spk rfl) ?_
  refine a_iload_n (pc := 13) (dk dt_X12_line 7 rfl) rfl ?_
  refine a_iast (pc := 14) (dk dt_X12_line 8 rfl) ar_103 ⟨⟨by decide, by decide⟩, ?_⟩
  refine a_iload_n (pc := 15) (dk dt_X12_line 9 rfl) rfl ?_
  have B0 : (r1 = 0 ∨ r1 = 1) → AT G m_X12_line 80 [(0, rv 85), (1, rv 99), (2, iv r1)] [] (up h2 103 240 r1) Φ := by
    intro c
    replace H := H.1 c
    refine a_aload_n (pc := 80) (dk dt_X12_line 11 rfl) rfl ?_
    refine a_getr (r := 103) (pc := 81) (dk dt_X12_line 12 rfl) cls_12 fl_RX12_141 cf_85_37 ?_
    refine a_sipush (pc := 84) (dk dt_X12_line 13 rfl) (ik rfl) (spk rfl) ?_
    refine a_aload_n (pc := 87) (dk dt_X12_line 14 rfl) rfl ?_
    refine a_iconst (pc := 88) (dk dt_X12_line 15 rfl) (ik rfl) ?_
    refine a_bipush (pc := 89) (dk dt_X12_line 16 rfl) (ik rfl) (bpk rfl) ?_
    refine a_callVi (as := [iv 0, iv 7]) (st := [iv 240, rv 104]) (pc := 91) (dk dt_X12_line 17 rfl) cl_RX12_456 ⟨Nat.le_of_ble_eq_true rfl, Nat.le_of_ble_eq_true rfl⟩ ⟨Nat.le_of_ble_eq_true rfl, Nat.le_of_ble_eq_true rfl⟩ cls_12 rfl cc_85 rfl rfl rfl (Nat.le_of_ble_eq_true rfl) (Call.mono H fun r3 h4 H => ?_)
    refine a_iast (pc := 94) (dk dt_X12_line 18 rfl) ar_104 ⟨⟨by decide, by decide⟩, ?_⟩
    refine a_goto (pc := 95) (dk dt_X12_line 19 rfl) (tgt := 291) rfl ?_
    exact a_vret (pc := 291) (dk dt_X12_line 115 rfl) rfl rfl H
  have B1 : (r1 = 2) → AT G m_X12_line 98 [(0, rv 85), (1, rv 99), (2, iv r1)] [] (up h2 103 240 r1) Φ := by
    intro c
    replace H := H.2.1 c
    refine a_aload_n (pc := 98) (dk dt_X12_line 20 rfl) rfl ?_
    refine a_getr (r := 104) (pc := 99) (dk dt_X12_line 21 rfl) cls_12 fl_RX12_144 cf_85_38 ?_
    refine a_sipush (pc := 102) (dk dt_X12_line 22 rfl) (ik rfl) (spk rfl) ?_
    refine a_aload_n (pc := 105) (dk dt_X12_line 23 rfl) rfl ?_
    refine a_iconst (pc := 106) (dk dt_X12_line 24 rfl) (ik rfl) ?_
    refine a_sipush (pc := 107) (dk dt_X12_line 25 rfl) (ik rfl) (spk rfl) ?_
    refine a_callVi (as := [iv 1, iv 9999]) (st := [iv 240, rv 105]) (pc := 110) (dk dt_X12_line 26 rfl) cl_RX12_456 ⟨Nat.le_of_ble_eq_true rfl, Nat.le_of_ble_eq_true rfl⟩ ⟨Nat.le_of_ble_eq_true rfl, Nat.le_of_ble_eq_true rfl⟩ cls_12 rfl cc_85 rfl rfl rfl (Nat.le_of_ble_eq_true rfl) (Call.mono H fun r5 h6 H => ?_)
    refine a_iast (pc := 113) (dk dt_X12_line 27 rfl) ar_105 ⟨⟨by decide, by decide⟩, ?_⟩
    refine a_goto (pc := 114) (dk dt_X12_line 28 rfl) (tgt := 291) rfl ?_
    exact a_vret (pc := 291) (dk dt_X12_line 115 rfl) rfl rfl H
  have B2 : (r1 = 3) → AT G m_X12_line 117 [(0, rv 85), (1, rv 99), (2, iv r1)] [] (up h2 103 240 r1) Φ := by
    intro c
    replace H := H.2.2.1 c
    refine a_aload_n (pc := 117) (dk dt_X12_line 29 rfl) rfl ?_
    refine a_bipush (pc := 118) (dk dt_X12_line 30 rfl) (ik rfl) (bpk rfl) ?_
    refine a_callVv (as := [iv 32]) (st := []) (pc := 120) (dk dt_X12_line 31 rfl) cl_RX12_330 ⟨Nat.le_of_ble_eq_true rfl, Nat.le_of_ble_eq_true rfl⟩ ⟨Nat.le_of_ble_eq_true rfl, Nat.le_of_ble_eq_true rfl⟩ cls_12 rfl cc_85 rfl rfl rfl (Nat.le_of_ble_eq_true rfl) (Call.mono H fun _ h8 H => ?_)
    refine a_aload_n (pc := 123) (dk dt_X12_line 32 rfl) rfl ?_
    refine a_sipush (pc := 124) (dk dt_X12_line 33 rfl) (ik rfl) (spk rfl) ?_
    refine a_callVv (as := [iv 240]) (st := []) (pc := 127) (dk dt_X12_line 34 rfl) cl_RX12_459 ⟨Nat.le_of_ble_eq_true rfl, Nat.le_of_ble_eq_true rfl⟩ ⟨Nat.le_of_ble_eq_true rfl, Nat.le_of_ble_eq_true rfl⟩ cls_12 rfl cc_85 rfl rfl rfl (Nat.le_of_ble_eq_true rfl) (Call.mono H fun _ h10 H => ?_)
    refine a_goto (pc := 130) (dk dt_X12_line 35 rfl) (tgt := 291) rfl ?_
    exact a_vret (pc := 291) (dk dt_X12_line 115 rfl) rfl rfl H
  have B3 : (r1 = 4) → AT G m_X12_line 133 [(0, rv 85), (1, rv 99), (2, iv r1)] [] (up h2 103 240 r1) Φ := by
    intro c
    replace H := H.2.2.2.1 c
    refine a_aload_n (pc := 133) (dk dt_X12_line 36 rfl) rfl ?_
    refine a_bipush (pc := 134) (dk dt_X12_line 37 rfl) (ik rfl) (bpk rfl) ?_
    refine a_callVv (as := [iv 32]) (st := []) (pc := 136) (dk dt_X12_line 38 rfl) cl_RX12_330 ⟨Nat.le_of_ble_eq_true rfl, Nat.le_of_ble_eq_true rfl⟩ ⟨Nat.le_of_ble_eq_true rfl, Nat.le_of_ble_eq_true rfl⟩ cls_12 rfl cc_85 rfl rfl rfl (Nat.le_of_ble_eq_true rfl) (Call.mono H fun _ h12 H => ?_)
    refine a_aload_n (pc := 139) (dk dt_X12_line 39 rfl) rfl ?_
    refine a_sipush (pc := 140) (dk dt_X12_line 40 rfl) (ik rfl) (spk rfl) ?_
    refine a_callVv (as := [iv 240]) (st := []) (pc := 143) (dk dt_X12_line 41 rfl) cl_RX12_459 ⟨Nat.le_of_ble_eq_true rfl, Nat.le_of_ble_eq_true rfl⟩ ⟨Nat.le_of_ble_eq_true rfl, Nat.le_of_ble_eq_true rfl⟩ cls_12 rfl cc_85 rfl rfl rfl (Nat.le_of_ble_eq_true rfl) (Call.mono H fun _ h14 H => ?_)
    refine a_aload_n (pc := 146) (dk dt_X12_line 42 rfl) rfl ?_
    refine a_bipush (pc := 147) (dk dt_X12_line 43 rfl) (ik rfl) (bpk rfl) ?_
    refine a_callVv (as := [iv 32]) (st := []) (pc := 149) (dk dt_X12_line 44 rfl) cl_RX12_330 ⟨Nat.le_of_ble_eq_true rfl, Nat.le_of_ble_eq_true rfl⟩ ⟨Nat.le_of_ble_eq_true rfl, Nat.le_of_ble_eq_true rfl⟩ cls_12 rfl cc_85 rfl rfl rfl (Nat.le_of_ble_eq_true rfl) (Call.mono H fun _ h16 H => ?_)
    refine a_aload_n (pc := 152) (dk dt_X12_line 45 rfl) rfl ?_
    refine a_aload_n (pc := 153) (dk dt_X12_line 46 rfl) rfl ?_
    refine a_getr (r := 101) (pc := 154) (dk dt_X12_line 47 rfl) cls_12 fl_RX12_135 cf_85_35 ?_
    refine a_callVi (as := [rv 102]) (st := []) (pc := 157) (dk dt_X12_line 48 rfl) cl_RX12_450 ⟨Nat.le_of_ble_eq_true rfl, Nat.le_of_ble_eq_true rfl⟩ ⟨Nat.le_of_ble_eq_true rfl, Nat.le_of_ble_eq_true rfl⟩ cls_12 rfl cc_85 rfl rfl rfl (Nat.le_of_ble_eq_true rfl) (Call.mono H fun r17 h18 H => ?_)
    refine a_pop (pc := 160) (dk dt_X12_line 49 rfl) rfl ?_
    refine a_aload_n (pc := 161) (dk dt_X12_line 50 rfl) rfl ?_
    refine a_getr (r := 104) (pc := 162) (dk dt_X12_line 51 rfl) cls_12 fl_RX12_144 cf_85_38 ?_
    refine a_sipush (pc := 165) (dk dt_X12_line 52 rfl) (ik rfl) (spk rfl) ?_
    refine a_aload_n (pc := 168) (dk dt_X12_line 53 rfl) rfl ?_
    refine a_iconst (pc := 169) (dk dt_X12_line 54 rfl) (ik rfl) ?_
    refine a_bipush (pc := 170) (dk dt_X12_line 55 rfl) (ik rfl) (bpk rfl) ?_
    refine a_callVi (as := [iv 0, iv 29]) (st := [iv 240, rv 105]) (pc := 172) (dk dt_X12_line 56 rfl) cl_RX12_456 ⟨Nat.le_of_ble_eq_true rfl, Nat.le_of_ble_eq_true rfl⟩ ⟨Nat.le_of_ble_eq_true rfl, Nat.le_of_ble_eq_true rfl⟩ cls_12 rfl cc_85 rfl rfl rfl (Nat.le_of_ble_eq_true rfl) (Call.mono H fun r19 h20 H => ?_)
    refine a_iast (pc := 175) (dk dt_X12_line 57 rfl) ar_105 ⟨⟨by decide, by decide⟩, ?_⟩
    refine a_goto (pc := 176) (dk dt_X12_line 58 rfl) (tgt := 291) rfl ?_
    exact a_vret (pc := 291) (dk dt_X12_line 115 rfl) rfl rfl H
  have B4 : (r1 = 5) → AT G m_X12_line 179 [(0, rv 85), (1, rv 99), (2, iv r1)] [] (up h2 103 240 r1) Φ := by
    intro c
    replace H := H.2.2.2.2.1 c
    refine a_aload_n (pc := 179) (dk dt_X12_line 59 rfl) rfl ?_
    refine a_getr (r := 104) (pc := 180) (dk dt_X12_line 60 rfl) cls_12 fl_RX12_144 cf_85_38 ?_
    refine a_sipush (pc := 183) (dk dt_X12_line 61 rfl) (ik rfl) (spk rfl) ?_
    refine a_aload_n (pc := 186) (dk dt_X12_line 62 rfl) rfl ?_
    refine a_iconst (pc := 187) (dk dt_X12_line 63 rfl) (ik rfl) ?_
    refine a_bipush (pc := 188) (dk dt_X12_line 64 rfl) (ik rfl) (bpk rfl) ?_
    refine a_callVi (as := [iv 0, iv 29]) (st := [iv 240, rv 105]) (pc := 190) (dk dt_X12_line 65 rfl) cl_RX12_456 ⟨Nat.le_of_ble_eq_true rfl, Nat.le_of_ble_eq_true rfl⟩ ⟨Nat.le_of_ble_eq_true rfl, Nat.le_of_ble_eq_true rfl⟩ cls_12 rfl cc_85 rfl rfl rfl (Nat.le_of_ble_eq_true rfl) (Call.mono H fun r21 h22 H => ?_)
    refine a_iast (pc := 193) (dk dt_X12_line 66 rfl) ar_105 ⟨⟨by decide, by decide⟩, ?_⟩
    refine a_goto (pc := 194) (dk dt_X12_line 67 rfl) (tgt := 291) rfl ?_
    exact a_vret (pc := 291) (dk dt_X12_line 115 rfl) rfl rfl H
  have B5 : (r1 = 6 ∨ r1 = 7) → AT G m_X12_line 197 [(0, rv 85), (1, rv 99), (2, iv r1)] [] (up h2 103 240 r1) Φ := by
    intro c
    replace H := H.2.2.2.2.2.1 c
    refine a_aload_n (pc := 197) (dk dt_X12_line 68 rfl) rfl ?_
    refine a_bipush (pc := 198) (dk dt_X12_line 69 rfl) (ik rfl) (bpk rfl) ?_
    refine a_callVv (as := [iv 32]) (st := []) (pc := 200) (dk dt_X12_line 70 rfl) cl_RX12_330 ⟨Nat.le_of_ble_eq_true rfl, Nat.le_of_ble_eq_true rfl⟩ ⟨Nat.le_of_ble_eq_true rfl, Nat.le_of_ble_eq_true rfl⟩ cls_12 rfl cc_85 rfl rfl rfl (Nat.le_of_ble_eq_true rfl) (Call.mono H fun _ h24 H => ?_)
    refine a_aload_n (pc := 203) (dk dt_X12_line 71 rfl) rfl ?_
    refine a_getr (r := 103) (pc := 204) (dk dt_X12_line 72 rfl) cls_12 fl_RX12_141 cf_85_37 ?_
    refine a_sipush (pc := 207) (dk dt_X12_line 73 rfl) (ik rfl) (spk rfl) ?_
    refine a_aload_n (pc := 210) (dk dt_X12_line 74 rfl) rfl ?_
    refine a_aload_n (pc := 211) (dk dt_X12_line 75 rfl) rfl ?_
    refine a_getr (r := 100) (pc := 212) (dk dt_X12_line 76 rfl) cls_12 fl_RX12_132 cf_85_34 ?_
    refine a_callVi (as := [rv 101]) (st := [iv 240, rv 104]) (pc := 215) (dk dt_X12_line 77 rfl) cl_RX12_450 ⟨Nat.le_of_ble_eq_true rfl, Nat.le_of_ble_eq_true rfl⟩ ⟨Nat.le_of_ble_eq_true rfl, Nat.le_of_ble_eq_true rfl⟩ cls_12 rfl cc_85 rfl rfl rfl (Nat.le_of_ble_eq_true rfl) (Call.mono H fun r25 h26 H => ?_)
    refine a_iast (pc := 218) (dk dt_X12_line 78 rfl) ar_104 ⟨⟨by decide, by decide⟩, ?_⟩
    refine a_aload_n (pc := 219) (dk dt_X12_line 79 rfl) rfl ?_
    refine a_getr (r := 104) (pc := 220) (dk dt_X12_line 80 rfl) cls_12 fl_RX12_144 cf_85_38 ?_
    refine a_sipush (pc := 223) (dk dt_X12_line 81 rfl) (ik rfl) (spk rfl) ?_
    refine a_aload_n (pc := 226) (dk dt_X12_line 82 rfl) rfl ?_
    refine a_iconst (pc := 227) (dk dt_X12_line 83 rfl) (ik rfl) ?_
    refine a_sipush (pc := 228) (dk dt_X12_line 84 rfl) (ik rfl) (spk rfl) ?_
    refine a_callVi (as := [iv 0, iv 255]) (st := [iv 240, rv 105]) (pc := 231) (dk dt_X12_line 85 rfl) cl_RX12_456 ⟨Nat.le_of_ble_eq_true rfl, Nat.le_of_ble_eq_true rfl⟩ ⟨Nat.le_of_ble_eq_true rfl, Nat.le_of_ble_eq_true rfl⟩ cls_12 rfl cc_85 rfl rfl rfl (Nat.le_of_ble_eq_true rfl) (Call.mono H fun r27 h28 H => ?_)
    refine a_iast (pc := 234) (dk dt_X12_line 86 rfl) ar_105 ⟨⟨by decide, by decide⟩, ?_⟩
    refine a_goto (pc := 235) (dk dt_X12_line 87 rfl) (tgt := 291) rfl ?_
    exact a_vret (pc := 291) (dk dt_X12_line 115 rfl) rfl rfl H
  have B6 : (r1 = 8) → AT G m_X12_line 238 [(0, rv 85), (1, rv 99), (2, iv r1)] [] (up h2 103 240 r1) Φ := by
    intro c
    replace H := H.2.2.2.2.2.2.1 c
    refine a_aload_n (pc := 238) (dk dt_X12_line 88 rfl) rfl ?_
    refine a_getr (r := 104) (pc := 239) (dk dt_X12_line 89 rfl) cls_12 fl_RX12_144 cf_85_38 ?_
    refine a_sipush (pc := 242) (dk dt_X12_line 90 rfl) (ik rfl) (spk rfl) ?_
    refine a_aload_n (pc := 245) (dk dt_X12_line 91 rfl) rfl ?_
    refine a_iconst (pc := 246) (dk dt_X12_line 92 rfl) (ik rfl) ?_
    refine a_bipush (pc := 247) (dk dt_X12_line 93 rfl) (ik rfl) (bpk rfl) ?_
    refine a_callVi (as := [iv 0, iv 15]) (st := [iv 240, rv 105]) (pc := 249) (dk dt_X12_line 94 rfl) cl_RX12_456 ⟨Nat.le_of_ble_eq_true rfl, Nat.le_of_ble_eq_true rfl⟩ ⟨Nat.le_of_ble_eq_true rfl, Nat.le_of_ble_eq_true rfl⟩ cls_12 rfl cc_85 rfl rfl rfl (Nat.le_of_ble_eq_true rfl) (Call.mono H fun r29 h30 H => ?_)
    refine a_iast (pc := 252) (dk dt_X12_line 95 rfl) ar_105 ⟨⟨by decide, by decide⟩, ?_⟩
    refine a_goto (pc := 253) (dk dt_X12_line 96 rfl) (tgt := 291) rfl ?_
    exact a_vret (pc := 291) (dk dt_X12_line 115 rfl) rfl rfl H
  have B7 : (r1 = 9) → AT G m_X12_line 256 [(0, rv 85), (1, rv 99), (2, iv r1)] [] (up h2 103 240 r1) Φ := by
    intro c
    replace H := H.2.2.2.2.2.2.2.1 c
    refine a_aload_n (pc := 256) (dk dt_X12_line 97 rfl) rfl ?_
    refine a_getr (r := 104) (pc := 257) (dk dt_X12_line 98 rfl) cls_12 fl_RX12_144 cf_85_38 ?_
    refine a_sipush (pc := 260) (dk dt_X12_line 99 rfl) (ik rfl) (spk rfl) ?_
    refine a_aload_n (pc := 263) (dk dt_X12_line 100 rfl) rfl ?_
    refine a_iconst (pc := 264) (dk dt_X12_line 101 rfl) (ik rfl) ?_
    refine a_iconst (pc := 265) (dk dt_X12_line 102 rfl) (ik rfl) ?_
    refine a_callVi (as := [iv 0, iv 3]) (st := [iv 240, rv 105]) (pc := 266) (dk dt_X12_line 103 rfl) cl_RX12_456 ⟨Nat.le_of_ble_eq_true rfl, Nat.le_of_ble_eq_true rfl⟩ ⟨Nat.le_of_ble_eq_true rfl, Nat.le_of_ble_eq_true rfl⟩ cls_12 rfl cc_85 rfl rfl rfl (Nat.le_of_ble_eq_true rfl) (Call.mono H fun r31 h32 H => ?_)
    refine a_iast (pc := 269) (dk dt_X12_line 104 rfl) ar_105 ⟨⟨by decide, by decide⟩, ?_⟩
    refine a_goto (pc := 270) (dk dt_X12_line 105 rfl) (tgt := 291) rfl ?_
    exact a_vret (pc := 291) (dk dt_X12_line 115 rfl) rfl rfl H
  have B8 : (r1 = 10 ∨ r1 = 11) → AT G m_X12_line 273 [(0, rv 85), (1, rv 99), (2, iv r1)] [] (up h2 103 240 r1) Φ := by
    intro c
    replace H := H.2.2.2.2.2.2.2.2.1 c
    refine a_aload_n (pc := 273) (dk dt_X12_line 106 rfl) rfl ?_
    refine a_getr (r := 103) (pc := 274) (dk dt_X12_line 107 rfl) cls_12 fl_RX12_141 cf_85_37 ?_
    refine a_sipush (pc := 277) (dk dt_X12_line 108 rfl) (ik rfl) (spk rfl) ?_
    refine a_aload_n (pc := 280) (dk dt_X12_line 109 rfl) rfl ?_
    refine a_iconst (pc := 281) (dk dt_X12_line 110 rfl) (ik rfl) ?_
    refine a_bipush (pc := 282) (dk dt_X12_line 111 rfl) (ik rfl) (bpk rfl) ?_
    refine a_callVi (as := [iv 0, iv 7]) (st := [iv 240, rv 104]) (pc := 284) (dk dt_X12_line 112 rfl) cl_RX12_456 ⟨Nat.le_of_ble_eq_true rfl, Nat.le_of_ble_eq_true rfl⟩ ⟨Nat.le_of_ble_eq_true rfl, Nat.le_of_ble_eq_true rfl⟩ cls_12 rfl cc_85 rfl rfl rfl (Nat.le_of_ble_eq_true rfl) (Call.mono H fun r33 h34 H => ?_)
    refine a_iast (pc := 287) (dk dt_X12_line 113 rfl) ar_104 ⟨⟨by decide, by decide⟩, ?_⟩
    refine a_goto (pc := 288) (dk dt_X12_line 114 rfl) (tgt := 291) rfl ?_
    exact a_vret (pc := 291) (dk dt_X12_line 115 rfl) rfl rfl H
  have BD : ((r1 < 0 ∨ 11 < r1)) → AT G m_X12_line 291 [(0, rv 85), (1, rv 99), (2, iv r1)] [] (up h2 103 240 r1) Φ := by
    intro c
    replace H := H.2.2.2.2.2.2.2.2.2 c
    exact a_vret (pc := 291) (dk dt_X12_line 115 rfl) rfl rfl H
  exact a_tsw [80, 80, 98, 117, 133, 179, 197, 197, 238, 256, 273, 273] (pc := 16) (dk dt_X12_line 10 rfl) (by decide) (dt := 291) rfl (by decide) ⟨⟨fun c => B0 (Or.inl c), fun c => B0 (Or.inr (c)), fun c => B1 (c), fun c => B2 (c), fun c => B3 (c), fun c => B4 (c), fun c => B5 (Or.inl c), fun c => B5 (Or.inr (c)), fun c => B6 (c), fun c => B7 (c), fun c => B8 (Or.inl c), fun c => B8 (Or.inr (c)), trivial⟩, fun c => BD (c)⟩
set_option maxHeartbeats 40000000 in
theorem U_X12_copyLine_85_0 {G : GG} {Φ : Int → Hp → Prop} {h : Hp} {x1 : Int} {x2 : Int} (H : (0 ≤ x1 ∧ x1 < 260) ∧ (0 ≤ x2 ∧ x2 < 260) ∧ (0 ≤ x1 ∧ x1 < 260) ∧ (0 ≤ x2 ∧ x2 < 260) ∧ (0 ≤ x1 ∧ x1 < 260) ∧ (0 ≤ x2 ∧ x2 < 260) ∧ (0 ≤ x1 ∧ x1 < 260) ∧ (0 ≤ x2 ∧ x2 < 260) ∧ (0 ≤ x1 ∧ x1 < 260) ∧ (0 ≤ x2 ∧ x2 < 260) ∧ (0 ≤ x1 ∧ x1 < 260) ∧ (0 ≤ x2 ∧ x2 < 260) ∧ Φ 0 (up (up (up (up (up (up h 103 x2 (h 103 x1)) 104 x2 (h 104 x1)) 105 x2 (h 105 x1)) 106 x2 (h 106 x1)) 107 x2 (h 107 x1)) 108 x2 (h 108 x1))) : AT G m_X12_copyLine 0 [(0, rv 85), (1, iv x1), (2, iv x2)] [] h Φ := by
  refine a_aload_n (pc := 0) (dk dt_X12_copyLine 0 rfl) rfl ?_
  refine a_getr (r := 102) (pc := 1) (dk dt_X12_copyLine 1 rfl) cls_12 fl_RX12_138 cf_85_36 ?_
  refine a_iload_n (pc := 4) (dk dt_X12_copyLine 2 rfl) rfl ?_
  refine a_aload_n (pc := 5) (dk dt_X12_copyLine 3 rfl) rfl ?_
  refine a_getr (r := 102) (pc := 6) (dk dt_X12_copyLine 4 rfl) cls_12 fl_RX12_138 cf_85_36 ?_
  refine a_iload_n (pc := 9) (dk dt_X12_copyLine 5 rfl) rfl ?_
  refine a_iald (pc := 10) (dk dt_X12_copyLine 6 rfl) ar_103 ⟨H.1, ?_⟩
  replace H := H.2
  refine a_iast (pc := 11) (dk dt_X12_copyLine 7 rfl) ar_103 ⟨H.1, ?_⟩
  replace H := H.2
  refine a_aload_n (pc := 12) (dk dt_X12_copyLine 8 rfl) rfl ?_
  refine a_getr (r := 103) (pc := 13) (dk dt_X12_copyLine 9 rfl) cls_12 fl_RX12_141 cf_85_37 ?_
  refine a_iload_n (pc := 16) (dk dt_X12_copyLine 10 rfl) rfl ?_
  refine a_aload_n (pc := 17) (dk dt_X12_copyLine 11 rfl) rfl ?_
  refine a_getr (r := 103) (pc := 18) (dk dt_X12_copyLine 12 rfl) cls_12 fl_RX12_141 cf_85_37 ?_
  refine a_iload_n (pc := 21) (dk dt_X12_copyLine 13 rfl) rfl ?_
  refine a_iald (pc := 22) (dk dt_X12_copyLine 14 rfl) ar_104 ⟨H.1, ?_⟩
  replace H := H.2
  refine a_top (y := (h 104 x1)) (by simp [up, cpy]) ?_
  refine a_iast (pc := 23) (dk dt_X12_copyLine 15 rfl) ar_104 ⟨H.1, ?_⟩
  replace H := H.2
  refine a_aload_n (pc := 24) (dk dt_X12_copyLine 16 rfl) rfl ?_
  refine a_getr (r := 104) (pc := 25) (dk dt_X12_copyLine 17 rfl) cls_12 fl_RX12_144 cf_85_38 ?_
  refine a_iload_n (pc := 28) (dk dt_X12_copyLine 18 rfl) rfl ?_
  refine a_aload_n (pc := 29) (dk dt_X12_copyLine 19 rfl) rfl ?_
  refine a_getr (r := 104) (pc := 30) (dk dt_X12_copyLine 20 rfl) cls_12 fl_RX12_144 cf_85_38 ?_
  refine a_iload_n (pc := 33) (dk dt_X12_copyLine 21 rfl) rfl ?_
  refine a_iald (pc := 34) (dk dt_X12_copyLine 22 rfl) ar_105 ⟨H.1, ?_⟩
  replace H := H.2
  refine a_top (y := (h 105 x1)) (by simp [up, cpy]) ?_
  refine a_iast (pc := 35) (dk dt_X12_copyLine 23 rfl) ar_105 ⟨H.1, ?_⟩
  replace H := H.2
  refine a_aload_n (pc := 36) (dk dt_X12_copyLine 24 rfl) rfl ?_
  refine a_getr (r := 105) (pc := 37) (dk dt_X12_copyLine 25 rfl) cls_12 fl_RX12_147 cf_85_39 ?_
  refine a_iload_n (pc := 40) (dk dt_X12_copyLine 26 rfl) rfl ?_
  refine a_aload_n (pc := 41) (dk dt_X12_copyLine 27 rfl) rfl ?_
  refine a_getr (r := 105) (pc := 42) (dk dt_X12_copyLine 28 rfl) cls_12 fl_RX12_147 cf_85_39 ?_
  refine a_iload_n (pc := 45) (dk dt_X12_copyLine 29 rfl) rfl ?_
  refine a_iald (pc := 46) (dk dt_X12_copyLine 30 rfl) ar_106 ⟨H.1, ?_⟩
  replace H := H.2
  refine a_top (y := (h 106 x1)) (by simp [up, cpy]) ?_
  refine a_iast (pc := 47) (dk dt_X12_copyLine 31 rfl) ar_106 ⟨H.1, ?_⟩
  replace H := H.2
  refine a_aload_n (pc := 48) (dk dt_X12_copyLine 32 rfl) rfl ?_
  refine a_getr (r := 106) (pc := 49) (dk dt_X12_copyLine 33 rfl) cls_12 fl_RX12_150 cf_85_40 ?_
  refine a_iload_n (pc := 52) (dk dt_X12_copyLine 34 rfl) rfl ?_
  refine a_aload_n (pc := 53) (dk dt_X12_copyLine 35 rfl) rfl ?_
  refine a_getr (r := 106) (pc := 54) (dk dt_X12_copyLine 36 rfl) cls_12 fl_RX12_150 cf_85_40 ?_
  refine a_iload_n (pc := 57) (dk dt_X12_copyLine 37 rfl) rfl ?_
  refine a_iald (pc := 58) (dk dt_X12_copyLine 38 rfl) ar_107 ⟨H.1, ?_⟩
  replace H := H.2
  refine a_top (y := (h 107 x1)) (by simp [up, cpy]) ?_
  refine a_iast (pc := 59) (dk dt_X12_copyLine 39 rfl) ar_107 ⟨H.1, ?_⟩
  replace H := H.2
  refine a_aload_n (pc := 60) (dk dt_X12_copyLine 40 rfl) rfl ?_
  refine a_getr (r := 107) (pc := 61) (dk dt_X12_copyLine 41 rfl) cls_12 fl_RX12_153 cf_85_41 ?_
  refine a_iload_n (pc := 64) (dk dt_X12_copyLine 42 rfl) rfl ?_
  refine a_aload_n (pc := 65) (dk dt_X12_copyLine 43 rfl) rfl ?_
  refine a_getr (r := 107) (pc := 66) (dk dt_X12_copyLine 44 rfl) cls_12 fl_RX12_153 cf_85_41 ?_
  refine a_iload_n (pc := 69) (dk dt_X12_copyLine 45 rfl) rfl ?_
  refine a_iald (pc := 70) (dk dt_X12_copyLine 46 rfl) ar_108 ⟨H.1, ?_⟩
  replace H := H.2
  refine a_top (y := (h 108 x1)) (by simp [up, cpy]) ?_
  refine a_iast (pc := 71) (dk dt_X12_copyLine 47 rfl) ar_108 ⟨H.1, ?_⟩
  replace H := H.2
  exact a_vret (pc := 72) (dk dt_X12_copyLine 48 rfl) rfl rfl H
set_option maxHeartbeats 40000000 in
theorem U_X12_condition_85_0 {G : GG} {Φ : Int → Hp → Prop} {h : Hp} {x1 : Int} (H : Call G m_X12_wordOf [rv 85, rv 100] h (fun r1 h2 => (0 ≤ x1 ∧ x1 < 260) ∧ Call G m_X12_need [rv 85, iv 32] (up h2 106 x1 r1) (fun _ h4 => Call G m_X12_here [rv 85] h4 (fun r5 h6 => (0 ≤ x1 ∧ x1 < 260) ∧ (((h6 85 6) < 0 → (0 ≤ x1 ∧ x1 < 260) ∧ ((r5 = 61 → (((h6 85 6) < 0 → Call G m_X12_need [rv 85, iv 32] (up (up h6 107 x1 r5) 85 5 (w32 ((h6 85 5) + 1))) (fun _ h8 => Call G m_X12_whole [rv 85, iv 1, iv (-99999), iv 99999] h8 (fun r9 h10 => (0 ≤ x1 ∧ x1 < 260) ∧ Φ 0 (up h10 108 x1 r9)))) ∧ (0 ≤ (h6 85 6) → Call G m_X12_need [rv 85, iv 32] (up (up h6 107 x1 r5) 85 5 (w32 ((h6 85 5) + 0))) (fun _ h12 => Call G m_X12_whole [rv 85, iv 1, iv (-99999), iv 99999] h12 (fun r13 h14 => (0 ≤ x1 ∧ x1 < 260) ∧ Φ 0 (up h14 108 x1 r13)))))) ∧ (r5 ≠ 61 → (0 ≤ x1 ∧ x1 < 260) ∧ ((r5 = 60 → (((h6 85 6) < 0 → Call G m_X12_need [rv 85, iv 32] (up (up h6 107 x1 r5) 85 5 (w32 ((h6 85 5) + 1))) (fun _ h16 => Call G m_X12_whole [rv 85, iv 1, iv (-99999), iv 99999] h16 (fun r17 h18 => (0 ≤ x1 ∧ x1 < 260) ∧ Φ 0 (up h18 108 x1 r17)))) ∧ (0 ≤ (h6 85 6) → Call G m_X12_need [rv 85, iv 32] (up (up h6 107 x1 r5) 85 5 (w32 ((h6 85 5) + 0))) (fun _ h20 => Call G m_X12_whole [rv 85, iv 1, iv (-99999), iv 99999] h20 (fun r21 h22 => (0 ≤ x1 ∧ x1 < 260) ∧ Φ 0 (up h22 108 x1 r21)))))) ∧ (r5 ≠ 60 → (0 ≤ x1 ∧ x1 < 260) ∧ ((r5 = 62 → (((h6 85 6) < 0 → Call G m_X12_need [rv 85, iv 32] (up (up h6 107 x1 r5) 85 5 (w32 ((h6 85 5) + 1))) (fun _ h24 => Call G m_X12_whole [rv 85, iv 1, iv (-99999), iv 99999] h24 (fun r25 h26 => (0 ≤ x1 ∧ x1 < 260) ∧ Φ 0 (up h26 108 x1 r25)))) ∧ (0 ≤ (h6 85 6) → Call G m_X12_need [rv 85, iv 32] (up (up h6 107 x1 r5) 85 5 (w32 ((h6 85 5) + 0))) (fun _ h28 => Call G m_X12_whole [rv 85, iv 1, iv (-99999), iv 99999] h28 (fun r29 h30 => (0 ≤ x1 ∧ x1 < 260) ∧ Φ 0 (up h30 108 x1 r29)))))) ∧ (r5 ≠ 62 → ((0 ≤ (h6 85 6) → (((h6 85 6) < 0 → Call G m_X12_need [rv 85, iv 32] (up (up h6 107 x1 r5) 85 5 (w32 ((h6 85 5) + 1))) (fun _ h32 => Call G m_X12_whole [rv 85, iv 1, iv (-99999), iv 99999] h32 (fun r33 h34 => (0 ≤ x1 ∧ x1 < 260) ∧ Φ 0 (up h34 108 x1 r33)))) ∧ (0 ≤ (h6 85 6) → Call G m_X12_need [rv 85, iv 32] (up (up h6 107 x1 r5) 85 5 (w32 ((h6 85 5) + 0))) (fun _ h36 => Call G m_X12_whole [rv 85, iv 1, iv (-99999), iv 99999] h36 (fun r37 h38 => (0 ≤ x1 ∧ x1 < 260) ∧ Φ 0 (up h38 108 x1 r37)))))) ∧ ((h6 85 6) < 0 → (((h6 85 5) < 0 → Call G m_X12_need [rv 85, iv 32] (up (up (up h6 107 x1 r5) 85 6 (h6 85 5)) 85 5 (w32 ((h6 85 5) + 1))) (fun _ h40 => Call G m_X12_whole [rv 85, iv 1, iv (-99999), iv 99999] h40 (fun r41 h42 => (0 ≤ x1 ∧ x1 < 260) ∧ Φ 0 (up h42 108 x1 r41)))) ∧ (0 ≤ (h6 85 5) → Call G m_X12_need [rv 85, iv 32] (up (up (up h6 107 x1 r5) 85 6 (h6 85 5)) 85 5 (w32 ((h6 85 5) + 0))) (fun _ h44 => Call G m_X12_whole [rv 85, iv 1, iv (-99999), iv 99999] h44 (fun r45 h46 => (0 ≤ x1 ∧ x1 < 260) ∧ Φ 0 (up h46 108 x1 r45)))))))))))))) ∧ (0 ≤ (h6 85 6) → (((h6 85 6) < 0 → Call G m_X12_need [rv 85, iv 32] (up (up h6 107 x1 r5) 85 5 (w32 ((h6 85 5) + 1))) (fun _ h48 => Call G m_X12_whole [rv 85, iv 1, iv (-99999), iv 99999] h48 (fun r49 h50 => (0 ≤ x1 ∧ x1 < 260) ∧ Φ 0 (up h50 108 x1 r49)))) ∧ (0 ≤ (h6 85 6) → Call G m_X12_need [rv 85, iv 32] (up (up h6 107 x1 r5) 85 5 (w32 ((h6 85 5) + 0))) (fun _ h52 => Call G m_X12_whole [rv 85, iv 1, iv (-99999), iv 99999] h52 (fun r53 h54 => (0 ≤ x1 ∧ x1 < 260) ∧ Φ 0 (up h54 108 x1 r53))))))))))) : AT G m_X12_condition 0 [(0, rv 85), (1, iv x1)] [] h Φ := by
  refine a_aload_n (pc := 0) (dk dt_X12_condition 0 rfl) rfl ?_
  refine a_getr (r := 105) (pc := 1) (dk dt_X12_condition 1 rfl) cls_12 fl_RX12_147 cf_85_39 ?_
  refine a_iload_n (pc := 4) (dk dt_X12_condition 2 rfl) rfl ?_
  refine a_aload_n (pc := 5) (dk dt_X12_condition 3 rfl) rfl ?_
  refine a_aload_n (pc := 6) (dk dt_X12_condition 4 rfl) rfl ?_
  refine a_getr (r := 99) (pc := 7) (dk dt_X12_condition 5 rfl) cls_12 fl_RX12_129 cf_85_33 ?_
  refine a_callVi (as := [rv 100]) (st := [iv x1, rv 106]) (pc := 10) (dk dt_X12_condition 6 rfl) cl_RX12_450 ⟨Nat.le_of_ble_eq_true rfl, Nat.le_of_ble_eq_true rfl⟩ ⟨Nat.le_of_ble_eq_true rfl, Nat.le_of_ble_eq_true rfl⟩ cls_12 rfl cc_85 rfl rfl rfl (Nat.le_of_ble_eq_true rfl) (Call.mono H fun r1 h2 H => ?_)
  refine a_iast (pc := 13) (dk dt_X12_condition 7 rfl) ar_106 ⟨H.1, ?_⟩
  replace H := H.2
  refine a_aload_n (pc := 14) (dk dt_X12_condition 8 rfl) rfl ?_
  refine a_bipush (pc := 15) (dk dt_X12_condition 9 rfl) (ik rfl) (bpk rfl) ?_
  refine a_callVv (as := [iv 32]) (st := []) (pc := 17) (dk dt_X12_condition 10 rfl) cl_RX12_330 ⟨Nat.le_of_ble_eq_true rfl, Nat.le_of_ble_eq_true rfl⟩ ⟨Nat.le_of_ble_eq_true rfl, Nat.le_of_ble_eq_true rfl⟩ cls_12 rfl cc_85 rfl rfl rfl (Nat.le_of_ble_eq_true rfl) (Call.mono H fun _ h4 H => ?_)
  refine a_aload_n (pc := 20) (dk dt_X12_condition 11 rfl) rfl ?_
  refine a_getr (r := 106) (pc := 21) (dk dt_X12_condition 12 rfl) cls_12 fl_RX12_150 cf_85_40 ?_
  refine a_iload_n (pc := 24) (dk dt_X12_condition 13 rfl) rfl ?_
  refine a_aload_n (pc := 25) (dk dt_X12_condition 14 rfl) rfl ?_
  refine a_callVi (as := []) (st := [iv x1, rv 107]) (pc := 26) (dk dt_X12_condition 15 rfl) cl_RX12_319 ⟨Nat.le_of_ble_eq_true rfl, Nat.le_of_ble_eq_true rfl⟩ ⟨Nat.le_of_ble_eq_true rfl, Nat.le_of_ble_eq_true rfl⟩ cls_12 rfl cc_85 rfl rfl rfl (Nat.le_of_ble_eq_true rfl) (Call.mono H fun r5 h6 H => ?_)
  refine a_iast (pc := 29) (dk dt_X12_condition 16 rfl) ar_107 ⟨H.1, ?_⟩
  replace H := H.2
  refine a_aload_n (pc := 30) (dk dt_X12_condition 17 rfl) rfl ?_
  refine a_callVi (as := []) (st := []) (pc := 31) (dk dt_X12_condition 18 rfl) cl_RX12_315 ⟨Nat.le_of_ble_eq_true rfl, Nat.le_of_ble_eq_true rfl⟩ ⟨Nat.le_of_ble_eq_true rfl, Nat.le_of_ble_eq_true rfl⟩ cls_12 rfl cc_85 rfl rfl rfl (Nat.le_of_ble_eq_true rfl) (Call.of rfl (Nat.le_of_ble_eq_true rfl) rfl ?_)
  refine a_aload_n (pc := 0) (dk dt_X12_bad 0 rfl) rfl ?_
  refine a_geti (pc := 1) (dk dt_X12_bad 1 rfl) cls_12 fl_RX12_312 cf_85_6 ?_
  refine a_top (y := (h6 85 6)) (by simp [up, cpy]) ?_
  refine a_if_lt (pc := 4) (dk dt_X12_bad 2 rfl) (tgt := 11) rfl ⟨fun c => ?_, fun c => ?_⟩
  · replace H := H.1 c
    refine a_iconst (pc := 11) (dk dt_X12_bad 5 rfl) (ik rfl) ?_
    refine a_zret (pc := 12) (dk dt_X12_bad 6 rfl) rfl rfl ⟨by decide, ?_⟩
    show ATW _ _ _ _ _ _ _ _ _ _
    refine a_if_ne (pc := 34) (dk dt_X12_condition 19 rfl) (tgt := 78) rfl ⟨fun c => absurd c (by decide), fun _ => ?_⟩
    refine a_aload_n (pc := 37) (dk dt_X12_condition 20 rfl) rfl ?_
    refine a_getr (r := 106) (pc := 38) (dk dt_X12_condition 21 rfl) cls_12 fl_RX12_150 cf_85_40 ?_
    refine a_iload_n (pc := 41) (dk dt_X12_condition 22 rfl) rfl ?_
    refine a_iald (pc := 42) (dk dt_X12_condition 23 rfl) ar_107 ⟨H.1, ?_⟩
    replace H := H.2
    refine a_top (y := r5) (by simp [up, cpy]) ?_
    refine a_bipush (pc := 43) (dk dt_X12_condition 24 rfl) (ik rfl) (bpk rfl) ?_
    refine a_icmp_eq (pc := 45) (dk dt_X12_condition 25 rfl) (tgt := 78) rfl ⟨fun c => ?_, fun c => ?_⟩
    · replace H := H.1 c
      refine a_aload_n (pc := 78) (dk dt_X12_condition 42 rfl) rfl ?_
      refine a_dup (pc := 79) (dk dt_X12_condition 43 rfl) rfl ?_
      refine a_geti (pc := 80) (dk dt_X12_condition 44 rfl) cls_12 fl_RX12_309 cf_85_5 ?_
      refine a_top (y := (h6 85 5)) (by simp [up, cpy]) ?_
      refine a_aload_n (pc := 83) (dk dt_X12_condition 45 rfl) rfl ?_
      refine a_callVi (as := []) (st := [iv (h6 85 5), rv 85]) (pc := 84) (dk dt_X12_condition 46 rfl) cl_RX12_315 ⟨Nat.le_of_ble_eq_true rfl, Nat.le_of_ble_eq_true rfl⟩ ⟨Nat.le_of_ble_eq_true rfl, Nat.le_of_ble_eq_true rfl⟩ cls_12 rfl cc_85 rfl rfl rfl (Nat.le_of_ble_eq_true rfl) (Call.of rfl (Nat.le_of_ble_eq_true rfl) rfl ?_)
      refine a_aload_n (pc := 0) (dk dt_X12_bad 0 rfl) rfl ?_
      refine a_geti (pc := 1) (dk dt_X12_bad 1 rfl) cls_12 fl_RX12_312 cf_85_6 ?_
      refine a_top (y := (h6 85 6)) (by simp [up, cpy]) ?_
      refine a_if_lt (pc := 4) (dk dt_X12_bad 2 rfl) (tgt := 11) rfl ⟨fun c => ?_, fun c => ?_⟩
      · replace H := H.1 c
        refine a_iconst (pc := 11) (dk dt_X12_bad 5 rfl) (ik rfl) ?_
        refine a_zret (pc := 12) (dk dt_X12_bad 6 rfl) rfl rfl ⟨by decide, ?_⟩
        show ATW _ _ _ _ _ _ _ _ _ _
        refine a_if_eq (pc := 87) (dk dt_X12_condition 47 rfl) (tgt := 94) rfl ⟨fun _ => ?_, fun c => absurd c (by decide)⟩
        refine a_iconst (pc := 94) (dk dt_X12_condition 50 rfl) (ik rfl) ?_
        refine a_iadd (pc := 95) (dk dt_X12_condition 51 rfl) ?_
        refine a_puti (pc := 96) (dk dt_X12_condition 52 rfl) cls_12 fl_RX12_309 cf_85_5 rfl rfl ?_
        refine a_aload_n (pc := 99) (dk dt_X12_condition 53 rfl) rfl ?_
        refine a_bipush (pc := 100) (dk dt_X12_condition 54 rfl) (ik rfl) (bpk rfl) ?_
        refine a_callVv (as := [iv 32]) (st := []) (pc := 102) (dk dt_X12_condition 55 rfl) cl_RX12_330 ⟨Nat.le_of_ble_eq_true rfl, Nat.le_of_ble_eq_true rfl⟩ ⟨Nat.le_of_ble_eq_true rfl, Nat.le_of_ble_eq_true rfl⟩ cls_12 rfl cc_85 rfl rfl rfl (Nat.le_of_ble_eq_true rfl) (Call.mono H fun _ h8 H => ?_)
        refine a_aload_n (pc := 105) (dk dt_X12_condition 56 rfl) rfl ?_
        refine a_getr (r := 107) (pc := 106) (dk dt_X12_condition 57 rfl) cls_12 fl_RX12_153 cf_85_41 ?_
        refine a_iload_n (pc := 109) (dk dt_X12_condition 58 rfl) rfl ?_
        refine a_aload_n (pc := 110) (dk dt_X12_condition 59 rfl) rfl ?_
        refine a_iconst (pc := 111) (dk dt_X12_condition 60 rfl) (ik rfl) ?_
        refine a_ldcw (n := (-99999)) (pc := 112) (dk dt_X12_condition 61 rfl) (ik rfl) co_RX12_454 ?_
        refine a_ldcw (n := 99999) (pc := 115) (dk dt_X12_condition 62 rfl) (ik rfl) co_RX12_455 ?_
        refine a_callVi (as := [iv 1, iv (-99999), iv 99999]) (st := [iv x1, rv 108]) (pc := 118) (dk dt_X12_condition 63 rfl) cl_RX12_333 ⟨Nat.le_of_ble_eq_true rfl, Nat.le_of_ble_eq_true rfl⟩ ⟨Nat.le_of_ble_eq_true rfl, Nat.le_of_ble_eq_true rfl⟩ cls_12 rfl cc_85 rfl rfl rfl (Nat.le_of_ble_eq_true rfl) (Call.mono H fun r9 h10 H => ?_)
        refine a_iast (pc := 121) (dk dt_X12_condition 64 rfl) ar_108 ⟨H.1, ?_⟩
        replace H := H.2
        exact a_vret (pc := 122) (dk dt_X12_condition 65 rfl) rfl rfl H
      · replace H := H.2 c
        refine a_iconst (pc := 7) (dk dt_X12_bad 3 rfl) (ik rfl) ?_
        refine a_goto (pc := 8) (dk dt_X12_bad 4 rfl) (tgt := 12) rfl ?_
        refine a_zret (pc := 12) (dk dt_X12_bad 6 rfl) rfl rfl ⟨by decide, ?_⟩
        show ATW _ _ _ _ _ _ _ _ _ _
        refine a_if_eq (pc := 87) (dk dt_X12_condition 47 rfl) (tgt := 94) rfl ⟨fun c => absurd c (by decide), fun _ => ?_⟩
        refine a_iconst (pc := 90) (dk dt_X12_condition 48 rfl) (ik rfl) ?_
        refine a_goto (pc := 91) (dk dt_X12_condition 49 rfl) (tgt := 95) rfl ?_
        refine a_iadd (pc := 95) (dk dt_X12_condition 51 rfl) ?_
        refine a_puti (pc := 96) (dk dt_X12_condition 52 rfl) cls_12 fl_RX12_309 cf_85_5 rfl rfl ?_
        refine a_aload_n (pc := 99) (dk dt_X12_condition 53 rfl) rfl ?_
        refine a_bipush (pc := 100) (dk dt_X12_condition 54 rfl) (ik rfl) (bpk rfl) ?_
        refine a_callVv (as := [iv 32]) (st := []) (pc := 102) (dk dt_X12_condition 55 rfl) cl_RX12_330 ⟨Nat.le_of_ble_eq_true rfl, Nat.le_of_ble_eq_true rfl⟩ ⟨Nat.le_of_ble_eq_true rfl, Nat.le_of_ble_eq_true rfl⟩ cls_12 rfl cc_85 rfl rfl rfl (Nat.le_of_ble_eq_true rfl) (Call.mono H fun _ h12 H => ?_)
        refine a_aload_n (pc := 105) (dk dt_X12_condition 56 rfl) rfl ?_
        refine a_getr (r := 107) (pc := 106) (dk dt_X12_condition 57 rfl) cls_12 fl_RX12_153 cf_85_41 ?_
        refine a_iload_n (pc := 109) (dk dt_X12_condition 58 rfl) rfl ?_
        refine a_aload_n (pc := 110) (dk dt_X12_condition 59 rfl) rfl ?_
        refine a_iconst (pc := 111) (dk dt_X12_condition 60 rfl) (ik rfl) ?_
        refine a_ldcw (n := (-99999)) (pc := 112) (dk dt_X12_condition 61 rfl) (ik rfl) co_RX12_454 ?_
        refine a_ldcw (n := 99999) (pc := 115) (dk dt_X12_condition 62 rfl) (ik rfl) co_RX12_455 ?_
        refine a_callVi (as := [iv 1, iv (-99999), iv 99999]) (st := [iv x1, rv 108]) (pc := 118) (dk dt_X12_condition 63 rfl) cl_RX12_333 ⟨Nat.le_of_ble_eq_true rfl, Nat.le_of_ble_eq_true rfl⟩ ⟨Nat.le_of_ble_eq_true rfl, Nat.le_of_ble_eq_true rfl⟩ cls_12 rfl cc_85 rfl rfl rfl (Nat.le_of_ble_eq_true rfl) (Call.mono H fun r13 h14 H => ?_)
        refine a_iast (pc := 121) (dk dt_X12_condition 64 rfl) ar_108 ⟨H.1, ?_⟩
        replace H := H.2
        exact a_vret (pc := 122) (dk dt_X12_condition 65 rfl) rfl rfl H
    · replace H := H.2 c
      refine a_aload_n (pc := 48) (dk dt_X12_condition 26 rfl) rfl ?_
      refine a_getr (r := 106) (pc := 49) (dk dt_X12_condition 27 rfl) cls_12 fl_RX12_150 cf_85_40 ?_
      refine a_iload_n (pc := 52) (dk dt_X12_condition 28 rfl) rfl ?_
      refine a_iald (pc := 53) (dk dt_X12_condition 29 rfl) ar_107 ⟨H.1, ?_⟩
      replace H := H.2
      refine a_top (y := r5) (by simp [up, cpy]) ?_
      refine a_bipush (pc := 54) (dk dt_X12_condition 30 rfl) (ik rfl) (bpk rfl) ?_
      refine a_icmp_eq (pc := 56) (dk dt_X12_condition 31 rfl) (tgt := 78) rfl ⟨fun c => ?_, fun c => ?_⟩
      · replace H := H.1 c
        refine a_aload_n (pc := 78) (dk dt_X12_condition 42 rfl) rfl ?_
        refine a_dup (pc := 79) (dk dt_X12_condition 43 rfl) rfl ?_
        refine a_geti (pc := 80) (dk dt_X12_condition 44 rfl) cls_12 fl_RX12_309 cf_85_5 ?_
        refine a_top (y := (h6 85 5)) (by simp [up, cpy]) ?_
        refine a_aload_n (pc := 83) (dk dt_X12_condition 45 rfl) rfl ?_
        refine a_callVi (as := []) (st := [iv (h6 85 5), rv 85]) (pc := 84) (dk dt_X12_condition 46 rfl) cl_RX12_315 ⟨Nat.le_of_ble_eq_true rfl, Nat.le_of_ble_eq_true rfl⟩ ⟨Nat.le_of_ble_eq_true rfl, Nat.le_of_ble_eq_true rfl⟩ cls_12 rfl cc_85 rfl rfl rfl (Nat.le_of_ble_eq_true rfl) (Call.of rfl (Nat.le_of_ble_eq_true rfl) rfl ?_)
        refine a_aload_n (pc := 0) (dk dt_X12_bad 0 rfl) rfl ?_
        refine a_geti (pc := 1) (dk dt_X12_bad 1 rfl) cls_12 fl_RX12_312 cf_85_6 ?_
        refine a_top (y := (h6 85 6)) (by simp [up, cpy]) ?_
        refine a_if_lt (pc := 4) (dk dt_X12_bad 2 rfl) (tgt := 11) rfl ⟨fun c => ?_, fun c => ?_⟩
        · replace H := H.1 c
          refine a_iconst (pc := 11) (dk dt_X12_bad 5 rfl) (ik rfl) ?_
          refine a_zret (pc := 12) (dk dt_X12_bad 6 rfl) rfl rfl ⟨by decide, ?_⟩
          show ATW _ _ _ _ _ _ _ _ _ _
          refine a_if_eq (pc := 87) (dk dt_X12_condition 47 rfl) (tgt := 94) rfl ⟨fun _ => ?_, fun c => absurd c (by decide)⟩
          refine a_iconst (pc := 94) (dk dt_X12_condition 50 rfl) (ik rfl) ?_
          refine a_iadd (pc := 95) (dk dt_X12_condition 51 rfl) ?_
          refine a_puti (pc := 96) (dk dt_X12_condition 52 rfl) cls_12 fl_RX12_309 cf_85_5 rfl rfl ?_
          refine a_aload_n (pc := 99) (dk dt_X12_condition 53 rfl) rfl ?_
          refine a_bipush (pc := 100) (dk dt_X12_condition 54 rfl) (ik rfl) (bpk rfl) ?_
          refine a_callVv (as := [iv 32]) (st := []) (pc := 102) (dk dt_X12_condition 55 rfl) cl_RX12_330 ⟨Nat.le_of_ble_eq_true rfl, Nat.le_of_ble_eq_true rfl⟩ ⟨Nat.le_of_ble_eq_true rfl, Nat.le_of_ble_eq_true rfl⟩ cls_12 rfl cc_85 rfl rfl rfl (Nat.le_of_ble_eq_true rfl) (Call.mono H fun _ h16 H => ?_)
          refine a_aload_n (pc := 105) (dk dt_X12_condition 56 rfl) rfl ?_
          refine a_getr (r := 107) (pc := 106) (dk dt_X12_condition 57 rfl) cls_12 fl_RX12_153 cf_85_41 ?_
          refine a_iload_n (pc := 109) (dk dt_X12_condition 58 rfl) rfl ?_
          refine a_aload_n (pc := 110) (dk dt_X12_condition 59 rfl) rfl ?_
          refine a_iconst (pc := 111) (dk dt_X12_condition 60 rfl) (ik rfl) ?_
          refine a_ldcw (n := (-99999)) (pc := 112) (dk dt_X12_condition 61 rfl) (ik rfl) co_RX12_454 ?_
          refine a_ldcw (n := 99999) (pc := 115) (dk dt_X12_condition 62 rfl) (ik rfl) co_RX12_455 ?_
          refine a_callVi (as := [iv 1, iv (-99999), iv 99999]) (st := [iv x1, rv 108]) (pc := 118) (dk dt_X12_condition 63 rfl) cl_RX12_333 ⟨Nat.le_of_ble_eq_true rfl, Nat.le_of_ble_eq_true rfl⟩ ⟨Nat.le_of_ble_eq_true rfl, Nat.le_of_ble_eq_true rfl⟩ cls_12 rfl cc_85 rfl rfl rfl (Nat.le_of_ble_eq_true rfl) (Call.mono H fun r17 h18 H => ?_)
          refine a_iast (pc := 121) (dk dt_X12_condition 64 rfl) ar_108 ⟨H.1, ?_⟩
          replace H := H.2
          exact a_vret (pc := 122) (dk dt_X12_condition 65 rfl) rfl rfl H
        · replace H := H.2 c
          refine a_iconst (pc := 7) (dk dt_X12_bad 3 rfl) (ik rfl) ?_
          refine a_goto (pc := 8) (dk dt_X12_bad 4 rfl) (tgt := 12) rfl ?_
          refine a_zret (pc := 12) (dk dt_X12_bad 6 rfl) rfl rfl ⟨by decide, ?_⟩
          show ATW _ _ _ _ _ _ _ _ _ _
          refine a_if_eq (pc := 87) (dk dt_X12_condition 47 rfl) (tgt := 94) rfl ⟨fun c => absurd c (by decide), fun _ => ?_⟩
          refine a_iconst (pc := 90) (dk dt_X12_condition 48 rfl) (ik rfl) ?_
          refine a_goto (pc := 91) (dk dt_X12_condition 49 rfl) (tgt := 95) rfl ?_
          refine a_iadd (pc := 95) (dk dt_X12_condition 51 rfl) ?_
          refine a_puti (pc := 96) (dk dt_X12_condition 52 rfl) cls_12 fl_RX12_309 cf_85_5 rfl rfl ?_
          refine a_aload_n (pc := 99) (dk dt_X12_condition 53 rfl) rfl ?_
          refine a_bipush (pc := 100) (dk dt_X12_condition 54 rfl) (ik rfl) (bpk rfl) ?_
          refine a_callVv (as := [iv 32]) (st := []) (pc := 102) (dk dt_X12_condition 55 rfl) cl_RX12_330 ⟨Nat.le_of_ble_eq_true rfl, Nat.le_of_ble_eq_true rfl⟩ ⟨Nat.le_of_ble_eq_true rfl, Nat.le_of_ble_eq_true rfl⟩ cls_12 rfl cc_85 rfl rfl rfl (Nat.le_of_ble_eq_true rfl) (Call.mono H fun _ h20 H => ?_)
          refine a_aload_n (pc := 105) (dk dt_X12_condition 56 rfl) rfl ?_
          refine a_getr (r := 107) (pc := 106) (dk dt_X12_condition 57 rfl) cls_12 fl_RX12_153 cf_85_41 ?_
          refine a_iload_n (pc := 109) (dk dt_X12_condition 58 rfl) rfl ?_
          refine a_aload_n (pc := 110) (dk dt_X12_condition 59 rfl) rfl ?_
          refine a_iconst (pc := 111) (dk dt_X12_condition 60 rfl) (ik rfl) ?_
          refine a_ldcw (n := (-99999)) (pc := 112) (dk dt_X12_condition 61 rfl) (ik rfl) co_RX12_454 ?_
          refine a_ldcw (n := 99999) (pc := 115) (dk dt_X12_condition 62 rfl) (ik rfl) co_RX12_455 ?_
          refine a_callVi (as := [iv 1, iv (-99999), iv 99999]) (st := [iv x1, rv 108]) (pc := 118) (dk dt_X12_condition 63 rfl) cl_RX12_333 ⟨Nat.le_of_ble_eq_true rfl, Nat.le_of_ble_eq_true rfl⟩ ⟨Nat.le_of_ble_eq_true rfl, Nat.le_of_ble_eq_true rfl⟩ cls_12 rfl cc_85 rfl rfl rfl (Nat.le_of_ble_eq_true rfl) (Call.mono H fun r21 h22 H => ?_)
          refine a_iast (pc := 121) (dk dt_X12_condition 64 rfl) ar_108 ⟨H.1, ?_⟩
          replace H := H.2
          exact a_vret (pc := 122) (dk dt_X12_condition 65 rfl) rfl rfl H
      · replace H := H.2 c
        refine a_aload_n (pc := 59) (dk dt_X12_condition 32 rfl) rfl ?_
        refine a_getr (r := 106) (pc := 60) (dk dt_X12_condition 33 rfl) cls_12 fl_RX12_150 cf_85_40 ?_
        refine a_iload_n (pc := 63) (dk dt_X12_condition 34 rfl) rfl ?_
        refine a_iald (pc := 64) (dk dt_X12_condition 35 rfl) ar_107 ⟨H.1, ?_⟩
        replace H := H.2
        refine a_top (y := r5) (by simp [up, cpy]) ?_
        refine a_bipush (pc := 65) (dk dt_X12_condition 36 rfl) (ik rfl) (bpk rfl) ?_
        refine a_icmp_eq (pc := 67) (dk dt_X12_condition 37 rfl) (tgt := 78) rfl ⟨fun c => ?_, fun c => ?_⟩
        · replace H := H.1 c
          refine a_aload_n (pc := 78) (dk dt_X12_condition 42 rfl) rfl ?_
          refine a_dup (pc := 79) (dk dt_X12_condition 43 rfl) rfl ?_
          refine a_geti (pc := 80) (dk dt_X12_condition 44 rfl) cls_12 fl_RX12_309 cf_85_5 ?_
          refine a_top (y := (h6 85 5)) (by simp [up, cpy]) ?_
          refine a_aload_n (pc := 83) (dk dt_X12_condition 45 rfl) rfl ?_
          refine a_callVi (as := []) (st := [iv (h6 85 5), rv 85]) (pc := 84) (dk dt_X12_condition 46 rfl) cl_RX12_315 ⟨Nat.le_of_ble_eq_true rfl, Nat.le_of_ble_eq_true rfl⟩ ⟨Nat.le_of_ble_eq_true rfl, Nat.le_of_ble_eq_true rfl⟩ cls_12 rfl cc_85 rfl rfl rfl (Nat.le_of_ble_eq_true rfl) (Call.of rfl (Nat.le_of_ble_eq_true rfl) rfl ?_)
          refine a_aload_n (pc := 0) (dk dt_X12_bad 0 rfl) rfl ?_
          refine a_geti (pc := 1) (dk dt_X12_bad 1 rfl) cls_12 fl_RX12_312 cf_85_6 ?_
          refine a_top (y := (h6 85 6)) (by simp [up, cpy]) ?_
          refine a_if_lt (pc := 4) (dk dt_X12_bad 2 rfl) (tgt := 11) rfl ⟨fun c => ?_, fun c => ?_⟩
          · replace H := H.1 c
            refine a_iconst (pc := 11) (dk dt_X12_bad 5 rfl) (ik rfl) ?_
            refine a_zret (pc := 12) (dk dt_X12_bad 6 rfl) rfl rfl ⟨by decide, ?_⟩
            show ATW _ _ _ _ _ _ _ _ _ _
            refine a_if_eq (pc := 87) (dk dt_X12_condition 47 rfl) (tgt := 94) rfl ⟨fun _ => ?_, fun c => absurd c (by decide)⟩
            refine a_iconst (pc := 94) (dk dt_X12_condition 50 rfl) (ik rfl) ?_
            refine a_iadd (pc := 95) (dk dt_X12_condition 51 rfl) ?_
            refine a_puti (pc := 96) (dk dt_X12_condition 52 rfl) cls_12 fl_RX12_309 cf_85_5 rfl rfl ?_
            refine a_aload_n (pc := 99) (dk dt_X12_condition 53 rfl) rfl ?_
            refine a_bipush (pc := 100) (dk dt_X12_condition 54 rfl) (ik rfl) (bpk rfl) ?_
            refine a_callVv (as := [iv 32]) (st := []) (pc := 102) (dk dt_X12_condition 55 rfl) cl_RX12_330 ⟨Nat.le_of_ble_eq_true rfl, Nat.le_of_ble_eq_true rfl⟩ ⟨Nat.le_of_ble_eq_true rfl, Nat.le_of_ble_eq_true rfl⟩ cls_12 rfl cc_85 rfl rfl rfl (Nat.le_of_ble_eq_true rfl) (Call.mono H fun _ h24 H => ?_)
            refine a_aload_n (pc := 105) (dk dt_X12_condition 56 rfl) rfl ?_
            refine a_getr (r := 107) (pc := 106) (dk dt_X12_condition 57 rfl) cls_12 fl_RX12_153 cf_85_41 ?_
            refine a_iload_n (pc := 109) (dk dt_X12_condition 58 rfl) rfl ?_
            refine a_aload_n (pc := 110) (dk dt_X12_condition 59 rfl) rfl ?_
            refine a_iconst (pc := 111) (dk dt_X12_condition 60 rfl) (ik rfl) ?_
            refine a_ldcw (n := (-99999)) (pc := 112) (dk dt_X12_condition 61 rfl) (ik rfl) co_RX12_454 ?_
            refine a_ldcw (n := 99999) (pc := 115) (dk dt_X12_condition 62 rfl) (ik rfl) co_RX12_455 ?_
            refine a_callVi (as := [iv 1, iv (-99999), iv 99999]) (st := [iv x1, rv 108]) (pc := 118) (dk dt_X12_condition 63 rfl) cl_RX12_333 ⟨Nat.le_of_ble_eq_true rfl, Nat.le_of_ble_eq_true rfl⟩ ⟨Nat.le_of_ble_eq_true rfl, Nat.le_of_ble_eq_true rfl⟩ cls_12 rfl cc_85 rfl rfl rfl (Nat.le_of_ble_eq_true rfl) (Call.mono H fun r25 h26 H => ?_)
            refine a_iast (pc := 121) (dk dt_X12_condition 64 rfl) ar_108 ⟨H.1, ?_⟩
            replace H := H.2
            exact a_vret (pc := 122) (dk dt_X12_condition 65 rfl) rfl rfl H
          · replace H := H.2 c
            refine a_iconst (pc := 7) (dk dt_X12_bad 3 rfl) (ik rfl) ?_
            refine a_goto (pc := 8) (dk dt_X12_bad 4 rfl) (tgt := 12) rfl ?_
            refine a_zret (pc := 12) (dk dt_X12_bad 6 rfl) rfl rfl ⟨by decide, ?_⟩
            show ATW _ _ _ _ _ _ _ _ _ _
            refine a_if_eq (pc := 87) (dk dt_X12_condition 47 rfl) (tgt := 94) rfl ⟨fun c => absurd c (by decide), fun _ => ?_⟩
            refine a_iconst (pc := 90) (dk dt_X12_condition 48 rfl) (ik rfl) ?_
            refine a_goto (pc := 91) (dk dt_X12_condition 49 rfl) (tgt := 95) rfl ?_
            refine a_iadd (pc := 95) (dk dt_X12_condition 51 rfl) ?_
            refine a_puti (pc := 96) (dk dt_X12_condition 52 rfl) cls_12 fl_RX12_309 cf_85_5 rfl rfl ?_
            refine a_aload_n (pc := 99) (dk dt_X12_condition 53 rfl) rfl ?_
            refine a_bipush (pc := 100) (dk dt_X12_condition 54 rfl) (ik rfl) (bpk rfl) ?_
            refine a_callVv (as := [iv 32]) (st := []) (pc := 102) (dk dt_X12_condition 55 rfl) cl_RX12_330 ⟨Nat.le_of_ble_eq_true rfl, Nat.le_of_ble_eq_true rfl⟩ ⟨Nat.le_of_ble_eq_true rfl, Nat.le_of_ble_eq_true rfl⟩ cls_12 rfl cc_85 rfl rfl rfl (Nat.le_of_ble_eq_true rfl) (Call.mono H fun _ h28 H => ?_)
            refine a_aload_n (pc := 105) (dk dt_X12_condition 56 rfl) rfl ?_
            refine a_getr (r := 107) (pc := 106) (dk dt_X12_condition 57 rfl) cls_12 fl_RX12_153 cf_85_41 ?_
            refine a_iload_n (pc := 109) (dk dt_X12_condition 58 rfl) rfl ?_
            refine a_aload_n (pc := 110) (dk dt_X12_condition 59 rfl) rfl ?_
            refine a_iconst (pc := 111) (dk dt_X12_condition 60 rfl) (ik rfl) ?_
            refine a_ldcw (n := (-99999)) (pc := 112) (dk dt_X12_condition 61 rfl) (ik rfl) co_RX12_454 ?_
            refine a_ldcw (n := 99999) (pc := 115) (dk dt_X12_condition 62 rfl) (ik rfl) co_RX12_455 ?_
            refine a_callVi (as := [iv 1, iv (-99999), iv 99999]) (st := [iv x1, rv 108]) (pc := 118) (dk dt_X12_condition 63 rfl) cl_RX12_333 ⟨Nat.le_of_ble_eq_true rfl, Nat.le_of_ble_eq_true rfl⟩ ⟨Nat.le_of_ble_eq_true rfl, Nat.le_of_ble_eq_true rfl⟩ cls_12 rfl cc_85 rfl rfl rfl (Nat.le_of_ble_eq_true rfl) (Call.mono H fun r29 h30 H => ?_)
            refine a_iast (pc := 121) (dk dt_X12_condition 64 rfl) ar_108 ⟨H.1, ?_⟩
            replace H := H.2
            exact a_vret (pc := 122) (dk dt_X12_condition 65 rfl) rfl rfl H
        · replace H := H.2 c
          refine a_aload_n (pc := 70) (dk dt_X12_condition 38 rfl) rfl ?_
          refine a_aload_n (pc := 71) (dk dt_X12_condition 39 rfl) rfl ?_
          refine a_geti (pc := 72) (dk dt_X12_condition 40 rfl) cls_12 fl_RX12_309 cf_85_5 ?_
          refine a_top (y := (h6 85 5)) (by simp [up, cpy]) ?_
          refine a_callVv (as := [iv (h6 85 5)]) (st := []) (pc := 75) (dk dt_X12_condition 41 rfl) cl_RX12_323 ⟨Nat.le_of_ble_eq_true rfl, Nat.le_of_ble_eq_true rfl⟩ ⟨Nat.le_of_ble_eq_true rfl, Nat.le_of_ble_eq_true rfl⟩ cls_12 rfl cc_85 rfl rfl rfl (Nat.le_of_ble_eq_true rfl) (Call.of rfl (Nat.le_of_ble_eq_true rfl) rfl ?_)
          refine a_aload_n (pc := 0) (dk dt_X12_fail 0 rfl) rfl ?_
          refine a_geti (pc := 1) (dk dt_X12_fail 1 rfl) cls_12 fl_RX12_312 cf_85_6 ?_
          refine a_top (y := (h6 85 6)) (by simp [up, cpy]) ?_
          refine a_if_ge (pc := 4) (dk dt_X12_fail 2 rfl) (tgt := 12) rfl ⟨fun c => ?_, fun c => ?_⟩
          · replace H := H.1 c
            refine a_vret (pc := 12) (dk dt_X12_fail 6 rfl) rfl rfl ?_
            show ATW _ _ _ _ _ _ _ _ _ _
            refine a_aload_n (pc := 78) (dk dt_X12_condition 42 rfl) rfl ?_
            refine a_dup (pc := 79) (dk dt_X12_condition 43 rfl) rfl ?_
            refine a_geti (pc := 80) (dk dt_X12_condition 44 rfl) cls_12 fl_RX12_309 cf_85_5 ?_
            refine a_top (y := (h6 85 5)) (by simp [up, cpy]) ?_
            refine a_aload_n (pc := 83) (dk dt_X12_condition 45 rfl) rfl ?_
            refine a_callVi (as := []) (st := [iv (h6 85 5), rv 85]) (pc := 84) (dk dt_X12_condition 46 rfl) cl_RX12_315 ⟨Nat.le_of_ble_eq_true rfl, Nat.le_of_ble_eq_true rfl⟩ ⟨Nat.le_of_ble_eq_true rfl, Nat.le_of_ble_eq_true rfl⟩ cls_12 rfl cc_85 rfl rfl rfl (Nat.le_of_ble_eq_true rfl) (Call.of rfl (Nat.le_of_ble_eq_true rfl) rfl ?_)
            refine a_aload_n (pc := 0) (dk dt_X12_bad 0 rfl) rfl ?_
            refine a_geti (pc := 1) (dk dt_X12_bad 1 rfl) cls_12 fl_RX12_312 cf_85_6 ?_
            refine a_top (y := (h6 85 6)) (by simp [up, cpy]) ?_
            refine a_if_lt (pc := 4) (dk dt_X12_bad 2 rfl) (tgt := 11) rfl ⟨fun c => ?_, fun c => ?_⟩
            · replace H := H.1 c
              refine a_iconst (pc := 11) (dk dt_X12_bad 5 rfl) (ik rfl) ?_
              refine a_zret (pc := 12) (dk dt_X12_bad 6 rfl) rfl rfl ⟨by decide, ?_⟩
              show ATW _ _ _ _ _ _ _ _ _ _
              refine a_if_eq (pc := 87) (dk dt_X12_condition 47 rfl) (tgt := 94) rfl ⟨fun _ => ?_, fun c => absurd c (by decide)⟩
              refine a_iconst (pc := 94) (dk dt_X12_condition 50 rfl) (ik rfl) ?_
              refine a_iadd (pc := 95) (dk dt_X12_condition 51 rfl) ?_
              refine a_puti (pc := 96) (dk dt_X12_condition 52 rfl) cls_12 fl_RX12_309 cf_85_5 rfl rfl ?_
              refine a_aload_n (pc := 99) (dk dt_X12_condition 53 rfl) rfl ?_
              refine a_bipush (pc := 100) (dk dt_X12_condition 54 rfl) (ik rfl) (bpk rfl) ?_
              refine a_callVv (as := [iv 32]) (st := []) (pc := 102) (dk dt_X12_condition 55 rfl) cl_RX12_330 ⟨Nat.le_of_ble_eq_true rfl, Nat.le_of_ble_eq_true rfl⟩ ⟨Nat.le_of_ble_eq_true rfl, Nat.le_of_ble_eq_true rfl⟩ cls_12 rfl cc_85 rfl rfl rfl (Nat.le_of_ble_eq_true rfl) (Call.mono H fun _ h32 H => ?_)
              refine a_aload_n (pc := 105) (dk dt_X12_condition 56 rfl) rfl ?_
              refine a_getr (r := 107) (pc := 106) (dk dt_X12_condition 57 rfl) cls_12 fl_RX12_153 cf_85_41 ?_
              refine a_iload_n (pc := 109) (dk dt_X12_condition 58 rfl) rfl ?_
              refine a_aload_n (pc := 110) (dk dt_X12_condition 59 rfl) rfl ?_
              refine a_iconst (pc := 111) (dk dt_X12_condition 60 rfl) (ik rfl) ?_
              refine a_ldcw (n := (-99999)) (pc := 112) (dk dt_X12_condition 61 rfl) (ik rfl) co_RX12_454 ?_
              refine a_ldcw (n := 99999) (pc := 115) (dk dt_X12_condition 62 rfl) (ik rfl) co_RX12_455 ?_
              refine a_callVi (as := [iv 1, iv (-99999), iv 99999]) (st := [iv x1, rv 108]) (pc := 118) (dk dt_X12_condition 63 rfl) cl_RX12_333 ⟨Nat.le_of_ble_eq_true rfl, Nat.le_of_ble_eq_true rfl⟩ ⟨Nat.le_of_ble_eq_true rfl, Nat.le_of_ble_eq_true rfl⟩ cls_12 rfl cc_85 rfl rfl rfl (Nat.le_of_ble_eq_true rfl) (Call.mono H fun r33 h34 H => ?_)
              refine a_iast (pc := 121) (dk dt_X12_condition 64 rfl) ar_108 ⟨H.1, ?_⟩
              replace H := H.2
              exact a_vret (pc := 122) (dk dt_X12_condition 65 rfl) rfl rfl H
            · replace H := H.2 c
              refine a_iconst (pc := 7) (dk dt_X12_bad 3 rfl) (ik rfl) ?_
              refine a_goto (pc := 8) (dk dt_X12_bad 4 rfl) (tgt := 12) rfl ?_
              refine a_zret (pc := 12) (dk dt_X12_bad 6 rfl) rfl rfl ⟨by decide, ?_⟩
              show ATW _ _ _ _ _ _ _ _ _ _
              refine a_if_eq (pc := 87) (dk dt_X12_condition 47 rfl) (tgt := 94) rfl ⟨fun c => absurd c (by decide), fun _ => ?_⟩
              refine a_iconst (pc := 90) (dk dt_X12_condition 48 rfl) (ik rfl) ?_
              refine a_goto (pc := 91) (dk dt_X12_condition 49 rfl) (tgt := 95) rfl ?_
              refine a_iadd (pc := 95) (dk dt_X12_condition 51 rfl) ?_
              refine a_puti (pc := 96) (dk dt_X12_condition 52 rfl) cls_12 fl_RX12_309 cf_85_5 rfl rfl ?_
              refine a_aload_n (pc := 99) (dk dt_X12_condition 53 rfl) rfl ?_
              refine a_bipush (pc := 100) (dk dt_X12_condition 54 rfl) (ik rfl) (bpk rfl) ?_
              refine a_callVv (as := [iv 32]) (st := []) (pc := 102) (dk dt_X12_condition 55 rfl) cl_RX12_330 ⟨Nat.le_of_ble_eq_true rfl, Nat.le_of_ble_eq_true rfl⟩ ⟨Nat.le_of_ble_eq_true rfl, Nat.le_of_ble_eq_true rfl⟩ cls_12 rfl cc_85 rfl rfl rfl (Nat.le_of_ble_eq_true rfl) (Call.mono H fun _ h36 H => ?_)
              refine a_aload_n (pc := 105) (dk dt_X12_condition 56 rfl) rfl ?_
              refine a_getr (r := 107) (pc := 106) (dk dt_X12_condition 57 rfl) cls_12 fl_RX12_153 cf_85_41 ?_
              refine a_iload_n (pc := 109) (dk dt_X12_condition 58 rfl) rfl ?_
              refine a_aload_n (pc := 110) (dk dt_X12_condition 59 rfl) rfl ?_
              refine a_iconst (pc := 111) (dk dt_X12_condition 60 rfl) (ik rfl) ?_
              refine a_ldcw (n := (-99999)) (pc := 112) (dk dt_X12_condition 61 rfl) (ik rfl) co_RX12_454 ?_
              refine a_ldcw (n := 99999) (pc := 115) (dk dt_X12_condition 62 rfl) (ik rfl) co_RX12_455 ?_
              refine a_callVi (as := [iv 1, iv (-99999), iv 99999]) (st := [iv x1, rv 108]) (pc := 118) (dk dt_X12_condition 63 rfl) cl_RX12_333 ⟨Nat.le_of_ble_eq_true rfl, Nat.le_of_ble_eq_true rfl⟩ ⟨Nat.le_of_ble_eq_true rfl, Nat.le_of_ble_eq_true rfl⟩ cls_12 rfl cc_85 rfl rfl rfl (Nat.le_of_ble_eq_true rfl) (Call.mono H fun r37 h38 H => ?_)
              refine a_iast (pc := 121) (dk dt_X12_condition 64 rfl) ar_108 ⟨H.1, ?_⟩
              replace H := H.2
              exact a_vret (pc := 122) (dk dt_X12_condition 65 rfl) rfl rfl H
          · replace H := H.2 c
            refine a_aload_n (pc := 7) (dk dt_X12_fail 3 rfl) rfl ?_
            refine a_iload_n (pc := 8) (dk dt_X12_fail 4 rfl) rfl ?_
            refine a_puti (pc := 9) (dk dt_X12_fail 5 rfl) cls_12 fl_RX12_312 cf_85_6 rfl rfl ?_
            refine a_vret (pc := 12) (dk dt_X12_fail 6 rfl) rfl rfl ?_
            show ATW _ _ _ _ _ _ _ _ _ _
            refine a_aload_n (pc := 78) (dk dt_X12_condition 42 rfl) rfl ?_
            refine a_dup (pc := 79) (dk dt_X12_condition 43 rfl) rfl ?_
            refine a_geti (pc := 80) (dk dt_X12_condition 44 rfl) cls_12 fl_RX12_309 cf_85_5 ?_
            refine a_top (y := (h6 85 5)) (by simp [up, cpy]) ?_
            refine a_aload_n (pc := 83) (dk dt_X12_condition 45 rfl) rfl ?_
            refine a_callVi (as := []) (st := [iv (h6 85 5), rv 85]) (pc := 84) (dk dt_X12_condition 46 rfl) cl_RX12_315 ⟨Nat.le_of_ble_eq_true rfl, Nat.le_of_ble_eq_true rfl⟩ ⟨Nat.le_of_ble_eq_true rfl, Nat.le_of_ble_eq_true rfl⟩ cls_12 rfl cc_85 rfl rfl rfl (Nat.le_of_ble_eq_true rfl) (Call.of rfl (Nat.le_of_ble_eq_true rfl) rfl ?_)
            refine a_aload_n (pc := 0) (dk dt_X12_bad 0 rfl) rfl ?_
            refine a_geti (pc := 1) (dk dt_X12_bad 1 rfl) cls_12 fl_RX12_312 cf_85_6 ?_
            refine a_top (y := (h6 85 5)) (by simp [up, cpy]) ?_
            refine a_if_lt (pc := 4) (dk dt_X12_bad 2 rfl) (tgt := 11) rfl ⟨fun c => ?_, fun c => ?_⟩
            · replace H := H.1 c
              refine a_iconst (pc := 11) (dk dt_X12_bad 5 rfl) (ik rfl) ?_
              refine a_zret (pc := 12) (dk dt_X12_bad 6 rfl) rfl rfl ⟨by decide, ?_⟩
              show ATW _ _ _ _ _ _ _ _ _ _
              refine a_if_eq (pc := 87) (dk dt_X12_condition 47 rfl) (tgt := 94) rfl ⟨fun _ => ?_, fun c => absurd c (by decide)⟩
              refine a_iconst (pc := 94) (dk dt_X12_condition 50 rfl) (ik rfl) ?_
              refine a_iadd (pc := 95) (dk dt_X12_condition 51 rfl) ?_
              refine a_puti (pc := 96) (dk dt_X12_condition 52 rfl) cls_12 fl_RX12_309 cf_85_5 rfl rfl ?_
              refine a_aload_n (pc := 99) (dk dt_X12_condition 53 rfl) rfl ?_
              refine a_bipush (pc := 100) (dk dt_X12_condition 54 rfl) (ik rfl) (bpk rfl) ?_
              refine a_callVv (as := [iv 32]) (st := []) (pc := 102) (dk dt_X12_condition 55 rfl) cl_RX12_330 ⟨Nat.le_of_ble_eq_true rfl, Nat.le_of_ble_eq_true rfl⟩ ⟨Nat.le_of_ble_eq_true rfl, Nat.le_of_ble_eq_true rfl⟩ cls_12 rfl cc_85 rfl rfl rfl (Nat.le_of_ble_eq_true rfl) (Call.mono H fun _ h40 H => ?_)
              refine a_aload_n (pc := 105) (dk dt_X12_condition 56 rfl) rfl ?_
              refine a_getr (r := 107) (pc := 106) (dk dt_X12_condition 57 rfl) cls_12 fl_RX12_153 cf_85_41 ?_
              refine a_iload_n (pc := 109) (dk dt_X12_condition 58 rfl) rfl ?_
              refine a_aload_n (pc := 110) (dk dt_X12_condition 59 rfl) rfl ?_
              refine a_iconst (pc := 111) (dk dt_X12_condition 60 rfl) (ik rfl) ?_
              refine a_ldcw (n := (-99999)) (pc := 112) (dk dt_X12_condition 61 rfl) (ik rfl) co_RX12_454 ?_
              refine a_ldcw (n := 99999) (pc := 115) (dk dt_X12_condition 62 rfl) (ik rfl) co_RX12_455 ?_
              refine a_callVi (as := [iv 1, iv (-99999), iv 99999]) (st := [iv x1, rv 108]) (pc := 118) (dk dt_X12_condition 63 rfl) cl_RX12_333 ⟨Nat.le_of_ble_eq_true rfl, Nat.le_of_ble_eq_true rfl⟩ ⟨Nat.le_of_ble_eq_true rfl, Nat.le_of_ble_eq_true rfl⟩ cls_12 rfl cc_85 rfl rfl rfl (Nat.le_of_ble_eq_true rfl) (Call.mono H fun r41 h42 H => ?_)
              refine a_iast (pc := 121) (dk dt_X12_condition 64 rfl) ar_108 ⟨H.1, ?_⟩
              replace H := H.2
              exact a_vret (pc := 122) (dk dt_X12_condition 65 rfl) rfl rfl H
            · replace H := H.2 c
              refine a_iconst (pc := 7) (dk dt_X12_bad 3 rfl) (ik rfl) ?_
              refine a_goto (pc := 8) (dk dt_X12_bad 4 rfl) (tgt := 12) rfl ?_
              refine a_zret (pc := 12) (dk dt_X12_bad 6 rfl) rfl rfl ⟨by decide, ?_⟩
              show ATW _ _ _ _ _ _ _ _ _ _
              refine a_if_eq (pc := 87) (dk dt_X12_condition 47 rfl) (tgt := 94) rfl ⟨fun c => absurd c (by decide), fun _ => ?_⟩
              refine a_iconst (pc := 90) (dk dt_X12_condition 48 rfl) (ik rfl) ?_
              refine a_goto (pc := 91) (dk dt_X12_condition 49 rfl) (tgt := 95) rfl ?_
              refine a_iadd (pc := 95) (dk dt_X12_condition 51 rfl) ?_
              refine a_puti (pc := 96) (dk dt_X12_condition 52 rfl) cls_12 fl_RX12_309 cf_85_5 rfl rfl ?_
              refine a_aload_n (pc := 99) (dk dt_X12_condition 53 rfl) rfl ?_
              refine a_bipush (pc := 100) (dk dt_X12_condition 54 rfl) (ik rfl) (bpk rfl) ?_
              refine a_callVv (as := [iv 32]) (st := []) (pc := 102) (dk dt_X12_condition 55 rfl) cl_RX12_330 ⟨Nat.le_of_ble_eq_true rfl, Nat.le_of_ble_eq_true rfl⟩ ⟨Nat.le_of_ble_eq_true rfl, Nat.le_of_ble_eq_true rfl⟩ cls_12 rfl cc_85 rfl rfl rfl (Nat.le_of_ble_eq_true rfl) (Call.mono H fun _ h44 H => ?_)
              refine a_aload_n (pc := 105) (dk dt_X12_condition 56 rfl) rfl ?_
              refine a_getr (r := 107) (pc := 106) (dk dt_X12_condition 57 rfl) cls_12 fl_RX12_153 cf_85_41 ?_
              refine a_iload_n (pc := 109) (dk dt_X12_condition 58 rfl) rfl ?_
              refine a_aload_n (pc := 110) (dk dt_X12_condition 59 rfl) rfl ?_
              refine a_iconst (pc := 111) (dk dt_X12_condition 60 rfl) (ik rfl) ?_
              refine a_ldcw (n := (-99999)) (pc := 112) (dk dt_X12_condition 61 rfl) (ik rfl) co_RX12_454 ?_
              refine a_ldcw (n := 99999) (pc := 115) (dk dt_X12_condition 62 rfl) (ik rfl) co_RX12_455 ?_
              refine a_callVi (as := [iv 1, iv (-99999), iv 99999]) (st := [iv x1, rv 108]) (pc := 118) (dk dt_X12_condition 63 rfl) cl_RX12_333 ⟨Nat.le_of_ble_eq_true rfl, Nat.le_of_ble_eq_true rfl⟩ ⟨Nat.le_of_ble_eq_true rfl, Nat.le_of_ble_eq_true rfl⟩ cls_12 rfl cc_85 rfl rfl rfl (Nat.le_of_ble_eq_true rfl) (Call.mono H fun r45 h46 H => ?_)
              refine a_iast (pc := 121) (dk dt_X12_condition 64 rfl) ar_108 ⟨H.1, ?_⟩
              replace H := H.2
              exact a_vret (pc := 122) (dk dt_X12_condition 65 rfl) rfl rfl H
  · replace H := H.2 c
    refine a_iconst (pc := 7) (dk dt_X12_bad 3 rfl) (ik rfl) ?_
    refine a_goto (pc := 8) (dk dt_X12_bad 4 rfl) (tgt := 12) rfl ?_
    refine a_zret (pc := 12) (dk dt_X12_bad 6 rfl) rfl rfl ⟨by decide, ?_⟩
    show ATW _ _ _ _ _ _ _ _ _ _
    refine a_if_ne (pc := 34) (dk dt_X12_condition 19 rfl) (tgt := 78) rfl ⟨fun _ => ?_, fun c => absurd c (by decide)⟩
    refine a_aload_n (pc := 78) (dk dt_X12_condition 42 rfl) rfl ?_
    refine a_dup (pc := 79) (dk dt_X12_condition 43 rfl) rfl ?_
    refine a_geti (pc := 80) (dk dt_X12_condition 44 rfl) cls_12 fl_RX12_309 cf_85_5 ?_
    refine a_top (y := (h6 85 5)) (by simp [up, cpy]) ?_
    refine a_aload_n (pc := 83) (dk dt_X12_condition 45 rfl) rfl ?_
    refine a_callVi (as := []) (st := [iv (h6 85 5), rv 85]) (pc := 84) (dk dt_X12_condition 46 rfl) cl_RX12_315 ⟨Nat.le_of_ble_eq_true rfl, Nat.le_of_ble_eq_true rfl⟩ ⟨Nat.le_of_ble_eq_true rfl, Nat.le_of_ble_eq_true rfl⟩ cls_12 rfl cc_85 rfl rfl rfl (Nat.le_of_ble_eq_true rfl) (Call.of rfl (Nat.le_of_ble_eq_true rfl) rfl ?_)
    refine a_aload_n (pc := 0) (dk dt_X12_bad 0 rfl) rfl ?_
    refine a_geti (pc := 1) (dk dt_X12_bad 1 rfl) cls_12 fl_RX12_312 cf_85_6 ?_
    refine a_top (y := (h6 85 6)) (by simp [up, cpy]) ?_
    refine a_if_lt (pc := 4) (dk dt_X12_bad 2 rfl) (tgt := 11) rfl ⟨fun c => ?_, fun c => ?_⟩
    · replace H := H.1 c
      refine a_iconst (pc := 11) (dk dt_X12_bad 5 rfl) (ik rfl) ?_
      refine a_zret (pc := 12) (dk dt_X12_bad 6 rfl) rfl rfl ⟨by decide, ?_⟩
      show ATW _ _ _ _ _ _ _ _ _ _
      refine a_if_eq (pc := 87) (dk dt_X12_condition 47 rfl) (tgt := 94) rfl ⟨fun _ => ?_, fun c => absurd c (by decide)⟩
      refine a_iconst (pc := 94) (dk dt_X12_condition 50 rfl) (ik rfl) ?_
      refine a_iadd (pc := 95) (dk dt_X12_condition 51 rfl) ?_
      refine a_puti (pc := 96) (dk dt_X12_condition 52 rfl) cls_12 fl_RX12_309 cf_85_5 rfl rfl ?_
      refine a_aload_n (pc := 99) (dk dt_X12_condition 53 rfl) rfl ?_
      refine a_bipush (pc := 100) (dk dt_X12_condition 54 rfl) (ik rfl) (bpk rfl) ?_
      refine a_callVv (as := [iv 32]) (st := []) (pc := 102) (dk dt_X12_condition 55 rfl) cl_RX12_330 ⟨Nat.le_of_ble_eq_true rfl, Nat.le_of_ble_eq_true rfl⟩ ⟨Nat.le_of_ble_eq_true rfl, Nat.le_of_ble_eq_true rfl⟩ cls_12 rfl cc_85 rfl rfl rfl (Nat.le_of_ble_eq_true rfl) (Call.mono H fun _ h48 H => ?_)
      refine a_aload_n (pc := 105) (dk dt_X12_condition 56 rfl) rfl ?_
      refine a_getr (r := 107) (pc := 106) (dk dt_X12_condition 57 rfl) cls_12 fl_RX12_153 cf_85_41 ?_
      refine a_iload_n (pc := 109) (dk dt_X12_condition 58 rfl) rfl ?_
      refine a_aload_n (pc := 110) (dk dt_X12_condition 59 rfl) rfl ?_
      refine a_iconst (pc := 111) (dk dt_X12_condition 60 rfl) (ik rfl) ?_
      refine a_ldcw (n := (-99999)) (pc := 112) (dk dt_X12_condition 61 rfl) (ik rfl) co_RX12_454 ?_
      refine a_ldcw (n := 99999) (pc := 115) (dk dt_X12_condition 62 rfl) (ik rfl) co_RX12_455 ?_
      refine a_callVi (as := [iv 1, iv (-99999), iv 99999]) (st := [iv x1, rv 108]) (pc := 118) (dk dt_X12_condition 63 rfl) cl_RX12_333 ⟨Nat.le_of_ble_eq_true rfl, Nat.le_of_ble_eq_true rfl⟩ ⟨Nat.le_of_ble_eq_true rfl, Nat.le_of_ble_eq_true rfl⟩ cls_12 rfl cc_85 rfl rfl rfl (Nat.le_of_ble_eq_true rfl) (Call.mono H fun r49 h50 H => ?_)
      refine a_iast (pc := 121) (dk dt_X12_condition 64 rfl) ar_108 ⟨H.1, ?_⟩
      replace H := H.2
      exact a_vret (pc := 122) (dk dt_X12_condition 65 rfl) rfl rfl H
    · replace H := H.2 c
      refine a_iconst (pc := 7) (dk dt_X12_bad 3 rfl) (ik rfl) ?_
      refine a_goto (pc := 8) (dk dt_X12_bad 4 rfl) (tgt := 12) rfl ?_
      refine a_zret (pc := 12) (dk dt_X12_bad 6 rfl) rfl rfl ⟨by decide, ?_⟩
      show ATW _ _ _ _ _ _ _ _ _ _
      refine a_if_eq (pc := 87) (dk dt_X12_condition 47 rfl) (tgt := 94) rfl ⟨fun c => absurd c (by decide), fun _ => ?_⟩
      refine a_iconst (pc := 90) (dk dt_X12_condition 48 rfl) (ik rfl) ?_
      refine a_goto (pc := 91) (dk dt_X12_condition 49 rfl) (tgt := 95) rfl ?_
      refine a_iadd (pc := 95) (dk dt_X12_condition 51 rfl) ?_
      refine a_puti (pc := 96) (dk dt_X12_condition 52 rfl) cls_12 fl_RX12_309 cf_85_5 rfl rfl ?_
      refine a_aload_n (pc := 99) (dk dt_X12_condition 53 rfl) rfl ?_
      refine a_bipush (pc := 100) (dk dt_X12_condition 54 rfl) (ik rfl) (bpk rfl) ?_
      refine a_callVv (as := [iv 32]) (st := []) (pc := 102) (dk dt_X12_condition 55 rfl) cl_RX12_330 ⟨Nat.le_of_ble_eq_true rfl, Nat.le_of_ble_eq_true rfl⟩ ⟨Nat.le_of_ble_eq_true rfl, Nat.le_of_ble_eq_true rfl⟩ cls_12 rfl cc_85 rfl rfl rfl (Nat.le_of_ble_eq_true rfl) (Call.mono H fun _ h52 H => ?_)
      refine a_aload_n (pc := 105) (dk dt_X12_condition 56 rfl) rfl ?_
      refine a_getr (r := 107) (pc := 106) (dk dt_X12_condition 57 rfl) cls_12 fl_RX12_153 cf_85_41 ?_
      refine a_iload_n (pc := 109) (dk dt_X12_condition 58 rfl) rfl ?_
      refine a_aload_n (pc := 110) (dk dt_X12_condition 59 rfl) rfl ?_
      refine a_iconst (pc := 111) (dk dt_X12_condition 60 rfl) (ik rfl) ?_
      refine a_ldcw (n := (-99999)) (pc := 112) (dk dt_X12_condition 61 rfl) (ik rfl) co_RX12_454 ?_
      refine a_ldcw (n := 99999) (pc := 115) (dk dt_X12_condition 62 rfl) (ik rfl) co_RX12_455 ?_
      refine a_callVi (as := [iv 1, iv (-99999), iv 99999]) (st := [iv x1, rv 108]) (pc := 118) (dk dt_X12_condition 63 rfl) cl_RX12_333 ⟨Nat.le_of_ble_eq_true rfl, Nat.le_of_ble_eq_true rfl⟩ ⟨Nat.le_of_ble_eq_true rfl, Nat.le_of_ble_eq_true rfl⟩ cls_12 rfl cc_85 rfl rfl rfl (Nat.le_of_ble_eq_true rfl) (Call.mono H fun r53 h54 H => ?_)
      refine a_iast (pc := 121) (dk dt_X12_condition 64 rfl) ar_108 ⟨H.1, ?_⟩
      replace H := H.2
      exact a_vret (pc := 122) (dk dt_X12_condition 65 rfl) rfl rfl H
set_option maxHeartbeats 40000000 in
theorem U_X12_link_85_0 {G : GG} {Φ : Int → Hp → Prop} {h : Hp} (H : (((h 96 0) = 0 → Φ 0 h) ∧ ((h 96 0) ≠ 0 → Call G m_X12_isSeen [rv 85] h (fun r1 h2 => ((r1 ≠ 0 → AT G m_X12_link 23 [(0, rv 85), (1, iv 255), (2, iv 0)] [] h2 Φ) ∧ (r1 = 0 → Φ 0 h2)))))) : AT G m_X12_link 0 [(0, rv 85)] [] h Φ := by
  refine a_aload_n (pc := 0) (dk dt_X12_link 0 rfl) rfl ?_
  refine a_getr (r := 95) (pc := 1) (dk dt_X12_link 1 rfl) cls_12 fl_RX12_54 cf_85_27 ?_
  refine a_iconst (pc := 4) (dk dt_X12_link 2 rfl) (ik rfl) ?_
  refine a_zald (pc := 5) (dk dt_X12_link 3 rfl) ar_96 ⟨⟨by decide, by decide⟩, ?_⟩
  refine a_if_eq (pc := 6) (dk dt_X12_link 4 rfl) (tgt := 16) rfl ⟨fun c => ?_, fun c => ?_⟩
  · replace H := H.1 c
    exact a_vret (pc := 16) (dk dt_X12_link 8 rfl) rfl rfl H
  · replace H := H.2 c
    refine a_aload_n (pc := 9) (dk dt_X12_link 5 rfl) rfl ?_
    refine a_callVi (as := []) (st := []) (pc := 10) (dk dt_X12_link 6 rfl) cl_RX12_471 ⟨Nat.le_of_ble_eq_true rfl, Nat.le_of_ble_eq_true rfl⟩ ⟨Nat.le_of_ble_eq_true rfl, Nat.le_of_ble_eq_true rfl⟩ cls_12 rfl cc_85 rfl rfl rfl (Nat.le_of_ble_eq_true rfl) (Call.mono H fun r1 h2 H => ?_)
    refine a_if_ne (pc := 13) (dk dt_X12_link 7 rfl) (tgt := 17) rfl ⟨fun c => ?_, fun c => ?_⟩
    · replace H := H.1 c
      refine a_sipush (pc := 17) (dk dt_X12_link 9 rfl) (ik rfl) (spk rfl) ?_
      refine a_istore_n (pc := 20) (dk dt_X12_link 10 rfl) (by decide) rfl rfl ?_
      refine a_iconst (pc := 21) (dk dt_X12_link 11 rfl) (ik rfl) ?_
      refine a_istore_n (pc := 22) (dk dt_X12_link 12 rfl) (by decide) rfl rfl ?_
      exact a_pick [0, 1, 2] rfl H
    · replace H := H.2 c
      exact a_vret (pc := 16) (dk dt_X12_link 8 rfl) rfl rfl H
set_option maxHeartbeats 40000000 in
theorem U_X12_link_85_23 {G : GG} {Φ : Int → Hp → Prop} {h : Hp} {x1 : Int} {x2 : Int} (H : ((18 ≤ x2 → Call G m_X12_check [rv 139, iv 0] (up (up (up (up h 139 0 (h 85 79)) 139 1 (h 85 81)) 139 2 (h 85 80)) 139 3 x1) (fun r1 h2 => (((h2 85 78) ≠ 30 → AT G m_X12_link 305 [(0, rv 85), (4, iv 0)] [] (up (up (up h2 139 22 (bshr r1 8)) 139 23 (band r1 255)) 85 79 (band (w32 ((h2 85 79) + 1)) 255)) Φ) ∧ ((h2 85 78) = 30 → Φ 0 (up (up (up h2 139 22 (bshr r1 8)) 139 23 (band r1 255)) 85 79 (band (w32 ((h2 85 79) + 1)) 255)))))) ∧ (x2 < 18 → (((h 85 74) ≠ (h 85 73) → (0 ≤ (h 85 74) ∧ (h 85 74) < 9) ∧ (0 ≤ (w32 (4 + x2)) ∧ (w32 (4 + x2)) < 24) ∧ AT G m_X12_link 23 [(0, rv 85), (1, iv x1), (2, iv (w32 (x2 + 1)))] [] (up (up h 139 (w32 (4 + x2)) (h 136 (h 85 74))) 85 74 (w32 ((h 85 74) + 1))) Φ) ∧ ((h 85 74) = (h 85 73) → AT G m_X12_link 45 [(0, rv 85), (1, iv x1), (2, iv x2), (3, iv (-1)), (4, iv 0)] [] h Φ))))) : AT G m_X12_link 23 [(0, rv 85), (1, iv x1), (2, iv x2)] [] h Φ := by
  refine a_iload_n (pc := 23) (dk dt_X12_link 13 rfl) rfl ?_
  refine a_bipush (pc := 24) (dk dt_X12_link 14 rfl) (ik rfl) (bpk rfl) ?_
  refine a_icmp_ge (pc := 26) (dk dt_X12_link 15 rfl) (tgt := 209) rfl ⟨fun c => ?_, fun c => ?_⟩
  · replace H := H.1 c
    refine a_aload_n (pc := 209) (dk dt_X12_link 115 rfl) rfl ?_
    refine a_getr (r := 138) (pc := 210) (dk dt_X12_link 116 rfl) cls_12 fl_RX12_244 cf_85_77 ?_
    refine a_iconst (pc := 213) (dk dt_X12_link 117 rfl) (ik rfl) ?_
    refine a_aload_n (pc := 214) (dk dt_X12_link 118 rfl) rfl ?_
    refine a_geti (pc := 215) (dk dt_X12_link 119 rfl) cls_12 fl_RX12_517 cf_85_79 ?_
    refine a_iast (pc := 218) (dk dt_X12_link 120 rfl) ar_139 ⟨⟨by decide, by decide⟩, ?_⟩
    refine a_aload_n (pc := 219) (dk dt_X12_link 121 rfl) rfl ?_
    refine a_getr (r := 138) (pc := 220) (dk dt_X12_link 122 rfl) cls_12 fl_RX12_244 cf_85_77 ?_
    refine a_iconst (pc := 223) (dk dt_X12_link 123 rfl) (ik rfl) ?_
    refine a_aload_n (pc := 224) (dk dt_X12_link 124 rfl) rfl ?_
    refine a_geti (pc := 225) (dk dt_X12_link 125 rfl) cls_12 fl_RX12_520 cf_85_81 ?_
    refine a_top (y := (h 85 81)) (by simp [up, cpy]) ?_
    refine a_iast (pc := 228) (dk dt_X12_link 126 rfl) ar_139 ⟨⟨by decide, by decide⟩, ?_⟩
    refine a_aload_n (pc := 229) (dk dt_X12_link 127 rfl) rfl ?_
    refine a_getr (r := 138) (pc := 230) (dk dt_X12_link 128 rfl) cls_12 fl_RX12_244 cf_85_77 ?_
    refine a_iconst (pc := 233) (dk dt_X12_link 129 rfl) (ik rfl) ?_
    refine a_aload_n (pc := 234) (dk dt_X12_link 130 rfl) rfl ?_
    refine a_geti (pc := 235) (dk dt_X12_link 131 rfl) cls_12 fl_RX12_523 cf_85_80 ?_
    refine a_top (y := (h 85 80)) (by simp [up, cpy]) ?_
    refine a_iast (pc := 238) (dk dt_X12_link 132 rfl) ar_139 ⟨⟨by decide, by decide⟩, ?_⟩
    refine a_aload_n (pc := 239) (dk dt_X12_link 133 rfl) rfl ?_
    refine a_getr (r := 138) (pc := 240) (dk dt_X12_link 134 rfl) cls_12 fl_RX12_244 cf_85_77 ?_
    refine a_iconst (pc := 243) (dk dt_X12_link 135 rfl) (ik rfl) ?_
    refine a_iload_n (pc := 244) (dk dt_X12_link 136 rfl) rfl ?_
    refine a_iast (pc := 245) (dk dt_X12_link 137 rfl) ar_139 ⟨⟨by decide, by decide⟩, ?_⟩
    refine a_aload_n (pc := 246) (dk dt_X12_link 138 rfl) rfl ?_
    refine a_getr (r := 138) (pc := 247) (dk dt_X12_link 139 rfl) cls_12 fl_RX12_244 cf_85_77 ?_
    refine a_iconst (pc := 250) (dk dt_X12_link 140 rfl) (ik rfl) ?_
    refine a_callSi (as := [rv 139, iv 0]) (st := []) (pc := 251) (dk dt_X12_link 141 rfl) cl_RX12_526 ⟨Nat.le_of_ble_eq_true rfl, Nat.le_of_ble_eq_true rfl⟩ ⟨Nat.le_of_ble_eq_true rfl, Nat.le_of_ble_eq_true rfl⟩ rfl rfl rfl (Nat.le_of_ble_eq_true rfl) (Call.mono H fun r1 h2 H => ?_)
    refine a_istore_n (pc := 254) (dk dt_X12_link 142 rfl) (by decide) rfl rfl ?_
    refine a_aload_n (pc := 255) (dk dt_X12_link 143 rfl) rfl ?_
    refine a_getr (r := 138) (pc := 256) (dk dt_X12_link 144 rfl) cls_12 fl_RX12_244 cf_85_77 ?_
    refine a_bipush (pc := 259) (dk dt_X12_link 145 rfl) (ik rfl) (bpk rfl) ?_
    refine a_iload_n (pc := 261) (dk dt_X12_link 146 rfl) rfl ?_
    refine a_bipush (pc := 262) (dk dt_X12_link 147 rfl) (ik rfl) (bpk rfl) ?_
    refine a_ishr (pc := 264) (dk dt_X12_link 148 rfl) ?_
    refine a_iast (pc := 265) (dk dt_X12_link 149 rfl) ar_139 ⟨⟨by decide, by decide⟩, ?_⟩
    refine a_aload_n (pc := 266) (dk dt_X12_link 150 rfl) rfl ?_
    refine a_getr (r := 138) (pc := 267) (dk dt_X12_link 151 rfl) cls_12 fl_RX12_244 cf_85_77 ?_
    refine a_bipush (pc := 270) (dk dt_X12_link 152 rfl) (ik rfl) (bpk rfl) ?_
    refine a_iload_n (pc := 272) (dk dt_X12_link 153 rfl) rfl ?_
    refine a_sipush (pc := 273) (dk dt_X12_link 154 rfl) (ik rfl) (spk rfl) ?_
    refine a_iand (pc := 276) (dk dt_X12_link 155 rfl) ?_
    refine a_iast (pc := 277) (dk dt_X12_link 156 rfl) ar_139 ⟨⟨by decide, by decide⟩, ?_⟩
    refine a_aload_n (pc := 278) (dk dt_X12_link 157 rfl) rfl ?_
    refine a_aload_n (pc := 279) (dk dt_X12_link 158 rfl) rfl ?_
    refine a_geti (pc := 280) (dk dt_X12_link 159 rfl) cls_12 fl_RX12_517 cf_85_79 ?_
    refine a_top (y := (h2 85 79)) (by simp [up, cpy]) ?_
    refine a_iconst (pc := 283) (dk dt_X12_link 160 rfl) (ik rfl) ?_
    refine a_iadd (pc := 284) (dk dt_X12_link 161 rfl) ?_
    refine a_sipush (pc := 285) (dk dt_X12_link 162 rfl) (ik rfl) (spk rfl) ?_
    refine a_iand (pc := 288) (dk dt_X12_link 163 rfl) ?_
    refine a_puti (pc := 289) (dk dt_X12_link 164 rfl) cls_12 fl_RX12_517 cf_85_79 rfl rfl ?_
    refine a_aload_n (pc := 292) (dk dt_X12_link 165 rfl) rfl ?_
    refine a_geti (pc := 293) (dk dt_X12_link 166 rfl) cls_12 fl_RX12_530 cf_85_78 ?_
    refine a_top (y := (h2 85 78)) (by simp [up, cpy]) ?_
    refine a_bipush (pc := 296) (dk dt_X12_link 167 rfl) (ik rfl) (bpk rfl) ?_
    refine a_icmp_ne (pc := 298) (dk dt_X12_link 168 rfl) (tgt := 302) rfl ⟨fun c => ?_, fun c => ?_⟩
    · replace H := H.1 c
      refine a_iconst (pc := 302) (dk dt_X12_link 170 rfl) (ik rfl) ?_
      refine a_istore (pc := 303) (dk dt_X12_link 171 rfl) (by decide) rfl rfl ?_
      exact a_pick [0, 4] rfl H
    · replace H := H.2 c
      exact a_vret (pc := 301) (dk dt_X12_link 169 rfl) rfl rfl H
  · replace H := H.2 c
    refine a_aload_n (pc := 29) (dk dt_X12_link 16 rfl) rfl ?_
    refine a_geti (pc := 30) (dk dt_X12_link 17 rfl) cls_12 fl_RX12_511 cf_85_74 ?_
    refine a_aload_n (pc := 33) (dk dt_X12_link 18 rfl) rfl ?_
    refine a_geti (pc := 34) (dk dt_X12_link 19 rfl) cls_12 fl_RX12_514 cf_85_73 ?_
    refine a_icmp_ne (pc := 37) (dk dt_X12_link 20 rfl) (tgt := 176) rfl ⟨fun c => ?_, fun c => ?_⟩
    · replace H := H.1 c
      refine a_aload_n (pc := 176) (dk dt_X12_link 96 rfl) rfl ?_
      refine a_getr (r := 138) (pc := 177) (dk dt_X12_link 97 rfl) cls_12 fl_RX12_244 cf_85_77 ?_
      refine a_iconst (pc := 180) (dk dt_X12_link 98 rfl) (ik rfl) ?_
      refine a_iload_n (pc := 181) (dk dt_X12_link 99 rfl) rfl ?_
      refine a_iadd (pc := 182) (dk dt_X12_link 100 rfl) ?_
      refine a_aload_n (pc := 183) (dk dt_X12_link 101 rfl) rfl ?_
      refine a_getr (r := 135) (pc := 184) (dk dt_X12_link 102 rfl) cls_12 fl_RX12_235 cf_85_71 ?_
      refine a_aload_n (pc := 187) (dk dt_X12_link 103 rfl) rfl ?_
      refine a_geti (pc := 188) (dk dt_X12_link 104 rfl) cls_12 fl_RX12_511 cf_85_74 ?_
      refine a_iald (pc := 191) (dk dt_X12_link 105 rfl) ar_136 ⟨H.1, ?_⟩
      replace H := H.2
      refine a_iast (pc := 192) (dk dt_X12_link 106 rfl) ar_139 ⟨H.1, ?_⟩
      replace H := H.2
      refine a_aload_n (pc := 193) (dk dt_X12_link 107 rfl) rfl ?_
      refine a_dup (pc := 194) (dk dt_X12_link 108 rfl) rfl ?_
      refine a_geti (pc := 195) (dk dt_X12_link 109 rfl) cls_12 fl_RX12_511 cf_85_74 ?_
      refine a_top (y := (h 85 74)) (by simp [up, cpy]) ?_
      refine a_iconst (pc := 198) (dk dt_X12_link 110 rfl) (ik rfl) ?_
      refine a_iadd (pc := 199) (dk dt_X12_link 111 rfl) ?_
      refine a_puti (pc := 200) (dk dt_X12_link 112 rfl) cls_12 fl_RX12_511 cf_85_74 rfl rfl ?_
      refine a_iinc (pc := 203) (dk dt_X12_link 113 rfl) (by decide) rfl rfl rfl ?_
      refine a_goto (pc := 206) (dk dt_X12_link 114 rfl) (tgt := 23) rfl ?_
      exact a_pick [0, 1, 2] rfl H
    · replace H := H.2 c
      refine a_iconst (pc := 40) (dk dt_X12_link 21 rfl) (ik rfl) ?_
      refine a_istore_n (pc := 41) (dk dt_X12_link 22 rfl) (by decide) rfl rfl ?_
      refine a_iconst (pc := 42) (dk dt_X12_link 23 rfl) (ik rfl) ?_
      refine a_istore (pc := 43) (dk dt_X12_link 24 rfl) (by decide) rfl rfl ?_
      exact a_pick [0, 1, 2, 3, 4] rfl H
set_option maxHeartbeats 40000000 in
theorem U_X12_link_85_305 {G : GG} {Φ : Int → Hp → Prop} {h : Hp} {x4 : Int} (H : ((24 ≤ x4 → Φ 0 (up h 85 78 (w32 ((h 85 78) + 1)))) ∧ (x4 < 24 → (0 ≤ x4 ∧ x4 < 24) ∧ (0 ≤ (w32 ((w32 (24 * (h 85 78))) + x4)) ∧ (w32 ((w32 (24 * (h 85 78))) + x4)) < 720) ∧ AT G m_X12_link 305 [(0, rv 85), (4, iv (w32 (x4 + 1)))] [] (up h 138 (w32 ((w32 (24 * (h 85 78))) + x4)) (h 139 x4)) Φ))) : AT G m_X12_link 305 [(0, rv 85), (4, iv x4)] [] h Φ := by
  refine a_iload (pc := 305) (dk dt_X12_link 172 rfl) rfl ?_
  refine a_bipush (pc := 307) (dk dt_X12_link 173 rfl) (ik rfl) (bpk rfl) ?_
  refine a_icmp_ge (pc := 309) (dk dt_X12_link 174 rfl) (tgt := 340) rfl ⟨fun c => ?_, fun c => ?_⟩
  · replace H := H.1 c
    refine a_aload_n (pc := 340) (dk dt_X12_link 190 rfl) rfl ?_
    refine a_dup (pc := 341) (dk dt_X12_link 191 rfl) rfl ?_
    refine a_geti (pc := 342) (dk dt_X12_link 192 rfl) cls_12 fl_RX12_530 cf_85_78 ?_
    refine a_iconst (pc := 345) (dk dt_X12_link 193 rfl) (ik rfl) ?_
    refine a_iadd (pc := 346) (dk dt_X12_link 194 rfl) ?_
    refine a_puti (pc := 347) (dk dt_X12_link 195 rfl) cls_12 fl_RX12_530 cf_85_78 rfl rfl ?_
    exact a_vret (pc := 350) (dk dt_X12_link 196 rfl) rfl rfl H
  · replace H := H.2 c
    refine a_aload_n (pc := 312) (dk dt_X12_link 175 rfl) rfl ?_
    refine a_getr (r := 137) (pc := 313) (dk dt_X12_link 176 rfl) cls_12 fl_RX12_241 cf_85_76 ?_
    refine a_bipush (pc := 316) (dk dt_X12_link 177 rfl) (ik rfl) (bpk rfl) ?_
    refine a_aload_n (pc := 318) (dk dt_X12_link 178 rfl) rfl ?_
    refine a_geti (pc := 319) (dk dt_X12_link 179 rfl) cls_12 fl_RX12_530 cf_85_78 ?_
    refine a_imul (pc := 322) (dk dt_X12_link 180 rfl) ?_
    refine a_iload (pc := 323) (dk dt_X12_link 181 rfl) rfl ?_
    refine a_iadd (pc := 325) (dk dt_X12_link 182 rfl) ?_
    refine a_aload_n (pc := 326) (dk dt_X12_link 183 rfl) rfl ?_
    refine a_getr (r := 138) (pc := 327) (dk dt_X12_link 184 rfl) cls_12 fl_RX12_244 cf_85_77 ?_
    refine a_iload (pc := 330) (dk dt_X12_link 185 rfl) rfl ?_
    refine a_iald (pc := 332) (dk dt_X12_link 186 rfl) ar_139 ⟨H.1, ?_⟩
    replace H := H.2
    refine a_iast (pc := 333) (dk dt_X12_link 187 rfl) ar_138 ⟨H.1, ?_⟩
    replace H := H.2
    refine a_iinc (pc := 334) (dk dt_X12_link 188 rfl) (by decide) rfl rfl rfl ?_
    refine a_goto (pc := 337) (dk dt_X12_link 189 rfl) (tgt := 305) rfl ?_
    exact a_pick [0, 1] rfl H
set_option maxHeartbeats 40000000 in
theorem U_X12_link_85_45 {G : GG} {Φ : Int → Hp → Prop} {h : Hp} {x1 : Int} {x2 : Int} {x3 : Int} {x4 : Int} (H : (((h 85 72) ≤ x4 → ((x3 ≠ (-1) → (0 ≤ x3 ∧ x3 < 50) ∧ AT G m_X12_link 124 [(0, rv 85), (1, iv x1), (2, iv x2), (3, iv x3), (4, iv 0)] [] (up (up h 85 73 (h 134 x3)) 85 74 0) Φ) ∧ (x3 = (-1) → (0 ≤ (w32 (4 + x2)) ∧ (w32 (4 + x2)) < 24) ∧ AT G m_X12_link 23 [(0, rv 85), (1, iv x1), (2, iv (w32 (x2 + 1)))] [] (up h 139 (w32 (4 + x2)) 0) Φ))) ∧ (x4 < (h 85 72) → ((x3 = (-1) → AT G m_X12_link 45 [(0, rv 85), (1, iv x1), (2, iv x2), (3, iv x4), (4, iv (w32 (x4 + 1)))] [] h Φ) ∧ (x3 ≠ (-1) → Call G m_X12_sort [rv 85, iv x4] h (fun r1 h2 => Call G m_X12_sort [rv 85, iv x3] h2 (fun r3 h4 => ((r3 ≤ r1 → AT G m_X12_link 45 [(0, rv 85), (1, iv x1), (2, iv x2), (3, iv x3), (4, iv (w32 (x4 + 1)))] [] h4 Φ) ∧ (r1 < r3 → AT G m_X12_link 45 [(0, rv 85), (1, iv x1), (2, iv x2), (3, iv x4), (4, iv (w32 (x4 + 1)))] [] h4 Φ))))))))) : AT G m_X12_link 45 [(0, rv 85), (1, iv x1), (2, iv x2), (3, iv x3), (4, iv x4)] [] h Φ := by
  refine a_iload (pc := 45) (dk dt_X12_link 25 rfl) rfl ?_
  refine a_aload_n (pc := 47) (dk dt_X12_link 26 rfl) rfl ?_
  refine a_geti (pc := 48) (dk dt_X12_link 27 rfl) cls_12 fl_RX12_501 cf_85_72 ?_
  refine a_icmp_ge (pc := 51) (dk dt_X12_link 28 rfl) (tgt := 86) rfl ⟨fun c => ?_, fun c => ?_⟩
  · replace H := H.1 c
    refine a_iload_n (pc := 86) (dk dt_X12_link 45 rfl) rfl ?_
    refine a_iconst (pc := 87) (dk dt_X12_link 46 rfl) (ik rfl) ?_
    refine a_icmp_ne (pc := 88) (dk dt_X12_link 47 rfl) (tgt := 106) rfl ⟨fun c => ?_, fun c => ?_⟩
    · replace H := H.1 c
      refine a_aload_n (pc := 106) (dk dt_X12_link 57 rfl) rfl ?_
      refine a_aload_n (pc := 107) (dk dt_X12_link 58 rfl) rfl ?_
      refine a_getr (r := 133) (pc := 108) (dk dt_X12_link 59 rfl) cls_12 fl_RX12_229 cf_85_69 ?_
      refine a_iload_n (pc := 111) (dk dt_X12_link 60 rfl) rfl ?_
      refine a_iald (pc := 112) (dk dt_X12_link 61 rfl) ar_134 ⟨H.1, ?_⟩
      replace H := H.2
      refine a_puti (pc := 113) (dk dt_X12_link 62 rfl) cls_12 fl_RX12_514 cf_85_73 rfl rfl ?_
      refine a_aload_n (pc := 116) (dk dt_X12_link 63 rfl) rfl ?_
      refine a_iconst (pc := 117) (dk dt_X12_link 64 rfl) (ik rfl) ?_
      refine a_puti (pc := 118) (dk dt_X12_link 65 rfl) cls_12 fl_RX12_511 cf_85_74 rfl rfl ?_
      refine a_iconst (pc := 121) (dk dt_X12_link 66 rfl) (ik rfl) ?_
      refine a_istore (pc := 122) (dk dt_X12_link 67 rfl) (by decide) rfl rfl ?_
      exact a_pick [0, 1, 2, 3, 4] rfl H
    · replace H := H.2 c
      refine a_aload_n (pc := 91) (dk dt_X12_link 48 rfl) rfl ?_
      refine a_getr (r := 138) (pc := 92) (dk dt_X12_link 49 rfl) cls_12 fl_RX12_244 cf_85_77 ?_
      refine a_iconst (pc := 95) (dk dt_X12_link 50 rfl) (ik rfl) ?_
      refine a_iload_n (pc := 96) (dk dt_X12_link 51 rfl) rfl ?_
      refine a_iadd (pc := 97) (dk dt_X12_link 52 rfl) ?_
      refine a_iconst (pc := 98) (dk dt_X12_link 53 rfl) (ik rfl) ?_
      refine a_iast (pc := 99) (dk dt_X12_link 54 rfl) ar_139 ⟨H.1, ?_⟩
      replace H := H.2
      refine a_iinc (pc := 100) (dk dt_X12_link 55 rfl) (by decide) rfl rfl rfl ?_
      refine a_goto (pc := 103) (dk dt_X12_link 56 rfl) (tgt := 23) rfl ?_
      exact a_pick [0, 1, 2] rfl H
  · replace H := H.2 c
    refine a_iload_n (pc := 54) (dk dt_X12_link 29 rfl) rfl ?_
    refine a_iconst (pc := 55) (dk dt_X12_link 30 rfl) (ik rfl) ?_
    refine a_icmp_eq (pc := 56) (dk dt_X12_link 31 rfl) (tgt := 73) rfl ⟨fun c => ?_, fun c => ?_⟩
    · replace H := H.1 c
      refine a_iload (pc := 73) (dk dt_X12_link 39 rfl) rfl ?_
      refine a_goto (pc := 75) (dk dt_X12_link 40 rfl) (tgt := 79) rfl ?_
      refine a_istore_n (pc := 79) (dk dt_X12_link 42 rfl) (by decide) rfl rfl ?_
      refine a_iinc (pc := 80) (dk dt_X12_link 43 rfl) (by decide) rfl rfl rfl ?_
      refine a_goto (pc := 83) (dk dt_X12_link 44 rfl) (tgt := 45) rfl ?_
      exact a_pick [0, 1, 2, 3, 4] rfl H
    · replace H := H.2 c
      refine a_aload_n (pc := 59) (dk dt_X12_link 32 rfl) rfl ?_
      refine a_iload (pc := 60) (dk dt_X12_link 33 rfl) rfl ?_
      refine a_callVi (as := [iv x4]) (st := []) (pc := 62) (dk dt_X12_link 34 rfl) cl_RX12_504 ⟨Nat.le_of_ble_eq_true rfl, Nat.le_of_ble_eq_true rfl⟩ ⟨Nat.le_of_ble_eq_true rfl, Nat.le_of_ble_eq_true rfl⟩ cls_12 rfl cc_85 rfl rfl rfl (Nat.le_of_ble_eq_true rfl) (Call.mono H fun r1 h2 H => ?_)
      refine a_aload_n (pc := 65) (dk dt_X12_link 35 rfl) rfl ?_
      refine a_iload_n (pc := 66) (dk dt_X12_link 36 rfl) rfl ?_
      refine a_callVi (as := [iv x3]) (st := [iv r1]) (pc := 67) (dk dt_X12_link 37 rfl) cl_RX12_504 ⟨Nat.le_of_ble_eq_true rfl, Nat.le_of_ble_eq_true rfl⟩ ⟨Nat.le_of_ble_eq_true rfl, Nat.le_of_ble_eq_true rfl⟩ cls_12 rfl cc_85 rfl rfl rfl (Nat.le_of_ble_eq_true rfl) (Call.mono H fun r3 h4 H => ?_)
      refine a_icmp_ge (pc := 70) (dk dt_X12_link 38 rfl) (tgt := 78) rfl ⟨fun c => ?_, fun c => ?_⟩
      · replace H := H.1 c
        refine a_iload_n (pc := 78) (dk dt_X12_link 41 rfl) rfl ?_
        refine a_istore_n (pc := 79) (dk dt_X12_link 42 rfl) (by decide) rfl rfl ?_
        refine a_iinc (pc := 80) (dk dt_X12_link 43 rfl) (by decide) rfl rfl rfl ?_
        refine a_goto (pc := 83) (dk dt_X12_link 44 rfl) (tgt := 45) rfl ?_
        exact a_pick [0, 1, 2, 3, 4] rfl H
      · replace H := H.2 c
        refine a_iload (pc := 73) (dk dt_X12_link 39 rfl) rfl ?_
        refine a_goto (pc := 75) (dk dt_X12_link 40 rfl) (tgt := 79) rfl ?_
        refine a_istore_n (pc := 79) (dk dt_X12_link 42 rfl) (by decide) rfl rfl ?_
        refine a_iinc (pc := 80) (dk dt_X12_link 43 rfl) (by decide) rfl rfl rfl ?_
        refine a_goto (pc := 83) (dk dt_X12_link 44 rfl) (tgt := 45) rfl ?_
        exact a_pick [0, 1, 2, 3, 4] rfl H
set_option maxHeartbeats 40000000 in
theorem U_X12_link_85_124 {G : GG} {Φ : Int → Hp → Prop} {h : Hp} {x1 : Int} {x2 : Int} {x3 : Int} {x4 : Int} (H : (((h 85 73) ≤ x4 → Call G m_X12_drop [rv 85, iv x3] h (fun _ h2 => ((x1 ≠ 255 → (0 ≤ (h2 85 74) ∧ (h2 85 74) < 9) ∧ (0 ≤ (w32 (4 + x2)) ∧ (w32 (4 + x2)) < 24) ∧ AT G m_X12_link 23 [(0, rv 85), (1, iv x1), (2, iv (w32 (x2 + 1)))] [] (up (up h2 139 (w32 (4 + x2)) (h2 136 (h2 85 74))) 85 74 (w32 ((h2 85 74) + 1))) Φ) ∧ (x1 = 255 → (0 ≤ (h2 85 74) ∧ (h2 85 74) < 9) ∧ (0 ≤ (w32 (4 + x2)) ∧ (w32 (4 + x2)) < 24) ∧ AT G m_X12_link 23 [(0, rv 85), (1, iv x2), (2, iv (w32 (x2 + 1)))] [] (up (up h2 139 (w32 (4 + x2)) (h2 136 (h2 85 74))) 85 74 (w32 ((h2 85 74) + 1))) Φ)))) ∧ (x4 < (h 85 73) → (0 ≤ (w32 ((w32 (9 * x3)) + x4)) ∧ (w32 ((w32 (9 * x3)) + x4)) < 450) ∧ (0 ≤ x4 ∧ x4 < 9) ∧ AT G m_X12_link 124 [(0, rv 85), (1, iv x1), (2, iv x2), (3, iv x3), (4, iv (w32 (x4 + 1)))] [] (up h 136 x4 (h 133 (w32 ((w32 (9 * x3)) + x4)))) Φ))) : AT G m_X12_link 124 [(0, rv 85), (1, iv x1), (2, iv x2), (3, iv x3), (4, iv x4)] [] h Φ := by
  refine a_iload (pc := 124) (dk dt_X12_link 68 rfl) rfl ?_
  refine a_aload_n (pc := 126) (dk dt_X12_link 69 rfl) rfl ?_
  refine a_geti (pc := 127) (dk dt_X12_link 70 rfl) cls_12 fl_RX12_514 cf_85_73 ?_
  refine a_icmp_ge (pc := 130) (dk dt_X12_link 71 rfl) (tgt := 158) rfl ⟨fun c => ?_, fun c => ?_⟩
  · replace H := H.1 c
    refine a_aload_n (pc := 158) (dk dt_X12_link 86 rfl) rfl ?_
    refine a_iload_n (pc := 159) (dk dt_X12_link 87 rfl) rfl ?_
    refine a_callVv (as := [iv x3]) (st := []) (pc := 160) (dk dt_X12_link 88 rfl) cl_RX12_507 ⟨Nat.le_of_ble_eq_true rfl, Nat.le_of_ble_eq_true rfl⟩ ⟨Nat.le_of_ble_eq_true rfl, Nat.le_of_ble_eq_true rfl⟩ cls_12 rfl cc_85 rfl rfl rfl (Nat.le_of_ble_eq_true rfl) (Call.mono H fun _ h2 H => ?_)
    refine a_iload_n (pc := 163) (dk dt_X12_link 89 rfl) rfl ?_
    refine a_sipush (pc := 164) (dk dt_X12_link 90 rfl) (ik rfl) (spk rfl) ?_
    refine a_icmp_ne (pc := 167) (dk dt_X12_link 91 rfl) (tgt := 174) rfl ⟨fun c => ?_, fun c => ?_⟩
    · replace H := H.1 c
      refine a_iload_n (pc := 174) (dk dt_X12_link 94 rfl) rfl ?_
      refine a_istore_n (pc := 175) (dk dt_X12_link 95 rfl) (by decide) rfl rfl ?_
      refine a_aload_n (pc := 176) (dk dt_X12_link 96 rfl) rfl ?_
      refine a_getr (r := 138) (pc := 177) (dk dt_X12_link 97 rfl) cls_12 fl_RX12_244 cf_85_77 ?_
      refine a_iconst (pc := 180) (dk dt_X12_link 98 rfl) (ik rfl) ?_
      refine a_iload_n (pc := 181) (dk dt_X12_link 99 rfl) rfl ?_
      refine a_iadd (pc := 182) (dk dt_X12_link 100 rfl) ?_
      refine a_aload_n (pc := 183) (dk dt_X12_link 101 rfl) rfl ?_
      refine a_getr (r := 135) (pc := 184) (dk dt_X12_link 102 rfl) cls_12 fl_RX12_235 cf_85_71 ?_
      refine a_aload_n (pc := 187) (dk dt_X12_link 103 rfl) rfl ?_
      refine a_geti (pc := 188) (dk dt_X12_link 104 rfl) cls_12 fl_RX12_511 cf_85_74 ?_
      refine a_iald (pc := 191) (dk dt_X12_link 105 rfl) ar_136 ⟨H.1, ?_⟩
      replace H := H.2
      refine a_iast (pc := 192) (dk dt_X12_link 106 rfl) ar_139 ⟨H.1, ?_⟩
      replace H := H.2
      refine a_aload_n (pc := 193) (dk dt_X12_link 107 rfl) rfl ?_
      refine a_dup (pc := 194) (dk dt_X12_link 108 rfl) rfl ?_
      refine a_geti (pc := 195) (dk dt_X12_link 109 rfl) cls_12 fl_RX12_511 cf_85_74 ?_
      refine a_top (y := (h2 85 74)) (by simp [up, cpy]) ?_
      refine a_iconst (pc := 198) (dk dt_X12_link 110 rfl) (ik rfl) ?_
      refine a_iadd (pc := 199) (dk dt_X12_link 111 rfl) ?_
      refine a_puti (pc := 200) (dk dt_X12_link 112 rfl) cls_12 fl_RX12_511 cf_85_74 rfl rfl ?_
      refine a_iinc (pc := 203) (dk dt_X12_link 113 rfl) (by decide) rfl rfl rfl ?_
      refine a_goto (pc := 206) (dk dt_X12_link 114 rfl) (tgt := 23) rfl ?_
      exact a_pick [0, 1, 2] rfl H
    · replace H := H.2 c
      refine a_iload_n (pc := 170) (dk dt_X12_link 92 rfl) rfl ?_
      refine a_goto (pc := 171) (dk dt_X12_link 93 rfl) (tgt := 175) rfl ?_
      refine a_istore_n (pc := 175) (dk dt_X12_link 95 rfl) (by decide) rfl rfl ?_
      refine a_aload_n (pc := 176) (dk dt_X12_link 96 rfl) rfl ?_
      refine a_getr (r := 138) (pc := 177) (dk dt_X12_link 97 rfl) cls_12 fl_RX12_244 cf_85_77 ?_
      refine a_iconst (pc := 180) (dk dt_X12_link 98 rfl) (ik rfl) ?_
      refine a_iload_n (pc := 181) (dk dt_X12_link 99 rfl) rfl ?_
      refine a_iadd (pc := 182) (dk dt_X12_link 100 rfl) ?_
      refine a_aload_n (pc := 183) (dk dt_X12_link 101 rfl) rfl ?_
      refine a_getr (r := 135) (pc := 184) (dk dt_X12_link 102 rfl) cls_12 fl_RX12_235 cf_85_71 ?_
      refine a_aload_n (pc := 187) (dk dt_X12_link 103 rfl) rfl ?_
      refine a_geti (pc := 188) (dk dt_X12_link 104 rfl) cls_12 fl_RX12_511 cf_85_74 ?_
      refine a_iald (pc := 191) (dk dt_X12_link 105 rfl) ar_136 ⟨H.1, ?_⟩
      replace H := H.2
      refine a_iast (pc := 192) (dk dt_X12_link 106 rfl) ar_139 ⟨H.1, ?_⟩
      replace H := H.2
      refine a_aload_n (pc := 193) (dk dt_X12_link 107 rfl) rfl ?_
      refine a_dup (pc := 194) (dk dt_X12_link 108 rfl) rfl ?_
      refine a_geti (pc := 195) (dk dt_X12_link 109 rfl) cls_12 fl_RX12_511 cf_85_74 ?_
      refine a_top (y := (h2 85 74)) (by simp [up, cpy]) ?_
      refine a_iconst (pc := 198) (dk dt_X12_link 110 rfl) (ik rfl) ?_
      refine a_iadd (pc := 199) (dk dt_X12_link 111 rfl) ?_
      refine a_puti (pc := 200) (dk dt_X12_link 112 rfl) cls_12 fl_RX12_511 cf_85_74 rfl rfl ?_
      refine a_iinc (pc := 203) (dk dt_X12_link 113 rfl) (by decide) rfl rfl rfl ?_
      refine a_goto (pc := 206) (dk dt_X12_link 114 rfl) (tgt := 23) rfl ?_
      exact a_pick [0, 1, 2] rfl H
  · replace H := H.2 c
    refine a_aload_n (pc := 133) (dk dt_X12_link 72 rfl) rfl ?_
    refine a_getr (r := 135) (pc := 134) (dk dt_X12_link 73 rfl) cls_12 fl_RX12_235 cf_85_71 ?_
    refine a_iload (pc := 137) (dk dt_X12_link 74 rfl) rfl ?_
    refine a_aload_n (pc := 139) (dk dt_X12_link 75 rfl) rfl ?_
    refine a_getr (r := 132) (pc := 140) (dk dt_X12_link 76 rfl) cls_12 fl_RX12_227 cf_85_68 ?_
    refine a_bipush (pc := 143) (dk dt_X12_link 77 rfl) (ik rfl) (bpk rfl) ?_
    refine a_iload_n (pc := 145) (dk dt_X12_link 78 rfl) rfl ?_
    refine a_imul (pc := 146) (dk dt_X12_link 79 rfl) ?_
    refine a_iload (pc := 147) (dk dt_X12_link 80 rfl) rfl ?_
    refine a_iadd (pc := 149) (dk dt_X12_link 81 rfl) ?_
    refine a_iald (pc := 150) (dk dt_X12_link 82 rfl) ar_133 ⟨H.1, ?_⟩
    replace H := H.2
    refine a_iast (pc := 151) (dk dt_X12_link 83 rfl) ar_136 ⟨H.1, ?_⟩
    replace H := H.2
    refine a_iinc (pc := 152) (dk dt_X12_link 84 rfl) (by decide) rfl rfl rfl ?_
    refine a_goto (pc := 155) (dk dt_X12_link 85 rfl) (tgt := 124) rfl ?_
    exact a_pick [0, 1, 2, 3, 4] rfl H
set_option maxHeartbeats 40000000 in
theorem U_X12_watch_85_0 {G : GG} {Φ : Int → Hp → Prop} {h : Hp} (H : AT G m_X12_watch 2 [(0, rv 85), (1, iv 0)] [] h Φ) : AT G m_X12_watch 0 [(0, rv 85)] [] h Φ := by
  refine a_iconst (pc := 0) (dk dt_X12_watch 0 rfl) (ik rfl) ?_
  refine a_istore_n (pc := 1) (dk dt_X12_watch 1 rfl) (by decide) rfl rfl ?_
  exact a_pick [0, 1] rfl H
set_option maxHeartbeats 40000000 in
theorem U_X12_watch_85_2 {G : GG} {Φ : Int → Hp → Prop} {h : Hp} {x1 : Int} (H : ((8 ≤ x1 → Φ 0 h) ∧ (x1 < 8 → (0 ≤ x1 ∧ x1 < 8) ∧ (((h 132 x1) ≠ 0 → Call G m_X12_holds [rv 85, iv (w32 (241 + x1))] (up h 85 57 0) (fun r1 h2 => ((r1 = 0 → (0 ≤ x1 ∧ x1 < 8) ∧ (0 ≤ x1 ∧ x1 < 8) ∧ (0 ≤ x1 ∧ x1 < 8) ∧ ((0 = (h2 128 x1) → (0 ≤ x1 ∧ x1 < 8) ∧ (((h2 131 x1) = (-1) → (0 ≤ x1 ∧ x1 < 8) ∧ (0 ≤ x1 ∧ x1 < 8) ∧ (((h2 129 x1) ≠ 8 → (0 ≤ x1 ∧ x1 < 8) ∧ (0 ≤ (h2 129 x1) ∧ (h2 129 x1) < 8) ∧ (0 ≤ (h2 129 x1) ∧ (h2 129 x1) < 8) ∧ AT G m_X12_watch 2 [(0, rv 85), (1, iv (w32 (x1 + 1)))] [] (up (up (up (up (up h2 130 x1 0) 85 22 (w32 ((h2 85 22) + 1))) 131 x1 (h2 85 10)) 116 (h2 129 x1) 0) 117 (h2 129 x1) 0) Φ) ∧ ((h2 129 x1) = 8 → Call G m_X12_goTo [rv 85, iv 0] (up (up (up h2 130 x1 0) 85 22 (w32 ((h2 85 22) + 1))) 131 x1 (h2 85 10)) (fun _ h4 => AT G m_X12_watch 2 [(0, rv 85), (1, iv (w32 (x1 + 1)))] [] h4 Φ)))) ∧ ((h2 131 x1) ≠ (-1) → (0 ≤ x1 ∧ x1 < 8) ∧ ((60 ≤ (w32 ((h2 85 10) - (h2 131 x1))) → (0 ≤ x1 ∧ x1 < 8) ∧ (0 ≤ x1 ∧ x1 < 8) ∧ (((h2 129 x1) ≠ 8 → (0 ≤ x1 ∧ x1 < 8) ∧ (0 ≤ (h2 129 x1) ∧ (h2 129 x1) < 8) ∧ (0 ≤ (h2 129 x1) ∧ (h2 129 x1) < 8) ∧ AT G m_X12_watch 2 [(0, rv 85), (1, iv (w32 (x1 + 1)))] [] (up (up (up (up (up h2 130 x1 0) 85 22 (w32 ((h2 85 22) + 1))) 131 x1 (h2 85 10)) 116 (h2 129 x1) 0) 117 (h2 129 x1) 0) Φ) ∧ ((h2 129 x1) = 8 → Call G m_X12_goTo [rv 85, iv 0] (up (up (up h2 130 x1 0) 85 22 (w32 ((h2 85 22) + 1))) 131 x1 (h2 85 10)) (fun _ h6 => AT G m_X12_watch 2 [(0, rv 85), (1, iv (w32 (x1 + 1)))] [] h6 Φ)))) ∧ ((w32 ((h2 85 10) - (h2 131 x1))) < 60 → (0 ≤ x1 ∧ x1 < 8) ∧ Call G m_X12_goTo [rv 85, iv 0] (up (up (up h2 130 x1 0) 85 22 (w32 ((h2 85 22) + 1))) 131 x1 (h2 85 10)) (fun _ h8 => AT G m_X12_watch 2 [(0, rv 85), (1, iv (w32 (x1 + 1)))] [] h8 Φ)))))) ∧ (0 ≠ (h2 128 x1) → AT G m_X12_watch 2 [(0, rv 85), (1, iv (w32 (x1 + 1)))] [] (up h2 130 x1 0) Φ))) ∧ (r1 ≠ 0 → (((h2 85 57) ≠ 0 → (0 ≤ x1 ∧ x1 < 8) ∧ (0 ≤ x1 ∧ x1 < 8) ∧ (0 ≤ x1 ∧ x1 < 8) ∧ ((0 = (h2 128 x1) → (0 ≤ x1 ∧ x1 < 8) ∧ (((h2 131 x1) = (-1) → (0 ≤ x1 ∧ x1 < 8) ∧ (0 ≤ x1 ∧ x1 < 8) ∧ (((h2 129 x1) ≠ 8 → (0 ≤ x1 ∧ x1 < 8) ∧ (0 ≤ (h2 129 x1) ∧ (h2 129 x1) < 8) ∧ (0 ≤ (h2 129 x1) ∧ (h2 129 x1) < 8) ∧ AT G m_X12_watch 2 [(0, rv 85), (1, iv (w32 (x1 + 1)))] [] (up (up (up (up (up h2 130 x1 0) 85 22 (w32 ((h2 85 22) + 1))) 131 x1 (h2 85 10)) 116 (h2 129 x1) 0) 117 (h2 129 x1) 0) Φ) ∧ ((h2 129 x1) = 8 → Call G m_X12_goTo [rv 85, iv 0] (up (up (up h2 130 x1 0) 85 22 (w32 ((h2 85 22) + 1))) 131 x1 (h2 85 10)) (fun _ h10 => AT G m_X12_watch 2 [(0, rv 85), (1, iv (w32 (x1 + 1)))] [] h10 Φ)))) ∧ ((h2 131 x1) ≠ (-1) → (0 ≤ x1 ∧ x1 < 8) ∧ ((60 ≤ (w32 ((h2 85 10) - (h2 131 x1))) → (0 ≤ x1 ∧ x1 < 8) ∧ (0 ≤ x1 ∧ x1 < 8) ∧ (((h2 129 x1) ≠ 8 → (0 ≤ x1 ∧ x1 < 8) ∧ (0 ≤ (h2 129 x1) ∧ (h2 129 x1) < 8) ∧ (0 ≤ (h2 129 x1) ∧ (h2 129 x1) < 8) ∧ AT G m_X12_watch 2 [(0, rv 85), (1, iv (w32 (x1 + 1)))] [] (up (up (up (up (up h2 130 x1 0) 85 22 (w32 ((h2 85 22) + 1))) 131 x1 (h2 85 10)) 116 (h2 129 x1) 0) 117 (h2 129 x1) 0) Φ) ∧ ((h2 129 x1) = 8 → Call G m_X12_goTo [rv 85, iv 0] (up (up (up h2 130 x1 0) 85 22 (w32 ((h2 85 22) + 1))) 131 x1 (h2 85 10)) (fun _ h12 => AT G m_X12_watch 2 [(0, rv 85), (1, iv (w32 (x1 + 1)))] [] h12 Φ)))) ∧ ((w32 ((h2 85 10) - (h2 131 x1))) < 60 → (0 ≤ x1 ∧ x1 < 8) ∧ Call G m_X12_goTo [rv 85, iv 0] (up (up (up h2 130 x1 0) 85 22 (w32 ((h2 85 22) + 1))) 131 x1 (h2 85 10)) (fun _ h14 => AT G m_X12_watch 2 [(0, rv 85), (1, iv (w32 (x1 + 1)))] [] h14 Φ)))))) ∧ (0 ≠ (h2 128 x1) → AT G m_X12_watch 2 [(0, rv 85), (1, iv (w32 (x1 + 1)))] [] (up h2 130 x1 0) Φ))) ∧ ((h2 85 57) = 0 → (0 ≤ x1 ∧ x1 < 8) ∧ (0 ≤ x1 ∧ x1 < 8) ∧ (0 ≤ x1 ∧ x1 < 8) ∧ (0 ≤ x1 ∧ x1 < 8) ∧ (((w32 ((h2 130 x1) + 1)) = (h2 128 x1) → (0 ≤ x1 ∧ x1 < 8) ∧ (((h2 131 x1) = (-1) → (0 ≤ x1 ∧ x1 < 8) ∧ (0 ≤ x1 ∧ x1 < 8) ∧ (((h2 129 x1) ≠ 8 → (0 ≤ x1 ∧ x1 < 8) ∧ (0 ≤ (h2 129 x1) ∧ (h2 129 x1) < 8) ∧ (0 ≤ (h2 129 x1) ∧ (h2 129 x1) < 8) ∧ AT G m_X12_watch 2 [(0, rv 85), (1, iv (w32 (x1 + 1)))] [] (up (up (up (up (up h2 130 x1 (w32 ((h2 130 x1) + 1))) 85 22 (w32 ((h2 85 22) + 1))) 131 x1 (h2 85 10)) 116 (h2 129 x1) 0) 117 (h2 129 x1) 0) Φ) ∧ ((h2 129 x1) = 8 → Call G m_X12_goTo [rv 85, iv 0] (up (up (up h2 130 x1 (w32 ((h2 130 x1) + 1))) 85 22 (w32 ((h2 85 22) + 1))) 131 x1 (h2 85 10)) (fun _ h16 => AT G m_X12_watch 2 [(0, rv 85), (1, iv (w32 (x1 + 1)))] [] h16 Φ)))) ∧ ((h2 131 x1) ≠ (-1) → (0 ≤ x1 ∧ x1 < 8) ∧ ((60 ≤ (w32 ((h2 85 10) - (h2 131 x1))) → (0 ≤ x1 ∧ x1 < 8) ∧ (0 ≤ x1 ∧ x1 < 8) ∧ (((h2 129 x1) ≠ 8 → (0 ≤ x1 ∧ x1 < 8) ∧ (0 ≤ (h2 129 x1) ∧ (h2 129 x1) < 8) ∧ (0 ≤ (h2 129 x1) ∧ (h2 129 x1) < 8) ∧ AT G m_X12_watch 2 [(0, rv 85), (1, iv (w32 (x1 + 1)))] [] (up (up (up (up (up h2 130 x1 (w32 ((h2 130 x1) + 1))) 85 22 (w32 ((h2 85 22) + 1))) 131 x1 (h2 85 10)) 116 (h2 129 x1) 0) 117 (h2 129 x1) 0) Φ) ∧ ((h2 129 x1) = 8 → Call G m_X12_goTo [rv 85, iv 0] (up (up (up h2 130 x1 (w32 ((h2 130 x1) + 1))) 85 22 (w32 ((h2 85 22) + 1))) 131 x1 (h2 85 10)) (fun _ h18 => AT G m_X12_watch 2 [(0, rv 85), (1, iv (w32 (x1 + 1)))] [] h18 Φ)))) ∧ ((w32 ((h2 85 10) - (h2 131 x1))) < 60 → (0 ≤ x1 ∧ x1 < 8) ∧ Call G m_X12_goTo [rv 85, iv 0] (up (up (up h2 130 x1 (w32 ((h2 130 x1) + 1))) 85 22 (w32 ((h2 85 22) + 1))) 131 x1 (h2 85 10)) (fun _ h20 => AT G m_X12_watch 2 [(0, rv 85), (1, iv (w32 (x1 + 1)))] [] h20 Φ)))))) ∧ ((w32 ((h2 130 x1) + 1)) ≠ (h2 128 x1) → AT G m_X12_watch 2 [(0, rv 85), (1, iv (w32 (x1 + 1)))] [] (up h2 130 x1 (w32 ((h2 130 x1) + 1))) Φ)))))))) ∧ ((h 132 x1) = 0 → AT G m_X12_watch 2 [(0, rv 85), (1, iv (w32 (x1 + 1)))] [] h Φ))))) : AT G m_X12_watch 2 [(0, rv 85), (1, iv x1)] [] h Φ := by
  refine a_iload_n (pc := 2) (dk dt_X12_watch 2 rfl) rfl ?_
  refine a_bipush (pc := 3) (dk dt_X12_watch 3 rfl) (ik rfl) (bpk rfl) ?_
  refine a_icmp_ge (pc := 5) (dk dt_X12_watch 4 rfl) (tgt := 181) rfl ⟨fun c => ?_, fun c => ?_⟩
  · replace H := H.1 c
    exact a_vret (pc := 181) (dk dt_X12_watch 102 rfl) rfl rfl H
  · replace H := H.2 c
    refine a_aload_n (pc := 8) (dk dt_X12_watch 5 rfl) rfl ?_
    refine a_getr (r := 131) (pc := 9) (dk dt_X12_watch 6 rfl) cls_12 fl_RX12_225 cf_85_67 ?_
    refine a_iload_n (pc := 12) (dk dt_X12_watch 7 rfl) rfl ?_
    refine a_zald (pc := 13) (dk dt_X12_watch 8 rfl) ar_132 ⟨H.1, ?_⟩
    replace H := H.2
    refine a_if_ne (pc := 14) (dk dt_X12_watch 9 rfl) (tgt := 20) rfl ⟨fun c => ?_, fun c => ?_⟩
    · replace H := H.1 c
      refine a_aload_n (pc := 20) (dk dt_X12_watch 11 rfl) rfl ?_
      refine a_iconst (pc := 21) (dk dt_X12_watch 12 rfl) (ik rfl) ?_
      refine a_putz (pc := 22) (dk dt_X12_watch 13 rfl) cls_12 fl_RX12_474 cf_85_57 rfl rfl ⟨by decide, ?_⟩
      refine a_aload_n (pc := 25) (dk dt_X12_watch 14 rfl) rfl ?_
      refine a_sipush (pc := 26) (dk dt_X12_watch 15 rfl) (ik rfl) (spk rfl) ?_
      refine a_iload_n (pc := 29) (dk dt_X12_watch 16 rfl) rfl ?_
      refine a_iadd (pc := 30) (dk dt_X12_watch 17 rfl) ?_
      refine a_callVi (as := [iv (w32 (241 + x1))]) (st := []) (pc := 31) (dk dt_X12_watch 18 rfl) cl_RX12_489 ⟨Nat.le_of_ble_eq_true rfl, Nat.le_of_ble_eq_true rfl⟩ ⟨Nat.le_of_ble_eq_true rfl, Nat.le_of_ble_eq_true rfl⟩ cls_12 rfl cc_85 rfl rfl rfl (Nat.le_of_ble_eq_true rfl) (Call.mono H fun r1 h2 H => ?_)
      refine a_if_eq (pc := 34) (dk dt_X12_watch 19 rfl) (tgt := 48) rfl ⟨fun c => ?_, fun c => ?_⟩
      · replace H := H.1 c
        refine a_iconst (pc := 48) (dk dt_X12_watch 25 rfl) (ik rfl) ?_
        refine a_istore_n (pc := 49) (dk dt_X12_watch 26 rfl) (by decide) rfl rfl ?_
        refine a_aload_n (pc := 50) (dk dt_X12_watch 27 rfl) rfl ?_
        refine a_getr (r := 129) (pc := 51) (dk dt_X12_watch 28 rfl) cls_12 fl_RX12_219 cf_85_65 ?_
        refine a_iload_n (pc := 54) (dk dt_X12_watch 29 rfl) rfl ?_
        refine a_iload_n (pc := 55) (dk dt_X12_watch 30 rfl) rfl ?_
        refine a_if_eq (pc := 56) (dk dt_X12_watch 31 rfl) (tgt := 70) rfl ⟨fun _ => ?_, fun c => absurd c (by decide)⟩
        refine a_iconst (pc := 70) (dk dt_X12_watch 39 rfl) (ik rfl) ?_
        refine a_iast (pc := 71) (dk dt_X12_watch 40 rfl) ar_130 ⟨H.1, ?_⟩
        replace H := H.2
        refine a_aload_n (pc := 72) (dk dt_X12_watch 41 rfl) rfl ?_
        refine a_getr (r := 129) (pc := 73) (dk dt_X12_watch 42 rfl) cls_12 fl_RX12_219 cf_85_65 ?_
        refine a_iload_n (pc := 76) (dk dt_X12_watch 43 rfl) rfl ?_
        refine a_iald (pc := 77) (dk dt_X12_watch 44 rfl) ar_130 ⟨H.1, ?_⟩
        replace H := H.2
        refine a_top (y := 0) (by simp [up, cpy]) ?_
        refine a_aload_n (pc := 78) (dk dt_X12_watch 45 rfl) rfl ?_
        refine a_getr (r := 127) (pc := 79) (dk dt_X12_watch 46 rfl) cls_12 fl_RX12_213 cf_85_63 ?_
        refine a_iload_n (pc := 82) (dk dt_X12_watch 47 rfl) rfl ?_
        refine a_iald (pc := 83) (dk dt_X12_watch 48 rfl) ar_128 ⟨H.1, ?_⟩
        replace H := H.2
        refine a_top (y := (h2 128 x1)) (by simp [up, cpy]) ?_
        refine a_icmp_eq (pc := 84) (dk dt_X12_watch 49 rfl) (tgt := 90) rfl ⟨fun c => ?_, fun c => ?_⟩
        · replace H := H.1 c
          refine a_aload_n (pc := 90) (dk dt_X12_watch 51 rfl) rfl ?_
          refine a_dup (pc := 91) (dk dt_X12_watch 52 rfl) rfl ?_
          refine a_geti (pc := 92) (dk dt_X12_watch 53 rfl) cls_12 fl_RX12_426 cf_85_22 ?_
          refine a_top (y := (h2 85 22)) (by simp [up, cpy]) ?_
          refine a_iconst (pc := 95) (dk dt_X12_watch 54 rfl) (ik rfl) ?_
          refine a_iadd (pc := 96) (dk dt_X12_watch 55 rfl) ?_
          refine a_puti (pc := 97) (dk dt_X12_watch 56 rfl) cls_12 fl_RX12_426 cf_85_22 rfl rfl ?_
          refine a_aload_n (pc := 100) (dk dt_X12_watch 57 rfl) rfl ?_
          refine a_getr (r := 130) (pc := 101) (dk dt_X12_watch 58 rfl) cls_12 fl_RX12_222 cf_85_66 ?_
          refine a_iload_n (pc := 104) (dk dt_X12_watch 59 rfl) rfl ?_
          refine a_iald (pc := 105) (dk dt_X12_watch 60 rfl) ar_131 ⟨H.1, ?_⟩
          replace H := H.2
          refine a_top (y := (h2 131 x1)) (by simp [up, cpy]) ?_
          refine a_iconst (pc := 106) (dk dt_X12_watch 61 rfl) (ik rfl) ?_
          refine a_icmp_eq (pc := 107) (dk dt_X12_watch 62 rfl) (tgt := 130) rfl ⟨fun c => ?_, fun c => ?_⟩
          · replace H := H.1 c
            refine a_iconst (pc := 130) (dk dt_X12_watch 74 rfl) (ik rfl) ?_
            refine a_istore_n (pc := 131) (dk dt_X12_watch 75 rfl) (by decide) rfl rfl ?_
            refine a_aload_n (pc := 132) (dk dt_X12_watch 76 rfl) rfl ?_
            refine a_getr (r := 130) (pc := 133) (dk dt_X12_watch 77 rfl) cls_12 fl_RX12_222 cf_85_66 ?_
            refine a_iload_n (pc := 136) (dk dt_X12_watch 78 rfl) rfl ?_
            refine a_aload_n (pc := 137) (dk dt_X12_watch 79 rfl) rfl ?_
            refine a_geti (pc := 138) (dk dt_X12_watch 80 rfl) cls_12 fl_RX12_398 cf_85_10 ?_
            refine a_top (y := (h2 85 10)) (by simp [up, cpy]) ?_
            refine a_iast (pc := 141) (dk dt_X12_watch 81 rfl) ar_131 ⟨H.1, ?_⟩
            replace H := H.2
            refine a_iload_n (pc := 142) (dk dt_X12_watch 82 rfl) rfl ?_
            refine a_if_ne (pc := 143) (dk dt_X12_watch 83 rfl) (tgt := 157) rfl ⟨fun c => absurd c (by decide), fun _ => ?_⟩
            refine a_aload_n (pc := 146) (dk dt_X12_watch 84 rfl) rfl ?_
            refine a_getr (r := 128) (pc := 147) (dk dt_X12_watch 85 rfl) cls_12 fl_RX12_216 cf_85_64 ?_
            refine a_iload_n (pc := 150) (dk dt_X12_watch 86 rfl) rfl ?_
            refine a_iald (pc := 151) (dk dt_X12_watch 87 rfl) ar_129 ⟨H.1, ?_⟩
            replace H := H.2
            refine a_top (y := (h2 129 x1)) (by simp [up, cpy]) ?_
            refine a_bipush (pc := 152) (dk dt_X12_watch 88 rfl) (ik rfl) (bpk rfl) ?_
            refine a_icmp_ne (pc := 154) (dk dt_X12_watch 89 rfl) (tgt := 165) rfl ⟨fun c => ?_, fun c => ?_⟩
            · replace H := H.1 c
              refine a_aload_n (pc := 165) (dk dt_X12_watch 94 rfl) rfl ?_
              refine a_aload_n (pc := 166) (dk dt_X12_watch 95 rfl) rfl ?_
              refine a_getr (r := 128) (pc := 167) (dk dt_X12_watch 96 rfl) cls_12 fl_RX12_216 cf_85_64 ?_
              refine a_iload_n (pc := 170) (dk dt_X12_watch 97 rfl) rfl ?_
              refine a_iald (pc := 171) (dk dt_X12_watch 98 rfl) ar_129 ⟨H.1, ?_⟩
              replace H := H.2
              refine a_top (y := (h2 129 x1)) (by simp [up, cpy]) ?_
              refine a_callVv (as := [iv (h2 129 x1)]) (st := []) (pc := 172) (dk dt_X12_watch 99 rfl) cl_RX12_486 ⟨Nat.le_of_ble_eq_true rfl, Nat.le_of_ble_eq_true rfl⟩ ⟨Nat.le_of_ble_eq_true rfl, Nat.le_of_ble_eq_true rfl⟩ cls_12 rfl cc_85 rfl rfl rfl (Nat.le_of_ble_eq_true rfl) (Call.of rfl (Nat.le_of_ble_eq_true rfl) rfl ?_)
              refine a_aload_n (pc := 0) (dk dt_X12_begin 0 rfl) rfl ?_
              refine a_getr (r := 115) (pc := 1) (dk dt_X12_begin 1 rfl) cls_12 fl_RX12_177 cf_85_49 ?_
              refine a_iload_n (pc := 4) (dk dt_X12_begin 2 rfl) rfl ?_
              refine a_iconst (pc := 5) (dk dt_X12_begin 3 rfl) (ik rfl) ?_
              refine a_iast (pc := 6) (dk dt_X12_begin 4 rfl) ar_116 ⟨H.1, ?_⟩
              replace H := H.2
              refine a_aload_n (pc := 7) (dk dt_X12_begin 5 rfl) rfl ?_
              refine a_getr (r := 116) (pc := 8) (dk dt_X12_begin 6 rfl) cls_12 fl_RX12_180 cf_85_50 ?_
              refine a_iload_n (pc := 11) (dk dt_X12_begin 7 rfl) rfl ?_
              refine a_iconst (pc := 12) (dk dt_X12_begin 8 rfl) (ik rfl) ?_
              refine a_iast (pc := 13) (dk dt_X12_begin 9 rfl) ar_117 ⟨H.1, ?_⟩
              replace H := H.2
              refine a_vret (pc := 14) (dk dt_X12_begin 10 rfl) rfl rfl ?_
              show ATW _ _ _ _ _ _ _ _ _ _
              refine a_iinc (pc := 175) (dk dt_X12_watch 100 rfl) (by decide) rfl rfl rfl ?_
              refine a_goto (pc := 178) (dk dt_X12_watch 101 rfl) (tgt := 2) rfl ?_
              exact a_pick [0, 1] rfl H
            · replace H := H.2 c
              refine a_aload_n (pc := 157) (dk dt_X12_watch 90 rfl) rfl ?_
              refine a_iconst (pc := 158) (dk dt_X12_watch 91 rfl) (ik rfl) ?_
              refine a_callVv (as := [iv 0]) (st := []) (pc := 159) (dk dt_X12_watch 92 rfl) cl_RX12_483 ⟨Nat.le_of_ble_eq_true rfl, Nat.le_of_ble_eq_true rfl⟩ ⟨Nat.le_of_ble_eq_true rfl, Nat.le_of_ble_eq_true rfl⟩ cls_12 rfl cc_85 rfl rfl rfl (Nat.le_of_ble_eq_true rfl) (Call.mono H fun _ h4 H => ?_)
              refine a_goto (pc := 162) (dk dt_X12_watch 93 rfl) (tgt := 175) rfl ?_
              refine a_iinc (pc := 175) (dk dt_X12_watch 100 rfl) (by decide) rfl rfl rfl ?_
              refine a_goto (pc := 178) (dk dt_X12_watch 101 rfl) (tgt := 2) rfl ?_
              exact a_pick [0, 1] rfl H
          · replace H := H.2 c
            refine a_aload_n (pc := 110) (dk dt_X12_watch 63 rfl) rfl ?_
            refine a_geti (pc := 111) (dk dt_X12_watch 64 rfl) cls_12 fl_RX12_398 cf_85_10 ?_
            refine a_top (y := (h2 85 10)) (by simp [up, cpy]) ?_
            refine a_aload_n (pc := 114) (dk dt_X12_watch 65 rfl) rfl ?_
            refine a_getr (r := 130) (pc := 115) (dk dt_X12_watch 66 rfl) cls_12 fl_RX12_222 cf_85_66 ?_
            refine a_iload_n (pc := 118) (dk dt_X12_watch 67 rfl) rfl ?_
            refine a_iald (pc := 119) (dk dt_X12_watch 68 rfl) ar_131 ⟨H.1, ?_⟩
            replace H := H.2
            refine a_top (y := (h2 131 x1)) (by simp [up, cpy]) ?_
            refine a_isub (pc := 120) (dk dt_X12_watch 69 rfl) ?_
            refine a_bipush (pc := 121) (dk dt_X12_watch 70 rfl) (ik rfl) (bpk rfl) ?_
            refine a_icmp_ge (pc := 123) (dk dt_X12_watch 71 rfl) (tgt := 130) rfl ⟨fun c => ?_, fun c => ?_⟩
            · replace H := H.1 c
              refine a_iconst (pc := 130) (dk dt_X12_watch 74 rfl) (ik rfl) ?_
              refine a_istore_n (pc := 131) (dk dt_X12_watch 75 rfl) (by decide) rfl rfl ?_
              refine a_aload_n (pc := 132) (dk dt_X12_watch 76 rfl) rfl ?_
              refine a_getr (r := 130) (pc := 133) (dk dt_X12_watch 77 rfl) cls_12 fl_RX12_222 cf_85_66 ?_
              refine a_iload_n (pc := 136) (dk dt_X12_watch 78 rfl) rfl ?_
              refine a_aload_n (pc := 137) (dk dt_X12_watch 79 rfl) rfl ?_
              refine a_geti (pc := 138) (dk dt_X12_watch 80 rfl) cls_12 fl_RX12_398 cf_85_10 ?_
              refine a_top (y := (h2 85 10)) (by simp [up, cpy]) ?_
              refine a_iast (pc := 141) (dk dt_X12_watch 81 rfl) ar_131 ⟨H.1, ?_⟩
              replace H := H.2
              refine a_iload_n (pc := 142) (dk dt_X12_watch 82 rfl) rfl ?_
              refine a_if_ne (pc := 143) (dk dt_X12_watch 83 rfl) (tgt := 157) rfl ⟨fun c => absurd c (by decide), fun _ => ?_⟩
              refine a_aload_n (pc := 146) (dk dt_X12_watch 84 rfl) rfl ?_
              refine a_getr (r := 128) (pc := 147) (dk dt_X12_watch 85 rfl) cls_12 fl_RX12_216 cf_85_64 ?_
              refine a_iload_n (pc := 150) (dk dt_X12_watch 86 rfl) rfl ?_
              refine a_iald (pc := 151) (dk dt_X12_watch 87 rfl) ar_129 ⟨H.1, ?_⟩
              replace H := H.2
              refine a_top (y := (h2 129 x1)) (by simp [up, cpy]) ?_
              refine a_bipush (pc := 152) (dk dt_X12_watch 88 rfl) (ik rfl) (bpk rfl) ?_
              refine a_icmp_ne (pc := 154) (dk dt_X12_watch 89 rfl) (tgt := 165) rfl ⟨fun c => ?_, fun c => ?_⟩
              · replace H := H.1 c
                refine a_aload_n (pc := 165) (dk dt_X12_watch 94 rfl) rfl ?_
                refine a_aload_n (pc := 166) (dk dt_X12_watch 95 rfl) rfl ?_
                refine a_getr (r := 128) (pc := 167) (dk dt_X12_watch 96 rfl) cls_12 fl_RX12_216 cf_85_64 ?_
                refine a_iload_n (pc := 170) (dk dt_X12_watch 97 rfl) rfl ?_
                refine a_iald (pc := 171) (dk dt_X12_watch 98 rfl) ar_129 ⟨H.1, ?_⟩
                replace H := H.2
                refine a_top (y := (h2 129 x1)) (by simp [up, cpy]) ?_
                refine a_callVv (as := [iv (h2 129 x1)]) (st := []) (pc := 172) (dk dt_X12_watch 99 rfl) cl_RX12_486 ⟨Nat.le_of_ble_eq_true rfl, Nat.le_of_ble_eq_true rfl⟩ ⟨Nat.le_of_ble_eq_true rfl, Nat.le_of_ble_eq_true rfl⟩ cls_12 rfl cc_85 rfl rfl rfl (Nat.le_of_ble_eq_true rfl) (Call.of rfl (Nat.le_of_ble_eq_true rfl) rfl ?_)
                refine a_aload_n (pc := 0) (dk dt_X12_begin 0 rfl) rfl ?_
                refine a_getr (r := 115) (pc := 1) (dk dt_X12_begin 1 rfl) cls_12 fl_RX12_177 cf_85_49 ?_
                refine a_iload_n (pc := 4) (dk dt_X12_begin 2 rfl) rfl ?_
                refine a_iconst (pc := 5) (dk dt_X12_begin 3 rfl) (ik rfl) ?_
                refine a_iast (pc := 6) (dk dt_X12_begin 4 rfl) ar_116 ⟨H.1, ?_⟩
                replace H := H.2
                refine a_aload_n (pc := 7) (dk dt_X12_begin 5 rfl) rfl ?_
                refine a_getr (r := 116) (pc := 8) (dk dt_X12_begin 6 rfl) cls_12 fl_RX12_180 cf_85_50 ?_
                refine a_iload_n (pc := 11) (dk dt_X12_begin 7 rfl) rfl ?_
                refine a_iconst (pc := 12) (dk dt_X12_begin 8 rfl) (ik rfl) ?_
                refine a_iast (pc := 13) (dk dt_X12_begin 9 rfl) ar_117 ⟨H.1, ?_⟩
                replace H := H.2
                refine a_vret (pc := 14) (dk dt_X12_begin 10 rfl) rfl rfl ?_
                show ATW _ _ _ _ _ _ _ _ _ _
                refine a_iinc (pc := 175) (dk dt_X12_watch 100 rfl) (by decide) rfl rfl rfl ?_
                refine a_goto (pc := 178) (dk dt_X12_watch 101 rfl) (tgt := 2) rfl ?_
                exact a_pick [0, 1] rfl H
              · replace H := H.2 c
                refine a_aload_n (pc := 157) (dk dt_X12_watch 90 rfl) rfl ?_
                refine a_iconst (pc := 158) (dk dt_X12_watch 91 rfl) (ik rfl) ?_
                refine a_callVv (as := [iv 0]) (st := []) (pc := 159) (dk dt_X12_watch 92 rfl) cl_RX12_483 ⟨Nat.le_of_ble_eq_true rfl, Nat.le_of_ble_eq_true rfl⟩ ⟨Nat.le_of_ble_eq_true rfl, Nat.le_of_ble_eq_true rfl⟩ cls_12 rfl cc_85 rfl rfl rfl (Nat.le_of_ble_eq_true rfl) (Call.mono H fun _ h6 H => ?_)
                refine a_goto (pc := 162) (dk dt_X12_watch 93 rfl) (tgt := 175) rfl ?_
                refine a_iinc (pc := 175) (dk dt_X12_watch 100 rfl) (by decide) rfl rfl rfl ?_
                refine a_goto (pc := 178) (dk dt_X12_watch 101 rfl) (tgt := 2) rfl ?_
                exact a_pick [0, 1] rfl H
            · replace H := H.2 c
              refine a_iconst (pc := 126) (dk dt_X12_watch 72 rfl) (ik rfl) ?_
              refine a_goto (pc := 127) (dk dt_X12_watch 73 rfl) (tgt := 131) rfl ?_
              refine a_istore_n (pc := 131) (dk dt_X12_watch 75 rfl) (by decide) rfl rfl ?_
              refine a_aload_n (pc := 132) (dk dt_X12_watch 76 rfl) rfl ?_
              refine a_getr (r := 130) (pc := 133) (dk dt_X12_watch 77 rfl) cls_12 fl_RX12_222 cf_85_66 ?_
              refine a_iload_n (pc := 136) (dk dt_X12_watch 78 rfl) rfl ?_
              refine a_aload_n (pc := 137) (dk dt_X12_watch 79 rfl) rfl ?_
              refine a_geti (pc := 138) (dk dt_X12_watch 80 rfl) cls_12 fl_RX12_398 cf_85_10 ?_
              refine a_top (y := (h2 85 10)) (by simp [up, cpy]) ?_
              refine a_iast (pc := 141) (dk dt_X12_watch 81 rfl) ar_131 ⟨H.1, ?_⟩
              replace H := H.2
              refine a_iload_n (pc := 142) (dk dt_X12_watch 82 rfl) rfl ?_
              refine a_if_ne (pc := 143) (dk dt_X12_watch 83 rfl) (tgt := 157) rfl ⟨fun _ => ?_, fun c => absurd c (by decide)⟩
              refine a_aload_n (pc := 157) (dk dt_X12_watch 90 rfl) rfl ?_
              refine a_iconst (pc := 158) (dk dt_X12_watch 91 rfl) (ik rfl) ?_
              refine a_callVv (as := [iv 0]) (st := []) (pc := 159) (dk dt_X12_watch 92 rfl) cl_RX12_483 ⟨Nat.le_of_ble_eq_true rfl, Nat.le_of_ble_eq_true rfl⟩ ⟨Nat.le_of_ble_eq_true rfl, Nat.le_of_ble_eq_true rfl⟩ cls_12 rfl cc_85 rfl rfl rfl (Nat.le_of_ble_eq_true rfl) (Call.mono H fun _ h8 H => ?_)
              refine a_goto (pc := 162) (dk dt_X12_watch 93 rfl) (tgt := 175) rfl ?_
              refine a_iinc (pc := 175) (dk dt_X12_watch 100 rfl) (by decide) rfl rfl rfl ?_
              refine a_goto (pc := 178) (dk dt_X12_watch 101 rfl) (tgt := 2) rfl ?_
              exact a_pick [0, 1] rfl H
        · replace H := H.2 c
          refine a_goto (pc := 87) (dk dt_X12_watch 50 rfl) (tgt := 175) rfl ?_
          refine a_iinc (pc := 175) (dk dt_X12_watch 100 rfl) (by decide) rfl rfl rfl ?_
          refine a_goto (pc := 178) (dk dt_X12_watch 101 rfl) (tgt := 2) rfl ?_
          exact a_pick [0, 1] rfl H
      · replace H := H.2 c
        refine a_aload_n (pc := 37) (dk dt_X12_watch 20 rfl) rfl ?_
        refine a_geti (pc := 38) (dk dt_X12_watch 21 rfl) cls_12 fl_RX12_474 cf_85_57 ?_
        refine a_if_ne (pc := 41) (dk dt_X12_watch 22 rfl) (tgt := 48) rfl ⟨fun c => ?_, fun c => ?_⟩
        · replace H := H.1 c
          refine a_iconst (pc := 48) (dk dt_X12_watch 25 rfl) (ik rfl) ?_
          refine a_istore_n (pc := 49) (dk dt_X12_watch 26 rfl) (by decide) rfl rfl ?_
          refine a_aload_n (pc := 50) (dk dt_X12_watch 27 rfl) rfl ?_
          refine a_getr (r := 129) (pc := 51) (dk dt_X12_watch 28 rfl) cls_12 fl_RX12_219 cf_85_65 ?_
          refine a_iload_n (pc := 54) (dk dt_X12_watch 29 rfl) rfl ?_
          refine a_iload_n (pc := 55) (dk dt_X12_watch 30 rfl) rfl ?_
          refine a_if_eq (pc := 56) (dk dt_X12_watch 31 rfl) (tgt := 70) rfl ⟨fun _ => ?_, fun c => absurd c (by decide)⟩
          refine a_iconst (pc := 70) (dk dt_X12_watch 39 rfl) (ik rfl) ?_
          refine a_iast (pc := 71) (dk dt_X12_watch 40 rfl) ar_130 ⟨H.1, ?_⟩
          replace H := H.2
          refine a_aload_n (pc := 72) (dk dt_X12_watch 41 rfl) rfl ?_
          refine a_getr (r := 129) (pc := 73) (dk dt_X12_watch 42 rfl) cls_12 fl_RX12_219 cf_85_65 ?_
          refine a_iload_n (pc := 76) (dk dt_X12_watch 43 rfl) rfl ?_
          refine a_iald (pc := 77) (dk dt_X12_watch 44 rfl) ar_130 ⟨H.1, ?_⟩
          replace H := H.2
          refine a_top (y := 0) (by simp [up, cpy]) ?_
          refine a_aload_n (pc := 78) (dk dt_X12_watch 45 rfl) rfl ?_
          refine a_getr (r := 127) (pc := 79) (dk dt_X12_watch 46 rfl) cls_12 fl_RX12_213 cf_85_63 ?_
          refine a_iload_n (pc := 82) (dk dt_X12_watch 47 rfl) rfl ?_
          refine a_iald (pc := 83) (dk dt_X12_watch 48 rfl) ar_128 ⟨H.1, ?_⟩
          replace H := H.2
          refine a_top (y := (h2 128 x1)) (by simp [up, cpy]) ?_
          refine a_icmp_eq (pc := 84) (dk dt_X12_watch 49 rfl) (tgt := 90) rfl ⟨fun c => ?_, fun c => ?_⟩
          · replace H := H.1 c
            refine a_aload_n (pc := 90) (dk dt_X12_watch 51 rfl) rfl ?_
            refine a_dup (pc := 91) (dk dt_X12_watch 52 rfl) rfl ?_
            refine a_geti (pc := 92) (dk dt_X12_watch 53 rfl) cls_12 fl_RX12_426 cf_85_22 ?_
            refine a_top (y := (h2 85 22)) (by simp [up, cpy]) ?_
            refine a_iconst (pc := 95) (dk dt_X12_watch 54 rfl) (ik rfl) ?_
            refine a_iadd (pc := 96) (dk dt_X12_watch 55 rfl) ?_
            refine a_puti (pc := 97) (dk dt_X12_watch 56 rfl) cls_12 fl_RX12_426 cf_85_22 rfl rfl ?_
            refine a_aload_n (pc := 100) (dk dt_X12_watch 57 rfl) rfl ?_
            refine a_getr (r := 130) (pc := 101) (dk dt_X12_watch 58 rfl) cls_12 fl_RX12_222 cf_85_66 ?_
            refine a_iload_n (pc := 104) (dk dt_X12_watch 59 rfl) rfl ?_
            refine a_iald (pc := 105) (dk dt_X12_watch 60 rfl) ar_131 ⟨H.1, ?_⟩
            replace H := H.2
            refine a_top (y := (h2 131 x1)) (by simp [up, cpy]) ?_
            refine a_iconst (pc := 106) (dk dt_X12_watch 61 rfl) (ik rfl) ?_
            refine a_icmp_eq (pc := 107) (dk dt_X12_watch 62 rfl) (tgt := 130) rfl ⟨fun c => ?_, fun c => ?_⟩
            · replace H := H.1 c
              refine a_iconst (pc := 130) (dk dt_X12_watch 74 rfl) (ik rfl) ?_
              refine a_istore_n (pc := 131) (dk dt_X12_watch 75 rfl) (by decide) rfl rfl ?_
              refine a_aload_n (pc := 132) (dk dt_X12_watch 76 rfl) rfl ?_
              refine a_getr (r := 130) (pc := 133) (dk dt_X12_watch 77 rfl) cls_12 fl_RX12_222 cf_85_66 ?_
              refine a_iload_n (pc := 136) (dk dt_X12_watch 78 rfl) rfl ?_
              refine a_aload_n (pc := 137) (dk dt_X12_watch 79 rfl) rfl ?_
              refine a_geti (pc := 138) (dk dt_X12_watch 80 rfl) cls_12 fl_RX12_398 cf_85_10 ?_
              refine a_top (y := (h2 85 10)) (by simp [up, cpy]) ?_
              refine a_iast (pc := 141) (dk dt_X12_watch 81 rfl) ar_131 ⟨H.1, ?_⟩
              replace H := H.2
              refine a_iload_n (pc := 142) (dk dt_X12_watch 82 rfl) rfl ?_
              refine a_if_ne (pc := 143) (dk dt_X12_watch 83 rfl) (tgt := 157) rfl ⟨fun c => absurd c (by decide), fun _ => ?_⟩
              refine a_aload_n (pc := 146) (dk dt_X12_watch 84 rfl) rfl ?_
              refine a_getr (r := 128) (pc := 147) (dk dt_X12_watch 85 rfl) cls_12 fl_RX12_216 cf_85_64 ?_
              refine a_iload_n (pc := 150) (dk dt_X12_watch 86 rfl) rfl ?_
              refine a_iald (pc := 151) (dk dt_X12_watch 87 rfl) ar_129 ⟨H.1, ?_⟩
              replace H := H.2
              refine a_top (y := (h2 129 x1)) (by simp [up, cpy]) ?_
              refine a_bipush (pc := 152) (dk dt_X12_watch 88 rfl) (ik rfl) (bpk rfl) ?_
              refine a_icmp_ne (pc := 154) (dk dt_X12_watch 89 rfl) (tgt := 165) rfl ⟨fun c => ?_, fun c => ?_⟩
              · replace H := H.1 c
                refine a_aload_n (pc := 165) (dk dt_X12_watch 94 rfl) rfl ?_
                refine a_aload_n (pc := 166) (dk dt_X12_watch 95 rfl) rfl ?_
                refine a_getr (r := 128) (pc := 167) (dk dt_X12_watch 96 rfl) cls_12 fl_RX12_216 cf_85_64 ?_
                refine a_iload_n (pc := 170) (dk dt_X12_watch 97 rfl) rfl ?_
                refine a_iald (pc := 171) (dk dt_X12_watch 98 rfl) ar_129 ⟨H.1, ?_⟩
                replace H := H.2
                refine a_top (y := (h2 129 x1)) (by simp [up, cpy]) ?_
                refine a_callVv (as := [iv (h2 129 x1)]) (st := []) (pc := 172) (dk dt_X12_watch 99 rfl) cl_RX12_486 ⟨Nat.le_of_ble_eq_true rfl, Nat.le_of_ble_eq_true rfl⟩ ⟨Nat.le_of_ble_eq_true rfl, Nat.le_of_ble_eq_true rfl⟩ cls_12 rfl cc_85 rfl rfl rfl (Nat.le_of_ble_eq_true rfl) (Call.of rfl (Nat.le_of_ble_eq_true rfl) rfl ?_)
                refine a_aload_n (pc := 0) (dk dt_X12_begin 0 rfl) rfl ?_
                refine a_getr (r := 115) (pc := 1) (dk dt_X12_begin 1 rfl) cls_12 fl_RX12_177 cf_85_49 ?_
                refine a_iload_n (pc := 4) (dk dt_X12_begin 2 rfl) rfl ?_
                refine a_iconst (pc := 5) (dk dt_X12_begin 3 rfl) (ik rfl) ?_
                refine a_iast (pc := 6) (dk dt_X12_begin 4 rfl) ar_116 ⟨H.1, ?_⟩
                replace H := H.2
                refine a_aload_n (pc := 7) (dk dt_X12_begin 5 rfl) rfl ?_
                refine a_getr (r := 116) (pc := 8) (dk dt_X12_begin 6 rfl) cls_12 fl_RX12_180 cf_85_50 ?_
                refine a_iload_n (pc := 11) (dk dt_X12_begin 7 rfl) rfl ?_
                refine a_iconst (pc := 12) (dk dt_X12_begin 8 rfl) (ik rfl) ?_
                refine a_iast (pc := 13) (dk dt_X12_begin 9 rfl) ar_117 ⟨H.1, ?_⟩
                replace H := H.2
                refine a_vret (pc := 14) (dk dt_X12_begin 10 rfl) rfl rfl ?_
                show ATW _ _ _ _ _ _ _ _ _ _
                refine a_iinc (pc := 175) (dk dt_X12_watch 100 rfl) (by decide) rfl rfl rfl ?_
                refine a_goto (pc := 178) (dk dt_X12_watch 101 rfl) (tgt := 2) rfl ?_
                exact a_pick [0, 1] rfl H
              · replace H := H.2 c
                refine a_aload_n (pc := 157) (dk dt_X12_watch 90 rfl) rfl ?_
                refine a_iconst (pc := 158) (dk dt_X12_watch 91 rfl) (ik rfl) ?_
                refine a_callVv (as := [iv 0]) (st := []) (pc := 159) (dk dt_X12_watch 92 rfl) cl_RX12_483 ⟨Nat.le_of_ble_eq_true rfl, Nat.le_of_ble_eq_true rfl⟩ ⟨Nat.le_of_ble_eq_true rfl, Nat.le_of_ble_eq_true rfl⟩ cls_12 rfl cc_85 rfl rfl rfl (Nat.le_of_ble_eq_true rfl) (Call.mono H fun _ h10 H => ?_)
                refine a_goto (pc := 162) (dk dt_X12_watch 93 rfl) (tgt := 175) rfl ?_
                refine a_iinc (pc := 175) (dk dt_X12_watch 100 rfl) (by decide) rfl rfl rfl ?_
                refine a_goto (pc := 178) (dk dt_X12_watch 101 rfl) (tgt := 2) rfl ?_
                exact a_pick [0, 1] rfl H
            · replace H := H.2 c
              refine a_aload_n (pc := 110) (dk dt_X12_watch 63 rfl) rfl ?_
              refine a_geti (pc := 111) (dk dt_X12_watch 64 rfl) cls_12 fl_RX12_398 cf_85_10 ?_
              refine a_top (y := (h2 85 10)) (by simp [up, cpy]) ?_
              refine a_aload_n (pc := 114) (dk dt_X12_watch 65 rfl) rfl ?_
              refine a_getr (r := 130) (pc := 115) (dk dt_X12_watch 66 rfl) cls_12 fl_RX12_222 cf_85_66 ?_
              refine a_iload_n (pc := 118) (dk dt_X12_watch 67 rfl) rfl ?_
              refine a_iald (pc := 119) (dk dt_X12_watch 68 rfl) ar_131 ⟨H.1, ?_⟩
              replace H := H.2
              refine a_top (y := (h2 131 x1)) (by simp [up, cpy]) ?_
              refine a_isub (pc := 120) (dk dt_X12_watch 69 rfl) ?_
              refine a_bipush (pc := 121) (dk dt_X12_watch 70 rfl) (ik rfl) (bpk rfl) ?_
              refine a_icmp_ge (pc := 123) (dk dt_X12_watch 71 rfl) (tgt := 130) rfl ⟨fun c => ?_, fun c => ?_⟩
              · replace H := H.1 c
                refine a_iconst (pc := 130) (dk dt_X12_watch 74 rfl) (ik rfl) ?_
                refine a_istore_n (pc := 131) (dk dt_X12_watch 75 rfl) (by decide) rfl rfl ?_
                refine a_aload_n (pc := 132) (dk dt_X12_watch 76 rfl) rfl ?_
                refine a_getr (r := 130) (pc := 133) (dk dt_X12_watch 77 rfl) cls_12 fl_RX12_222 cf_85_66 ?_
                refine a_iload_n (pc := 136) (dk dt_X12_watch 78 rfl) rfl ?_
                refine a_aload_n (pc := 137) (dk dt_X12_watch 79 rfl) rfl ?_
                refine a_geti (pc := 138) (dk dt_X12_watch 80 rfl) cls_12 fl_RX12_398 cf_85_10 ?_
                refine a_top (y := (h2 85 10)) (by simp [up, cpy]) ?_
                refine a_iast (pc := 141) (dk dt_X12_watch 81 rfl) ar_131 ⟨H.1, ?_⟩
                replace H := H.2
                refine a_iload_n (pc := 142) (dk dt_X12_watch 82 rfl) rfl ?_
                refine a_if_ne (pc := 143) (dk dt_X12_watch 83 rfl) (tgt := 157) rfl ⟨fun c => absurd c (by decide), fun _ => ?_⟩
                refine a_aload_n (pc := 146) (dk dt_X12_watch 84 rfl) rfl ?_
                refine a_getr (r := 128) (pc := 147) (dk dt_X12_watch 85 rfl) cls_12 fl_RX12_216 cf_85_64 ?_
                refine a_iload_n (pc := 150) (dk dt_X12_watch 86 rfl) rfl ?_
                refine a_iald (pc := 151) (dk dt_X12_watch 87 rfl) ar_129 ⟨H.1, ?_⟩
                replace H := H.2
                refine a_top (y := (h2 129 x1)) (by simp [up, cpy]) ?_
                refine a_bipush (pc := 152) (dk dt_X12_watch 88 rfl) (ik rfl) (bpk rfl) ?_
                refine a_icmp_ne (pc := 154) (dk dt_X12_watch 89 rfl) (tgt := 165) rfl ⟨fun c => ?_, fun c => ?_⟩
                · replace H := H.1 c
                  refine a_aload_n (pc := 165) (dk dt_X12_watch 94 rfl) rfl ?_
                  refine a_aload_n (pc := 166) (dk dt_X12_watch 95 rfl) rfl ?_
                  refine a_getr (r := 128) (pc := 167) (dk dt_X12_watch 96 rfl) cls_12 fl_RX12_216 cf_85_64 ?_
                  refine a_iload_n (pc := 170) (dk dt_X12_watch 97 rfl) rfl ?_
                  refine a_iald (pc := 171) (dk dt_X12_watch 98 rfl) ar_129 ⟨H.1, ?_⟩
                  replace H := H.2
                  refine a_top (y := (h2 129 x1)) (by simp [up, cpy]) ?_
                  refine a_callVv (as := [iv (h2 129 x1)]) (st := []) (pc := 172) (dk dt_X12_watch 99 rfl) cl_RX12_486 ⟨Nat.le_of_ble_eq_true rfl, Nat.le_of_ble_eq_true rfl⟩ ⟨Nat.le_of_ble_eq_true rfl, Nat.le_of_ble_eq_true rfl⟩ cls_12 rfl cc_85 rfl rfl rfl (Nat.le_of_ble_eq_true rfl) (Call.of rfl (Nat.le_of_ble_eq_true rfl) rfl ?_)
                  refine a_aload_n (pc := 0) (dk dt_X12_begin 0 rfl) rfl ?_
                  refine a_getr (r := 115) (pc := 1) (dk dt_X12_begin 1 rfl) cls_12 fl_RX12_177 cf_85_49 ?_
                  refine a_iload_n (pc := 4) (dk dt_X12_begin 2 rfl) rfl ?_
                  refine a_iconst (pc := 5) (dk dt_X12_begin 3 rfl) (ik rfl) ?_
                  refine a_iast (pc := 6) (dk dt_X12_begin 4 rfl) ar_116 ⟨H.1, ?_⟩
                  replace H := H.2
                  refine a_aload_n (pc := 7) (dk dt_X12_begin 5 rfl) rfl ?_
                  refine a_getr (r := 116) (pc := 8) (dk dt_X12_begin 6 rfl) cls_12 fl_RX12_180 cf_85_50 ?_
                  refine a_iload_n (pc := 11) (dk dt_X12_begin 7 rfl) rfl ?_
                  refine a_iconst (pc := 12) (dk dt_X12_begin 8 rfl) (ik rfl) ?_
                  refine a_iast (pc := 13) (dk dt_X12_begin 9 rfl) ar_117 ⟨H.1, ?_⟩
                  replace H := H.2
                  refine a_vret (pc := 14) (dk dt_X12_begin 10 rfl) rfl rfl ?_
                  show ATW _ _ _ _ _ _ _ _ _ _
                  refine a_iinc (pc := 175) (dk dt_X12_watch 100 rfl) (by decide) rfl rfl rfl ?_
                  refine a_goto (pc := 178) (dk dt_X12_watch 101 rfl) (tgt := 2) rfl ?_
                  exact a_pick [0, 1] rfl H
                · replace H := H.2 c
                  refine a_aload_n (pc := 157) (dk dt_X12_watch 90 rfl) rfl ?_
                  refine a_iconst (pc := 158) (dk dt_X12_watch 91 rfl) (ik rfl) ?_
                  refine a_callVv (as := [iv 0]) (st := []) (pc := 159) (dk dt_X12_watch 92 rfl) cl_RX12_483 ⟨Nat.le_of_ble_eq_true rfl, Nat.le_of_ble_eq_true rfl⟩ ⟨Nat.le_of_ble_eq_true rfl, Nat.le_of_ble_eq_true rfl⟩ cls_12 rfl cc_85 rfl rfl rfl (Nat.le_of_ble_eq_true rfl) (Call.mono H fun _ h12 H => ?_)
                  refine a_goto (pc := 162) (dk dt_X12_watch 93 rfl) (tgt := 175) rfl ?_
                  refine a_iinc (pc := 175) (dk dt_X12_watch 100 rfl) (by decide) rfl rfl rfl ?_
                  refine a_goto (pc := 178) (dk dt_X12_watch 101 rfl) (tgt := 2) rfl ?_
                  exact a_pick [0, 1] rfl H
              · replace H := H.2 c
                refine a_iconst (pc := 126) (dk dt_X12_watch 72 rfl) (ik rfl) ?_
                refine a_goto (pc := 127) (dk dt_X12_watch 73 rfl) (tgt := 131) rfl ?_
                refine a_istore_n (pc := 131) (dk dt_X12_watch 75 rfl) (by decide) rfl rfl ?_
                refine a_aload_n (pc := 132) (dk dt_X12_watch 76 rfl) rfl ?_
                refine a_getr (r := 130) (pc := 133) (dk dt_X12_watch 77 rfl) cls_12 fl_RX12_222 cf_85_66 ?_
                refine a_iload_n (pc := 136) (dk dt_X12_watch 78 rfl) rfl ?_
                refine a_aload_n (pc := 137) (dk dt_X12_watch 79 rfl) rfl ?_
                refine a_geti (pc := 138) (dk dt_X12_watch 80 rfl) cls_12 fl_RX12_398 cf_85_10 ?_
                refine a_top (y := (h2 85 10)) (by simp [up, cpy]) ?_
                refine a_iast (pc := 141) (dk dt_X12_watch 81 rfl) ar_131 ⟨H.1, ?_⟩
                replace H := H.2
                refine a_iload_n (pc := 142) (dk dt_X12_watch 82 rfl) rfl ?_
                refine a_if_ne (pc := 143) (dk dt_X12_watch 83 rfl) (tgt := 157) rfl ⟨fun _ => ?_, fun c => absurd c (by decide)⟩
                refine a_aload_n (pc := 157) (dk dt_X12_watch 90 rfl) rfl ?_
                refine a_iconst (pc := 158) (dk dt_X12_watch 91 rfl) (ik rfl) ?_
                refine a_callVv (as := [iv 0]) (st := []) (pc := 159) (dk dt_X12_watch 92 rfl) cl_RX12_483 ⟨Nat.le_of_ble_eq_true rfl, Nat.le_of_ble_eq_true rfl⟩ ⟨Nat.le_of_ble_eq_true rfl, Nat.le_of_ble_eq_true rfl⟩ cls_12 rfl cc_85 rfl rfl rfl (Nat.le_of_ble_eq_true rfl) (Call.mono H fun _ h14 H => ?_)
                refine a_goto (pc := 162) (dk dt_X12_watch 93 rfl) (tgt := 175) rfl ?_
                refine a_iinc (pc := 175) (dk dt_X12_watch 100 rfl) (by decide) rfl rfl rfl ?_
                refine a_goto (pc := 178) (dk dt_X12_watch 101 rfl) (tgt := 2) rfl ?_
                exact a_pick [0, 1] rfl H
          · replace H := H.2 c
            refine a_goto (pc := 87) (dk dt_X12_watch 50 rfl) (tgt := 175) rfl ?_
            refine a_iinc (pc := 175) (dk dt_X12_watch 100 rfl) (by decide) rfl rfl rfl ?_
            refine a_goto (pc := 178) (dk dt_X12_watch 101 rfl) (tgt := 2) rfl ?_
            exact a_pick [0, 1] rfl H
        · replace H := H.2 c
          refine a_iconst (pc := 44) (dk dt_X12_watch 23 rfl) (ik rfl) ?_
          refine a_goto (pc := 45) (dk dt_X12_watch 24 rfl) (tgt := 49) rfl ?_
          refine a_istore_n (pc := 49) (dk dt_X12_watch 26 rfl) (by decide) rfl rfl ?_
          refine a_aload_n (pc := 50) (dk dt_X12_watch 27 rfl) rfl ?_
          refine a_getr (r := 129) (pc := 51) (dk dt_X12_watch 28 rfl) cls_12 fl_RX12_219 cf_85_65 ?_
          refine a_iload_n (pc := 54) (dk dt_X12_watch 29 rfl) rfl ?_
          refine a_iload_n (pc := 55) (dk dt_X12_watch 30 rfl) rfl ?_
          refine a_if_eq (pc := 56) (dk dt_X12_watch 31 rfl) (tgt := 70) rfl ⟨fun c => absurd c (by decide), fun _ => ?_⟩
          refine a_aload_n (pc := 59) (dk dt_X12_watch 32 rfl) rfl ?_
          refine a_getr (r := 129) (pc := 60) (dk dt_X12_watch 33 rfl) cls_12 fl_RX12_219 cf_85_65 ?_
          refine a_iload_n (pc := 63) (dk dt_X12_watch 34 rfl) rfl ?_
          refine a_iald (pc := 64) (dk dt_X12_watch 35 rfl) ar_130 ⟨H.1, ?_⟩
          replace H := H.2
          refine a_iconst (pc := 65) (dk dt_X12_watch 36 rfl) (ik rfl) ?_
          refine a_iadd (pc := 66) (dk dt_X12_watch 37 rfl) ?_
          refine a_goto (pc := 67) (dk dt_X12_watch 38 rfl) (tgt := 71) rfl ?_
          refine a_iast (pc := 71) (dk dt_X12_watch 40 rfl) ar_130 ⟨H.1, ?_⟩
          replace H := H.2
          refine a_aload_n (pc := 72) (dk dt_X12_watch 41 rfl) rfl ?_
          refine a_getr (r := 129) (pc := 73) (dk dt_X12_watch 42 rfl) cls_12 fl_RX12_219 cf_85_65 ?_
          refine a_iload_n (pc := 76) (dk dt_X12_watch 43 rfl) rfl ?_
          refine a_iald (pc := 77) (dk dt_X12_watch 44 rfl) ar_130 ⟨H.1, ?_⟩
          replace H := H.2
          refine a_top (y := (w32 ((h2 130 x1) + 1))) (by simp [up, cpy]) ?_
          refine a_aload_n (pc := 78) (dk dt_X12_watch 45 rfl) rfl ?_
          refine a_getr (r := 127) (pc := 79) (dk dt_X12_watch 46 rfl) cls_12 fl_RX12_213 cf_85_63 ?_
          refine a_iload_n (pc := 82) (dk dt_X12_watch 47 rfl) rfl ?_
          refine a_iald (pc := 83) (dk dt_X12_watch 48 rfl) ar_128 ⟨H.1, ?_⟩
          replace H := H.2
          refine a_top (y := (h2 128 x1)) (by simp [up, cpy]) ?_
          refine a_icmp_eq (pc := 84) (dk dt_X12_watch 49 rfl) (tgt := 90) rfl ⟨fun c => ?_, fun c => ?_⟩
          · replace H := H.1 c
            refine a_aload_n (pc := 90) (dk dt_X12_watch 51 rfl) rfl ?_
            refine a_dup (pc := 91) (dk dt_X12_watch 52 rfl) rfl ?_
            refine a_geti (pc := 92) (dk dt_X12_watch 53 rfl) cls_12 fl_RX12_426 cf_85_22 ?_
            refine a_top (y := (h2 85 22)) (by simp [up, cpy]) ?_
            refine a_iconst (pc := 95) (dk dt_X12_watch 54 rfl) (ik rfl) ?_
            refine a_iadd (pc := 96) (dk dt_X12_watch 55 rfl) ?_
            refine a_puti (pc := 97) (dk dt_X12_watch 56 rfl) cls_12 fl_RX12_426 cf_85_22 rfl rfl ?_
            refine a_aload_n (pc := 100) (dk dt_X12_watch 57 rfl) rfl ?_
            refine a_getr (r := 130) (pc := 101) (dk dt_X12_watch 58 rfl) cls_12 fl_RX12_222 cf_85_66 ?_
            refine a_iload_n (pc := 104) (dk dt_X12_watch 59 rfl) rfl ?_
            refine a_iald (pc := 105) (dk dt_X12_watch 60 rfl) ar_131 ⟨H.1, ?_⟩
            replace H := H.2
            refine a_top (y := (h2 131 x1)) (by simp [up, cpy]) ?_
            refine a_iconst (pc := 106) (dk dt_X12_watch 61 rfl) (ik rfl) ?_
            refine a_icmp_eq (pc := 107) (dk dt_X12_watch 62 rfl) (tgt := 130) rfl ⟨fun c => ?_, fun c => ?_⟩
            · replace H := H.1 c
              refine a_iconst (pc := 130) (dk dt_X12_watch 74 rfl) (ik rfl) ?_
              refine a_istore_n (pc := 131) (dk dt_X12_watch 75 rfl) (by decide) rfl rfl ?_
              refine a_aload_n (pc := 132) (dk dt_X12_watch 76 rfl) rfl ?_
              refine a_getr (r := 130) (pc := 133) (dk dt_X12_watch 77 rfl) cls_12 fl_RX12_222 cf_85_66 ?_
              refine a_iload_n (pc := 136) (dk dt_X12_watch 78 rfl) rfl ?_
              refine a_aload_n (pc := 137) (dk dt_X12_watch 79 rfl) rfl ?_
              refine a_geti (pc := 138) (dk dt_X12_watch 80 rfl) cls_12 fl_RX12_398 cf_85_10 ?_
              refine a_top (y := (h2 85 10)) (by simp [up, cpy]) ?_
              refine a_iast (pc := 141) (dk dt_X12_watch 81 rfl) ar_131 ⟨H.1, ?_⟩
              replace H := H.2
              refine a_iload_n (pc := 142) (dk dt_X12_watch 82 rfl) rfl ?_
              refine a_if_ne (pc := 143) (dk dt_X12_watch 83 rfl) (tgt := 157) rfl ⟨fun c => absurd c (by decide), fun _ => ?_⟩
              refine a_aload_n (pc := 146) (dk dt_X12_watch 84 rfl) rfl ?_
              refine a_getr (r := 128) (pc := 147) (dk dt_X12_watch 85 rfl) cls_12 fl_RX12_216 cf_85_64 ?_
              refine a_iload_n (pc := 150) (dk dt_X12_watch 86 rfl) rfl ?_
              refine a_iald (pc := 151) (dk dt_X12_watch 87 rfl) ar_129 ⟨H.1, ?_⟩
              replace H := H.2
              refine a_top (y := (h2 129 x1)) (by simp [up, cpy]) ?_
              refine a_bipush (pc := 152) (dk dt_X12_watch 88 rfl) (ik rfl) (bpk rfl) ?_
              refine a_icmp_ne (pc := 154) (dk dt_X12_watch 89 rfl) (tgt := 165) rfl ⟨fun c => ?_, fun c => ?_⟩
              · replace H := H.1 c
                refine a_aload_n (pc := 165) (dk dt_X12_watch 94 rfl) rfl ?_
                refine a_aload_n (pc := 166) (dk dt_X12_watch 95 rfl) rfl ?_
                refine a_getr (r := 128) (pc := 167) (dk dt_X12_watch 96 rfl) cls_12 fl_RX12_216 cf_85_64 ?_
                refine a_iload_n (pc := 170) (dk dt_X12_watch 97 rfl) rfl ?_
                refine a_iald (pc := 171) (dk dt_X12_watch 98 rfl) ar_129 ⟨H.1, ?_⟩
                replace H := H.2
                refine a_top (y := (h2 129 x1)) (by simp [up, cpy]) ?_
                refine a_callVv (as := [iv (h2 129 x1)]) (st := []) (pc := 172) (dk dt_X12_watch 99 rfl) cl_RX12_486 ⟨Nat.le_of_ble_eq_true rfl, Nat.le_of_ble_eq_true rfl⟩ ⟨Nat.le_of_ble_eq_true rfl, Nat.le_of_ble_eq_true rfl⟩ cls_12 rfl cc_85 rfl rfl rfl (Nat.le_of_ble_eq_true rfl) (Call.of rfl (Nat.le_of_ble_eq_true rfl) rfl ?_)
                refine a_aload_n (pc := 0) (dk dt_X12_begin 0 rfl) rfl ?_
                refine a_getr (r := 115) (pc := 1) (dk dt_X12_begin 1 rfl) cls_12 fl_RX12_177 cf_85_49 ?_
                refine a_iload_n (pc := 4) (dk dt_X12_begin 2 rfl) rfl ?_
                refine a_iconst (pc := 5) (dk dt_X12_begin 3 rfl) (ik rfl) ?_
                refine a_iast (pc := 6) (dk dt_X12_begin 4 rfl) ar_116 ⟨H.1, ?_⟩
                replace H := H.2
                refine a_aload_n (pc := 7) (dk dt_X12_begin 5 rfl) rfl ?_
                refine a_getr (r := 116) (pc := 8) (dk dt_X12_begin 6 rfl) cls_12 fl_RX12_180 cf_85_50 ?_
                refine a_iload_n (pc := 11) (dk dt_X12_begin 7 rfl) rfl ?_
                refine a_iconst (pc := 12) (dk dt_X12_begin 8 rfl) (ik rfl) ?_
                refine a_iast (pc := 13) (dk dt_X12_begin 9 rfl) ar_117 ⟨H.1, ?_⟩
                replace H := H.2
                refine a_vret (pc := 14) (dk dt_X12_begin 10 rfl) rfl rfl ?_
                show ATW _ _ _ _ _ _ _ _ _ _
                refine a_iinc (pc := 175) (dk dt_X12_watch 100 rfl) (by decide) rfl rfl rfl ?_
                refine a_goto (pc := 178) (dk dt_X12_watch 101 rfl) (tgt := 2) rfl ?_
                exact a_pick [0, 1] rfl H
              · replace H := H.2 c
                refine a_aload_n (pc := 157) (dk dt_X12_watch 90 rfl) rfl ?_
                refine a_iconst (pc := 158) (dk dt_X12_watch 91 rfl) (ik rfl) ?_
                refine a_callVv (as := [iv 0]) (st := []) (pc := 159) (dk dt_X12_watch 92 rfl) cl_RX12_483 ⟨Nat.le_of_ble_eq_true rfl, Nat.le_of_ble_eq_true rfl⟩ ⟨Nat.le_of_ble_eq_true rfl, Nat.le_of_ble_eq_true rfl⟩ cls_12 rfl cc_85 rfl rfl rfl (Nat.le_of_ble_eq_true rfl) (Call.mono H fun _ h16 H => ?_)
                refine a_goto (pc := 162) (dk dt_X12_watch 93 rfl) (tgt := 175) rfl ?_
                refine a_iinc (pc := 175) (dk dt_X12_watch 100 rfl) (by decide) rfl rfl rfl ?_
                refine a_goto (pc := 178) (dk dt_X12_watch 101 rfl) (tgt := 2) rfl ?_
                exact a_pick [0, 1] rfl H
            · replace H := H.2 c
              refine a_aload_n (pc := 110) (dk dt_X12_watch 63 rfl) rfl ?_
              refine a_geti (pc := 111) (dk dt_X12_watch 64 rfl) cls_12 fl_RX12_398 cf_85_10 ?_
              refine a_top (y := (h2 85 10)) (by simp [up, cpy]) ?_
              refine a_aload_n (pc := 114) (dk dt_X12_watch 65 rfl) rfl ?_
              refine a_getr (r := 130) (pc := 115) (dk dt_X12_watch 66 rfl) cls_12 fl_RX12_222 cf_85_66 ?_
              refine a_iload_n (pc := 118) (dk dt_X12_watch 67 rfl) rfl ?_
              refine a_iald (pc := 119) (dk dt_X12_watch 68 rfl) ar_131 ⟨H.1, ?_⟩
              replace H := H.2
              refine a_top (y := (h2 131 x1)) (by simp [up, cpy]) ?_
              refine a_isub (pc := 120) (dk dt_X12_watch 69 rfl) ?_
              refine a_bipush (pc := 121) (dk dt_X12_watch 70 rfl) (ik rfl) (bpk rfl) ?_
              refine a_icmp_ge (pc := 123) (dk dt_X12_watch 71 rfl) (tgt := 130) rfl ⟨fun c => ?_, fun c => ?_⟩
              · replace H := H.1 c
                refine a_iconst (pc := 130) (dk dt_X12_watch 74 rfl) (ik rfl) ?_
                refine a_istore_n (pc := 131) (dk dt_X12_watch 75 rfl) (by decide) rfl rfl ?_
                refine a_aload_n (pc := 132) (dk dt_X12_watch 76 rfl) rfl ?_
                refine a_getr (r := 130) (pc := 133) (dk dt_X12_watch 77 rfl) cls_12 fl_RX12_222 cf_85_66 ?_
                refine a_iload_n (pc := 136) (dk dt_X12_watch 78 rfl) rfl ?_
                refine a_aload_n (pc := 137) (dk dt_X12_watch 79 rfl) rfl ?_
                refine a_geti (pc := 138) (dk dt_X12_watch 80 rfl) cls_12 fl_RX12_398 cf_85_10 ?_
                refine a_top (y := (h2 85 10)) (by simp [up, cpy]) ?_
                refine a_iast (pc := 141) (dk dt_X12_watch 81 rfl) ar_131 ⟨H.1, ?_⟩
                replace H := H.2
                refine a_iload_n (pc := 142) (dk dt_X12_watch 82 rfl) rfl ?_
                refine a_if_ne (pc := 143) (dk dt_X12_watch 83 rfl) (tgt := 157) rfl ⟨fun c => absurd c (by decide), fun _ => ?_⟩
                refine a_aload_n (pc := 146) (dk dt_X12_watch 84 rfl) rfl ?_
                refine a_getr (r := 128) (pc := 147) (dk dt_X12_watch 85 rfl) cls_12 fl_RX12_216 cf_85_64 ?_
                refine a_iload_n (pc := 150) (dk dt_X12_watch 86 rfl) rfl ?_
                refine a_iald (pc := 151) (dk dt_X12_watch 87 rfl) ar_129 ⟨H.1, ?_⟩
                replace H := H.2
                refine a_top (y := (h2 129 x1)) (by simp [up, cpy]) ?_
                refine a_bipush (pc := 152) (dk dt_X12_watch 88 rfl) (ik rfl) (bpk rfl) ?_
                refine a_icmp_ne (pc := 154) (dk dt_X12_watch 89 rfl) (tgt := 165) rfl ⟨fun c => ?_, fun c => ?_⟩
                · replace H := H.1 c
                  refine a_aload_n (pc := 165) (dk dt_X12_watch 94 rfl) rfl ?_
                  refine a_aload_n (pc := 166) (dk dt_X12_watch 95 rfl) rfl ?_
                  refine a_getr (r := 128) (pc := 167) (dk dt_X12_watch 96 rfl) cls_12 fl_RX12_216 cf_85_64 ?_
                  refine a_iload_n (pc := 170) (dk dt_X12_watch 97 rfl) rfl ?_
                  refine a_iald (pc := 171) (dk dt_X12_watch 98 rfl) ar_129 ⟨H.1, ?_⟩
                  replace H := H.2
                  refine a_top (y := (h2 129 x1)) (by simp [up, cpy]) ?_
                  refine a_callVv (as := [iv (h2 129 x1)]) (st := []) (pc := 172) (dk dt_X12_watch 99 rfl) cl_RX12_486 ⟨Nat.le_of_ble_eq_true rfl, Nat.le_of_ble_eq_true rfl⟩ ⟨Nat.le_of_ble_eq_true rfl, Nat.le_of_ble_eq_true rfl⟩ cls_12 rfl cc_85 rfl rfl rfl (Nat.le_of_ble_eq_true rfl) (Call.of rfl (Nat.le_of_ble_eq_true rfl) rfl ?_)
                  refine a_aload_n (pc := 0) (dk dt_X12_begin 0 rfl) rfl ?_
                  refine a_getr (r := 115) (pc := 1) (dk dt_X12_begin 1 rfl) cls_12 fl_RX12_177 cf_85_49 ?_
                  refine a_iload_n (pc := 4) (dk dt_X12_begin 2 rfl) rfl ?_
                  refine a_iconst (pc := 5) (dk dt_X12_begin 3 rfl) (ik rfl) ?_
                  refine a_iast (pc := 6) (dk dt_X12_begin 4 rfl) ar_116 ⟨H.1, ?_⟩
                  replace H := H.2
                  refine a_aload_n (pc := 7) (dk dt_X12_begin 5 rfl) rfl ?_
                  refine a_getr (r := 116) (pc := 8) (dk dt_X12_begin 6 rfl) cls_12 fl_RX12_180 cf_85_50 ?_
                  refine a_iload_n (pc := 11) (dk dt_X12_begin 7 rfl) rfl ?_
                  refine a_iconst (pc := 12) (dk dt_X12_begin 8 rfl) (ik rfl) ?_
                  refine a_iast (pc := 13) (dk dt_X12_begin 9 rfl) ar_117 ⟨H.1, ?_⟩
                  replace H := H.2
                  refine a_vret (pc := 14) (dk dt_X12_begin 10 rfl) rfl rfl ?_
                  show ATW _ _ _ _ _ _ _ _ _ _
                  refine a_iinc (pc := 175) (dk dt_X12_watch 100 rfl) (by decide) rfl rfl rfl ?_
                  refine a_goto (pc := 178) (dk dt_X12_watch 101 rfl) (tgt := 2) rfl ?_
                  exact a_pick [0, 1] rfl H
                · replace H := H.2 c
                  refine a_aload_n (pc := 157) (dk dt_X12_watch 90 rfl) rfl ?_
                  refine a_iconst (pc := 158) (dk dt_X12_watch 91 rfl) (ik rfl) ?_
                  refine a_callVv (as := [iv 0]) (st := []) (pc := 159) (dk dt_X12_watch 92 rfl) cl_RX12_483 ⟨Nat.le_of_ble_eq_true rfl, Nat.le_of_ble_eq_true rfl⟩ ⟨Nat.le_of_ble_eq_true rfl, Nat.le_of_ble_eq_true rfl⟩ cls_12 rfl cc_85 rfl rfl rfl (Nat.le_of_ble_eq_true rfl) (Call.mono H fun _ h18 H => ?_)
                  refine a_goto (pc := 162) (dk dt_X12_watch 93 rfl) (tgt := 175) rfl ?_
                  refine a_iinc (pc := 175) (dk dt_X12_watch 100 rfl) (by decide) rfl rfl rfl ?_
                  refine a_goto (pc := 178) (dk dt_X12_watch 101 rfl) (tgt := 2) rfl ?_
                  exact a_pick [0, 1] rfl H
              · replace H := H.2 c
                refine a_iconst (pc := 126) (dk dt_X12_watch 72 rfl) (ik rfl) ?_
                refine a_goto (pc := 127) (dk dt_X12_watch 73 rfl) (tgt := 131) rfl ?_
                refine a_istore_n (pc := 131) (dk dt_X12_watch 75 rfl) (by decide) rfl rfl ?_
                refine a_aload_n (pc := 132) (dk dt_X12_watch 76 rfl) rfl ?_
                refine a_getr (r := 130) (pc := 133) (dk dt_X12_watch 77 rfl) cls_12 fl_RX12_222 cf_85_66 ?_
                refine a_iload_n (pc := 136) (dk dt_X12_watch 78 rfl) rfl ?_
                refine a_aload_n (pc := 137) (dk dt_X12_watch 79 rfl) rfl ?_
                refine a_geti (pc := 138) (dk dt_X12_watch 80 rfl) cls_12 fl_RX12_398 cf_85_10 ?_
                refine a_top (y := (h2 85 10)) (by simp [up, cpy]) ?_
                refine a_iast (pc := 141) (dk dt_X12_watch 81 rfl) ar_131 ⟨H.1, ?_⟩
                replace H := H.2
                refine a_iload_n (pc := 142) (dk dt_X12_watch 82 rfl) rfl ?_
                refine a_if_ne (pc := 143) (dk dt_X12_watch 83 rfl) (tgt := 157) rfl ⟨fun _ => ?_, fun c => absurd c (by decide)⟩
                refine a_aload_n (pc := 157) (dk dt_X12_watch 90 rfl) rfl ?_
                refine a_iconst (pc := 158) (dk dt_X12_watch 91 rfl) (ik rfl) ?_
                refine a_callVv (as := [iv 0]) (st := []) (pc := 159) (dk dt_X12_watch 92 rfl) cl_RX12_483 ⟨Nat.le_of_ble_eq_true rfl, Nat.le_of_ble_eq_true rfl⟩ ⟨Nat.le_of_ble_eq_true rfl, Nat.le_of_ble_eq_true rfl⟩ cls_12 rfl cc_85 rfl rfl rfl (Nat.le_of_ble_eq_true rfl) (Call.mono H fun _ h20 H => ?_)
                refine a_goto (pc := 162) (dk dt_X12_watch 93 rfl) (tgt := 175) rfl ?_
                refine a_iinc (pc := 175) (dk dt_X12_watch 100 rfl) (by decide) rfl rfl rfl ?_
                refine a_goto (pc := 178) (dk dt_X12_watch 101 rfl) (tgt := 2) rfl ?_
                exact a_pick [0, 1] rfl H
          · replace H := H.2 c
            refine a_goto (pc := 87) (dk dt_X12_watch 50 rfl) (tgt := 175) rfl ?_
            refine a_iinc (pc := 175) (dk dt_X12_watch 100 rfl) (by decide) rfl rfl rfl ?_
            refine a_goto (pc := 178) (dk dt_X12_watch 101 rfl) (tgt := 2) rfl ?_
            exact a_pick [0, 1] rfl H
    · replace H := H.2 c
      refine a_goto (pc := 17) (dk dt_X12_watch 10 rfl) (tgt := 175) rfl ?_
      refine a_iinc (pc := 175) (dk dt_X12_watch 100 rfl) (by decide) rfl rfl rfl ?_
      refine a_goto (pc := 178) (dk dt_X12_watch 101 rfl) (tgt := 2) rfl ?_
      exact a_pick [0, 1] rfl H
set_option maxHeartbeats 40000000 in
theorem U_X12_goes_85_0 {G : GG} {Φ : Int → Hp → Prop} {h : Hp} {x1 : Int} (H : (0 ≤ x1 ∧ x1 < 8) ∧ (((h 116 x1) ≠ (-1) → (0 ≤ x1 ∧ x1 < 8) ∧ (((h 117 x1) ≤ 0 → AT G m_X12_goes 42 [(0, rv 85), (1, iv x1), (2, iv 0)] [] h Φ) ∧ (0 < (h 117 x1) → (0 ≤ x1 ∧ x1 < 8) ∧ (0 ≤ x1 ∧ x1 < 8) ∧ (0 ≤ x1 ∧ x1 < 8) ∧ (((w32 ((h 117 x1) - 1)) ≤ 0 → AT G m_X12_goes 42 [(0, rv 85), (1, iv x1), (2, iv 0)] [] (up h 117 x1 (w32 ((h 117 x1) - 1))) Φ) ∧ (0 < (w32 ((h 117 x1) - 1)) → Φ 0 (up h 117 x1 (w32 ((h 117 x1) - 1)))))))) ∧ ((h 116 x1) = (-1) → Φ 0 h))) : AT G m_X12_goes 0 [(0, rv 85), (1, iv x1)] [] h Φ := by
  refine a_aload_n (pc := 0) (dk dt_X12_goes 0 rfl) rfl ?_
  refine a_getr (r := 115) (pc := 1) (dk dt_X12_goes 1 rfl) cls_12 fl_RX12_177 cf_85_49 ?_
  refine a_iload_n (pc := 4) (dk dt_X12_goes 2 rfl) rfl ?_
  refine a_iald (pc := 5) (dk dt_X12_goes 3 rfl) ar_116 ⟨H.1, ?_⟩
  replace H := H.2
  refine a_iconst (pc := 6) (dk dt_X12_goes 4 rfl) (ik rfl) ?_
  refine a_icmp_ne (pc := 7) (dk dt_X12_goes 5 rfl) (tgt := 11) rfl ⟨fun c => ?_, fun c => ?_⟩
  · replace H := H.1 c
    refine a_aload_n (pc := 11) (dk dt_X12_goes 7 rfl) rfl ?_
    refine a_getr (r := 116) (pc := 12) (dk dt_X12_goes 8 rfl) cls_12 fl_RX12_180 cf_85_50 ?_
    refine a_iload_n (pc := 15) (dk dt_X12_goes 9 rfl) rfl ?_
    refine a_iald (pc := 16) (dk dt_X12_goes 10 rfl) ar_117 ⟨H.1, ?_⟩
    replace H := H.2
    refine a_if_le (pc := 17) (dk dt_X12_goes 11 rfl) (tgt := 40) rfl ⟨fun c => ?_, fun c => ?_⟩
    · replace H := H.1 c
      refine a_iconst (pc := 40) (dk dt_X12_goes 26 rfl) (ik rfl) ?_
      refine a_istore_n (pc := 41) (dk dt_X12_goes 27 rfl) (by decide) rfl rfl ?_
      exact a_pick [0, 1, 2] rfl H
    · replace H := H.2 c
      refine a_aload_n (pc := 20) (dk dt_X12_goes 12 rfl) rfl ?_
      refine a_getr (r := 116) (pc := 21) (dk dt_X12_goes 13 rfl) cls_12 fl_RX12_180 cf_85_50 ?_
      refine a_iload_n (pc := 24) (dk dt_X12_goes 14 rfl) rfl ?_
      refine a_dup2 (pc := 25) (dk dt_X12_goes 15 rfl) rfl rfl ?_
      refine a_iald (pc := 26) (dk dt_X12_goes 16 rfl) ar_117 ⟨H.1, ?_⟩
      replace H := H.2
      refine a_iconst (pc := 27) (dk dt_X12_goes 17 rfl) (ik rfl) ?_
      refine a_isub (pc := 28) (dk dt_X12_goes 18 rfl) ?_
      refine a_iast (pc := 29) (dk dt_X12_goes 19 rfl) ar_117 ⟨H.1, ?_⟩
      replace H := H.2
      refine a_aload_n (pc := 30) (dk dt_X12_goes 20 rfl) rfl ?_
      refine a_getr (r := 116) (pc := 31) (dk dt_X12_goes 21 rfl) cls_12 fl_RX12_180 cf_85_50 ?_
      refine a_iload_n (pc := 34) (dk dt_X12_goes 22 rfl) rfl ?_
      refine a_iald (pc := 35) (dk dt_X12_goes 23 rfl) ar_117 ⟨H.1, ?_⟩
      replace H := H.2
      refine a_top (y := (w32 ((h 117 x1) - 1))) (by simp [up, cpy]) ?_
      refine a_if_le (pc := 36) (dk dt_X12_goes 24 rfl) (tgt := 40) rfl ⟨fun c => ?_, fun c => ?_⟩
      · replace H := H.1 c
        refine a_iconst (pc := 40) (dk dt_X12_goes 26 rfl) (ik rfl) ?_
        refine a_istore_n (pc := 41) (dk dt_X12_goes 27 rfl) (by decide) rfl rfl ?_
        exact a_pick [0, 1, 2] rfl H
      · replace H := H.2 c
        exact a_vret (pc := 39) (dk dt_X12_goes 25 rfl) rfl rfl H
  · replace H := H.2 c
    exact a_vret (pc := 10) (dk dt_X12_goes 6 rfl) rfl rfl H
set_option maxHeartbeats 40000000 in
theorem U_X12_goes_85_42 {G : GG} {Φ : Int → Hp → Prop} {h : Hp} {x1 : Int} {x2 : Int} (H : ((8 ≤ x2 → Φ 0 h) ∧ (x2 < 8 → (0 ≤ x1 ∧ x1 < 8) ∧ (((h 116 x1) = (-1) → Φ 0 h) ∧ ((h 116 x1) ≠ (-1) → (0 ≤ x1 ∧ x1 < 8) ∧ (((h 117 x1) ≠ 0 → Φ 0 h) ∧ ((h 117 x1) = 0 → (0 ≤ x1 ∧ x1 < 8) ∧ (0 ≤ x1 ∧ x1 < 8) ∧ (0 ≤ x1 ∧ x1 < 8) ∧ (((h 115 x1) ≤ (h 116 x1) → (0 ≤ x1 ∧ x1 < 8) ∧ AT G m_X12_goes 42 [(0, rv 85), (1, iv x1), (2, iv (w32 (x2 + 1)))] [] (up h 116 x1 (-1)) Φ) ∧ ((h 116 x1) < (h 115 x1) → (0 ≤ (w32 ((w32 (30 * x1)) + (h 116 x1))) ∧ (w32 ((w32 (30 * x1)) + (h 116 x1))) < 260) ∧ (((h 103 (w32 ((w32 (30 * x1)) + (h 116 x1)))) ≠ 12 → (0 ≤ x1 ∧ x1 < 8) ∧ (0 ≤ (w32 ((w32 (30 * x1)) + (h 116 x1))) ∧ (w32 ((w32 (30 * x1)) + (h 116 x1))) < 260) ∧ (((h 103 (w32 ((w32 (30 * x1)) + (h 116 x1)))) = 3 → Call G m_X12_holds [rv 85, iv (w32 ((w32 (30 * x1)) + (h 116 x1)))] (up h 85 57 0) (fun r1 h2 => (((h2 85 57) = 0 → (0 ≤ (w32 ((w32 (30 * x1)) + (h 116 x1))) ∧ (w32 ((w32 (30 * x1)) + (h 116 x1))) < 260) ∧ ((((h2 103 (w32 ((w32 (30 * x1)) + (h 116 x1)))) = 2) → (0 ≤ x1 ∧ x1 < 8) ∧ (0 ≤ (w32 ((w32 (30 * x1)) + (h 116 x1))) ∧ (w32 ((w32 (30 * x1)) + (h 116 x1))) < 260) ∧ (0 ≤ x1 ∧ x1 < 8) ∧ AT G m_X12_goes 42 [(0, rv 85), (1, iv x1), (2, iv (w32 (x2 + 1)))] [] (up (up h2 116 x1 (w32 ((h 116 x1) + 1))) 117 x1 (h2 105 (w32 ((w32 (30 * x1)) + (h 116 x1))))) Φ) ∧ (((h2 103 (w32 ((w32 (30 * x1)) + (h 116 x1)))) = 3) → ((r1 ≠ 0 → (0 ≤ x1 ∧ x1 < 8) ∧ AT G m_X12_goes 42 [(0, rv 85), (1, iv x1), (2, iv (w32 (x2 + 1)))] [] (up h2 116 x1 (w32 ((h 116 x1) + 1))) Φ) ∧ (r1 = 0 → Φ 0 h2))) ∧ (((h2 103 (w32 ((w32 (30 * x1)) + (h 116 x1)))) = 4) → ((r1 = 0 → (0 ≤ x1 ∧ x1 < 8) ∧ AT G m_X12_goes 42 [(0, rv 85), (1, iv x1), (2, iv (w32 (x2 + 1)))] [] (up h2 116 x1 (w32 ((h 116 x1) + 1))) Φ) ∧ (r1 ≠ 0 → (0 ≤ (w32 ((w32 (30 * x1)) + (h 116 x1))) ∧ (w32 ((w32 (30 * x1)) + (h 116 x1))) < 260) ∧ (0 ≤ x1 ∧ x1 < 8) ∧ AT G m_X12_goes 42 [(0, rv 85), (1, iv x1), (2, iv (w32 (x2 + 1)))] [] (up h2 116 x1 (h2 105 (w32 ((w32 (30 * x1)) + (h 116 x1))))) Φ))) ∧ (((h2 103 (w32 ((w32 (30 * x1)) + (h 116 x1)))) = 5) → (0 ≤ (w32 ((w32 (30 * x1)) + (h 116 x1))) ∧ (w32 ((w32 (30 * x1)) + (h 116 x1))) < 260) ∧ (0 ≤ x1 ∧ x1 < 8) ∧ AT G m_X12_goes 42 [(0, rv 85), (1, iv x1), (2, iv (w32 (x2 + 1)))] [] (up h2 116 x1 (h2 105 (w32 ((w32 (30 * x1)) + (h 116 x1))))) Φ) ∧ ((((h2 103 (w32 ((w32 (30 * x1)) + (h 116 x1)))) < 2 ∨ 5 < (h2 103 (w32 ((w32 (30 * x1)) + (h 116 x1)))))) → (0 ≤ x1 ∧ x1 < 8) ∧ Call G m_X12_act [rv 85, iv (w32 ((w32 (30 * x1)) + (h 116 x1)))] (up h2 116 x1 (w32 ((h 116 x1) + 1))) (fun r3 h4 => ((r3 ≠ 0 → AT G m_X12_goes 42 [(0, rv 85), (1, iv x1), (2, iv (w32 (x2 + 1)))] [] h4 Φ) ∧ (r3 = 0 → (0 ≤ x1 ∧ x1 < 8) ∧ AT G m_X12_goes 42 [(0, rv 85), (1, iv x1), (2, iv (w32 (x2 + 1)))] [] (up h4 116 x1 (-1)) Φ)))))) ∧ ((h2 85 57) ≠ 0 → (0 ≤ x1 ∧ x1 < 8) ∧ AT G m_X12_goes 42 [(0, rv 85), (1, iv x1), (2, iv (w32 (x2 + 1)))] [] (up (up h2 85 22 (w32 ((h2 85 22) + 1))) 116 x1 (-1)) Φ)))) ∧ ((h 103 (w32 ((w32 (30 * x1)) + (h 116 x1)))) ≠ 3 → (0 ≤ (w32 ((w32 (30 * x1)) + (h 116 x1))) ∧ (w32 ((w32 (30 * x1)) + (h 116 x1))) < 260) ∧ (((h 103 (w32 ((w32 (30 * x1)) + (h 116 x1)))) ≠ 4 → (0 ≤ (w32 ((w32 (30 * x1)) + (h 116 x1))) ∧ (w32 ((w32 (30 * x1)) + (h 116 x1))) < 260) ∧ ((((h 103 (w32 ((w32 (30 * x1)) + (h 116 x1)))) = 2) → (0 ≤ x1 ∧ x1 < 8) ∧ (0 ≤ (w32 ((w32 (30 * x1)) + (h 116 x1))) ∧ (w32 ((w32 (30 * x1)) + (h 116 x1))) < 260) ∧ (0 ≤ x1 ∧ x1 < 8) ∧ AT G m_X12_goes 42 [(0, rv 85), (1, iv x1), (2, iv (w32 (x2 + 1)))] [] (up (up (up h 85 57 0) 116 x1 (w32 ((h 116 x1) + 1))) 117 x1 (h 105 (w32 ((w32 (30 * x1)) + (h 116 x1))))) Φ) ∧ (((h 103 (w32 ((w32 (30 * x1)) + (h 116 x1)))) = 3) → Φ 0 (up h 85 57 0)) ∧ (((h 103 (w32 ((w32 (30 * x1)) + (h 116 x1)))) = 4) → (0 ≤ x1 ∧ x1 < 8) ∧ AT G m_X12_goes 42 [(0, rv 85), (1, iv x1), (2, iv (w32 (x2 + 1)))] [] (up (up h 85 57 0) 116 x1 (w32 ((h 116 x1) + 1))) Φ) ∧ (((h 103 (w32 ((w32 (30 * x1)) + (h 116 x1)))) = 5) → (0 ≤ (w32 ((w32 (30 * x1)) + (h 116 x1))) ∧ (w32 ((w32 (30 * x1)) + (h 116 x1))) < 260) ∧ (0 ≤ x1 ∧ x1 < 8) ∧ AT G m_X12_goes 42 [(0, rv 85), (1, iv x1), (2, iv (w32 (x2 + 1)))] [] (up (up h 85 57 0) 116 x1 (h 105 (w32 ((w32 (30 * x1)) + (h 116 x1))))) Φ) ∧ ((((h 103 (w32 ((w32 (30 * x1)) + (h 116 x1)))) < 2 ∨ 5 < (h 103 (w32 ((w32 (30 * x1)) + (h 116 x1)))))) → (0 ≤ x1 ∧ x1 < 8) ∧ Call G m_X12_act [rv 85, iv (w32 ((w32 (30 * x1)) + (h 116 x1)))] (up (up h 85 57 0) 116 x1 (w32 ((h 116 x1) + 1))) (fun r5 h6 => ((r5 ≠ 0 → AT G m_X12_goes 42 [(0, rv 85), (1, iv x1), (2, iv (w32 (x2 + 1)))] [] h6 Φ) ∧ (r5 = 0 → (0 ≤ x1 ∧ x1 < 8) ∧ AT G m_X12_goes 42 [(0, rv 85), (1, iv x1), (2, iv (w32 (x2 + 1)))] [] (up h6 116 x1 (-1)) Φ)))))) ∧ ((h 103 (w32 ((w32 (30 * x1)) + (h 116 x1)))) = 4 → Call G m_X12_holds [rv 85, iv (w32 ((w32 (30 * x1)) + (h 116 x1)))] (up h 85 57 0) (fun r7 h8 => (((h8 85 57) = 0 → (0 ≤ (w32 ((w32 (30 * x1)) + (h 116 x1))) ∧ (w32 ((w32 (30 * x1)) + (h 116 x1))) < 260) ∧ ((((h8 103 (w32 ((w32 (30 * x1)) + (h 116 x1)))) = 2) → (0 ≤ x1 ∧ x1 < 8) ∧ (0 ≤ (w32 ((w32 (30 * x1)) + (h 116 x1))) ∧ (w32 ((w32 (30 * x1)) + (h 116 x1))) < 260) ∧ (0 ≤ x1 ∧ x1 < 8) ∧ AT G m_X12_goes 42 [(0, rv 85), (1, iv x1), (2, iv (w32 (x2 + 1)))] [] (up (up h8 116 x1 (w32 ((h 116 x1) + 1))) 117 x1 (h8 105 (w32 ((w32 (30 * x1)) + (h 116 x1))))) Φ) ∧ (((h8 103 (w32 ((w32 (30 * x1)) + (h 116 x1)))) = 3) → ((r7 ≠ 0 → (0 ≤ x1 ∧ x1 < 8) ∧ AT G m_X12_goes 42 [(0, rv 85), (1, iv x1), (2, iv (w32 (x2 + 1)))] [] (up h8 116 x1 (w32 ((h 116 x1) + 1))) Φ) ∧ (r7 = 0 → Φ 0 h8))) ∧ (((h8 103 (w32 ((w32 (30 * x1)) + (h 116 x1)))) = 4) → ((r7 = 0 → (0 ≤ x1 ∧ x1 < 8) ∧ AT G m_X12_goes 42 [(0, rv 85), (1, iv x1), (2, iv (w32 (x2 + 1)))] [] (up h8 116 x1 (w32 ((h 116 x1) + 1))) Φ) ∧ (r7 ≠ 0 → (0 ≤ (w32 ((w32 (30 * x1)) + (h 116 x1))) ∧ (w32 ((w32 (30 * x1)) + (h 116 x1))) < 260) ∧ (0 ≤ x1 ∧ x1 < 8) ∧ AT G m_X12_goes 42 [(0, rv 85), (1, iv x1), (2, iv (w32 (x2 + 1)))] [] (up h8 116 x1 (h8 105 (w32 ((w32 (30 * x1)) + (h 116 x1))))) Φ))) ∧ (((h8 103 (w32 ((w32 (30 * x1)) + (h 116 x1)))) = 5) → (0 ≤ (w32 ((w32 (30 * x1)) + (h 116 x1))) ∧ (w32 ((w32 (30 * x1)) + (h 116 x1))) < 260) ∧ (0 ≤ x1 ∧ x1 < 8) ∧ AT G m_X12_goes 42 [(0, rv 85), (1, iv x1), (2, iv (w32 (x2 + 1)))] [] (up h8 116 x1 (h8 105 (w32 ((w32 (30 * x1)) + (h 116 x1))))) Φ) ∧ ((((h8 103 (w32 ((w32 (30 * x1)) + (h 116 x1)))) < 2 ∨ 5 < (h8 103 (w32 ((w32 (30 * x1)) + (h 116 x1)))))) → (0 ≤ x1 ∧ x1 < 8) ∧ Call G m_X12_act [rv 85, iv (w32 ((w32 (30 * x1)) + (h 116 x1)))] (up h8 116 x1 (w32 ((h 116 x1) + 1))) (fun r9 h10 => ((r9 ≠ 0 → AT G m_X12_goes 42 [(0, rv 85), (1, iv x1), (2, iv (w32 (x2 + 1)))] [] h10 Φ) ∧ (r9 = 0 → (0 ≤ x1 ∧ x1 < 8) ∧ AT G m_X12_goes 42 [(0, rv 85), (1, iv x1), (2, iv (w32 (x2 + 1)))] [] (up h10 116 x1 (-1)) Φ)))))) ∧ ((h8 85 57) ≠ 0 → (0 ≤ x1 ∧ x1 < 8) ∧ AT G m_X12_goes 42 [(0, rv 85), (1, iv x1), (2, iv (w32 (x2 + 1)))] [] (up (up h8 85 22 (w32 ((h8 85 22) + 1))) 116 x1 (-1)) Φ)))))))) ∧ ((h 103 (w32 ((w32 (30 * x1)) + (h 116 x1)))) = 12 → (0 ≤ x1 ∧ x1 < 8) ∧ AT G m_X12_goes 42 [(0, rv 85), (1, iv x1), (2, iv (w32 (x2 + 1)))] [] (up h 116 x1 (-1)) Φ))))))))))) : AT G m_X12_goes 42 [(0, rv 85), (1, iv x1), (2, iv x2)] [] h Φ := by
  refine a_iload_n (pc := 42) (dk dt_X12_goes 28 rfl) rfl ?_
  refine a_bipush (pc := 43) (dk dt_X12_goes 29 rfl) (ik rfl) (bpk rfl) ?_
  refine a_icmp_ge (pc := 45) (dk dt_X12_goes 30 rfl) (tgt := 337) rfl ⟨fun c => ?_, fun c => ?_⟩
  · replace H := H.1 c
    exact a_vret (pc := 337) (dk dt_X12_goes 187 rfl) rfl rfl H
  · replace H := H.2 c
    refine a_aload_n (pc := 48) (dk dt_X12_goes 31 rfl) rfl ?_
    refine a_getr (r := 115) (pc := 49) (dk dt_X12_goes 32 rfl) cls_12 fl_RX12_177 cf_85_49 ?_
    refine a_iload_n (pc := 52) (dk dt_X12_goes 33 rfl) rfl ?_
    refine a_iald (pc := 53) (dk dt_X12_goes 34 rfl) ar_116 ⟨H.1, ?_⟩
    replace H := H.2
    refine a_iconst (pc := 54) (dk dt_X12_goes 35 rfl) (ik rfl) ?_
    refine a_icmp_eq (pc := 55) (dk dt_X12_goes 36 rfl) (tgt := 337) rfl ⟨fun c => ?_, fun c => ?_⟩
    · replace H := H.1 c
      exact a_vret (pc := 337) (dk dt_X12_goes 187 rfl) rfl rfl H
    · replace H := H.2 c
      refine a_aload_n (pc := 58) (dk dt_X12_goes 37 rfl) rfl ?_
      refine a_getr (r := 116) (pc := 59) (dk dt_X12_goes 38 rfl) cls_12 fl_RX12_180 cf_85_50 ?_
      refine a_iload_n (pc := 62) (dk dt_X12_goes 39 rfl) rfl ?_
      refine a_iald (pc := 63) (dk dt_X12_goes 40 rfl) ar_117 ⟨H.1, ?_⟩
      replace H := H.2
      refine a_if_ne (pc := 64) (dk dt_X12_goes 41 rfl) (tgt := 337) rfl ⟨fun c => ?_, fun c => ?_⟩
      · replace H := H.1 c
        exact a_vret (pc := 337) (dk dt_X12_goes 187 rfl) rfl rfl H
      · replace H := H.2 c
        refine a_bipush (pc := 67) (dk dt_X12_goes 42 rfl) (ik rfl) (bpk rfl) ?_
        refine a_iload_n (pc := 69) (dk dt_X12_goes 43 rfl) rfl ?_
        refine a_imul (pc := 70) (dk dt_X12_goes 44 rfl) ?_
        refine a_aload_n (pc := 71) (dk dt_X12_goes 45 rfl) rfl ?_
        refine a_getr (r := 115) (pc := 72) (dk dt_X12_goes 46 rfl) cls_12 fl_RX12_177 cf_85_49 ?_
        refine a_iload_n (pc := 75) (dk dt_X12_goes 47 rfl) rfl ?_
        refine a_iald (pc := 76) (dk dt_X12_goes 48 rfl) ar_116 ⟨H.1, ?_⟩
        replace H := H.2
        refine a_iadd (pc := 77) (dk dt_X12_goes 49 rfl) ?_
        refine a_istore_n (pc := 78) (dk dt_X12_goes 50 rfl) (by decide) rfl rfl ?_
        refine a_aload_n (pc := 79) (dk dt_X12_goes 51 rfl) rfl ?_
        refine a_getr (r := 115) (pc := 80) (dk dt_X12_goes 52 rfl) cls_12 fl_RX12_177 cf_85_49 ?_
        refine a_iload_n (pc := 83) (dk dt_X12_goes 53 rfl) rfl ?_
        refine a_iald (pc := 84) (dk dt_X12_goes 54 rfl) ar_116 ⟨H.1, ?_⟩
        replace H := H.2
        refine a_aload_n (pc := 85) (dk dt_X12_goes 55 rfl) rfl ?_
        refine a_getr (r := 114) (pc := 86) (dk dt_X12_goes 56 rfl) cls_12 fl_RX12_174 cf_85_48 ?_
        refine a_iload_n (pc := 89) (dk dt_X12_goes 57 rfl) rfl ?_
        refine a_iald (pc := 90) (dk dt_X12_goes 58 rfl) ar_115 ⟨H.1, ?_⟩
        replace H := H.2
        refine a_icmp_ge (pc := 91) (dk dt_X12_goes 59 rfl) (tgt := 105) rfl ⟨fun c => ?_, fun c => ?_⟩
        · replace H := H.1 c
          refine a_aload_n (pc := 105) (dk dt_X12_goes 66 rfl) rfl ?_
          refine a_getr (r := 115) (pc := 106) (dk dt_X12_goes 67 rfl) cls_12 fl_RX12_177 cf_85_49 ?_
          refine a_iload_n (pc := 109) (dk dt_X12_goes 68 rfl) rfl ?_
          refine a_iconst (pc := 110) (dk dt_X12_goes 69 rfl) (ik rfl) ?_
          refine a_iast (pc := 111) (dk dt_X12_goes 70 rfl) ar_116 ⟨H.1, ?_⟩
          replace H := H.2
          refine a_goto (pc := 112) (dk dt_X12_goes 71 rfl) (tgt := 331) rfl ?_
          refine a_iinc (pc := 331) (dk dt_X12_goes 185 rfl) (by decide) rfl rfl rfl ?_
          refine a_goto (pc := 334) (dk dt_X12_goes 186 rfl) (tgt := 42) rfl ?_
          exact a_pick [0, 1, 2] rfl H
        · replace H := H.2 c
          refine a_aload_n (pc := 94) (dk dt_X12_goes 60 rfl) rfl ?_
          refine a_getr (r := 102) (pc := 95) (dk dt_X12_goes 61 rfl) cls_12 fl_RX12_138 cf_85_36 ?_
          refine a_iload_n (pc := 98) (dk dt_X12_goes 62 rfl) rfl ?_
          refine a_iald (pc := 99) (dk dt_X12_goes 63 rfl) ar_103 ⟨H.1, ?_⟩
          replace H := H.2
          refine a_bipush (pc := 100) (dk dt_X12_goes 64 rfl) (ik rfl) (bpk rfl) ?_
          refine a_icmp_ne (pc := 102) (dk dt_X12_goes 65 rfl) (tgt := 115) rfl ⟨fun c => ?_, fun c => ?_⟩
          · replace H := H.1 c
            refine a_aload_n (pc := 115) (dk dt_X12_goes 72 rfl) rfl ?_
            refine a_getr (r := 115) (pc := 116) (dk dt_X12_goes 73 rfl) cls_12 fl_RX12_177 cf_85_49 ?_
            refine a_iload_n (pc := 119) (dk dt_X12_goes 74 rfl) rfl ?_
            refine a_iald (pc := 120) (dk dt_X12_goes 75 rfl) ar_116 ⟨H.1, ?_⟩
            replace H := H.2
            refine a_istore (pc := 121) (dk dt_X12_goes 76 rfl) (by decide) rfl rfl ?_
            refine a_iconst (pc := 123) (dk dt_X12_goes 77 rfl) (ik rfl) ?_
            refine a_istore (pc := 124) (dk dt_X12_goes 78 rfl) (by decide) rfl rfl ?_
            refine a_aload_n (pc := 126) (dk dt_X12_goes 79 rfl) rfl ?_
            refine a_iconst (pc := 127) (dk dt_X12_goes 80 rfl) (ik rfl) ?_
            refine a_putz (pc := 128) (dk dt_X12_goes 81 rfl) cls_12 fl_RX12_474 cf_85_57 rfl rfl ⟨by decide, ?_⟩
            refine a_aload_n (pc := 131) (dk dt_X12_goes 82 rfl) rfl ?_
            refine a_getr (r := 102) (pc := 132) (dk dt_X12_goes 83 rfl) cls_12 fl_RX12_138 cf_85_36 ?_
            refine a_iload_n (pc := 135) (dk dt_X12_goes 84 rfl) rfl ?_
            refine a_iald (pc := 136) (dk dt_X12_goes 85 rfl) ar_103 ⟨H.1, ?_⟩
            replace H := H.2
            refine a_top (y := (h 103 (w32 ((w32 (30 * x1)) + (h 116 x1))))) (by simp [up, cpy]) ?_
            refine a_iconst (pc := 137) (dk dt_X12_goes 86 rfl) (ik rfl) ?_
            refine a_icmp_eq (pc := 138) (dk dt_X12_goes 87 rfl) (tgt := 151) rfl ⟨fun c => ?_, fun c => ?_⟩
            · replace H := H.1 c
              refine a_aload_n (pc := 151) (dk dt_X12_goes 94 rfl) rfl ?_
              refine a_iload_n (pc := 152) (dk dt_X12_goes 95 rfl) rfl ?_
              refine a_callVi (as := [iv (w32 ((w32 (30 * x1)) + (h 116 x1)))]) (st := []) (pc := 153) (dk dt_X12_goes 96 rfl) cl_RX12_489 ⟨Nat.le_of_ble_eq_true rfl, Nat.le_of_ble_eq_true rfl⟩ ⟨Nat.le_of_ble_eq_true rfl, Nat.le_of_ble_eq_true rfl⟩ cls_12 rfl cc_85 rfl rfl rfl (Nat.le_of_ble_eq_true rfl) (Call.mono H fun r1 h2 H => ?_)
              refine a_istore (pc := 156) (dk dt_X12_goes 97 rfl) (by decide) rfl rfl ?_
              refine a_aload_n (pc := 158) (dk dt_X12_goes 98 rfl) rfl ?_
              refine a_geti (pc := 159) (dk dt_X12_goes 99 rfl) cls_12 fl_RX12_474 cf_85_57 ?_
              refine a_if_eq (pc := 162) (dk dt_X12_goes 100 rfl) (tgt := 185) rfl ⟨fun c => ?_, fun c => ?_⟩
              · replace H := H.1 c
                refine a_aload_n (pc := 185) (dk dt_X12_goes 113 rfl) rfl ?_
                refine a_getr (r := 102) (pc := 186) (dk dt_X12_goes 114 rfl) cls_12 fl_RX12_138 cf_85_36 ?_
                refine a_iload_n (pc := 189) (dk dt_X12_goes 115 rfl) rfl ?_
                refine a_iald (pc := 190) (dk dt_X12_goes 116 rfl) ar_103 ⟨H.1, ?_⟩
                replace H := H.2
                have B0 : ((h2 103 (w32 ((w32 (30 * x1)) + (h 116 x1)))) = 2) → AT G m_X12_goes 220 [(0, rv 85), (1, iv x1), (2, iv x2), (3, iv (w32 ((w32 (30 * x1)) + (h 116 x1)))), (4, iv (h 116 x1)), (5, iv r1)] [] h2 Φ := by
                  intro c
                  replace H := H.1 c
                  refine a_aload_n (pc := 220) (dk dt_X12_goes 118 rfl) rfl ?_
                  refine a_getr (r := 115) (pc := 221) (dk dt_X12_goes 119 rfl) cls_12 fl_RX12_177 cf_85_49 ?_
                  refine a_iload_n (pc := 224) (dk dt_X12_goes 120 rfl) rfl ?_
                  refine a_iload (pc := 225) (dk dt_X12_goes 121 rfl) rfl ?_
                  refine a_iconst (pc := 227) (dk dt_X12_goes 122 rfl) (ik rfl) ?_
                  refine a_iadd (pc := 228) (dk dt_X12_goes 123 rfl) ?_
                  refine a_iast (pc := 229) (dk dt_X12_goes 124 rfl) ar_116 ⟨H.1, ?_⟩
                  replace H := H.2
                  refine a_aload_n (pc := 230) (dk dt_X12_goes 125 rfl) rfl ?_
                  refine a_getr (r := 116) (pc := 231) (dk dt_X12_goes 126 rfl) cls_12 fl_RX12_180 cf_85_50 ?_
                  refine a_iload_n (pc := 234) (dk dt_X12_goes 127 rfl) rfl ?_
                  refine a_aload_n (pc := 235) (dk dt_X12_goes 128 rfl) rfl ?_
                  refine a_getr (r := 104) (pc := 236) (dk dt_X12_goes 129 rfl) cls_12 fl_RX12_144 cf_85_38 ?_
                  refine a_iload_n (pc := 239) (dk dt_X12_goes 130 rfl) rfl ?_
                  refine a_iald (pc := 240) (dk dt_X12_goes 131 rfl) ar_105 ⟨H.1, ?_⟩
                  replace H := H.2
                  refine a_top (y := (h2 105 (w32 ((w32 (30 * x1)) + (h 116 x1))))) (by simp [up, cpy]) ?_
                  refine a_iast (pc := 241) (dk dt_X12_goes 132 rfl) ar_117 ⟨H.1, ?_⟩
                  replace H := H.2
                  refine a_goto (pc := 242) (dk dt_X12_goes 133 rfl) (tgt := 331) rfl ?_
                  refine a_iinc (pc := 331) (dk dt_X12_goes 185 rfl) (by decide) rfl rfl rfl ?_
                  refine a_goto (pc := 334) (dk dt_X12_goes 186 rfl) (tgt := 42) rfl ?_
                  exact a_pick [0, 1, 2] rfl H
                have B1 : ((h2 103 (w32 ((w32 (30 * x1)) + (h 116 x1)))) = 3) → AT G m_X12_goes 245 [(0, rv 85), (1, iv x1), (2, iv x2), (3, iv (w32 ((w32 (30 * x1)) + (h 116 x1)))), (4, iv (h 116 x1)), (5, iv r1)] [] h2 Φ := by
                  intro c
                  replace H := H.2.1 c
                  refine a_iload (pc := 245) (dk dt_X12_goes 134 rfl) rfl ?_
                  refine a_if_ne (pc := 247) (dk dt_X12_goes 135 rfl) (tgt := 251) rfl ⟨fun c => ?_, fun c => ?_⟩
                  · replace H := H.1 c
                    refine a_aload_n (pc := 251) (dk dt_X12_goes 137 rfl) rfl ?_
                    refine a_getr (r := 115) (pc := 252) (dk dt_X12_goes 138 rfl) cls_12 fl_RX12_177 cf_85_49 ?_
                    refine a_iload_n (pc := 255) (dk dt_X12_goes 139 rfl) rfl ?_
                    refine a_iload (pc := 256) (dk dt_X12_goes 140 rfl) rfl ?_
                    refine a_iconst (pc := 258) (dk dt_X12_goes 141 rfl) (ik rfl) ?_
                    refine a_iadd (pc := 259) (dk dt_X12_goes 142 rfl) ?_
                    refine a_iast (pc := 260) (dk dt_X12_goes 143 rfl) ar_116 ⟨H.1, ?_⟩
                    replace H := H.2
                    refine a_goto (pc := 261) (dk dt_X12_goes 144 rfl) (tgt := 331) rfl ?_
                    refine a_iinc (pc := 331) (dk dt_X12_goes 185 rfl) (by decide) rfl rfl rfl ?_
                    refine a_goto (pc := 334) (dk dt_X12_goes 186 rfl) (tgt := 42) rfl ?_
                    exact a_pick [0, 1, 2] rfl H
                  · replace H := H.2 c
                    exact a_vret (pc := 250) (dk dt_X12_goes 136 rfl) rfl rfl H
                have B2 : ((h2 103 (w32 ((w32 (30 * x1)) + (h 116 x1)))) = 4) → AT G m_X12_goes 264 [(0, rv 85), (1, iv x1), (2, iv x2), (3, iv (w32 ((w32 (30 * x1)) + (h 116 x1)))), (4, iv (h 116 x1)), (5, iv r1)] [] h2 Φ := by
                  intro c
                  replace H := H.2.2.1 c
                  refine a_aload_n (pc := 264) (dk dt_X12_goes 145 rfl) rfl ?_
                  refine a_getr (r := 115) (pc := 265) (dk dt_X12_goes 146 rfl) cls_12 fl_RX12_177 cf_85_49 ?_
                  refine a_iload_n (pc := 268) (dk dt_X12_goes 147 rfl) rfl ?_
                  refine a_iload (pc := 269) (dk dt_X12_goes 148 rfl) rfl ?_
                  refine a_if_eq (pc := 271) (dk dt_X12_goes 149 rfl) (tgt := 283) rfl ⟨fun c => ?_, fun c => ?_⟩
                  · replace H := H.1 c
                    refine a_iload (pc := 283) (dk dt_X12_goes 155 rfl) rfl ?_
                    refine a_iconst (pc := 285) (dk dt_X12_goes 156 rfl) (ik rfl) ?_
                    refine a_iadd (pc := 286) (dk dt_X12_goes 157 rfl) ?_
                    refine a_iast (pc := 287) (dk dt_X12_goes 158 rfl) ar_116 ⟨H.1, ?_⟩
                    replace H := H.2
                    refine a_goto (pc := 288) (dk dt_X12_goes 159 rfl) (tgt := 331) rfl ?_
                    refine a_iinc (pc := 331) (dk dt_X12_goes 185 rfl) (by decide) rfl rfl rfl ?_
                    refine a_goto (pc := 334) (dk dt_X12_goes 186 rfl) (tgt := 42) rfl ?_
                    exact a_pick [0, 1, 2] rfl H
                  · replace H := H.2 c
                    refine a_aload_n (pc := 274) (dk dt_X12_goes 150 rfl) rfl ?_
                    refine a_getr (r := 104) (pc := 275) (dk dt_X12_goes 151 rfl) cls_12 fl_RX12_144 cf_85_38 ?_
                    refine a_iload_n (pc := 278) (dk dt_X12_goes 152 rfl) rfl ?_
                    refine a_iald (pc := 279) (dk dt_X12_goes 153 rfl) ar_105 ⟨H.1, ?_⟩
                    replace H := H.2
                    refine a_goto (pc := 280) (dk dt_X12_goes 154 rfl) (tgt := 287) rfl ?_
                    refine a_iast (pc := 287) (dk dt_X12_goes 158 rfl) ar_116 ⟨H.1, ?_⟩
                    replace H := H.2
                    refine a_goto (pc := 288) (dk dt_X12_goes 159 rfl) (tgt := 331) rfl ?_
                    refine a_iinc (pc := 331) (dk dt_X12_goes 185 rfl) (by decide) rfl rfl rfl ?_
                    refine a_goto (pc := 334) (dk dt_X12_goes 186 rfl) (tgt := 42) rfl ?_
                    exact a_pick [0, 1, 2] rfl H
                have B3 : ((h2 103 (w32 ((w32 (30 * x1)) + (h 116 x1)))) = 5) → AT G m_X12_goes 291 [(0, rv 85), (1, iv x1), (2, iv x2), (3, iv (w32 ((w32 (30 * x1)) + (h 116 x1)))), (4, iv (h 116 x1)), (5, iv r1)] [] h2 Φ := by
                  intro c
                  replace H := H.2.2.2.1 c
                  refine a_aload_n (pc := 291) (dk dt_X12_goes 160 rfl) rfl ?_
                  refine a_getr (r := 115) (pc := 292) (dk dt_X12_goes 161 rfl) cls_12 fl_RX12_177 cf_85_49 ?_
                  refine a_iload_n (pc := 295) (dk dt_X12_goes 162 rfl) rfl ?_
                  refine a_aload_n (pc := 296) (dk dt_X12_goes 163 rfl) rfl ?_
                  refine a_getr (r := 104) (pc := 297) (dk dt_X12_goes 164 rfl) cls_12 fl_RX12_144 cf_85_38 ?_
                  refine a_iload_n (pc := 300) (dk dt_X12_goes 165 rfl) rfl ?_
                  refine a_iald (pc := 301) (dk dt_X12_goes 166 rfl) ar_105 ⟨H.1, ?_⟩
                  replace H := H.2
                  refine a_iast (pc := 302) (dk dt_X12_goes 167 rfl) ar_116 ⟨H.1, ?_⟩
                  replace H := H.2
                  refine a_goto (pc := 303) (dk dt_X12_goes 168 rfl) (tgt := 331) rfl ?_
                  refine a_iinc (pc := 331) (dk dt_X12_goes 185 rfl) (by decide) rfl rfl rfl ?_
                  refine a_goto (pc := 334) (dk dt_X12_goes 186 rfl) (tgt := 42) rfl ?_
                  exact a_pick [0, 1, 2] rfl H
                have BD : (((h2 103 (w32 ((w32 (30 * x1)) + (h 116 x1)))) < 2 ∨ 5 < (h2 103 (w32 ((w32 (30 * x1)) + (h 116 x1)))))) → AT G m_X12_goes 306 [(0, rv 85), (1, iv x1), (2, iv x2), (3, iv (w32 ((w32 (30 * x1)) + (h 116 x1)))), (4, iv (h 116 x1)), (5, iv r1)] [] h2 Φ := by
                  intro c
                  replace H := H.2.2.2.2 c
                  refine a_aload_n (pc := 306) (dk dt_X12_goes 169 rfl) rfl ?_
                  refine a_getr (r := 115) (pc := 307) (dk dt_X12_goes 170 rfl) cls_12 fl_RX12_177 cf_85_49 ?_
                  refine a_iload_n (pc := 310) (dk dt_X12_goes 171 rfl) rfl ?_
                  refine a_iload (pc := 311) (dk dt_X12_goes 172 rfl) rfl ?_
                  refine a_iconst (pc := 313) (dk dt_X12_goes 173 rfl) (ik rfl) ?_
                  refine a_iadd (pc := 314) (dk dt_X12_goes 174 rfl) ?_
                  refine a_iast (pc := 315) (dk dt_X12_goes 175 rfl) ar_116 ⟨H.1, ?_⟩
                  replace H := H.2
                  refine a_aload_n (pc := 316) (dk dt_X12_goes 176 rfl) rfl ?_
                  refine a_iload_n (pc := 317) (dk dt_X12_goes 177 rfl) rfl ?_
                  refine a_callVi (as := [iv (w32 ((w32 (30 * x1)) + (h 116 x1)))]) (st := []) (pc := 318) (dk dt_X12_goes 178 rfl) cl_RX12_492 ⟨Nat.le_of_ble_eq_true rfl, Nat.le_of_ble_eq_true rfl⟩ ⟨Nat.le_of_ble_eq_true rfl, Nat.le_of_ble_eq_true rfl⟩ cls_12 rfl cc_85 rfl rfl rfl (Nat.le_of_ble_eq_true rfl) (Call.mono H fun r3 h4 H => ?_)
                  refine a_if_ne (pc := 321) (dk dt_X12_goes 179 rfl) (tgt := 331) rfl ⟨fun c => ?_, fun c => ?_⟩
                  · replace H := H.1 c
                    refine a_iinc (pc := 331) (dk dt_X12_goes 185 rfl) (by decide) rfl rfl rfl ?_
                    refine a_goto (pc := 334) (dk dt_X12_goes 186 rfl) (tgt := 42) rfl ?_
                    exact a_pick [0, 1, 2] rfl H
                  · replace H := H.2 c
                    refine a_aload_n (pc := 324) (dk dt_X12_goes 180 rfl) rfl ?_
                    refine a_getr (r := 115) (pc := 325) (dk dt_X12_goes 181 rfl) cls_12 fl_RX12_177 cf_85_49 ?_
                    refine a_iload_n (pc := 328) (dk dt_X12_goes 182 rfl) rfl ?_
                    refine a_iconst (pc := 329) (dk dt_X12_goes 183 rfl) (ik rfl) ?_
                    refine a_iast (pc := 330) (dk dt_X12_goes 184 rfl) ar_116 ⟨H.1, ?_⟩
                    replace H := H.2
                    refine a_iinc (pc := 331) (dk dt_X12_goes 185 rfl) (by decide) rfl rfl rfl ?_
                    refine a_goto (pc := 334) (dk dt_X12_goes 186 rfl) (tgt := 42) rfl ?_
                    exact a_pick [0, 1, 2] rfl H
                exact a_tsw [220, 245, 264, 291] (pc := 191) (dk dt_X12_goes 117 rfl) (by decide) (dt := 306) rfl (by decide) ⟨⟨fun c => B0 (c), fun c => B1 (c), fun c => B2 (c), fun c => B3 (c), trivial⟩, fun c => BD (c)⟩
              · replace H := H.2 c
                refine a_aload_n (pc := 165) (dk dt_X12_goes 101 rfl) rfl ?_
                refine a_dup (pc := 166) (dk dt_X12_goes 102 rfl) rfl ?_
                refine a_geti (pc := 167) (dk dt_X12_goes 103 rfl) cls_12 fl_RX12_426 cf_85_22 ?_
                refine a_iconst (pc := 170) (dk dt_X12_goes 104 rfl) (ik rfl) ?_
                refine a_iadd (pc := 171) (dk dt_X12_goes 105 rfl) ?_
                refine a_puti (pc := 172) (dk dt_X12_goes 106 rfl) cls_12 fl_RX12_426 cf_85_22 rfl rfl ?_
                refine a_aload_n (pc := 175) (dk dt_X12_goes 107 rfl) rfl ?_
                refine a_getr (r := 115) (pc := 176) (dk dt_X12_goes 108 rfl) cls_12 fl_RX12_177 cf_85_49 ?_
                refine a_iload_n (pc := 179) (dk dt_X12_goes 109 rfl) rfl ?_
                refine a_iconst (pc := 180) (dk dt_X12_goes 110 rfl) (ik rfl) ?_
                refine a_iast (pc := 181) (dk dt_X12_goes 111 rfl) ar_116 ⟨H.1, ?_⟩
                replace H := H.2
                refine a_goto (pc := 182) (dk dt_X12_goes 112 rfl) (tgt := 331) rfl ?_
                refine a_iinc (pc := 331) (dk dt_X12_goes 185 rfl) (by decide) rfl rfl rfl ?_
                refine a_goto (pc := 334) (dk dt_X12_goes 186 rfl) (tgt := 42) rfl ?_
                exact a_pick [0, 1, 2] rfl H
            · replace H := H.2 c
              refine a_aload_n (pc := 141) (dk dt_X12_goes 88 rfl) rfl ?_
              refine a_getr (r := 102) (pc := 142) (dk dt_X12_goes 89 rfl) cls_12 fl_RX12_138 cf_85_36 ?_
              refine a_iload_n (pc := 145) (dk dt_X12_goes 90 rfl) rfl ?_
              refine a_iald (pc := 146) (dk dt_X12_goes 91 rfl) ar_103 ⟨H.1, ?_⟩
              replace H := H.2
              refine a_top (y := (h 103 (w32 ((w32 (30 * x1)) + (h 116 x1))))) (by simp [up, cpy]) ?_
              refine a_iconst (pc := 147) (dk dt_X12_goes 92 rfl) (ik rfl) ?_
              refine a_icmp_ne (pc := 148) (dk dt_X12_goes 93 rfl) (tgt := 185) rfl ⟨fun c => ?_, fun c => ?_⟩
              · replace H := H.1 c
                refine a_aload_n (pc := 185) (dk dt_X12_goes 113 rfl) rfl ?_
                refine a_getr (r := 102) (pc := 186) (dk dt_X12_goes 114 rfl) cls_12 fl_RX12_138 cf_85_36 ?_
                refine a_iload_n (pc := 189) (dk dt_X12_goes 115 rfl) rfl ?_
                refine a_iald (pc := 190) (dk dt_X12_goes 116 rfl) ar_103 ⟨H.1, ?_⟩
                replace H := H.2
                refine a_top (y := (h 103 (w32 ((w32 (30 * x1)) + (h 116 x1))))) (by simp [up, cpy]) ?_
                have B0 : ((h 103 (w32 ((w32 (30 * x1)) + (h 116 x1)))) = 2) → AT G m_X12_goes 220 [(0, rv 85), (1, iv x1), (2, iv x2), (3, iv (w32 ((w32 (30 * x1)) + (h 116 x1)))), (4, iv (h 116 x1)), (5, iv 0)] [] (up h 85 57 0) Φ := by
                  intro c
                  replace H := H.1 c
                  refine a_aload_n (pc := 220) (dk dt_X12_goes 118 rfl) rfl ?_
                  refine a_getr (r := 115) (pc := 221) (dk dt_X12_goes 119 rfl) cls_12 fl_RX12_177 cf_85_49 ?_
                  refine a_iload_n (pc := 224) (dk dt_X12_goes 120 rfl) rfl ?_
                  refine a_iload (pc := 225) (dk dt_X12_goes 121 rfl) rfl ?_
                  refine a_iconst (pc := 227) (dk dt_X12_goes 122 rfl) (ik rfl) ?_
                  refine a_iadd (pc := 228) (dk dt_X12_goes 123 rfl) ?_
                  refine a_iast (pc := 229) (dk dt_X12_goes 124 rfl) ar_116 ⟨H.1, ?_⟩
                  replace H := H.2
                  refine a_aload_n (pc := 230) (dk dt_X12_goes 125 rfl) rfl ?_
                  refine a_getr (r := 116) (pc := 231) (dk dt_X12_goes 126 rfl) cls_12 fl_RX12_180 cf_85_50 ?_
                  refine a_iload_n (pc := 234) (dk dt_X12_goes 127 rfl) rfl ?_
                  refine a_aload_n (pc := 235) (dk dt_X12_goes 128 rfl) rfl ?_
                  refine a_getr (r := 104) (pc := 236) (dk dt_X12_goes 129 rfl) cls_12 fl_RX12_144 cf_85_38 ?_
                  refine a_iload_n (pc := 239) (dk dt_X12_goes 130 rfl) rfl ?_
                  refine a_iald (pc := 240) (dk dt_X12_goes 131 rfl) ar_105 ⟨H.1, ?_⟩
                  replace H := H.2
                  refine a_top (y := (h 105 (w32 ((w32 (30 * x1)) + (h 116 x1))))) (by simp [up, cpy]) ?_
                  refine a_iast (pc := 241) (dk dt_X12_goes 132 rfl) ar_117 ⟨H.1, ?_⟩
                  replace H := H.2
                  refine a_goto (pc := 242) (dk dt_X12_goes 133 rfl) (tgt := 331) rfl ?_
                  refine a_iinc (pc := 331) (dk dt_X12_goes 185 rfl) (by decide) rfl rfl rfl ?_
                  refine a_goto (pc := 334) (dk dt_X12_goes 186 rfl) (tgt := 42) rfl ?_
                  exact a_pick [0, 1, 2] rfl H
                have B1 : ((h 103 (w32 ((w32 (30 * x1)) + (h 116 x1)))) = 3) → AT G m_X12_goes 245 [(0, rv 85), (1, iv x1), (2, iv x2), (3, iv (w32 ((w32 (30 * x1)) + (h 116 x1)))), (4, iv (h 116 x1)), (5, iv 0)] [] (up h 85 57 0) Φ := by
                  intro c
                  replace H := H.2.1 c
                  refine a_iload (pc := 245) (dk dt_X12_goes 134 rfl) rfl ?_
                  refine a_if_ne (pc := 247) (dk dt_X12_goes 135 rfl) (tgt := 251) rfl ⟨fun c => absurd c (by decide), fun _ => ?_⟩
                  exact a_vret (pc := 250) (dk dt_X12_goes 136 rfl) rfl rfl H
                have B2 : ((h 103 (w32 ((w32 (30 * x1)) + (h 116 x1)))) = 4) → AT G m_X12_goes 264 [(0, rv 85), (1, iv x1), (2, iv x2), (3, iv (w32 ((w32 (30 * x1)) + (h 116 x1)))), (4, iv (h 116 x1)), (5, iv 0)] [] (up h 85 57 0) Φ := by
                  intro c
                  replace H := H.2.2.1 c
                  refine a_aload_n (pc := 264) (dk dt_X12_goes 145 rfl) rfl ?_
                  refine a_getr (r := 115) (pc := 265) (dk dt_X12_goes 146 rfl) cls_12 fl_RX12_177 cf_85_49 ?_
                  refine a_iload_n (pc := 268) (dk dt_X12_goes 147 rfl) rfl ?_
                  refine a_iload (pc := 269) (dk dt_X12_goes 148 rfl) rfl ?_
                  refine a_if_eq (pc := 271) (dk dt_X12_goes 149 rfl) (tgt := 283) rfl ⟨fun _ => ?_, fun c => absurd c (by decide)⟩
                  refine a_iload (pc := 283) (dk dt_X12_goes 155 rfl) rfl ?_
                  refine a_iconst (pc := 285) (dk dt_X12_goes 156 rfl) (ik rfl) ?_
                  refine a_iadd (pc := 286) (dk dt_X12_goes 157 rfl) ?_
                  refine a_iast (pc := 287) (dk dt_X12_goes 158 rfl) ar_116 ⟨H.1, ?_⟩
                  replace H := H.2
                  refine a_goto (pc := 288) (dk dt_X12_goes 159 rfl) (tgt := 331) rfl ?_
                  refine a_iinc (pc := 331) (dk dt_X12_goes 185 rfl) (by decide) rfl rfl rfl ?_
                  refine a_goto (pc := 334) (dk dt_X12_goes 186 rfl) (tgt := 42) rfl ?_
                  exact a_pick [0, 1, 2] rfl H
                have B3 : ((h 103 (w32 ((w32 (30 * x1)) + (h 116 x1)))) = 5) → AT G m_X12_goes 291 [(0, rv 85), (1, iv x1), (2, iv x2), (3, iv (w32 ((w32 (30 * x1)) + (h 116 x1)))), (4, iv (h 116 x1)), (5, iv 0)] [] (up h 85 57 0) Φ := by
                  intro c
                  replace H := H.2.2.2.1 c
                  refine a_aload_n (pc := 291) (dk dt_X12_goes 160 rfl) rfl ?_
                  refine a_getr (r := 115) (pc := 292) (dk dt_X12_goes 161 rfl) cls_12 fl_RX12_177 cf_85_49 ?_
                  refine a_iload_n (pc := 295) (dk dt_X12_goes 162 rfl) rfl ?_
                  refine a_aload_n (pc := 296) (dk dt_X12_goes 163 rfl) rfl ?_
                  refine a_getr (r := 104) (pc := 297) (dk dt_X12_goes 164 rfl) cls_12 fl_RX12_144 cf_85_38 ?_
                  refine a_iload_n (pc := 300) (dk dt_X12_goes 165 rfl) rfl ?_
                  refine a_iald (pc := 301) (dk dt_X12_goes 166 rfl) ar_105 ⟨H.1, ?_⟩
                  replace H := H.2
                  refine a_top (y := (h 105 (w32 ((w32 (30 * x1)) + (h 116 x1))))) (by simp [up, cpy]) ?_
                  refine a_iast (pc := 302) (dk dt_X12_goes 167 rfl) ar_116 ⟨H.1, ?_⟩
                  replace H := H.2
                  refine a_goto (pc := 303) (dk dt_X12_goes 168 rfl) (tgt := 331) rfl ?_
                  refine a_iinc (pc := 331) (dk dt_X12_goes 185 rfl) (by decide) rfl rfl rfl ?_
                  refine a_goto (pc := 334) (dk dt_X12_goes 186 rfl) (tgt := 42) rfl ?_
                  exact a_pick [0, 1, 2] rfl H
                have BD : (((h 103 (w32 ((w32 (30 * x1)) + (h 116 x1)))) < 2 ∨ 5 < (h 103 (w32 ((w32 (30 * x1)) + (h 116 x1)))))) → AT G m_X12_goes 306 [(0, rv 85), (1, iv x1), (2, iv x2), (3, iv (w32 ((w32 (30 * x1)) + (h 116 x1)))), (4, iv (h 116 x1)), (5, iv 0)] [] (up h 85 57 0) Φ := by
                  intro c
                  replace H := H.2.2.2.2 c
                  refine a_aload_n (pc := 306) (dk dt_X12_goes 169 rfl) rfl ?_
                  refine a_getr (r := 115) (pc := 307) (dk dt_X12_goes 170 rfl) cls_12 fl_RX12_177 cf_85_49 ?_
                  refine a_iload_n (pc := 310) (dk dt_X12_goes 171 rfl) rfl ?_
                  refine a_iload (pc := 311) (dk dt_X12_goes 172 rfl) rfl ?_
                  refine a_iconst (pc := 313) (dk dt_X12_goes 173 rfl) (ik rfl) ?_
                  refine a_iadd (pc := 314) (dk dt_X12_goes 174 rfl) ?_
                  refine a_iast (pc := 315) (dk dt_X12_goes 175 rfl) ar_116 ⟨H.1, ?_⟩
                  replace H := H.2
                  refine a_aload_n (pc := 316) (dk dt_X12_goes 176 rfl) rfl ?_
                  refine a_iload_n (pc := 317) (dk dt_X12_goes 177 rfl) rfl ?_
                  refine a_callVi (as := [iv (w32 ((w32 (30 * x1)) + (h 116 x1)))]) (st := []) (pc := 318) (dk dt_X12_goes 178 rfl) cl_RX12_492 ⟨Nat.le_of_ble_eq_true rfl, Nat.le_of_ble_eq_true rfl⟩ ⟨Nat.le_of_ble_eq_true rfl, Nat.le_of_ble_eq_true rfl⟩ cls_12 rfl cc_85 rfl rfl rfl (Nat.le_of_ble_eq_true rfl) (Call.mono H fun r5 h6 H => ?_)
                  refine a_if_ne (pc := 321) (dk dt_X12_goes 179 rfl) (tgt := 331) rfl ⟨fun c => ?_, fun c => ?_⟩
                  · replace H := H.1 c
                    refine a_iinc (pc := 331) (dk dt_X12_goes 185 rfl) (by decide) rfl rfl rfl ?_
                    refine a_goto (pc := 334) (dk dt_X12_goes 186 rfl) (tgt := 42) rfl ?_
                    exact a_pick [0, 1, 2] rfl H
                  · replace H := H.2 c
                    refine a_aload_n (pc := 324) (dk dt_X12_goes 180 rfl) rfl ?_
                    refine a_getr (r := 115) (pc := 325) (dk dt_X12_goes 181 rfl) cls_12 fl_RX12_177 cf_85_49 ?_
                    refine a_iload_n (pc := 328) (dk dt_X12_goes 182 rfl) rfl ?_
                    refine a_iconst (pc := 329) (dk dt_X12_goes 183 rfl) (ik rfl) ?_
                    refine a_iast (pc := 330) (dk dt_X12_goes 184 rfl) ar_116 ⟨H.1, ?_⟩
                    replace H := H.2
                    refine a_iinc (pc := 331) (dk dt_X12_goes 185 rfl) (by decide) rfl rfl rfl ?_
                    refine a_goto (pc := 334) (dk dt_X12_goes 186 rfl) (tgt := 42) rfl ?_
                    exact a_pick [0, 1, 2] rfl H
                exact a_tsw [220, 245, 264, 291] (pc := 191) (dk dt_X12_goes 117 rfl) (by decide) (dt := 306) rfl (by decide) ⟨⟨fun c => B0 (c), fun c => B1 (c), fun c => B2 (c), fun c => B3 (c), trivial⟩, fun c => BD (c)⟩
              · replace H := H.2 c
                refine a_aload_n (pc := 151) (dk dt_X12_goes 94 rfl) rfl ?_
                refine a_iload_n (pc := 152) (dk dt_X12_goes 95 rfl) rfl ?_
                refine a_callVi (as := [iv (w32 ((w32 (30 * x1)) + (h 116 x1)))]) (st := []) (pc := 153) (dk dt_X12_goes 96 rfl) cl_RX12_489 ⟨Nat.le_of_ble_eq_true rfl, Nat.le_of_ble_eq_true rfl⟩ ⟨Nat.le_of_ble_eq_true rfl, Nat.le_of_ble_eq_true rfl⟩ cls_12 rfl cc_85 rfl rfl rfl (Nat.le_of_ble_eq_true rfl) (Call.mono H fun r7 h8 H => ?_)
                refine a_istore (pc := 156) (dk dt_X12_goes 97 rfl) (by decide) rfl rfl ?_
                refine a_aload_n (pc := 158) (dk dt_X12_goes 98 rfl) rfl ?_
                refine a_geti (pc := 159) (dk dt_X12_goes 99 rfl) cls_12 fl_RX12_474 cf_85_57 ?_
                refine a_if_eq (pc := 162) (dk dt_X12_goes 100 rfl) (tgt := 185) rfl ⟨fun c => ?_, fun c => ?_⟩
                · replace H := H.1 c
                  refine a_aload_n (pc := 185) (dk dt_X12_goes 113 rfl) rfl ?_
                  refine a_getr (r := 102) (pc := 186) (dk dt_X12_goes 114 rfl) cls_12 fl_RX12_138 cf_85_36 ?_
                  refine a_iload_n (pc := 189) (dk dt_X12_goes 115 rfl) rfl ?_
                  refine a_iald (pc := 190) (dk dt_X12_goes 116 rfl) ar_103 ⟨H.1, ?_⟩
                  replace H := H.2
                  have B0 : ((h8 103 (w32 ((w32 (30 * x1)) + (h 116 x1)))) = 2) → AT G m_X12_goes 220 [(0, rv 85), (1, iv x1), (2, iv x2), (3, iv (w32 ((w32 (30 * x1)) + (h 116 x1)))), (4, iv (h 116 x1)), (5, iv r7)] [] h8 Φ := by
                    intro c
                    replace H := H.1 c
                    refine a_aload_n (pc := 220) (dk dt_X12_goes 118 rfl) rfl ?_
                    refine a_getr (r := 115) (pc := 221) (dk dt_X12_goes 119 rfl) cls_12 fl_RX12_177 cf_85_49 ?_
                    refine a_iload_n (pc := 224) (dk dt_X12_goes 120 rfl) rfl ?_
                    refine a_iload (pc := 225) (dk dt_X12_goes 121 rfl) rfl ?_
                    refine a_iconst (pc := 227) (dk dt_X12_goes 122 rfl) (ik rfl) ?_
                    refine a_iadd (pc := 228) (dk dt_X12_goes 123 rfl) ?_
                    refine a_iast (pc := 229) (dk dt_X12_goes 124 rfl) ar_116 ⟨H.1, ?_⟩
                    replace H := H.2
                    refine a_aload_n (pc := 230) (dk dt_X12_goes 125 rfl) rfl ?_
                    refine a_getr (r := 116) (pc := 231) (dk dt_X12_goes 126 rfl) cls_12 fl_RX12_180 cf_85_50 ?_
                    refine a_iload_n (pc := 234) (dk dt_X12_goes 127 rfl) rfl ?_
                    refine a_aload_n (pc := 235) (dk dt_X12_goes 128 rfl) rfl ?_
                    refine a_getr (r := 104) (pc := 236) (dk dt_X12_goes 129 rfl) cls_12 fl_RX12_144 cf_85_38 ?_
                    refine a_iload_n (pc := 239) (dk dt_X12_goes 130 rfl) rfl ?_
                    refine a_iald (pc := 240) (dk dt_X12_goes 131 rfl) ar_105 ⟨H.1, ?_⟩
                    replace H := H.2
                    refine a_top (y := (h8 105 (w32 ((w32 (30 * x1)) + (h 116 x1))))) (by simp [up, cpy]) ?_
                    refine a_iast (pc := 241) (dk dt_X12_goes 132 rfl) ar_117 ⟨H.1, ?_⟩
                    replace H := H.2
                    refine a_goto (pc := 242) (dk dt_X12_goes 133 rfl) (tgt := 331) rfl ?_
                    refine a_iinc (pc := 331) (dk dt_X12_goes 185 rfl) (by decide) rfl rfl rfl ?_
                    refine a_goto (pc := 334) (dk dt_X12_goes 186 rfl) (tgt := 42) rfl ?_
                    exact a_pick [0, 1, 2] rfl H
                  have B1 : ((h8 103 (w32 ((w32 (30 * x1)) + (h 116 x1)))) = 3) → AT G m_X12_goes 245 [(0, rv 85), (1, iv x1), (2, iv x2), (3, iv (w32 ((w32 (30 * x1)) + (h 116 x1)))), (4, iv (h 116 x1)), (5, iv r7)] [] h8 Φ := by
                    intro c
                    replace H := H.2.1 c
                    refine a_iload (pc := 245) (dk dt_X12_goes 134 rfl) rfl ?_
                    refine a_if_ne (pc := 247) (dk dt_X12_goes 135 rfl) (tgt := 251) rfl ⟨fun c => ?_, fun c => ?_⟩
                    · replace H := H.1 c
                      refine a_aload_n (pc := 251) (dk dt_X12_goes 137 rfl) rfl ?_
                      refine a_getr (r := 115) (pc := 252) (dk dt_X12_goes 138 rfl) cls_12 fl_RX12_177 cf_85_49 ?_
                      refine a_iload_n (pc := 255) (dk dt_X12_goes 139 rfl) rfl ?_
                      refine a_iload (pc := 256) (dk dt_X12_goes 140 rfl) rfl ?_
                      refine a_iconst (pc := 258) (dk dt_X12_goes 141 rfl) (ik rfl) ?_
                      refine a_iadd (pc := 259) (dk dt_X12_goes 142 rfl) ?_
                      refine a_iast (pc := 260) (dk dt_X12_goes 143 rfl) ar_116 ⟨H.1, ?_⟩
                      replace H := H.2
                      refine a_goto (pc := 261) (dk dt_X12_goes 144 rfl) (tgt := 331) rfl ?_
                      refine a_iinc (pc := 331) (dk dt_X12_goes 185 rfl) (by decide) rfl rfl rfl ?_
                      refine a_goto (pc := 334) (dk dt_X12_goes 186 rfl) (tgt := 42) rfl ?_
                      exact a_pick [0, 1, 2] rfl H
                    · replace H := H.2 c
                      exact a_vret (pc := 250) (dk dt_X12_goes 136 rfl) rfl rfl H
                  have B2 : ((h8 103 (w32 ((w32 (30 * x1)) + (h 116 x1)))) = 4) → AT G m_X12_goes 264 [(0, rv 85), (1, iv x1), (2, iv x2), (3, iv (w32 ((w32 (30 * x1)) + (h 116 x1)))), (4, iv (h 116 x1)), (5, iv r7)] [] h8 Φ := by
                    intro c
                    replace H := H.2.2.1 c
                    refine a_aload_n (pc := 264) (dk dt_X12_goes 145 rfl) rfl ?_
                    refine a_getr (r := 115) (pc := 265) (dk dt_X12_goes 146 rfl) cls_12 fl_RX12_177 cf_85_49 ?_
                    refine a_iload_n (pc := 268) (dk dt_X12_goes 147 rfl) rfl ?_
                    refine a_iload (pc := 269) (dk dt_X12_goes 148 rfl) rfl ?_
                    refine a_if_eq (pc := 271) (dk dt_X12_goes 149 rfl) (tgt := 283) rfl ⟨fun c => ?_, fun c => ?_⟩
                    · replace H := H.1 c
                      refine a_iload (pc := 283) (dk dt_X12_goes 155 rfl) rfl ?_
                      refine a_iconst (pc := 285) (dk dt_X12_goes 156 rfl) (ik rfl) ?_
                      refine a_iadd (pc := 286) (dk dt_X12_goes 157 rfl) ?_
                      refine a_iast (pc := 287) (dk dt_X12_goes 158 rfl) ar_116 ⟨H.1, ?_⟩
                      replace H := H.2
                      refine a_goto (pc := 288) (dk dt_X12_goes 159 rfl) (tgt := 331) rfl ?_
                      refine a_iinc (pc := 331) (dk dt_X12_goes 185 rfl) (by decide) rfl rfl rfl ?_
                      refine a_goto (pc := 334) (dk dt_X12_goes 186 rfl) (tgt := 42) rfl ?_
                      exact a_pick [0, 1, 2] rfl H
                    · replace H := H.2 c
                      refine a_aload_n (pc := 274) (dk dt_X12_goes 150 rfl) rfl ?_
                      refine a_getr (r := 104) (pc := 275) (dk dt_X12_goes 151 rfl) cls_12 fl_RX12_144 cf_85_38 ?_
                      refine a_iload_n (pc := 278) (dk dt_X12_goes 152 rfl) rfl ?_
                      refine a_iald (pc := 279) (dk dt_X12_goes 153 rfl) ar_105 ⟨H.1, ?_⟩
                      replace H := H.2
                      refine a_goto (pc := 280) (dk dt_X12_goes 154 rfl) (tgt := 287) rfl ?_
                      refine a_iast (pc := 287) (dk dt_X12_goes 158 rfl) ar_116 ⟨H.1, ?_⟩
                      replace H := H.2
                      refine a_goto (pc := 288) (dk dt_X12_goes 159 rfl) (tgt := 331) rfl ?_
                      refine a_iinc (pc := 331) (dk dt_X12_goes 185 rfl) (by decide) rfl rfl rfl ?_
                      refine a_goto (pc := 334) (dk dt_X12_goes 186 rfl) (tgt := 42) rfl ?_
                      exact a_pick [0, 1, 2] rfl H
                  have B3 : ((h8 103 (w32 ((w32 (30 * x1)) + (h 116 x1)))) = 5) → AT G m_X12_goes 291 [(0, rv 85), (1, iv x1), (2, iv x2), (3, iv (w32 ((w32 (30 * x1)) + (h 116 x1)))), (4, iv (h 116 x1)), (5, iv r7)] [] h8 Φ := by
                    intro c
                    replace H := H.2.2.2.1 c
                    refine a_aload_n (pc := 291) (dk dt_X12_goes 160 rfl) rfl ?_
                    refine a_getr (r := 115) (pc := 292) (dk dt_X12_goes 161 rfl) cls_12 fl_RX12_177 cf_85_49 ?_
                    refine a_iload_n (pc := 295) (dk dt_X12_goes 162 rfl) rfl ?_
                    refine a_aload_n (pc := 296) (dk dt_X12_goes 163 rfl) rfl ?_
                    refine a_getr (r := 104) (pc := 297) (dk dt_X12_goes 164 rfl) cls_12 fl_RX12_144 cf_85_38 ?_
                    refine a_iload_n (pc := 300) (dk dt_X12_goes 165 rfl) rfl ?_
                    refine a_iald (pc := 301) (dk dt_X12_goes 166 rfl) ar_105 ⟨H.1, ?_⟩
                    replace H := H.2
                    refine a_iast (pc := 302) (dk dt_X12_goes 167 rfl) ar_116 ⟨H.1, ?_⟩
                    replace H := H.2
                    refine a_goto (pc := 303) (dk dt_X12_goes 168 rfl) (tgt := 331) rfl ?_
                    refine a_iinc (pc := 331) (dk dt_X12_goes 185 rfl) (by decide) rfl rfl rfl ?_
                    refine a_goto (pc := 334) (dk dt_X12_goes 186 rfl) (tgt := 42) rfl ?_
                    exact a_pick [0, 1, 2] rfl H
                  have BD : (((h8 103 (w32 ((w32 (30 * x1)) + (h 116 x1)))) < 2 ∨ 5 < (h8 103 (w32 ((w32 (30 * x1)) + (h 116 x1)))))) → AT G m_X12_goes 306 [(0, rv 85), (1, iv x1), (2, iv x2), (3, iv (w32 ((w32 (30 * x1)) + (h 116 x1)))), (4, iv (h 116 x1)), (5, iv r7)] [] h8 Φ := by
                    intro c
                    replace H := H.2.2.2.2 c
                    refine a_aload_n (pc := 306) (dk dt_X12_goes 169 rfl) rfl ?_
                    refine a_getr (r := 115) (pc := 307) (dk dt_X12_goes 170 rfl) cls_12 fl_RX12_177 cf_85_49 ?_
                    refine a_iload_n (pc := 310) (dk dt_X12_goes 171 rfl) rfl ?_
                    refine a_iload (pc := 311) (dk dt_X12_goes 172 rfl) rfl ?_
                    refine a_iconst (pc := 313) (dk dt_X12_goes 173 rfl) (ik rfl) ?_
                    refine a_iadd (pc := 314) (dk dt_X12_goes 174 rfl) ?_
                    refine a_iast (pc := 315) (dk dt_X12_goes 175 rfl) ar_116 ⟨H.1, ?_⟩
                    replace H := H.2
                    refine a_aload_n (pc := 316) (dk dt_X12_goes 176 rfl) rfl ?_
                    refine a_iload_n (pc := 317) (dk dt_X12_goes 177 rfl) rfl ?_
                    refine a_callVi (as := [iv (w32 ((w32 (30 * x1)) + (h 116 x1)))]) (st := []) (pc := 318) (dk dt_X12_goes 178 rfl) cl_RX12_492 ⟨Nat.le_of_ble_eq_true rfl, Nat.le_of_ble_eq_true rfl⟩ ⟨Nat.le_of_ble_eq_true rfl, Nat.le_of_ble_eq_true rfl⟩ cls_12 rfl cc_85 rfl rfl rfl (Nat.le_of_ble_eq_true rfl) (Call.mono H fun r9 h10 H => ?_)
                    refine a_if_ne (pc := 321) (dk dt_X12_goes 179 rfl) (tgt := 331) rfl ⟨fun c => ?_, fun c => ?_⟩
                    · replace H := H.1 c
                      refine a_iinc (pc := 331) (dk dt_X12_goes 185 rfl) (by decide) rfl rfl rfl ?_
                      refine a_goto (pc := 334) (dk dt_X12_goes 186 rfl) (tgt := 42) rfl ?_
                      exact a_pick [0, 1, 2] rfl H
                    · replace H := H.2 c
                      refine a_aload_n (pc := 324) (dk dt_X12_goes 180 rfl) rfl ?_
                      refine a_getr (r := 115) (pc := 325) (dk dt_X12_goes 181 rfl) cls_12 fl_RX12_177 cf_85_49 ?_
                      refine a_iload_n (pc := 328) (dk dt_X12_goes 182 rfl) rfl ?_
                      refine a_iconst (pc := 329) (dk dt_X12_goes 183 rfl) (ik rfl) ?_
                      refine a_iast (pc := 330) (dk dt_X12_goes 184 rfl) ar_116 ⟨H.1, ?_⟩
                      replace H := H.2
                      refine a_iinc (pc := 331) (dk dt_X12_goes 185 rfl) (by decide) rfl rfl rfl ?_
                      refine a_goto (pc := 334) (dk dt_X12_goes 186 rfl) (tgt := 42) rfl ?_
                      exact a_pick [0, 1, 2] rfl H
                  exact a_tsw [220, 245, 264, 291] (pc := 191) (dk dt_X12_goes 117 rfl) (by decide) (dt := 306) rfl (by decide) ⟨⟨fun c => B0 (c), fun c => B1 (c), fun c => B2 (c), fun c => B3 (c), trivial⟩, fun c => BD (c)⟩
                · replace H := H.2 c
                  refine a_aload_n (pc := 165) (dk dt_X12_goes 101 rfl) rfl ?_
                  refine a_dup (pc := 166) (dk dt_X12_goes 102 rfl) rfl ?_
                  refine a_geti (pc := 167) (dk dt_X12_goes 103 rfl) cls_12 fl_RX12_426 cf_85_22 ?_
                  refine a_iconst (pc := 170) (dk dt_X12_goes 104 rfl) (ik rfl) ?_
                  refine a_iadd (pc := 171) (dk dt_X12_goes 105 rfl) ?_
                  refine a_puti (pc := 172) (dk dt_X12_goes 106 rfl) cls_12 fl_RX12_426 cf_85_22 rfl rfl ?_
                  refine a_aload_n (pc := 175) (dk dt_X12_goes 107 rfl) rfl ?_
                  refine a_getr (r := 115) (pc := 176) (dk dt_X12_goes 108 rfl) cls_12 fl_RX12_177 cf_85_49 ?_
                  refine a_iload_n (pc := 179) (dk dt_X12_goes 109 rfl) rfl ?_
                  refine a_iconst (pc := 180) (dk dt_X12_goes 110 rfl) (ik rfl) ?_
                  refine a_iast (pc := 181) (dk dt_X12_goes 111 rfl) ar_116 ⟨H.1, ?_⟩
                  replace H := H.2
                  refine a_goto (pc := 182) (dk dt_X12_goes 112 rfl) (tgt := 331) rfl ?_
                  refine a_iinc (pc := 331) (dk dt_X12_goes 185 rfl) (by decide) rfl rfl rfl ?_
                  refine a_goto (pc := 334) (dk dt_X12_goes 186 rfl) (tgt := 42) rfl ?_
                  exact a_pick [0, 1, 2] rfl H
          · replace H := H.2 c
            refine a_aload_n (pc := 105) (dk dt_X12_goes 66 rfl) rfl ?_
            refine a_getr (r := 115) (pc := 106) (dk dt_X12_goes 67 rfl) cls_12 fl_RX12_177 cf_85_49 ?_
            refine a_iload_n (pc := 109) (dk dt_X12_goes 68 rfl) rfl ?_
            refine a_iconst (pc := 110) (dk dt_X12_goes 69 rfl) (ik rfl) ?_
            refine a_iast (pc := 111) (dk dt_X12_goes 70 rfl) ar_116 ⟨H.1, ?_⟩
            replace H := H.2
            refine a_goto (pc := 112) (dk dt_X12_goes 71 rfl) (tgt := 331) rfl ?_
            refine a_iinc (pc := 331) (dk dt_X12_goes 185 rfl) (by decide) rfl rfl rfl ?_
            refine a_goto (pc := 334) (dk dt_X12_goes 186 rfl) (tgt := 42) rfl ?_
            exact a_pick [0, 1, 2] rfl H
set_option maxHeartbeats 40000000 in
theorem U_X12_serve_85_0 {G : GG} {Φ : Int → Hp → Prop} {h : Hp} (H : Call G m_X12_sunNow [rv 85] h (fun r1 h2 => AT G m_X12_serve 19 [(0, rv 85), (1, iv r1), (2, iv (w32 (r1 + (h2 85 19)))), (3, iv 0)] [] (up h2 85 21 0) Φ)) : AT G m_X12_serve 0 [(0, rv 85)] [] h Φ := by
  refine a_aload_n (pc := 0) (dk dt_X12_serve 0 rfl) rfl ?_
  refine a_callVi (as := []) (st := []) (pc := 1) (dk dt_X12_serve 1 rfl) cl_RX12_421 ⟨Nat.le_of_ble_eq_true rfl, Nat.le_of_ble_eq_true rfl⟩ ⟨Nat.le_of_ble_eq_true rfl, Nat.le_of_ble_eq_true rfl⟩ cls_12 rfl cc_85 rfl rfl rfl (Nat.le_of_ble_eq_true rfl) (Call.mono H fun r1 h2 H => ?_)
  refine a_istore_n (pc := 4) (dk dt_X12_serve 2 rfl) (by decide) rfl rfl ?_
  refine a_iload_n (pc := 5) (dk dt_X12_serve 3 rfl) rfl ?_
  refine a_aload_n (pc := 6) (dk dt_X12_serve 4 rfl) rfl ?_
  refine a_geti (pc := 7) (dk dt_X12_serve 5 rfl) cls_12 fl_RX12_38 cf_85_19 ?_
  refine a_iadd (pc := 10) (dk dt_X12_serve 6 rfl) ?_
  refine a_istore_n (pc := 11) (dk dt_X12_serve 7 rfl) (by decide) rfl rfl ?_
  refine a_aload_n (pc := 12) (dk dt_X12_serve 8 rfl) rfl ?_
  refine a_iconst (pc := 13) (dk dt_X12_serve 9 rfl) (ik rfl) ?_
  refine a_puti (pc := 14) (dk dt_X12_serve 10 rfl) cls_12 fl_RX12_424 cf_85_21 rfl rfl ?_
  refine a_iconst (pc := 17) (dk dt_X12_serve 11 rfl) (ik rfl) ?_
  refine a_istore_n (pc := 18) (dk dt_X12_serve 12 rfl) (by decide) rfl rfl ?_
  exact a_pick [0, 1, 2, 3] rfl H
set_option maxHeartbeats 40000000 in
theorem U_X12_serve_85_19 {G : GG} {Φ : Int → Hp → Prop} {h : Hp} {x1 : Int} {x2 : Int} {x3 : Int} (H : ((8 ≤ x3 → AT G m_X12_serve 40 [(0, rv 85), (1, iv x1), (2, iv x2), (3, iv 0)] [] h Φ) ∧ (x3 < 8 → (0 ≤ x3 ∧ x3 < 8) ∧ AT G m_X12_serve 19 [(0, rv 85), (1, iv x1), (2, iv x2), (3, iv (w32 (x3 + 1)))] [] (up h 96 x3 0) Φ))) : AT G m_X12_serve 19 [(0, rv 85), (1, iv x1), (2, iv x2), (3, iv x3)] [] h Φ := by
  refine a_iload_n (pc := 19) (dk dt_X12_serve 13 rfl) rfl ?_
  refine a_bipush (pc := 20) (dk dt_X12_serve 14 rfl) (ik rfl) (bpk rfl) ?_
  refine a_icmp_ge (pc := 22) (dk dt_X12_serve 15 rfl) (tgt := 38) rfl ⟨fun c => ?_, fun c => ?_⟩
  · replace H := H.1 c
    refine a_iconst (pc := 38) (dk dt_X12_serve 23 rfl) (ik rfl) ?_
    refine a_istore_n (pc := 39) (dk dt_X12_serve 24 rfl) (by decide) rfl rfl ?_
    exact a_pick [0, 1, 2, 3] rfl H
  · replace H := H.2 c
    refine a_aload_n (pc := 25) (dk dt_X12_serve 16 rfl) rfl ?_
    refine a_getr (r := 95) (pc := 26) (dk dt_X12_serve 17 rfl) cls_12 fl_RX12_54 cf_85_27 ?_
    refine a_iload_n (pc := 29) (dk dt_X12_serve 18 rfl) rfl ?_
    refine a_iconst (pc := 30) (dk dt_X12_serve 19 rfl) (ik rfl) ?_
    refine a_zast (pc := 31) (dk dt_X12_serve 20 rfl) ar_96 ⟨H.1, by decide, ?_⟩
    replace H := H.2
    refine a_iinc (pc := 32) (dk dt_X12_serve 21 rfl) (by decide) rfl rfl rfl ?_
    refine a_goto (pc := 35) (dk dt_X12_serve 22 rfl) (tgt := 19) rfl ?_
    exact a_pick [0, 1, 2, 3] rfl H
set_option maxHeartbeats 40000000 in
theorem U_X12_serve_85_40 {G : GG} {Φ : Int → Hp → Prop} {h : Hp} {x1 : Int} {x2 : Int} {x3 : Int} (H : ((10 ≤ x3 → Φ 0 (up h 85 19 (imin (h 85 18) (w32 ((w32 ((h 85 19) + x1)) - (h 85 21)))))) ∧ (x3 < 10 → AT G m_X12_serve 49 [(0, rv 85), (1, iv x1), (2, iv x2), (3, iv x3), (4, iv 0)] [] h Φ))) : AT G m_X12_serve 40 [(0, rv 85), (1, iv x1), (2, iv x2), (3, iv x3)] [] h Φ := by
  refine a_iload_n (pc := 40) (dk dt_X12_serve 25 rfl) rfl ?_
  refine a_bipush (pc := 41) (dk dt_X12_serve 26 rfl) (ik rfl) (bpk rfl) ?_
  refine a_icmp_ge (pc := 43) (dk dt_X12_serve 27 rfl) (tgt := 158) rfl ⟨fun c => ?_, fun c => ?_⟩
  · replace H := H.1 c
    refine a_aload_n (pc := 158) (dk dt_X12_serve 88 rfl) rfl ?_
    refine a_aload_n (pc := 159) (dk dt_X12_serve 89 rfl) rfl ?_
    refine a_geti (pc := 160) (dk dt_X12_serve 90 rfl) cls_12 fl_RX12_35 cf_85_18 ?_
    refine a_aload_n (pc := 163) (dk dt_X12_serve 91 rfl) rfl ?_
    refine a_geti (pc := 164) (dk dt_X12_serve 92 rfl) cls_12 fl_RX12_38 cf_85_19 ?_
    refine a_iload_n (pc := 167) (dk dt_X12_serve 93 rfl) rfl ?_
    refine a_iadd (pc := 168) (dk dt_X12_serve 94 rfl) ?_
    refine a_aload_n (pc := 169) (dk dt_X12_serve 95 rfl) rfl ?_
    refine a_geti (pc := 170) (dk dt_X12_serve 96 rfl) cls_12 fl_RX12_424 cf_85_21 ?_
    refine a_isub (pc := 173) (dk dt_X12_serve 97 rfl) ?_
    refine a_mmin (pc := 174) (dk dt_X12_serve 98 rfl) cl_RX12_413 ⟨Nat.le_of_ble_eq_true rfl, Nat.le_of_ble_eq_true rfl⟩ ⟨Nat.le_of_ble_eq_true rfl, Nat.le_of_ble_eq_true rfl⟩ ?_
    refine a_puti (pc := 177) (dk dt_X12_serve 99 rfl) cls_12 fl_RX12_38 cf_85_19 rfl rfl ?_
    exact a_vret (pc := 180) (dk dt_X12_serve 100 rfl) rfl rfl H
  · replace H := H.2 c
    refine a_iconst (pc := 46) (dk dt_X12_serve 28 rfl) (ik rfl) ?_
    refine a_istore (pc := 47) (dk dt_X12_serve 29 rfl) (by decide) rfl rfl ?_
    exact a_pick [0, 1, 2, 3, 4] rfl H
set_option maxHeartbeats 40000000 in
theorem U_X12_serve_85_49 {G : GG} {Φ : Int → Hp → Prop} {h : Hp} {x1 : Int} {x2 : Int} {x3 : Int} {x4 : Int} (H : ((8 ≤ x4 → AT G m_X12_serve 40 [(0, rv 85), (1, iv x1), (2, iv x2), (3, iv (w32 (x3 + 1)))] [] h Φ) ∧ (x4 < 8 → (0 ≤ x4 ∧ x4 < 8) ∧ (((h 94 x4) ≠ x3 → AT G m_X12_serve 49 [(0, rv 85), (1, iv x1), (2, iv x2), (3, iv x3), (4, iv (w32 (x4 + 1)))] [] h Φ) ∧ ((h 94 x4) = x3 → (0 ≤ x4 ∧ x4 < 8) ∧ (((h 95 x4) ≠ 0 → (0 ≤ x4 ∧ x4 < 8) ∧ ((x2 < (h 93 x4) → (0 ≤ x4 ∧ x4 < 8) ∧ AT G m_X12_serve 49 [(0, rv 85), (1, iv x1), (2, iv x2), (3, iv x3), (4, iv (w32 (x4 + 1)))] [] (up (up h 95 x4 0) 85 22 (w32 ((h 85 22) + 1))) Φ) ∧ ((h 93 x4) ≤ x2 → (0 ≤ x4 ∧ x4 < 8) ∧ (0 ≤ x4 ∧ x4 < 8) ∧ (0 ≤ x4 ∧ x4 < 8) ∧ AT G m_X12_serve 49 [(0, rv 85), (1, iv x1), (2, iv (w32 (x2 - (h 93 x4)))), (3, iv x3), (4, iv (w32 (x4 + 1)))] [] (up (up h 96 x4 1) 85 21 (w32 ((h 85 21) + (h 93 x4)))) Φ))) ∧ ((h 95 x4) = 0 → AT G m_X12_serve 49 [(0, rv 85), (1, iv x1), (2, iv x2), (3, iv x3), (4, iv (w32 (x4 + 1)))] [] h Φ))))))) : AT G m_X12_serve 49 [(0, rv 85), (1, iv x1), (2, iv x2), (3, iv x3), (4, iv x4)] [] h Φ := by
  refine a_iload (pc := 49) (dk dt_X12_serve 30 rfl) rfl ?_
  refine a_bipush (pc := 51) (dk dt_X12_serve 31 rfl) (ik rfl) (bpk rfl) ?_
  refine a_icmp_ge (pc := 53) (dk dt_X12_serve 32 rfl) (tgt := 152) rfl ⟨fun c => ?_, fun c => ?_⟩
  · replace H := H.1 c
    refine a_iinc (pc := 152) (dk dt_X12_serve 86 rfl) (by decide) rfl rfl rfl ?_
    refine a_goto (pc := 155) (dk dt_X12_serve 87 rfl) (tgt := 40) rfl ?_
    exact a_pick [0, 1, 2, 3] rfl H
  · replace H := H.2 c
    refine a_aload_n (pc := 56) (dk dt_X12_serve 33 rfl) rfl ?_
    refine a_getr (r := 93) (pc := 57) (dk dt_X12_serve 34 rfl) cls_12 fl_RX12_47 cf_85_25 ?_
    refine a_iload (pc := 60) (dk dt_X12_serve 35 rfl) rfl ?_
    refine a_iald (pc := 62) (dk dt_X12_serve 36 rfl) ar_94 ⟨H.1, ?_⟩
    replace H := H.2
    refine a_iload_n (pc := 63) (dk dt_X12_serve 37 rfl) rfl ?_
    refine a_icmp_ne (pc := 64) (dk dt_X12_serve 38 rfl) (tgt := 146) rfl ⟨fun c => ?_, fun c => ?_⟩
    · replace H := H.1 c
      refine a_iinc (pc := 146) (dk dt_X12_serve 84 rfl) (by decide) rfl rfl rfl ?_
      refine a_goto (pc := 149) (dk dt_X12_serve 85 rfl) (tgt := 49) rfl ?_
      exact a_pick [0, 1, 2, 3, 4] rfl H
    · replace H := H.2 c
      refine a_aload_n (pc := 67) (dk dt_X12_serve 39 rfl) rfl ?_
      refine a_getr (r := 94) (pc := 68) (dk dt_X12_serve 40 rfl) cls_12 fl_RX12_50 cf_85_26 ?_
      refine a_iload (pc := 71) (dk dt_X12_serve 41 rfl) rfl ?_
      refine a_zald (pc := 73) (dk dt_X12_serve 42 rfl) ar_95 ⟨H.1, ?_⟩
      replace H := H.2
      refine a_if_ne (pc := 74) (dk dt_X12_serve 43 rfl) (tgt := 80) rfl ⟨fun c => ?_, fun c => ?_⟩
      · replace H := H.1 c
        refine a_aload_n (pc := 80) (dk dt_X12_serve 45 rfl) rfl ?_
        refine a_getr (r := 92) (pc := 81) (dk dt_X12_serve 46 rfl) cls_12 fl_RX12_44 cf_85_24 ?_
        refine a_iload (pc := 84) (dk dt_X12_serve 47 rfl) rfl ?_
        refine a_iald (pc := 86) (dk dt_X12_serve 48 rfl) ar_93 ⟨H.1, ?_⟩
        replace H := H.2
        refine a_iload_n (pc := 87) (dk dt_X12_serve 49 rfl) rfl ?_
        refine a_icmp_gt (pc := 88) (dk dt_X12_serve 50 rfl) (tgt := 128) rfl ⟨fun c => ?_, fun c => ?_⟩
        · replace H := H.1 c
          refine a_aload_n (pc := 128) (dk dt_X12_serve 73 rfl) rfl ?_
          refine a_getr (r := 94) (pc := 129) (dk dt_X12_serve 74 rfl) cls_12 fl_RX12_50 cf_85_26 ?_
          refine a_iload (pc := 132) (dk dt_X12_serve 75 rfl) rfl ?_
          refine a_iconst (pc := 134) (dk dt_X12_serve 76 rfl) (ik rfl) ?_
          refine a_zast (pc := 135) (dk dt_X12_serve 77 rfl) ar_95 ⟨H.1, by decide, ?_⟩
          replace H := H.2
          refine a_aload_n (pc := 136) (dk dt_X12_serve 78 rfl) rfl ?_
          refine a_dup (pc := 137) (dk dt_X12_serve 79 rfl) rfl ?_
          refine a_geti (pc := 138) (dk dt_X12_serve 80 rfl) cls_12 fl_RX12_426 cf_85_22 ?_
          refine a_top (y := (h 85 22)) (by simp [up, cpy]) ?_
          refine a_iconst (pc := 141) (dk dt_X12_serve 81 rfl) (ik rfl) ?_
          refine a_iadd (pc := 142) (dk dt_X12_serve 82 rfl) ?_
          refine a_puti (pc := 143) (dk dt_X12_serve 83 rfl) cls_12 fl_RX12_426 cf_85_22 rfl rfl ?_
          refine a_iinc (pc := 146) (dk dt_X12_serve 84 rfl) (by decide) rfl rfl rfl ?_
          refine a_goto (pc := 149) (dk dt_X12_serve 85 rfl) (tgt := 49) rfl ?_
          exact a_pick [0, 1, 2, 3, 4] rfl H
        · replace H := H.2 c
          refine a_aload_n (pc := 91) (dk dt_X12_serve 51 rfl) rfl ?_
          refine a_getr (r := 95) (pc := 92) (dk dt_X12_serve 52 rfl) cls_12 fl_RX12_54 cf_85_27 ?_
          refine a_iload (pc := 95) (dk dt_X12_serve 53 rfl) rfl ?_
          refine a_iconst (pc := 97) (dk dt_X12_serve 54 rfl) (ik rfl) ?_
          refine a_zast (pc := 98) (dk dt_X12_serve 55 rfl) ar_96 ⟨H.1, by decide, ?_⟩
          replace H := H.2
          refine a_iload_n (pc := 99) (dk dt_X12_serve 56 rfl) rfl ?_
          refine a_aload_n (pc := 100) (dk dt_X12_serve 57 rfl) rfl ?_
          refine a_getr (r := 92) (pc := 101) (dk dt_X12_serve 58 rfl) cls_12 fl_RX12_44 cf_85_24 ?_
          refine a_iload (pc := 104) (dk dt_X12_serve 59 rfl) rfl ?_
          refine a_iald (pc := 106) (dk dt_X12_serve 60 rfl) ar_93 ⟨H.1, ?_⟩
          replace H := H.2
          refine a_top (y := (h 93 x4)) (by simp [up, cpy]) ?_
          refine a_isub (pc := 107) (dk dt_X12_serve 61 rfl) ?_
          refine a_istore_n (pc := 108) (dk dt_X12_serve 62 rfl) (by decide) rfl rfl ?_
          refine a_aload_n (pc := 109) (dk dt_X12_serve 63 rfl) rfl ?_
          refine a_dup (pc := 110) (dk dt_X12_serve 64 rfl) rfl ?_
          refine a_geti (pc := 111) (dk dt_X12_serve 65 rfl) cls_12 fl_RX12_424 cf_85_21 ?_
          refine a_top (y := (h 85 21)) (by simp [up, cpy]) ?_
          refine a_aload_n (pc := 114) (dk dt_X12_serve 66 rfl) rfl ?_
          refine a_getr (r := 92) (pc := 115) (dk dt_X12_serve 67 rfl) cls_12 fl_RX12_44 cf_85_24 ?_
          refine a_iload (pc := 118) (dk dt_X12_serve 68 rfl) rfl ?_
          refine a_iald (pc := 120) (dk dt_X12_serve 69 rfl) ar_93 ⟨H.1, ?_⟩
          replace H := H.2
          refine a_top (y := (h 93 x4)) (by simp [up, cpy]) ?_
          refine a_iadd (pc := 121) (dk dt_X12_serve 70 rfl) ?_
          refine a_puti (pc := 122) (dk dt_X12_serve 71 rfl) cls_12 fl_RX12_424 cf_85_21 rfl rfl ?_
          refine a_goto (pc := 125) (dk dt_X12_serve 72 rfl) (tgt := 146) rfl ?_
          refine a_iinc (pc := 146) (dk dt_X12_serve 84 rfl) (by decide) rfl rfl rfl ?_
          refine a_goto (pc := 149) (dk dt_X12_serve 85 rfl) (tgt := 49) rfl ?_
          exact a_pick [0, 1, 2, 3, 4] rfl H
      · replace H := H.2 c
        refine a_goto (pc := 77) (dk dt_X12_serve 44 rfl) (tgt := 146) rfl ?_
        refine a_iinc (pc := 146) (dk dt_X12_serve 84 rfl) (by decide) rfl rfl rfl ?_
        refine a_goto (pc := 149) (dk dt_X12_serve 85 rfl) (tgt := 49) rfl ?_
        exact a_pick [0, 1, 2, 3, 4] rfl H
set_option maxHeartbeats 40000000 in
theorem U_X12_starts_85_0 {G : GG} {Φ : Int → Hp → Prop} {h : Hp} (H : AT G m_X12_starts 4 [(0, rv 85), (1, iv 0), (2, iv 0)] [] h Φ) : AT G m_X12_starts 0 [(0, rv 85)] [] h Φ := by
  refine a_iconst (pc := 0) (dk dt_X12_starts 0 rfl) (ik rfl) ?_
  refine a_istore_n (pc := 1) (dk dt_X12_starts 1 rfl) (by decide) rfl rfl ?_
  refine a_iconst (pc := 2) (dk dt_X12_starts 2 rfl) (ik rfl) ?_
  refine a_istore_n (pc := 3) (dk dt_X12_starts 3 rfl) (by decide) rfl rfl ?_
  exact a_pick [0, 1, 2] rfl H
set_option maxHeartbeats 40000000 in
theorem U_X12_starts_85_4 {G : GG} {Φ : Int → Hp → Prop} {h : Hp} {x1 : Int} {x2 : Int} (H : (((h 85 62) ≤ x2 → Φ 0 (up h 85 62 x1)) ∧ (x2 < (h 85 62) → (0 ≤ x2 ∧ x2 < 10) ∧ (((h 126 x2) ≠ (h 85 10) → (0 ≤ x2 ∧ x2 < 10) ∧ (0 ≤ x1 ∧ x1 < 10) ∧ (0 ≤ x2 ∧ x2 < 10) ∧ (0 ≤ x1 ∧ x1 < 10) ∧ AT G m_X12_starts 4 [(0, rv 85), (1, iv (w32 (x1 + 1))), (2, iv (w32 (x2 + 1)))] [] (up (up h 126 x1 (h 126 x2)) 127 x1 (h 127 x2)) Φ) ∧ ((h 126 x2) = (h 85 10) → (0 ≤ x2 ∧ x2 < 10) ∧ (0 ≤ (h 127 x2) ∧ (h 127 x2) < 8) ∧ (0 ≤ (h 127 x2) ∧ (h 127 x2) < 8) ∧ AT G m_X12_starts 4 [(0, rv 85), (1, iv x1), (2, iv (w32 (x2 + 1)))] [] (up (up h 116 (h 127 x2) 0) 117 (h 127 x2) 0) Φ))))) : AT G m_X12_starts 4 [(0, rv 85), (1, iv x1), (2, iv x2)] [] h Φ := by
  refine a_iload_n (pc := 4) (dk dt_X12_starts 4 rfl) rfl ?_
  refine a_aload_n (pc := 5) (dk dt_X12_starts 5 rfl) rfl ?_
  refine a_geti (pc := 6) (dk dt_X12_starts 6 rfl) cls_12 fl_RX12_495 cf_85_62 ?_
  refine a_icmp_ge (pc := 9) (dk dt_X12_starts 7 rfl) (tgt := 71) rfl ⟨fun c => ?_, fun c => ?_⟩
  · replace H := H.1 c
    refine a_aload_n (pc := 71) (dk dt_X12_starts 41 rfl) rfl ?_
    refine a_iload_n (pc := 72) (dk dt_X12_starts 42 rfl) rfl ?_
    refine a_puti (pc := 73) (dk dt_X12_starts 43 rfl) cls_12 fl_RX12_495 cf_85_62 rfl rfl ?_
    exact a_vret (pc := 76) (dk dt_X12_starts 44 rfl) rfl rfl H
  · replace H := H.2 c
    refine a_aload_n (pc := 12) (dk dt_X12_starts 8 rfl) rfl ?_
    refine a_getr (r := 125) (pc := 13) (dk dt_X12_starts 9 rfl) cls_12 fl_RX12_207 cf_85_60 ?_
    refine a_iload_n (pc := 16) (dk dt_X12_starts 10 rfl) rfl ?_
    refine a_iald (pc := 17) (dk dt_X12_starts 11 rfl) ar_126 ⟨H.1, ?_⟩
    replace H := H.2
    refine a_aload_n (pc := 18) (dk dt_X12_starts 12 rfl) rfl ?_
    refine a_geti (pc := 19) (dk dt_X12_starts 13 rfl) cls_12 fl_RX12_398 cf_85_10 ?_
    refine a_icmp_ne (pc := 22) (dk dt_X12_starts 14 rfl) (tgt := 38) rfl ⟨fun c => ?_, fun c => ?_⟩
    · replace H := H.1 c
      refine a_aload_n (pc := 38) (dk dt_X12_starts 22 rfl) rfl ?_
      refine a_getr (r := 125) (pc := 39) (dk dt_X12_starts 23 rfl) cls_12 fl_RX12_207 cf_85_60 ?_
      refine a_iload_n (pc := 42) (dk dt_X12_starts 24 rfl) rfl ?_
      refine a_aload_n (pc := 43) (dk dt_X12_starts 25 rfl) rfl ?_
      refine a_getr (r := 125) (pc := 44) (dk dt_X12_starts 26 rfl) cls_12 fl_RX12_207 cf_85_60 ?_
      refine a_iload_n (pc := 47) (dk dt_X12_starts 27 rfl) rfl ?_
      refine a_iald (pc := 48) (dk dt_X12_starts 28 rfl) ar_126 ⟨H.1, ?_⟩
      replace H := H.2
      refine a_iast (pc := 49) (dk dt_X12_starts 29 rfl) ar_126 ⟨H.1, ?_⟩
      replace H := H.2
      refine a_aload_n (pc := 50) (dk dt_X12_starts 30 rfl) rfl ?_
      refine a_getr (r := 126) (pc := 51) (dk dt_X12_starts 31 rfl) cls_12 fl_RX12_210 cf_85_61 ?_
      refine a_iload_n (pc := 54) (dk dt_X12_starts 32 rfl) rfl ?_
      refine a_aload_n (pc := 55) (dk dt_X12_starts 33 rfl) rfl ?_
      refine a_getr (r := 126) (pc := 56) (dk dt_X12_starts 34 rfl) cls_12 fl_RX12_210 cf_85_61 ?_
      refine a_iload_n (pc := 59) (dk dt_X12_starts 35 rfl) rfl ?_
      refine a_iald (pc := 60) (dk dt_X12_starts 36 rfl) ar_127 ⟨H.1, ?_⟩
      replace H := H.2
      refine a_top (y := (h 127 x2)) (by simp [up, cpy]) ?_
      refine a_iast (pc := 61) (dk dt_X12_starts 37 rfl) ar_127 ⟨H.1, ?_⟩
      replace H := H.2
      refine a_iinc (pc := 62) (dk dt_X12_starts 38 rfl) (by decide) rfl rfl rfl ?_
      refine a_iinc (pc := 65) (dk dt_X12_starts 39 rfl) (by decide) rfl rfl rfl ?_
      refine a_goto (pc := 68) (dk dt_X12_starts 40 rfl) (tgt := 4) rfl ?_
      exact a_pick [0, 1, 2] rfl H
    · replace H := H.2 c
      refine a_aload_n (pc := 25) (dk dt_X12_starts 15 rfl) rfl ?_
      refine a_aload_n (pc := 26) (dk dt_X12_starts 16 rfl) rfl ?_
      refine a_getr (r := 126) (pc := 27) (dk dt_X12_starts 17 rfl) cls_12 fl_RX12_210 cf_85_61 ?_
      refine a_iload_n (pc := 30) (dk dt_X12_starts 18 rfl) rfl ?_
      refine a_iald (pc := 31) (dk dt_X12_starts 19 rfl) ar_127 ⟨H.1, ?_⟩
      replace H := H.2
      refine a_callVv (as := [iv (h 127 x2)]) (st := []) (pc := 32) (dk dt_X12_starts 20 rfl) cl_RX12_486 ⟨Nat.le_of_ble_eq_true rfl, Nat.le_of_ble_eq_true rfl⟩ ⟨Nat.le_of_ble_eq_true rfl, Nat.le_of_ble_eq_true rfl⟩ cls_12 rfl cc_85 rfl rfl rfl (Nat.le_of_ble_eq_true rfl) (Call.of rfl (Nat.le_of_ble_eq_true rfl) rfl ?_)
      refine a_aload_n (pc := 0) (dk dt_X12_begin 0 rfl) rfl ?_
      refine a_getr (r := 115) (pc := 1) (dk dt_X12_begin 1 rfl) cls_12 fl_RX12_177 cf_85_49 ?_
      refine a_iload_n (pc := 4) (dk dt_X12_begin 2 rfl) rfl ?_
      refine a_iconst (pc := 5) (dk dt_X12_begin 3 rfl) (ik rfl) ?_
      refine a_iast (pc := 6) (dk dt_X12_begin 4 rfl) ar_116 ⟨H.1, ?_⟩
      replace H := H.2
      refine a_aload_n (pc := 7) (dk dt_X12_begin 5 rfl) rfl ?_
      refine a_getr (r := 116) (pc := 8) (dk dt_X12_begin 6 rfl) cls_12 fl_RX12_180 cf_85_50 ?_
      refine a_iload_n (pc := 11) (dk dt_X12_begin 7 rfl) rfl ?_
      refine a_iconst (pc := 12) (dk dt_X12_begin 8 rfl) (ik rfl) ?_
      refine a_iast (pc := 13) (dk dt_X12_begin 9 rfl) ar_117 ⟨H.1, ?_⟩
      replace H := H.2
      refine a_vret (pc := 14) (dk dt_X12_begin 10 rfl) rfl rfl ?_
      show ATW _ _ _ _ _ _ _ _ _ _
      refine a_goto (pc := 35) (dk dt_X12_starts 21 rfl) (tgt := 65) rfl ?_
      refine a_iinc (pc := 65) (dk dt_X12_starts 39 rfl) (by decide) rfl rfl rfl ?_
      refine a_goto (pc := 68) (dk dt_X12_starts 40 rfl) (tgt := 4) rfl ?_
      exact a_pick [0, 1, 2] rfl H
set_option maxHeartbeats 40000000 in
theorem U_X12_mend_85_0 {G : GG} {Φ : Int → Hp → Prop} {h : Hp} (H : Call G m_X12_read [rv 85, iv ((h 85 10).tmod 64)] h (fun r1 h2 => ((r1 ≠ (-1) → (0 ≤ ((h 85 10).tmod 64) ∧ ((h 85 10).tmod 64) < 64) ∧ Call G m_X12_encoded [iv r1] h2 (fun r3 h4 => (((h2 97 ((h 85 10).tmod 64)) = r3 → Φ 0 h4) ∧ ((h2 97 ((h 85 10).tmod 64)) ≠ r3 → Call G m_X12_encoded [iv r1] h4 (fun r5 h6 => (0 ≤ ((h 85 10).tmod 64) ∧ ((h 85 10).tmod 64) < 64) ∧ Φ 0 (up (up h6 97 ((h 85 10).tmod 64) r5) 85 29 (w32 ((h6 85 29) + 1)))))))) ∧ (r1 = (-1) → Call G m_X12_encoded [iv 0] h2 (fun r7 h8 => (0 ≤ ((h 85 10).tmod 64) ∧ ((h 85 10).tmod 64) < 64) ∧ Φ 0 (up (up (up h8 97 ((h 85 10).tmod 64) r7) 85 30 (w32 ((h8 85 30) + 1))) 85 22 (w32 ((h8 85 22) + 1)))))))) : AT G m_X12_mend 0 [(0, rv 85)] [] h Φ := by
  refine a_aload_n (pc := 0) (dk dt_X12_mend 0 rfl) rfl ?_
  refine a_geti (pc := 1) (dk dt_X12_mend 1 rfl) cls_12 fl_RX12_398 cf_85_10 ?_
  refine a_bipush (pc := 4) (dk dt_X12_mend 2 rfl) (ik rfl) (bpk rfl) ?_
  refine a_irem (pc := 6) (dk dt_X12_mend 3 rfl) ⟨by decide, ?_⟩
  refine a_istore_n (pc := 7) (dk dt_X12_mend 4 rfl) (by decide) rfl rfl ?_
  refine a_aload_n (pc := 8) (dk dt_X12_mend 5 rfl) rfl ?_
  refine a_iload_n (pc := 9) (dk dt_X12_mend 6 rfl) rfl ?_
  refine a_callVi (as := [iv ((h 85 10).tmod 64)]) (st := []) (pc := 10) (dk dt_X12_mend 7 rfl) cl_RX12_438 ⟨Nat.le_of_ble_eq_true rfl, Nat.le_of_ble_eq_true rfl⟩ ⟨Nat.le_of_ble_eq_true rfl, Nat.le_of_ble_eq_true rfl⟩ cls_12 rfl cc_85 rfl rfl rfl (Nat.le_of_ble_eq_true rfl) (Call.mono H fun r1 h2 H => ?_)
  refine a_istore_n (pc := 13) (dk dt_X12_mend 8 rfl) (by decide) rfl rfl ?_
  refine a_iload_n (pc := 14) (dk dt_X12_mend 9 rfl) rfl ?_
  refine a_iconst (pc := 15) (dk dt_X12_mend 10 rfl) (ik rfl) ?_
  refine a_icmp_ne (pc := 16) (dk dt_X12_mend 11 rfl) (tgt := 52) rfl ⟨fun c => ?_, fun c => ?_⟩
  · replace H := H.1 c
    refine a_aload_n (pc := 52) (dk dt_X12_mend 31 rfl) rfl ?_
    refine a_getr (r := 96) (pc := 53) (dk dt_X12_mend 32 rfl) cls_12 fl_RX12_57 cf_85_28 ?_
    refine a_iload_n (pc := 56) (dk dt_X12_mend 33 rfl) rfl ?_
    refine a_iald (pc := 57) (dk dt_X12_mend 34 rfl) ar_97 ⟨H.1, ?_⟩
    replace H := H.2
    refine a_iload_n (pc := 58) (dk dt_X12_mend 35 rfl) rfl ?_
    refine a_callSi (as := [iv r1]) (st := [iv (h2 97 ((h 85 10).tmod 64))]) (pc := 59) (dk dt_X12_mend 36 rfl) cl_RX12_441 ⟨Nat.le_of_ble_eq_true rfl, Nat.le_of_ble_eq_true rfl⟩ ⟨Nat.le_of_ble_eq_true rfl, Nat.le_of_ble_eq_true rfl⟩ rfl rfl rfl (Nat.le_of_ble_eq_true rfl) (Call.mono H fun r3 h4 H => ?_)
    refine a_icmp_eq (pc := 62) (dk dt_X12_mend 37 rfl) (tgt := 85) rfl ⟨fun c => ?_, fun c => ?_⟩
    · replace H := H.1 c
      exact a_vret (pc := 85) (dk dt_X12_mend 50 rfl) rfl rfl H
    · replace H := H.2 c
      refine a_aload_n (pc := 65) (dk dt_X12_mend 38 rfl) rfl ?_
      refine a_getr (r := 96) (pc := 66) (dk dt_X12_mend 39 rfl) cls_12 fl_RX12_57 cf_85_28 ?_
      refine a_iload_n (pc := 69) (dk dt_X12_mend 40 rfl) rfl ?_
      refine a_iload_n (pc := 70) (dk dt_X12_mend 41 rfl) rfl ?_
      refine a_callSi (as := [iv r1]) (st := [iv ((h 85 10).tmod 64), rv 97]) (pc := 71) (dk dt_X12_mend 42 rfl) cl_RX12_441 ⟨Nat.le_of_ble_eq_true rfl, Nat.le_of_ble_eq_true rfl⟩ ⟨Nat.le_of_ble_eq_true rfl, Nat.le_of_ble_eq_true rfl⟩ rfl rfl rfl (Nat.le_of_ble_eq_true rfl) (Call.mono H fun r5 h6 H => ?_)
      refine a_iast (pc := 74) (dk dt_X12_mend 43 rfl) ar_97 ⟨H.1, ?_⟩
      replace H := H.2
      refine a_aload_n (pc := 75) (dk dt_X12_mend 44 rfl) rfl ?_
      refine a_dup (pc := 76) (dk dt_X12_mend 45 rfl) rfl ?_
      refine a_geti (pc := 77) (dk dt_X12_mend 46 rfl) cls_12 fl_RX12_447 cf_85_29 ?_
      refine a_top (y := (h6 85 29)) (by simp [up, cpy]) ?_
      refine a_iconst (pc := 80) (dk dt_X12_mend 47 rfl) (ik rfl) ?_
      refine a_iadd (pc := 81) (dk dt_X12_mend 48 rfl) ?_
      refine a_puti (pc := 82) (dk dt_X12_mend 49 rfl) cls_12 fl_RX12_447 cf_85_29 rfl rfl ?_
      exact a_vret (pc := 85) (dk dt_X12_mend 50 rfl) rfl rfl H
  · replace H := H.2 c
    refine a_aload_n (pc := 19) (dk dt_X12_mend 12 rfl) rfl ?_
    refine a_getr (r := 96) (pc := 20) (dk dt_X12_mend 13 rfl) cls_12 fl_RX12_57 cf_85_28 ?_
    refine a_iload_n (pc := 23) (dk dt_X12_mend 14 rfl) rfl ?_
    refine a_iconst (pc := 24) (dk dt_X12_mend 15 rfl) (ik rfl) ?_
    refine a_callSi (as := [iv 0]) (st := [iv ((h 85 10).tmod 64), rv 97]) (pc := 25) (dk dt_X12_mend 16 rfl) cl_RX12_441 ⟨Nat.le_of_ble_eq_true rfl, Nat.le_of_ble_eq_true rfl⟩ ⟨Nat.le_of_ble_eq_true rfl, Nat.le_of_ble_eq_true rfl⟩ rfl rfl rfl (Nat.le_of_ble_eq_true rfl) (Call.mono H fun r7 h8 H => ?_)
    refine a_iast (pc := 28) (dk dt_X12_mend 17 rfl) ar_97 ⟨H.1, ?_⟩
    replace H := H.2
    refine a_aload_n (pc := 29) (dk dt_X12_mend 18 rfl) rfl ?_
    refine a_dup (pc := 30) (dk dt_X12_mend 19 rfl) rfl ?_
    refine a_geti (pc := 31) (dk dt_X12_mend 20 rfl) cls_12 fl_RX12_444 cf_85_30 ?_
    refine a_top (y := (h8 85 30)) (by simp [up, cpy]) ?_
    refine a_iconst (pc := 34) (dk dt_X12_mend 21 rfl) (ik rfl) ?_
    refine a_iadd (pc := 35) (dk dt_X12_mend 22 rfl) ?_
    refine a_puti (pc := 36) (dk dt_X12_mend 23 rfl) cls_12 fl_RX12_444 cf_85_30 rfl rfl ?_
    refine a_aload_n (pc := 39) (dk dt_X12_mend 24 rfl) rfl ?_
    refine a_dup (pc := 40) (dk dt_X12_mend 25 rfl) rfl ?_
    refine a_geti (pc := 41) (dk dt_X12_mend 26 rfl) cls_12 fl_RX12_426 cf_85_22 ?_
    refine a_top (y := (h8 85 22)) (by simp [up, cpy]) ?_
    refine a_iconst (pc := 44) (dk dt_X12_mend 27 rfl) (ik rfl) ?_
    refine a_iadd (pc := 45) (dk dt_X12_mend 28 rfl) ?_
    refine a_puti (pc := 46) (dk dt_X12_mend 29 rfl) cls_12 fl_RX12_426 cf_85_22 rfl rfl ?_
    refine a_goto (pc := 49) (dk dt_X12_mend 30 rfl) (tgt := 85) rfl ?_
    exact a_vret (pc := 85) (dk dt_X12_mend 50 rfl) rfl rfl H
set_option maxHeartbeats 40000000 in
theorem U_X12_recorded_85_0 {G : GG} {Φ : Int → Hp → Prop} {h : Hp} (H : AT G m_X12_recorded 4 [(0, rv 85), (1, iv 0), (2, iv 0)] [] h Φ) : AT G m_X12_recorded 0 [(0, rv 85)] [] h Φ := by
  refine a_iconst (pc := 0) (dk dt_X12_recorded 0 rfl) (ik rfl) ?_
  refine a_istore_n (pc := 1) (dk dt_X12_recorded 1 rfl) (by decide) rfl rfl ?_
  refine a_iconst (pc := 2) (dk dt_X12_recorded 2 rfl) (ik rfl) ?_
  refine a_istore_n (pc := 3) (dk dt_X12_recorded 3 rfl) (by decide) rfl rfl ?_
  exact a_pick [0, 1, 2] rfl H
set_option maxHeartbeats 40000000 in
theorem U_X12_recorded_85_4 {G : GG} {Φ : Int → Hp → Prop} {h : Hp} {x1 : Int} {x2 : Int} (H : (((h 85 72) ≤ x2 → Φ x1 h) ∧ (x2 < (h 85 72) → (0 ≤ x2 ∧ x2 < 50) ∧ AT G m_X12_recorded 4 [(0, rv 85), (1, iv (w32 (x1 + (h 134 x2)))), (2, iv (w32 (x2 + 1)))] [] h Φ))) : AT G m_X12_recorded 4 [(0, rv 85), (1, iv x1), (2, iv x2)] [] h Φ := by
  refine a_iload_n (pc := 4) (dk dt_X12_recorded 4 rfl) rfl ?_
  refine a_aload_n (pc := 5) (dk dt_X12_recorded 5 rfl) rfl ?_
  refine a_geti (pc := 6) (dk dt_X12_recorded 6 rfl) cls_12 fl_RX12_501 cf_85_72 ?_
  refine a_icmp_ge (pc := 9) (dk dt_X12_recorded 7 rfl) (tgt := 27) rfl ⟨fun c => ?_, fun c => ?_⟩
  · replace H := H.1 c
    refine a_iload_n (pc := 27) (dk dt_X12_recorded 17 rfl) rfl ?_
    exact a_iret (pc := 28) (dk dt_X12_recorded 18 rfl) rfl rfl H
  · replace H := H.2 c
    refine a_iload_n (pc := 12) (dk dt_X12_recorded 8 rfl) rfl ?_
    refine a_aload_n (pc := 13) (dk dt_X12_recorded 9 rfl) rfl ?_
    refine a_getr (r := 133) (pc := 14) (dk dt_X12_recorded 10 rfl) cls_12 fl_RX12_229 cf_85_69 ?_
    refine a_iload_n (pc := 17) (dk dt_X12_recorded 11 rfl) rfl ?_
    refine a_iald (pc := 18) (dk dt_X12_recorded 12 rfl) ar_134 ⟨H.1, ?_⟩
    replace H := H.2
    refine a_iadd (pc := 19) (dk dt_X12_recorded 13 rfl) ?_
    refine a_istore_n (pc := 20) (dk dt_X12_recorded 14 rfl) (by decide) rfl rfl ?_
    refine a_iinc (pc := 21) (dk dt_X12_recorded 15 rfl) (by decide) rfl rfl rfl ?_
    refine a_goto (pc := 24) (dk dt_X12_recorded 16 rfl) (tgt := 4) rfl ?_
    exact a_pick [0, 1, 2] rfl H
set_option maxHeartbeats 40000000 in
theorem U_X12_angle_85_0 {G : GG} {Φ : Int → Hp → Prop} {h : Hp} {x1 : Int} (H : (h 85 11) ≠ 0 ∧ (h 85 11) ≠ 0 ∧ Φ ((w32 ((h 85 12) + (w32 ((w32 (3600 * (x1.tmod (h 85 11)))).tdiv (h 85 11))))).tmod 3600) h) : AT G m_X12_angle 0 [(0, rv 85), (1, iv x1)] [] h Φ := by
  refine a_aload_n (pc := 0) (dk dt_X12_angle 0 rfl) rfl ?_
  refine a_geti (pc := 1) (dk dt_X12_angle 1 rfl) cls_12 fl_RX12_387 cf_85_12 ?_
  refine a_sipush (pc := 4) (dk dt_X12_angle 2 rfl) (ik rfl) (spk rfl) ?_
  refine a_iload_n (pc := 7) (dk dt_X12_angle 3 rfl) rfl ?_
  refine a_aload_n (pc := 8) (dk dt_X12_angle 4 rfl) rfl ?_
  refine a_geti (pc := 9) (dk dt_X12_angle 5 rfl) cls_12 fl_RX12_22 cf_85_11 ?_
  refine a_irem (pc := 12) (dk dt_X12_angle 6 rfl) ⟨H.1, ?_⟩
  replace H := H.2
  refine a_imul (pc := 13) (dk dt_X12_angle 7 rfl) ?_
  refine a_aload_n (pc := 14) (dk dt_X12_angle 8 rfl) rfl ?_
  refine a_geti (pc := 15) (dk dt_X12_angle 9 rfl) cls_12 fl_RX12_22 cf_85_11 ?_
  refine a_idiv (pc := 18) (dk dt_X12_angle 10 rfl) ⟨H.1, ?_⟩
  replace H := H.2
  refine a_iadd (pc := 19) (dk dt_X12_angle 11 rfl) ?_
  refine a_sipush (pc := 20) (dk dt_X12_angle 12 rfl) (ik rfl) (spk rfl) ?_
  refine a_irem (pc := 23) (dk dt_X12_angle 13 rfl) ⟨by decide, ?_⟩
  exact a_iret (pc := 24) (dk dt_X12_angle 14 rfl) rfl rfl H
set_option maxHeartbeats 40000000 in
theorem U_X12_isShadow_85_0 {G : GG} {Φ : Int → Hp → Prop} {h : Hp} (H : Call G m_X12_angle [rv 85, iv (h 85 10)] h (fun r1 h2 => Call G m_X12_round [jv (w32 (r1 - (h2 85 13)))] h2 (fun r3 h4 => (((h4 85 14) ≤ r3 → Φ 0 h4) ∧ (r3 < (h4 85 14) → Φ 1 h4))))) : AT G m_X12_isShadow 0 [(0, rv 85)] [] h Φ := by
  refine a_aload_n (pc := 0) (dk dt_X12_isShadow 0 rfl) rfl ?_
  refine a_aload_n (pc := 1) (dk dt_X12_isShadow 1 rfl) rfl ?_
  refine a_geti (pc := 2) (dk dt_X12_isShadow 2 rfl) cls_12 fl_RX12_398 cf_85_10 ?_
  refine a_callVi (as := [iv (h 85 10)]) (st := []) (pc := 5) (dk dt_X12_isShadow 3 rfl) cl_RX12_401 ⟨Nat.le_of_ble_eq_true rfl, Nat.le_of_ble_eq_true rfl⟩ ⟨Nat.le_of_ble_eq_true rfl, Nat.le_of_ble_eq_true rfl⟩ cls_12 rfl cc_85 rfl rfl rfl (Nat.le_of_ble_eq_true rfl) (Call.mono H fun r1 h2 H => ?_)
  refine a_aload_n (pc := 8) (dk dt_X12_isShadow 4 rfl) rfl ?_
  refine a_geti (pc := 9) (dk dt_X12_isShadow 5 rfl) cls_12 fl_RX12_390 cf_85_13 ?_
  refine a_isub (pc := 12) (dk dt_X12_isShadow 6 rfl) ?_
  refine a_i2l (pc := 13) (dk dt_X12_isShadow 7 rfl) ?_
  refine a_callSi (as := [jv (w32 (r1 - (h2 85 13)))]) (st := []) (pc := 14) (dk dt_X12_isShadow 8 rfl) cl_RX12_404 ⟨Nat.le_of_ble_eq_true rfl, Nat.le_of_ble_eq_true rfl⟩ ⟨Nat.le_of_ble_eq_true rfl, Nat.le_of_ble_eq_true rfl⟩ rfl rfl rfl (Nat.le_of_ble_eq_true rfl) (Call.mono H fun r3 h4 H => ?_)
  refine a_aload_n (pc := 17) (dk dt_X12_isShadow 9 rfl) rfl ?_
  refine a_geti (pc := 18) (dk dt_X12_isShadow 10 rfl) cls_12 fl_RX12_393 cf_85_14 ?_
  refine a_icmp_ge (pc := 21) (dk dt_X12_isShadow 11 rfl) (tgt := 28) rfl ⟨fun c => ?_, fun c => ?_⟩
  · replace H := H.1 c
    refine a_iconst (pc := 28) (dk dt_X12_isShadow 14 rfl) (ik rfl) ?_
    exact a_zret (pc := 29) (dk dt_X12_isShadow 15 rfl) rfl rfl ⟨by decide, H⟩
  · replace H := H.2 c
    refine a_iconst (pc := 24) (dk dt_X12_isShadow 12 rfl) (ik rfl) ?_
    refine a_goto (pc := 25) (dk dt_X12_isShadow 13 rfl) (tgt := 29) rfl ?_
    exact a_zret (pc := 29) (dk dt_X12_isShadow 15 rfl) rfl rfl ⟨by decide, H⟩
set_option maxHeartbeats 40000000 in
theorem U_X12_read_85_0 {G : GG} {Φ : Int → Hp → Prop} {h : Hp} {x1 : Int} (H : (0 ≤ x1 ∧ x1 < 64) ∧ Call G m_X12_places [iv (h 97 x1)] h (fun r1 h2 => Call G m_X12_odd [iv (h 97 x1)] h2 (fun r3 h4 => ((r3 ≠ 0 → ((r1 ≤ 12 → Call G m_X12_plain [iv (bxor (h 97 x1) (bshl 1 r1))] h4 (fun r5 h6 => Φ r5 h6)) ∧ (12 < r1 → Φ (-1) h4))) ∧ (r3 = 0 → ((r1 ≠ 0 → Φ (-1) h4) ∧ (r1 = 0 → Call G m_X12_plain [iv (h 97 x1)] h4 (fun r7 h8 => Φ r7 h8)))))))) : AT G m_X12_read 0 [(0, rv 85), (1, iv x1)] [] h Φ := by
  refine a_aload_n (pc := 0) (dk dt_X12_read 0 rfl) rfl ?_
  refine a_getr (r := 96) (pc := 1) (dk dt_X12_read 1 rfl) cls_12 fl_RX12_57 cf_85_28 ?_
  refine a_iload_n (pc := 4) (dk dt_X12_read 2 rfl) rfl ?_
  refine a_iald (pc := 5) (dk dt_X12_read 3 rfl) ar_97 ⟨H.1, ?_⟩
  replace H := H.2
  refine a_istore_n (pc := 6) (dk dt_X12_read 4 rfl) (by decide) rfl rfl ?_
  refine a_iload_n (pc := 7) (dk dt_X12_read 5 rfl) rfl ?_
  refine a_callSi (as := [iv (h 97 x1)]) (st := []) (pc := 8) (dk dt_X12_read 6 rfl) cl_RX12_429 ⟨Nat.le_of_ble_eq_true rfl, Nat.le_of_ble_eq_true rfl⟩ ⟨Nat.le_of_ble_eq_true rfl, Nat.le_of_ble_eq_true rfl⟩ rfl rfl rfl (Nat.le_of_ble_eq_true rfl) (Call.mono H fun r1 h2 H => ?_)
  refine a_istore_n (pc := 11) (dk dt_X12_read 7 rfl) (by decide) rfl rfl ?_
  refine a_iload_n (pc := 12) (dk dt_X12_read 8 rfl) rfl ?_
  refine a_callSi (as := [iv (h 97 x1)]) (st := []) (pc := 13) (dk dt_X12_read 9 rfl) cl_RX12_432 ⟨Nat.le_of_ble_eq_true rfl, Nat.le_of_ble_eq_true rfl⟩ ⟨Nat.le_of_ble_eq_true rfl, Nat.le_of_ble_eq_true rfl⟩ rfl rfl rfl (Nat.le_of_ble_eq_true rfl) (Call.mono H fun r3 h4 H => ?_)
  refine a_if_ne (pc := 16) (dk dt_X12_read 10 rfl) (tgt := 32) rfl ⟨fun c => ?_, fun c => ?_⟩
  · replace H := H.1 c
    refine a_iload_n (pc := 32) (dk dt_X12_read 18 rfl) rfl ?_
    refine a_bipush (pc := 33) (dk dt_X12_read 19 rfl) (ik rfl) (bpk rfl) ?_
    refine a_icmp_le (pc := 35) (dk dt_X12_read 20 rfl) (tgt := 42) rfl ⟨fun c => ?_, fun c => ?_⟩
    · replace H := H.1 c
      refine a_iload_n (pc := 42) (dk dt_X12_read 23 rfl) rfl ?_
      refine a_iconst (pc := 43) (dk dt_X12_read 24 rfl) (ik rfl) ?_
      refine a_iload_n (pc := 44) (dk dt_X12_read 25 rfl) rfl ?_
      refine a_ishl (pc := 45) (dk dt_X12_read 26 rfl) ?_
      refine a_ixor (pc := 46) (dk dt_X12_read 27 rfl) ?_
      refine a_callSi (as := [iv (bxor (h 97 x1) (bshl 1 r1))]) (st := []) (pc := 47) (dk dt_X12_read 28 rfl) cl_RX12_435 ⟨Nat.le_of_ble_eq_true rfl, Nat.le_of_ble_eq_true rfl⟩ ⟨Nat.le_of_ble_eq_true rfl, Nat.le_of_ble_eq_true rfl⟩ rfl rfl rfl (Nat.le_of_ble_eq_true rfl) (Call.mono H fun r5 h6 H => ?_)
      exact a_iret (pc := 50) (dk dt_X12_read 29 rfl) rfl rfl H
    · replace H := H.2 c
      refine a_iconst (pc := 38) (dk dt_X12_read 21 rfl) (ik rfl) ?_
      refine a_goto (pc := 39) (dk dt_X12_read 22 rfl) (tgt := 50) rfl ?_
      exact a_iret (pc := 50) (dk dt_X12_read 29 rfl) rfl rfl H
  · replace H := H.2 c
    refine a_iload_n (pc := 19) (dk dt_X12_read 11 rfl) rfl ?_
    refine a_if_ne (pc := 20) (dk dt_X12_read 12 rfl) (tgt := 30) rfl ⟨fun c => ?_, fun c => ?_⟩
    · replace H := H.1 c
      refine a_iconst (pc := 30) (dk dt_X12_read 16 rfl) (ik rfl) ?_
      exact a_iret (pc := 31) (dk dt_X12_read 17 rfl) rfl rfl H
    · replace H := H.2 c
      refine a_iload_n (pc := 23) (dk dt_X12_read 13 rfl) rfl ?_
      refine a_callSi (as := [iv (h 97 x1)]) (st := []) (pc := 24) (dk dt_X12_read 14 rfl) cl_RX12_435 ⟨Nat.le_of_ble_eq_true rfl, Nat.le_of_ble_eq_true rfl⟩ ⟨Nat.le_of_ble_eq_true rfl, Nat.le_of_ble_eq_true rfl⟩ rfl rfl rfl (Nat.le_of_ble_eq_true rfl) (Call.mono H fun r7 h8 H => ?_)
      refine a_goto (pc := 27) (dk dt_X12_read 15 rfl) (tgt := 31) rfl ?_
      exact a_iret (pc := 31) (dk dt_X12_read 17 rfl) rfl rfl H
