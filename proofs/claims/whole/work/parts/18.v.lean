set_option maxHeartbeats 40000000 in
theorem V_X11_pass_1_0 {G : GG} {Φ : Int → Hp → Prop} {h : Hp} {x1 : Int} {x2 : Int} {x3 : Int} {x4 : Int} (H : ((x1 < 0 → Φ (-1) h) ∧ (0 ≤ x1 → ((3 < x1 → Φ (-1) h) ∧ (x1 ≤ 3 → ((x2 < 0 → Φ (-1) h) ∧ (0 ≤ x2 → ((99999 < x2 → Φ (-1) h) ∧ (x2 ≤ 99999 → ((x3 < 0 → Φ (-1) h) ∧ (0 ≤ x3 → ((99999 < x3 → Φ (-1) h) ∧ (x3 ≤ 99999 → ((x3 ≤ x2 → Φ (-1) h) ∧ (x2 < x3 → ((x4 < 1 → Φ (-1) h) ∧ (1 ≤ x4 → ((99 < x4 → Φ (-1) h) ∧ (x4 ≤ 99 → (((h 75 5) ≠ 12 → (0 ≤ (h 75 5) ∧ (h 75 5) < 12) ∧ (0 ≤ (h 75 5) ∧ (h 75 5) < 12) ∧ (0 ≤ (h 75 5) ∧ (h 75 5) < 12) ∧ (0 ≤ (h 75 5) ∧ (h 75 5) < 12) ∧ Φ (w32 ((w32 ((h 75 5) + 1)) - 1)) (up (up (up (up (up (up h 76 (h 75 5) x1) 77 (h 75 5) x2) 78 (h 75 5) x3) 79 (h 75 5) x4) 75 5 (w32 ((h 75 5) + 1))) 75 7 0)) ∧ ((h 75 5) = 12 → Φ (-4) h))))))))))))))))))))) : AT G m_X11_pass 0 [(0, rv 1), (1, iv x1), (2, iv x2), (3, iv x3), (4, iv x4)] [] h Φ := by
  refine a_iload_n (pc := 0) (dk dt_X11_pass 0 rfl) rfl ?_
  refine a_callSi (as := [iv x1]) (st := []) (pc := 1) (dk dt_X11_pass 1 rfl) cl_RX11_150 ⟨Nat.le_of_ble_eq_true rfl, Nat.le_of_ble_eq_true rfl⟩ ⟨Nat.le_of_ble_eq_true rfl, Nat.le_of_ble_eq_true rfl⟩ rfl rfl rfl (Nat.le_of_ble_eq_true rfl) (Call.of rfl (Nat.le_of_ble_eq_true rfl) rfl ?_)
  refine a_iload_n (pc := 0) (dk dt_X11_isStation 0 rfl) rfl ?_
  refine a_iconst (pc := 1) (dk dt_X11_isStation 1 rfl) (ik rfl) ?_
  refine a_iconst (pc := 2) (dk dt_X11_isStation 2 rfl) (ik rfl) ?_
  refine a_callSi (as := [iv x1, iv 0, iv 3]) (st := []) (pc := 3) (dk dt_X11_isStation 3 rfl) cl_RX11_104 ⟨Nat.le_of_ble_eq_true rfl, Nat.le_of_ble_eq_true rfl⟩ ⟨Nat.le_of_ble_eq_true rfl, Nat.le_of_ble_eq_true rfl⟩ rfl rfl rfl (Nat.le_of_ble_eq_true rfl) (Call.of rfl (Nat.le_of_ble_eq_true rfl) rfl ?_)
  refine a_iload_n (pc := 0) (dk dt_X11_within 0 rfl) rfl ?_
  refine a_iload_n (pc := 1) (dk dt_X11_within 1 rfl) rfl ?_
  refine a_icmp_lt (pc := 2) (dk dt_X11_within 2 rfl) (tgt := 14) rfl ⟨fun c => ?_, fun c => ?_⟩
  · replace H := H.1 c
    refine a_iconst (pc := 14) (dk dt_X11_within 8 rfl) (ik rfl) ?_
    refine a_zret (pc := 15) (dk dt_X11_within 9 rfl) rfl rfl ⟨by decide, ?_⟩
    show ATW _ _ _ _ _ _ _ _ _ _
    refine a_zret (pc := 6) (dk dt_X11_isStation 4 rfl) rfl rfl ⟨by decide, ?_⟩
    show ATW _ _ _ _ _ _ _ _ _ _
    refine a_if_eq (pc := 4) (dk dt_X11_pass 2 rfl) (tgt := 45) rfl ⟨fun _ => ?_, fun c => absurd c (by decide)⟩
    refine a_iconst (pc := 45) (dk dt_X11_pass 21 rfl) (ik rfl) ?_
    exact a_iret (pc := 46) (dk dt_X11_pass 22 rfl) rfl rfl H
  · replace H := H.2 c
    refine a_iload_n (pc := 5) (dk dt_X11_within 3 rfl) rfl ?_
    refine a_iload_n (pc := 6) (dk dt_X11_within 4 rfl) rfl ?_
    refine a_icmp_gt (pc := 7) (dk dt_X11_within 5 rfl) (tgt := 14) rfl ⟨fun c => ?_, fun c => ?_⟩
    · replace H := H.1 c
      refine a_iconst (pc := 14) (dk dt_X11_within 8 rfl) (ik rfl) ?_
      refine a_zret (pc := 15) (dk dt_X11_within 9 rfl) rfl rfl ⟨by decide, ?_⟩
      show ATW _ _ _ _ _ _ _ _ _ _
      refine a_zret (pc := 6) (dk dt_X11_isStation 4 rfl) rfl rfl ⟨by decide, ?_⟩
      show ATW _ _ _ _ _ _ _ _ _ _
      refine a_if_eq (pc := 4) (dk dt_X11_pass 2 rfl) (tgt := 45) rfl ⟨fun _ => ?_, fun c => absurd c (by decide)⟩
      refine a_iconst (pc := 45) (dk dt_X11_pass 21 rfl) (ik rfl) ?_
      exact a_iret (pc := 46) (dk dt_X11_pass 22 rfl) rfl rfl H
    · replace H := H.2 c
      refine a_iconst (pc := 10) (dk dt_X11_within 6 rfl) (ik rfl) ?_
      refine a_goto (pc := 11) (dk dt_X11_within 7 rfl) (tgt := 15) rfl ?_
      refine a_zret (pc := 15) (dk dt_X11_within 9 rfl) rfl rfl ⟨by decide, ?_⟩
      show ATW _ _ _ _ _ _ _ _ _ _
      refine a_zret (pc := 6) (dk dt_X11_isStation 4 rfl) rfl rfl ⟨by decide, ?_⟩
      show ATW _ _ _ _ _ _ _ _ _ _
      refine a_if_eq (pc := 4) (dk dt_X11_pass 2 rfl) (tgt := 45) rfl ⟨fun c => absurd c (by decide), fun _ => ?_⟩
      refine a_iload_n (pc := 7) (dk dt_X11_pass 3 rfl) rfl ?_
      refine a_iconst (pc := 8) (dk dt_X11_pass 4 rfl) (ik rfl) ?_
      refine a_ldcw (n := 99999) (pc := 9) (dk dt_X11_pass 5 rfl) (ik rfl) co_RX11_355 ?_
      refine a_callSi (as := [iv x2, iv 0, iv 99999]) (st := []) (pc := 12) (dk dt_X11_pass 6 rfl) cl_RX11_104 ⟨Nat.le_of_ble_eq_true rfl, Nat.le_of_ble_eq_true rfl⟩ ⟨Nat.le_of_ble_eq_true rfl, Nat.le_of_ble_eq_true rfl⟩ rfl rfl rfl (Nat.le_of_ble_eq_true rfl) (Call.of rfl (Nat.le_of_ble_eq_true rfl) rfl ?_)
      refine a_iload_n (pc := 0) (dk dt_X11_within 0 rfl) rfl ?_
      refine a_iload_n (pc := 1) (dk dt_X11_within 1 rfl) rfl ?_
      refine a_icmp_lt (pc := 2) (dk dt_X11_within 2 rfl) (tgt := 14) rfl ⟨fun c => ?_, fun c => ?_⟩
      · replace H := H.1 c
        refine a_iconst (pc := 14) (dk dt_X11_within 8 rfl) (ik rfl) ?_
        refine a_zret (pc := 15) (dk dt_X11_within 9 rfl) rfl rfl ⟨by decide, ?_⟩
        show ATW _ _ _ _ _ _ _ _ _ _
        refine a_if_eq (pc := 15) (dk dt_X11_pass 7 rfl) (tgt := 45) rfl ⟨fun _ => ?_, fun c => absurd c (by decide)⟩
        refine a_iconst (pc := 45) (dk dt_X11_pass 21 rfl) (ik rfl) ?_
        exact a_iret (pc := 46) (dk dt_X11_pass 22 rfl) rfl rfl H
      · replace H := H.2 c
        refine a_iload_n (pc := 5) (dk dt_X11_within 3 rfl) rfl ?_
        refine a_iload_n (pc := 6) (dk dt_X11_within 4 rfl) rfl ?_
        refine a_icmp_gt (pc := 7) (dk dt_X11_within 5 rfl) (tgt := 14) rfl ⟨fun c => ?_, fun c => ?_⟩
        · replace H := H.1 c
          refine a_iconst (pc := 14) (dk dt_X11_within 8 rfl) (ik rfl) ?_
          refine a_zret (pc := 15) (dk dt_X11_within 9 rfl) rfl rfl ⟨by decide, ?_⟩
          show ATW _ _ _ _ _ _ _ _ _ _
          refine a_if_eq (pc := 15) (dk dt_X11_pass 7 rfl) (tgt := 45) rfl ⟨fun _ => ?_, fun c => absurd c (by decide)⟩
          refine a_iconst (pc := 45) (dk dt_X11_pass 21 rfl) (ik rfl) ?_
          exact a_iret (pc := 46) (dk dt_X11_pass 22 rfl) rfl rfl H
        · replace H := H.2 c
          refine a_iconst (pc := 10) (dk dt_X11_within 6 rfl) (ik rfl) ?_
          refine a_goto (pc := 11) (dk dt_X11_within 7 rfl) (tgt := 15) rfl ?_
          refine a_zret (pc := 15) (dk dt_X11_within 9 rfl) rfl rfl ⟨by decide, ?_⟩
          show ATW _ _ _ _ _ _ _ _ _ _
          refine a_if_eq (pc := 15) (dk dt_X11_pass 7 rfl) (tgt := 45) rfl ⟨fun c => absurd c (by decide), fun _ => ?_⟩
          refine a_iload_n (pc := 18) (dk dt_X11_pass 8 rfl) rfl ?_
          refine a_iconst (pc := 19) (dk dt_X11_pass 9 rfl) (ik rfl) ?_
          refine a_ldcw (n := 99999) (pc := 20) (dk dt_X11_pass 10 rfl) (ik rfl) co_RX11_355 ?_
          refine a_callSi (as := [iv x3, iv 0, iv 99999]) (st := []) (pc := 23) (dk dt_X11_pass 11 rfl) cl_RX11_104 ⟨Nat.le_of_ble_eq_true rfl, Nat.le_of_ble_eq_true rfl⟩ ⟨Nat.le_of_ble_eq_true rfl, Nat.le_of_ble_eq_true rfl⟩ rfl rfl rfl (Nat.le_of_ble_eq_true rfl) (Call.of rfl (Nat.le_of_ble_eq_true rfl) rfl ?_)
          refine a_iload_n (pc := 0) (dk dt_X11_within 0 rfl) rfl ?_
          refine a_iload_n (pc := 1) (dk dt_X11_within 1 rfl) rfl ?_
          refine a_icmp_lt (pc := 2) (dk dt_X11_within 2 rfl) (tgt := 14) rfl ⟨fun c => ?_, fun c => ?_⟩
          · replace H := H.1 c
            refine a_iconst (pc := 14) (dk dt_X11_within 8 rfl) (ik rfl) ?_
            refine a_zret (pc := 15) (dk dt_X11_within 9 rfl) rfl rfl ⟨by decide, ?_⟩
            show ATW _ _ _ _ _ _ _ _ _ _
            refine a_if_eq (pc := 26) (dk dt_X11_pass 12 rfl) (tgt := 45) rfl ⟨fun _ => ?_, fun c => absurd c (by decide)⟩
            refine a_iconst (pc := 45) (dk dt_X11_pass 21 rfl) (ik rfl) ?_
            exact a_iret (pc := 46) (dk dt_X11_pass 22 rfl) rfl rfl H
          · replace H := H.2 c
            refine a_iload_n (pc := 5) (dk dt_X11_within 3 rfl) rfl ?_
            refine a_iload_n (pc := 6) (dk dt_X11_within 4 rfl) rfl ?_
            refine a_icmp_gt (pc := 7) (dk dt_X11_within 5 rfl) (tgt := 14) rfl ⟨fun c => ?_, fun c => ?_⟩
            · replace H := H.1 c
              refine a_iconst (pc := 14) (dk dt_X11_within 8 rfl) (ik rfl) ?_
              refine a_zret (pc := 15) (dk dt_X11_within 9 rfl) rfl rfl ⟨by decide, ?_⟩
              show ATW _ _ _ _ _ _ _ _ _ _
              refine a_if_eq (pc := 26) (dk dt_X11_pass 12 rfl) (tgt := 45) rfl ⟨fun _ => ?_, fun c => absurd c (by decide)⟩
              refine a_iconst (pc := 45) (dk dt_X11_pass 21 rfl) (ik rfl) ?_
              exact a_iret (pc := 46) (dk dt_X11_pass 22 rfl) rfl rfl H
            · replace H := H.2 c
              refine a_iconst (pc := 10) (dk dt_X11_within 6 rfl) (ik rfl) ?_
              refine a_goto (pc := 11) (dk dt_X11_within 7 rfl) (tgt := 15) rfl ?_
              refine a_zret (pc := 15) (dk dt_X11_within 9 rfl) rfl rfl ⟨by decide, ?_⟩
              show ATW _ _ _ _ _ _ _ _ _ _
              refine a_if_eq (pc := 26) (dk dt_X11_pass 12 rfl) (tgt := 45) rfl ⟨fun c => absurd c (by decide), fun _ => ?_⟩
              refine a_iload_n (pc := 29) (dk dt_X11_pass 13 rfl) rfl ?_
              refine a_iload_n (pc := 30) (dk dt_X11_pass 14 rfl) rfl ?_
              refine a_icmp_le (pc := 31) (dk dt_X11_pass 15 rfl) (tgt := 45) rfl ⟨fun c => ?_, fun c => ?_⟩
              · replace H := H.1 c
                refine a_iconst (pc := 45) (dk dt_X11_pass 21 rfl) (ik rfl) ?_
                exact a_iret (pc := 46) (dk dt_X11_pass 22 rfl) rfl rfl H
              · replace H := H.2 c
                refine a_iload (pc := 34) (dk dt_X11_pass 16 rfl) rfl ?_
                refine a_iconst (pc := 36) (dk dt_X11_pass 17 rfl) (ik rfl) ?_
                refine a_bipush (pc := 37) (dk dt_X11_pass 18 rfl) (ik rfl) (bpk rfl) ?_
                refine a_callSi (as := [iv x4, iv 1, iv 99]) (st := []) (pc := 39) (dk dt_X11_pass 19 rfl) cl_RX11_104 ⟨Nat.le_of_ble_eq_true rfl, Nat.le_of_ble_eq_true rfl⟩ ⟨Nat.le_of_ble_eq_true rfl, Nat.le_of_ble_eq_true rfl⟩ rfl rfl rfl (Nat.le_of_ble_eq_true rfl) (Call.of rfl (Nat.le_of_ble_eq_true rfl) rfl ?_)
                refine a_iload_n (pc := 0) (dk dt_X11_within 0 rfl) rfl ?_
                refine a_iload_n (pc := 1) (dk dt_X11_within 1 rfl) rfl ?_
                refine a_icmp_lt (pc := 2) (dk dt_X11_within 2 rfl) (tgt := 14) rfl ⟨fun c => ?_, fun c => ?_⟩
                · replace H := H.1 c
                  refine a_iconst (pc := 14) (dk dt_X11_within 8 rfl) (ik rfl) ?_
                  refine a_zret (pc := 15) (dk dt_X11_within 9 rfl) rfl rfl ⟨by decide, ?_⟩
                  show ATW _ _ _ _ _ _ _ _ _ _
                  refine a_if_ne (pc := 42) (dk dt_X11_pass 20 rfl) (tgt := 47) rfl ⟨fun c => absurd c (by decide), fun _ => ?_⟩
                  refine a_iconst (pc := 45) (dk dt_X11_pass 21 rfl) (ik rfl) ?_
                  exact a_iret (pc := 46) (dk dt_X11_pass 22 rfl) rfl rfl H
                · replace H := H.2 c
                  refine a_iload_n (pc := 5) (dk dt_X11_within 3 rfl) rfl ?_
                  refine a_iload_n (pc := 6) (dk dt_X11_within 4 rfl) rfl ?_
                  refine a_icmp_gt (pc := 7) (dk dt_X11_within 5 rfl) (tgt := 14) rfl ⟨fun c => ?_, fun c => ?_⟩
                  · replace H := H.1 c
                    refine a_iconst (pc := 14) (dk dt_X11_within 8 rfl) (ik rfl) ?_
                    refine a_zret (pc := 15) (dk dt_X11_within 9 rfl) rfl rfl ⟨by decide, ?_⟩
                    show ATW _ _ _ _ _ _ _ _ _ _
                    refine a_if_ne (pc := 42) (dk dt_X11_pass 20 rfl) (tgt := 47) rfl ⟨fun c => absurd c (by decide), fun _ => ?_⟩
                    refine a_iconst (pc := 45) (dk dt_X11_pass 21 rfl) (ik rfl) ?_
                    exact a_iret (pc := 46) (dk dt_X11_pass 22 rfl) rfl rfl H
                  · replace H := H.2 c
                    refine a_iconst (pc := 10) (dk dt_X11_within 6 rfl) (ik rfl) ?_
                    refine a_goto (pc := 11) (dk dt_X11_within 7 rfl) (tgt := 15) rfl ?_
                    refine a_zret (pc := 15) (dk dt_X11_within 9 rfl) rfl rfl ⟨by decide, ?_⟩
                    show ATW _ _ _ _ _ _ _ _ _ _
                    refine a_if_ne (pc := 42) (dk dt_X11_pass 20 rfl) (tgt := 47) rfl ⟨fun _ => ?_, fun c => absurd c (by decide)⟩
                    refine a_aload_n (pc := 47) (dk dt_X11_pass 23 rfl) rfl ?_
                    refine a_getr (r := 74) (pc := 48) (dk dt_X11_pass 24 rfl) cls_11 fl_RX11_89 cf_1_11 ?_
                    refine a_iload_n (pc := 51) (dk dt_X11_pass 25 rfl) rfl ?_
                    refine a_iload_n (pc := 52) (dk dt_X11_pass 26 rfl) rfl ?_
                    refine a_iload_n (pc := 53) (dk dt_X11_pass 27 rfl) rfl ?_
                    refine a_iload (pc := 54) (dk dt_X11_pass 28 rfl) rfl ?_
                    refine a_callVi (as := [iv x1, iv x2, iv x3, iv x4]) (st := []) (pc := 56) (dk dt_X11_pass 29 rfl) cl_RX11_356 ⟨Nat.le_of_ble_eq_true rfl, Nat.le_of_ble_eq_true rfl⟩ ⟨Nat.le_of_ble_eq_true rfl, Nat.le_of_ble_eq_true rfl⟩ cls_7 rfl cc_75 rfl rfl rfl (Nat.le_of_ble_eq_true rfl) (Call.of rfl (Nat.le_of_ble_eq_true rfl) rfl ?_)
                    refine a_aload_n (pc := 0) (dk dt_X7_add 0 rfl) rfl ?_
                    refine a_geti (pc := 1) (dk dt_X7_add 1 rfl) cls_7 fl_RX7_31 cf_75_5 ?_
                    refine a_bipush (pc := 4) (dk dt_X7_add 2 rfl) (ik rfl) (bpk rfl) ?_
                    refine a_icmp_ne (pc := 6) (dk dt_X7_add 3 rfl) (tgt := 12) rfl ⟨fun c => ?_, fun c => ?_⟩
                    · replace H := H.1 c
                      refine a_aload_n (pc := 12) (dk dt_X7_add 6 rfl) rfl ?_
                      refine a_getr (r := 75) (pc := 13) (dk dt_X7_add 7 rfl) cls_7 fl_RX7_11 cf_75_0 ?_
                      refine a_aload_n (pc := 16) (dk dt_X7_add 8 rfl) rfl ?_
                      refine a_geti (pc := 17) (dk dt_X7_add 9 rfl) cls_7 fl_RX7_31 cf_75_5 ?_
                      refine a_iload_n (pc := 20) (dk dt_X7_add 10 rfl) rfl ?_
                      refine a_iast (pc := 21) (dk dt_X7_add 11 rfl) ar_76 ⟨H.1, ?_⟩
                      replace H := H.2
                      refine a_aload_n (pc := 22) (dk dt_X7_add 12 rfl) rfl ?_
                      refine a_getr (r := 76) (pc := 23) (dk dt_X7_add 13 rfl) cls_7 fl_RX7_15 cf_75_1 ?_
                      refine a_aload_n (pc := 26) (dk dt_X7_add 14 rfl) rfl ?_
                      refine a_geti (pc := 27) (dk dt_X7_add 15 rfl) cls_7 fl_RX7_31 cf_75_5 ?_
                      refine a_top (y := (h 75 5)) (by simp [up, cpy]) ?_
                      refine a_iload_n (pc := 30) (dk dt_X7_add 16 rfl) rfl ?_
                      refine a_iast (pc := 31) (dk dt_X7_add 17 rfl) ar_77 ⟨H.1, ?_⟩
                      replace H := H.2
                      refine a_aload_n (pc := 32) (dk dt_X7_add 18 rfl) rfl ?_
                      refine a_getr (r := 77) (pc := 33) (dk dt_X7_add 19 rfl) cls_7 fl_RX7_18 cf_75_2 ?_
                      refine a_aload_n (pc := 36) (dk dt_X7_add 20 rfl) rfl ?_
                      refine a_geti (pc := 37) (dk dt_X7_add 21 rfl) cls_7 fl_RX7_31 cf_75_5 ?_
                      refine a_top (y := (h 75 5)) (by simp [up, cpy]) ?_
                      refine a_iload_n (pc := 40) (dk dt_X7_add 22 rfl) rfl ?_
                      refine a_iast (pc := 41) (dk dt_X7_add 23 rfl) ar_78 ⟨H.1, ?_⟩
                      replace H := H.2
                      refine a_aload_n (pc := 42) (dk dt_X7_add 24 rfl) rfl ?_
                      refine a_getr (r := 78) (pc := 43) (dk dt_X7_add 25 rfl) cls_7 fl_RX7_21 cf_75_3 ?_
                      refine a_aload_n (pc := 46) (dk dt_X7_add 26 rfl) rfl ?_
                      refine a_geti (pc := 47) (dk dt_X7_add 27 rfl) cls_7 fl_RX7_31 cf_75_5 ?_
                      refine a_top (y := (h 75 5)) (by simp [up, cpy]) ?_
                      refine a_iload (pc := 50) (dk dt_X7_add 28 rfl) rfl ?_
                      refine a_iast (pc := 52) (dk dt_X7_add 29 rfl) ar_79 ⟨H.1, ?_⟩
                      replace H := H.2
                      refine a_aload_n (pc := 53) (dk dt_X7_add 30 rfl) rfl ?_
                      refine a_dup (pc := 54) (dk dt_X7_add 31 rfl) rfl ?_
                      refine a_geti (pc := 55) (dk dt_X7_add 32 rfl) cls_7 fl_RX7_31 cf_75_5 ?_
                      refine a_top (y := (h 75 5)) (by simp [up, cpy]) ?_
                      refine a_iconst (pc := 58) (dk dt_X7_add 33 rfl) (ik rfl) ?_
                      refine a_iadd (pc := 59) (dk dt_X7_add 34 rfl) ?_
                      refine a_puti (pc := 60) (dk dt_X7_add 35 rfl) cls_7 fl_RX7_31 cf_75_5 rfl rfl ?_
                      refine a_aload_n (pc := 63) (dk dt_X7_add 36 rfl) rfl ?_
                      refine a_iconst (pc := 64) (dk dt_X7_add 37 rfl) (ik rfl) ?_
                      refine a_putz (pc := 65) (dk dt_X7_add 38 rfl) cls_7 fl_RX7_34 cf_75_7 rfl rfl ⟨by decide, ?_⟩
                      refine a_aload_n (pc := 68) (dk dt_X7_add 39 rfl) rfl ?_
                      refine a_geti (pc := 69) (dk dt_X7_add 40 rfl) cls_7 fl_RX7_31 cf_75_5 ?_
                      refine a_top (y := (w32 ((h 75 5) + 1))) (by simp [up, cpy]) ?_
                      refine a_iconst (pc := 72) (dk dt_X7_add 41 rfl) (ik rfl) ?_
                      refine a_isub (pc := 73) (dk dt_X7_add 42 rfl) ?_
                      refine a_iret (pc := 74) (dk dt_X7_add 43 rfl) rfl rfl ?_
                      show ATW _ _ _ _ _ _ _ _ _ _
                      exact a_iret (pc := 59) (dk dt_X11_pass 30 rfl) rfl rfl H
                    · replace H := H.2 c
                      refine a_bipush (pc := 9) (dk dt_X7_add 4 rfl) (ik rfl) (bpk rfl) ?_
                      refine a_iret (pc := 11) (dk dt_X7_add 5 rfl) rfl rfl ?_
                      show ATW _ _ _ _ _ _ _ _ _ _
                      exact a_iret (pc := 59) (dk dt_X11_pass 30 rfl) rfl rfl H
set_option maxHeartbeats 40000000 in
theorem V_X11_due_1_0 {G : GG} {Φ : Int → Hp → Prop} {h : Hp} {x1 : Int} {x2 : Int} (H : ((x2 < 0 → Φ (-1) h) ∧ (0 ≤ x2 → ((7 < x2 → Φ (-1) h) ∧ (x2 ≤ 7 → (((h 34 4) < x1 → (((h 34 14) ≠ 10 → (0 ≤ (h 34 14) ∧ (h 34 14) < 10) ∧ (0 ≤ (h 34 14) ∧ (h 34 14) < 10) ∧ Φ (w32 ((h 34 14) + 1)) (up (up (up h 52 (h 34 14) x1) 53 (h 34 14) x2) 34 14 (w32 ((h 34 14) + 1)))) ∧ ((h 34 14) = 10 → Φ (-4) h))) ∧ (x1 ≤ (h 34 4) → Φ (-1) h))))))) : AT G m_X11_due 0 [(0, rv 1), (1, iv x1), (2, iv x2)] [] h Φ := by
  refine a_iload_n (pc := 0) (dk dt_X11_due 0 rfl) rfl ?_
  refine a_callSi (as := [iv x2]) (st := []) (pc := 1) (dk dt_X11_due 1 rfl) cl_RX11_196 ⟨Nat.le_of_ble_eq_true rfl, Nat.le_of_ble_eq_true rfl⟩ ⟨Nat.le_of_ble_eq_true rfl, Nat.le_of_ble_eq_true rfl⟩ rfl rfl rfl (Nat.le_of_ble_eq_true rfl) (Call.of rfl (Nat.le_of_ble_eq_true rfl) rfl ?_)
  refine a_iload_n (pc := 0) (dk dt_X11_isProgram 0 rfl) rfl ?_
  refine a_iconst (pc := 1) (dk dt_X11_isProgram 1 rfl) (ik rfl) ?_
  refine a_bipush (pc := 2) (dk dt_X11_isProgram 2 rfl) (ik rfl) (bpk rfl) ?_
  refine a_callSi (as := [iv x2, iv 0, iv 7]) (st := []) (pc := 4) (dk dt_X11_isProgram 3 rfl) cl_RX11_104 ⟨Nat.le_of_ble_eq_true rfl, Nat.le_of_ble_eq_true rfl⟩ ⟨Nat.le_of_ble_eq_true rfl, Nat.le_of_ble_eq_true rfl⟩ rfl rfl rfl (Nat.le_of_ble_eq_true rfl) (Call.of rfl (Nat.le_of_ble_eq_true rfl) rfl ?_)
  refine a_iload_n (pc := 0) (dk dt_X11_within 0 rfl) rfl ?_
  refine a_iload_n (pc := 1) (dk dt_X11_within 1 rfl) rfl ?_
  refine a_icmp_lt (pc := 2) (dk dt_X11_within 2 rfl) (tgt := 14) rfl ⟨fun c => ?_, fun c => ?_⟩
  · replace H := H.1 c
    refine a_iconst (pc := 14) (dk dt_X11_within 8 rfl) (ik rfl) ?_
    refine a_zret (pc := 15) (dk dt_X11_within 9 rfl) rfl rfl ⟨by decide, ?_⟩
    show ATW _ _ _ _ _ _ _ _ _ _
    refine a_zret (pc := 7) (dk dt_X11_isProgram 4 rfl) rfl rfl ⟨by decide, ?_⟩
    show ATW _ _ _ _ _ _ _ _ _ _
    refine a_if_eq (pc := 4) (dk dt_X11_due 2 rfl) (tgt := 18) rfl ⟨fun _ => ?_, fun c => absurd c (by decide)⟩
    refine a_iconst (pc := 18) (dk dt_X11_due 8 rfl) (ik rfl) ?_
    exact a_iret (pc := 19) (dk dt_X11_due 9 rfl) rfl rfl H
  · replace H := H.2 c
    refine a_iload_n (pc := 5) (dk dt_X11_within 3 rfl) rfl ?_
    refine a_iload_n (pc := 6) (dk dt_X11_within 4 rfl) rfl ?_
    refine a_icmp_gt (pc := 7) (dk dt_X11_within 5 rfl) (tgt := 14) rfl ⟨fun c => ?_, fun c => ?_⟩
    · replace H := H.1 c
      refine a_iconst (pc := 14) (dk dt_X11_within 8 rfl) (ik rfl) ?_
      refine a_zret (pc := 15) (dk dt_X11_within 9 rfl) rfl rfl ⟨by decide, ?_⟩
      show ATW _ _ _ _ _ _ _ _ _ _
      refine a_zret (pc := 7) (dk dt_X11_isProgram 4 rfl) rfl rfl ⟨by decide, ?_⟩
      show ATW _ _ _ _ _ _ _ _ _ _
      refine a_if_eq (pc := 4) (dk dt_X11_due 2 rfl) (tgt := 18) rfl ⟨fun _ => ?_, fun c => absurd c (by decide)⟩
      refine a_iconst (pc := 18) (dk dt_X11_due 8 rfl) (ik rfl) ?_
      exact a_iret (pc := 19) (dk dt_X11_due 9 rfl) rfl rfl H
    · replace H := H.2 c
      refine a_iconst (pc := 10) (dk dt_X11_within 6 rfl) (ik rfl) ?_
      refine a_goto (pc := 11) (dk dt_X11_within 7 rfl) (tgt := 15) rfl ?_
      refine a_zret (pc := 15) (dk dt_X11_within 9 rfl) rfl rfl ⟨by decide, ?_⟩
      show ATW _ _ _ _ _ _ _ _ _ _
      refine a_zret (pc := 7) (dk dt_X11_isProgram 4 rfl) rfl rfl ⟨by decide, ?_⟩
      show ATW _ _ _ _ _ _ _ _ _ _
      refine a_if_eq (pc := 4) (dk dt_X11_due 2 rfl) (tgt := 18) rfl ⟨fun c => absurd c (by decide), fun _ => ?_⟩
      refine a_iload_n (pc := 7) (dk dt_X11_due 3 rfl) rfl ?_
      refine a_aload_n (pc := 8) (dk dt_X11_due 4 rfl) rfl ?_
      refine a_getr (r := 33) (pc := 9) (dk dt_X11_due 5 rfl) cls_11 fl_RX11_75 cf_1_9 ?_
      refine a_geti (pc := 12) (dk dt_X11_due 6 rfl) cls_0 fl_RX11_162 cf_34_4 ?_
      refine a_icmp_gt (pc := 15) (dk dt_X11_due 7 rfl) (tgt := 20) rfl ⟨fun c => ?_, fun c => ?_⟩
      · replace H := H.1 c
        refine a_aload_n (pc := 20) (dk dt_X11_due 10 rfl) rfl ?_
        refine a_getr (r := 33) (pc := 21) (dk dt_X11_due 11 rfl) cls_11 fl_RX11_75 cf_1_9 ?_
        refine a_iload_n (pc := 24) (dk dt_X11_due 12 rfl) rfl ?_
        refine a_iload_n (pc := 25) (dk dt_X11_due 13 rfl) rfl ?_
        refine a_callVi (as := [iv x1, iv x2]) (st := []) (pc := 26) (dk dt_X11_due 14 rfl) cl_RX11_206 ⟨Nat.le_of_ble_eq_true rfl, Nat.le_of_ble_eq_true rfl⟩ ⟨Nat.le_of_ble_eq_true rfl, Nat.le_of_ble_eq_true rfl⟩ cls_0 rfl cc_34 rfl rfl rfl (Nat.le_of_ble_eq_true rfl) (Call.of rfl (Nat.le_of_ble_eq_true rfl) rfl ?_)
        refine a_aload_n (pc := 0) (dk dt_X0_addDue 0 rfl) rfl ?_
        refine a_geti (pc := 1) (dk dt_X0_addDue 1 rfl) cls_0 fl_RX0_125 cf_34_14 ?_
        refine a_bipush (pc := 4) (dk dt_X0_addDue 2 rfl) (ik rfl) (bpk rfl) ?_
        refine a_icmp_ne (pc := 6) (dk dt_X0_addDue 3 rfl) (tgt := 12) rfl ⟨fun c => ?_, fun c => ?_⟩
        · replace H := H.1 c
          refine a_aload_n (pc := 12) (dk dt_X0_addDue 6 rfl) rfl ?_
          refine a_getr (r := 51) (pc := 13) (dk dt_X0_addDue 7 rfl) cls_0 fl_RX0_33 cf_34_12 ?_
          refine a_aload_n (pc := 16) (dk dt_X0_addDue 8 rfl) rfl ?_
          refine a_geti (pc := 17) (dk dt_X0_addDue 9 rfl) cls_0 fl_RX0_125 cf_34_14 ?_
          refine a_iload_n (pc := 20) (dk dt_X0_addDue 10 rfl) rfl ?_
          refine a_iast (pc := 21) (dk dt_X0_addDue 11 rfl) ar_52 ⟨H.1, ?_⟩
          replace H := H.2
          refine a_aload_n (pc := 22) (dk dt_X0_addDue 12 rfl) rfl ?_
          refine a_getr (r := 52) (pc := 23) (dk dt_X0_addDue 13 rfl) cls_0 fl_RX0_36 cf_34_13 ?_
          refine a_aload_n (pc := 26) (dk dt_X0_addDue 14 rfl) rfl ?_
          refine a_geti (pc := 27) (dk dt_X0_addDue 15 rfl) cls_0 fl_RX0_125 cf_34_14 ?_
          refine a_top (y := (h 34 14)) (by simp [up, cpy]) ?_
          refine a_iload_n (pc := 30) (dk dt_X0_addDue 16 rfl) rfl ?_
          refine a_iast (pc := 31) (dk dt_X0_addDue 17 rfl) ar_53 ⟨H.1, ?_⟩
          replace H := H.2
          refine a_aload_n (pc := 32) (dk dt_X0_addDue 18 rfl) rfl ?_
          refine a_dup (pc := 33) (dk dt_X0_addDue 19 rfl) rfl ?_
          refine a_geti (pc := 34) (dk dt_X0_addDue 20 rfl) cls_0 fl_RX0_125 cf_34_14 ?_
          refine a_top (y := (h 34 14)) (by simp [up, cpy]) ?_
          refine a_iconst (pc := 37) (dk dt_X0_addDue 21 rfl) (ik rfl) ?_
          refine a_iadd (pc := 38) (dk dt_X0_addDue 22 rfl) ?_
          refine a_puti (pc := 39) (dk dt_X0_addDue 23 rfl) cls_0 fl_RX0_125 cf_34_14 rfl rfl ?_
          refine a_aload_n (pc := 42) (dk dt_X0_addDue 24 rfl) rfl ?_
          refine a_geti (pc := 43) (dk dt_X0_addDue 25 rfl) cls_0 fl_RX0_125 cf_34_14 ?_
          refine a_top (y := (w32 ((h 34 14) + 1))) (by simp [up, cpy]) ?_
          refine a_iret (pc := 46) (dk dt_X0_addDue 26 rfl) rfl rfl ?_
          show ATW _ _ _ _ _ _ _ _ _ _
          exact a_iret (pc := 29) (dk dt_X11_due 15 rfl) rfl rfl H
        · replace H := H.2 c
          refine a_bipush (pc := 9) (dk dt_X0_addDue 4 rfl) (ik rfl) (bpk rfl) ?_
          refine a_iret (pc := 11) (dk dt_X0_addDue 5 rfl) rfl rfl ?_
          show ATW _ _ _ _ _ _ _ _ _ _
          exact a_iret (pc := 29) (dk dt_X11_due 15 rfl) rfl rfl H
      · replace H := H.2 c
        refine a_iconst (pc := 18) (dk dt_X11_due 8 rfl) (ik rfl) ?_
        exact a_iret (pc := 19) (dk dt_X11_due 9 rfl) rfl rfl H
