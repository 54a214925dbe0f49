theorem df_1 : ∀ j, j < 13 → defaultValue (tyX11 j) = if rf 1 j = 0 then .int 0 else .null := by decide +kernel
theorem df_2 : ∀ j, j < 4 → defaultValue (tyX10 j) = if rf 2 j = 0 then .int 0 else .null := by decide +kernel
theorem df_4 : ∀ j, j < 7 → defaultValue (tyX3 j) = if rf 4 j = 0 then .int 0 else .null := by decide +kernel
theorem df_12 : ∀ j, j < 2 → defaultValue (tyX1 j) = if rf 12 j = 0 then .int 0 else .null := by decide +kernel
theorem df_14 : ∀ j, j < 9 → defaultValue (tyX6 j) = if rf 14 j = 0 then .int 0 else .null := by decide +kernel
theorem df_18 : ∀ j, j < 10 → defaultValue (tyX8 j) = if rf 18 j = 0 then .int 0 else .null := by decide +kernel
theorem df_24 : ∀ j, j < 3 → defaultValue (tyX5 j) = if rf 24 j = 0 then .int 0 else .null := by decide +kernel
theorem df_26 : ∀ j, j < 15 → defaultValue (tyX4 j) = if rf 26 j = 0 then .int 0 else .null := by decide +kernel
theorem df_34 : ∀ j, j < 20 → defaultValue (tyX0 j) = if rf 34 j = 0 then .int 0 else .null := by decide +kernel
theorem df_36 : ∀ j, j < 7 → defaultValue (tyX3 j) = if rf 36 j = 0 then .int 0 else .null := by decide +kernel
theorem df_43 : ∀ j, j < 7 → defaultValue (tyX3 j) = if rf 43 j = 0 then .int 0 else .null := by decide +kernel
theorem df_54 : ∀ j, j < 7 → defaultValue (tyX3 j) = if rf 54 j = 0 then .int 0 else .null := by decide +kernel
theorem df_65 : ∀ j, j < 12 → defaultValue (tyX2 j) = if rf 65 j = 0 then .int 0 else .null := by decide +kernel
theorem df_68 : ∀ j, j < 7 → defaultValue (tyX3 j) = if rf 68 j = 0 then .int 0 else .null := by decide +kernel
theorem df_75 : ∀ j, j < 10 → defaultValue (tyX7 j) = if rf 75 j = 0 then .int 0 else .null := by decide +kernel
theorem df_81 : ∀ j, j < 3 → defaultValue (tyX9 j) = if rf 81 j = 0 then .int 0 else .null := by decide +kernel
theorem df_85 : ∀ j, j < 106 → defaultValue (tyX12 j) = if rf 85 j = 0 then .int 0 else .null := by decide +kernel
def z_X10_init_2 (z : N3) : N3 := (setN (upN (newN z) 2 0 3) 2 3 (-1))
set_option maxHeartbeats 40000000 in
set_option maxRecDepth 100000 in
theorem nc_X10_init_2 {G : GG} {ρ : Nat → Nat → Nat} {f : Hp} : NC2 G m_X10_init [rv 2] (2, ρ, f) (z_X10_init_2 (2, ρ, f)) 1 1600 := by
  refine NC2.of rfl (Nat.le_of_ble_eq_true rfl) rfl ?_
  refine n_aload_n (pc := 0) (dk dt_X10_init 0 rfl) rfl ?_
  refine n_obj (pc := 1) (dk dt_X10_init 1 rfl) obi_RX10_3 ⟨Nat.le_of_ble_eq_true rfl, Nat.le_of_ble_eq_true rfl⟩ (by decide) ?_
  refine n_aload_n (pc := 4) (dk dt_X10_init 2 rfl) rfl ?_
  refine n_sipush (pc := 5) (dk dt_X10_init 3 rfl) (ik rfl) (spk rfl) ?_
  refine n_newa (k := 3) (N := 1600) (kn := 20) (pc := 8) (dk dt_X10_init 4 rfl) arc_int (Or.inl ⟨rfl, rfl⟩) rfl ar_3 rfl ⟨Nat.le_of_ble_eq_true rfl, Nat.le_of_ble_eq_true rfl⟩ ?_
  refine n_putr (r := 2) (pc := 10) (dk dt_X10_init 5 rfl) cls_10 fl_RX10_11 cf_2_0 (Nat.le_of_ble_eq_true rfl) rfl rfl ⟨rfl, rfl⟩ ?_
  refine n_aload_n (pc := 13) (dk dt_X10_init 6 rfl) rfl ?_
  refine n_iconst (pc := 14) (dk dt_X10_init 7 rfl) (ik rfl) ?_
  refine n_puti (pc := 15) (dk dt_X10_init 8 rfl) cls_10 fl_RX10_15 cf_2_3 (Nat.le_of_ble_eq_true rfl) rfl rfl rfl ?_
  exact n_vret (pc := 18) (dk dt_X10_init 9 rfl) rfl rfl rfl
def z_X1_init_12 (z : N3) : N3 := (upN (newN z) 12 0 13)
set_option maxHeartbeats 40000000 in
set_option maxRecDepth 100000 in
theorem nc_X1_init_12 {G : GG} {ρ : Nat → Nat → Nat} {f : Hp} : NC2 G m_X1_init [rv 12] (12, ρ, f) (z_X1_init_12 (12, ρ, f)) 1 10 := by
  refine NC2.of rfl (Nat.le_of_ble_eq_true rfl) rfl ?_
  refine n_aload_n (pc := 0) (dk dt_X1_init 0 rfl) rfl ?_
  refine n_obj (pc := 1) (dk dt_X1_init 1 rfl) obi_RX1_3 ⟨Nat.le_of_ble_eq_true rfl, Nat.le_of_ble_eq_true rfl⟩ (by decide) ?_
  refine n_aload_n (pc := 4) (dk dt_X1_init 2 rfl) rfl ?_
  refine n_bipush (pc := 5) (dk dt_X1_init 3 rfl) (ik rfl) (bpk rfl) ?_
  refine n_newa (k := 13) (N := 10) (kn := 20) (pc := 7) (dk dt_X1_init 4 rfl) arc_int (Or.inl ⟨rfl, rfl⟩) rfl ar_13 rfl ⟨Nat.le_of_ble_eq_true rfl, Nat.le_of_ble_eq_true rfl⟩ ?_
  refine n_putr (r := 12) (pc := 9) (dk dt_X1_init 5 rfl) cls_1 fl_RX1_11 cf_12_0 (Nat.le_of_ble_eq_true rfl) rfl rfl ⟨rfl, rfl⟩ ?_
  exact n_vret (pc := 12) (dk dt_X1_init 6 rfl) rfl rfl rfl
def z_X6_init_14 (z : N3) : N3 := (upN (newN (upN (newN (upN (newN (setN z 14 0 5400)) 14 6 15)) 14 7 16)) 14 8 17)
set_option maxHeartbeats 40000000 in
set_option maxRecDepth 100000 in
theorem nc_X6_init_14 {G : GG} {ρ : Nat → Nat → Nat} {f : Hp} : NC2 G m_X6_init [rv 14] (14, ρ, f) (z_X6_init_14 (14, ρ, f)) 3 12 := by
  refine NC2.of rfl (Nat.le_of_ble_eq_true rfl) rfl ?_
  refine n_aload_n (pc := 0) (dk dt_X6_init 0 rfl) rfl ?_
  refine n_obj (pc := 1) (dk dt_X6_init 1 rfl) obi_RX6_3 ⟨Nat.le_of_ble_eq_true rfl, Nat.le_of_ble_eq_true rfl⟩ (by decide) ?_
  refine n_aload_n (pc := 4) (dk dt_X6_init 2 rfl) rfl ?_
  refine n_sipush (pc := 5) (dk dt_X6_init 3 rfl) (ik rfl) (spk rfl) ?_
  refine n_puti (pc := 8) (dk dt_X6_init 4 rfl) cls_6 fl_RX6_9 cf_14_0 (Nat.le_of_ble_eq_true rfl) rfl rfl rfl ?_
  refine n_aload_n (pc := 11) (dk dt_X6_init 5 rfl) rfl ?_
  refine n_iconst (pc := 12) (dk dt_X6_init 6 rfl) (ik rfl) ?_
  refine n_newa (k := 15) (N := 4) (kn := 20) (pc := 13) (dk dt_X6_init 7 rfl) arc_int (Or.inl ⟨rfl, rfl⟩) rfl ar_15 rfl ⟨Nat.le_of_ble_eq_true rfl, Nat.le_of_ble_eq_true rfl⟩ ?_
  refine n_putr (r := 14) (pc := 15) (dk dt_X6_init 8 rfl) cls_6 fl_RX6_15 cf_14_6 (Nat.le_of_ble_eq_true rfl) rfl rfl ⟨rfl, rfl⟩ ?_
  refine n_aload_n (pc := 18) (dk dt_X6_init 9 rfl) rfl ?_
  refine n_iconst (pc := 19) (dk dt_X6_init 10 rfl) (ik rfl) ?_
  refine n_newa (k := 16) (N := 4) (kn := 20) (pc := 20) (dk dt_X6_init 11 rfl) arc_int (Or.inl ⟨rfl, rfl⟩) rfl ar_16 rfl ⟨Nat.le_of_ble_eq_true rfl, Nat.le_of_ble_eq_true rfl⟩ ?_
  refine n_putr (r := 15) (pc := 22) (dk dt_X6_init 12 rfl) cls_6 fl_RX6_19 cf_14_7 (Nat.le_of_ble_eq_true rfl) rfl rfl ⟨rfl, rfl⟩ ?_
  refine n_aload_n (pc := 25) (dk dt_X6_init 13 rfl) rfl ?_
  refine n_iconst (pc := 26) (dk dt_X6_init 14 rfl) (ik rfl) ?_
  refine n_newa (k := 17) (N := 4) (kn := 20) (pc := 27) (dk dt_X6_init 15 rfl) arc_int (Or.inl ⟨rfl, rfl⟩) rfl ar_17 rfl ⟨Nat.le_of_ble_eq_true rfl, Nat.le_of_ble_eq_true rfl⟩ ?_
  refine n_putr (r := 16) (pc := 29) (dk dt_X6_init 16 rfl) cls_6 fl_RX6_22 cf_14_8 (Nat.le_of_ble_eq_true rfl) rfl rfl ⟨rfl, rfl⟩ ?_
  exact n_vret (pc := 32) (dk dt_X6_init 17 rfl) rfl rfl rfl
def z_X8_init_18 (z : N3) : N3 := (upN (setN (setN (setN (setN (setN (setN (setN (setN (newN (upN (newN (upN (newN (upN (newN (upN (newN (setN (setN (setN z 18 0 1000) 18 1 1000) 18 2 100)) 18 5 19)) 18 6 20)) 18 7 21)) 18 8 22)) 23 0 0) 23 1 1) 23 2 2) 23 3 3) 23 4 4) 23 5 5) 23 6 6) 23 7 7) 18 9 23)
set_option maxHeartbeats 40000000 in
set_option maxRecDepth 100000 in
theorem nc_X8_init_18 {G : GG} {ρ : Nat → Nat → Nat} {f : Hp} : NC2 G m_X8_init [rv 18] (18, ρ, f) (z_X8_init_18 (18, ρ, f)) 5 40 := by
  refine NC2.of rfl (Nat.le_of_ble_eq_true rfl) rfl ?_
  refine n_aload_n (pc := 0) (dk dt_X8_init 0 rfl) rfl ?_
  refine n_obj (pc := 1) (dk dt_X8_init 1 rfl) obi_RX8_3 ⟨Nat.le_of_ble_eq_true rfl, Nat.le_of_ble_eq_true rfl⟩ (by decide) ?_
  refine n_aload_n (pc := 4) (dk dt_X8_init 2 rfl) rfl ?_
  refine n_sipush (pc := 5) (dk dt_X8_init 3 rfl) (ik rfl) (spk rfl) ?_
  refine n_puti (pc := 8) (dk dt_X8_init 4 rfl) cls_8 fl_RX8_9 cf_18_0 (Nat.le_of_ble_eq_true rfl) rfl rfl rfl ?_
  refine n_aload_n (pc := 11) (dk dt_X8_init 5 rfl) rfl ?_
  refine n_sipush (pc := 12) (dk dt_X8_init 6 rfl) (ik rfl) (spk rfl) ?_
  refine n_puti (pc := 15) (dk dt_X8_init 7 rfl) cls_8 fl_RX8_15 cf_18_1 (Nat.le_of_ble_eq_true rfl) rfl rfl rfl ?_
  refine n_aload_n (pc := 18) (dk dt_X8_init 8 rfl) rfl ?_
  refine n_bipush (pc := 19) (dk dt_X8_init 9 rfl) (ik rfl) (bpk rfl) ?_
  refine n_puti (pc := 21) (dk dt_X8_init 10 rfl) cls_8 fl_RX8_18 cf_18_2 (Nat.le_of_ble_eq_true rfl) rfl rfl rfl ?_
  refine n_aload_n (pc := 24) (dk dt_X8_init 11 rfl) rfl ?_
  refine n_bipush (pc := 25) (dk dt_X8_init 12 rfl) (ik rfl) (bpk rfl) ?_
  refine n_newa (k := 19) (N := 8) (kn := 20) (pc := 27) (dk dt_X8_init 13 rfl) arc_int (Or.inl ⟨rfl, rfl⟩) rfl ar_19 rfl ⟨Nat.le_of_ble_eq_true rfl, Nat.le_of_ble_eq_true rfl⟩ ?_
  refine n_putr (r := 18) (pc := 29) (dk dt_X8_init 14 rfl) cls_8 fl_RX8_21 cf_18_5 (Nat.le_of_ble_eq_true rfl) rfl rfl ⟨rfl, rfl⟩ ?_
  refine n_aload_n (pc := 32) (dk dt_X8_init 15 rfl) rfl ?_
  refine n_bipush (pc := 33) (dk dt_X8_init 16 rfl) (ik rfl) (bpk rfl) ?_
  refine n_newa (k := 20) (N := 8) (kn := 20) (pc := 35) (dk dt_X8_init 17 rfl) arc_int (Or.inl ⟨rfl, rfl⟩) rfl ar_20 rfl ⟨Nat.le_of_ble_eq_true rfl, Nat.le_of_ble_eq_true rfl⟩ ?_
  refine n_putr (r := 19) (pc := 37) (dk dt_X8_init 18 rfl) cls_8 fl_RX8_25 cf_18_6 (Nat.le_of_ble_eq_true rfl) rfl rfl ⟨rfl, rfl⟩ ?_
  refine n_aload_n (pc := 40) (dk dt_X8_init 19 rfl) rfl ?_
  refine n_bipush (pc := 41) (dk dt_X8_init 20 rfl) (ik rfl) (bpk rfl) ?_
  refine n_newa (k := 21) (N := 8) (kn := 21) (pc := 43) (dk dt_X8_init 21 rfl) arc_boolean (Or.inr ⟨rfl, rfl⟩) rfl ar_21 rfl ⟨Nat.le_of_ble_eq_true rfl, Nat.le_of_ble_eq_true rfl⟩ ?_
  refine n_putr (r := 20) (pc := 45) (dk dt_X8_init 22 rfl) cls_8 fl_RX8_28 cf_18_7 (Nat.le_of_ble_eq_true rfl) rfl rfl ⟨rfl, rfl⟩ ?_
  refine n_aload_n (pc := 48) (dk dt_X8_init 23 rfl) rfl ?_
  refine n_bipush (pc := 49) (dk dt_X8_init 24 rfl) (ik rfl) (bpk rfl) ?_
  refine n_newa (k := 22) (N := 8) (kn := 21) (pc := 51) (dk dt_X8_init 25 rfl) arc_boolean (Or.inr ⟨rfl, rfl⟩) rfl ar_22 rfl ⟨Nat.le_of_ble_eq_true rfl, Nat.le_of_ble_eq_true rfl⟩ ?_
  refine n_putr (r := 21) (pc := 53) (dk dt_X8_init 26 rfl) cls_8 fl_RX8_32 cf_18_8 (Nat.le_of_ble_eq_true rfl) rfl rfl ⟨rfl, rfl⟩ ?_
  refine n_aload_n (pc := 56) (dk dt_X8_init 27 rfl) rfl ?_
  refine n_bipush (pc := 57) (dk dt_X8_init 28 rfl) (ik rfl) (bpk rfl) ?_
  refine n_newa (k := 23) (N := 8) (kn := 20) (pc := 59) (dk dt_X8_init 29 rfl) arc_int (Or.inl ⟨rfl, rfl⟩) rfl ar_23 rfl ⟨Nat.le_of_ble_eq_true rfl, Nat.le_of_ble_eq_true rfl⟩ ?_
  refine n_dup (pc := 61) (dk dt_X8_init 30 rfl) rfl ?_
  refine n_iconst (pc := 62) (dk dt_X8_init 31 rfl) (ik rfl) ?_
  refine n_iconst (pc := 63) (dk dt_X8_init 32 rfl) (ik rfl) ?_
  refine n_iast (pc := 64) (dk dt_X8_init 33 rfl) ar_23 (Nat.le_of_ble_eq_true rfl) ⟨by decide, by decide⟩ ?_
  refine n_dup (pc := 65) (dk dt_X8_init 34 rfl) rfl ?_
  refine n_iconst (pc := 66) (dk dt_X8_init 35 rfl) (ik rfl) ?_
  refine n_iconst (pc := 67) (dk dt_X8_init 36 rfl) (ik rfl) ?_
  refine n_iast (pc := 68) (dk dt_X8_init 37 rfl) ar_23 (Nat.le_of_ble_eq_true rfl) ⟨by decide, by decide⟩ ?_
  refine n_dup (pc := 69) (dk dt_X8_init 38 rfl) rfl ?_
  refine n_iconst (pc := 70) (dk dt_X8_init 39 rfl) (ik rfl) ?_
  refine n_iconst (pc := 71) (dk dt_X8_init 40 rfl) (ik rfl) ?_
  refine n_iast (pc := 72) (dk dt_X8_init 41 rfl) ar_23 (Nat.le_of_ble_eq_true rfl) ⟨by decide, by decide⟩ ?_
  refine n_dup (pc := 73) (dk dt_X8_init 42 rfl) rfl ?_
  refine n_iconst (pc := 74) (dk dt_X8_init 43 rfl) (ik rfl) ?_
  refine n_iconst (pc := 75) (dk dt_X8_init 44 rfl) (ik rfl) ?_
  refine n_iast (pc := 76) (dk dt_X8_init 45 rfl) ar_23 (Nat.le_of_ble_eq_true rfl) ⟨by decide, by decide⟩ ?_
  refine n_dup (pc := 77) (dk dt_X8_init 46 rfl) rfl ?_
  refine n_iconst (pc := 78) (dk dt_X8_init 47 rfl) (ik rfl) ?_
  refine n_iconst (pc := 79) (dk dt_X8_init 48 rfl) (ik rfl) ?_
  refine n_iast (pc := 80) (dk dt_X8_init 49 rfl) ar_23 (Nat.le_of_ble_eq_true rfl) ⟨by decide, by decide⟩ ?_
  refine n_dup (pc := 81) (dk dt_X8_init 50 rfl) rfl ?_
  refine n_iconst (pc := 82) (dk dt_X8_init 51 rfl) (ik rfl) ?_
  refine n_iconst (pc := 83) (dk dt_X8_init 52 rfl) (ik rfl) ?_
  refine n_iast (pc := 84) (dk dt_X8_init 53 rfl) ar_23 (Nat.le_of_ble_eq_true rfl) ⟨by decide, by decide⟩ ?_
  refine n_dup (pc := 85) (dk dt_X8_init 54 rfl) rfl ?_
  refine n_bipush (pc := 86) (dk dt_X8_init 55 rfl) (ik rfl) (bpk rfl) ?_
  refine n_bipush (pc := 88) (dk dt_X8_init 56 rfl) (ik rfl) (bpk rfl) ?_
  refine n_iast (pc := 90) (dk dt_X8_init 57 rfl) ar_23 (Nat.le_of_ble_eq_true rfl) ⟨by decide, by decide⟩ ?_
  refine n_dup (pc := 91) (dk dt_X8_init 58 rfl) rfl ?_
  refine n_bipush (pc := 92) (dk dt_X8_init 59 rfl) (ik rfl) (bpk rfl) ?_
  refine n_bipush (pc := 94) (dk dt_X8_init 60 rfl) (ik rfl) (bpk rfl) ?_
  refine n_iast (pc := 96) (dk dt_X8_init 61 rfl) ar_23 (Nat.le_of_ble_eq_true rfl) ⟨by decide, by decide⟩ ?_
  refine n_putr (r := 22) (pc := 97) (dk dt_X8_init 62 rfl) cls_8 fl_RX8_35 cf_18_9 (Nat.le_of_ble_eq_true rfl) rfl rfl ⟨rfl, rfl⟩ ?_
  exact n_vret (pc := 100) (dk dt_X8_init 63 rfl) rfl rfl rfl
def z_X5_init_24 (z : N3) : N3 := (upN (newN z) 24 0 25)
set_option maxHeartbeats 40000000 in
set_option maxRecDepth 100000 in
theorem nc_X5_init_24 {G : GG} {ρ : Nat → Nat → Nat} {f : Hp} : NC2 G m_X5_init [rv 24] (24, ρ, f) (z_X5_init_24 (24, ρ, f)) 1 64 := by
  refine NC2.of rfl (Nat.le_of_ble_eq_true rfl) rfl ?_
  refine n_aload_n (pc := 0) (dk dt_X5_init 0 rfl) rfl ?_
  refine n_obj (pc := 1) (dk dt_X5_init 1 rfl) obi_RX5_3 ⟨Nat.le_of_ble_eq_true rfl, Nat.le_of_ble_eq_true rfl⟩ (by decide) ?_
  refine n_aload_n (pc := 4) (dk dt_X5_init 2 rfl) rfl ?_
  refine n_bipush (pc := 5) (dk dt_X5_init 3 rfl) (ik rfl) (bpk rfl) ?_
  refine n_newa (k := 25) (N := 64) (kn := 20) (pc := 7) (dk dt_X5_init 4 rfl) arc_int (Or.inl ⟨rfl, rfl⟩) rfl ar_25 rfl ⟨Nat.le_of_ble_eq_true rfl, Nat.le_of_ble_eq_true rfl⟩ ?_
  refine n_putr (r := 24) (pc := 9) (dk dt_X5_init 5 rfl) cls_5 fl_RX5_11 cf_24_0 (Nat.le_of_ble_eq_true rfl) rfl rfl ⟨rfl, rfl⟩ ?_
  exact n_vret (pc := 12) (dk dt_X5_init 6 rfl) rfl rfl rfl
def z_X4_init_26 (z : N3) : N3 := (upN (newN (upN (newN (upN (newN (upN (newN (upN (newN (upN (newN (upN (newN z) 26 0 27)) 26 1 28)) 26 2 29)) 26 4 30)) 26 5 31)) 26 6 32)) 26 9 33)
set_option maxHeartbeats 40000000 in
set_option maxRecDepth 100000 in
theorem nc_X4_init_26 {G : GG} {ρ : Nat → Nat → Nat} {f : Hp} : NC2 G m_X4_init [rv 26] (26, ρ, f) (z_X4_init_26 (26, ρ, f)) 7 2586 := by
  refine NC2.of rfl (Nat.le_of_ble_eq_true rfl) rfl ?_
  refine n_aload_n (pc := 0) (dk dt_X4_init 0 rfl) rfl ?_
  refine n_obj (pc := 1) (dk dt_X4_init 1 rfl) obi_RX4_3 ⟨Nat.le_of_ble_eq_true rfl, Nat.le_of_ble_eq_true rfl⟩ (by decide) ?_
  refine n_aload_n (pc := 4) (dk dt_X4_init 2 rfl) rfl ?_
  refine n_sipush (pc := 5) (dk dt_X4_init 3 rfl) (ik rfl) (spk rfl) ?_
  refine n_newa (k := 27) (N := 1800) (kn := 20) (pc := 8) (dk dt_X4_init 4 rfl) arc_int (Or.inl ⟨rfl, rfl⟩) rfl ar_27 rfl ⟨Nat.le_of_ble_eq_true rfl, Nat.le_of_ble_eq_true rfl⟩ ?_
  refine n_putr (r := 26) (pc := 10) (dk dt_X4_init 5 rfl) cls_4 fl_RX4_11 cf_26_0 (Nat.le_of_ble_eq_true rfl) rfl rfl ⟨rfl, rfl⟩ ?_
  refine n_aload_n (pc := 13) (dk dt_X4_init 6 rfl) rfl ?_
  refine n_iconst (pc := 14) (dk dt_X4_init 7 rfl) (ik rfl) ?_
  refine n_newa (k := 28) (N := 4) (kn := 20) (pc := 15) (dk dt_X4_init 8 rfl) arc_int (Or.inl ⟨rfl, rfl⟩) rfl ar_28 rfl ⟨Nat.le_of_ble_eq_true rfl, Nat.le_of_ble_eq_true rfl⟩ ?_
  refine n_putr (r := 27) (pc := 17) (dk dt_X4_init 9 rfl) cls_4 fl_RX4_15 cf_26_1 (Nat.le_of_ble_eq_true rfl) rfl rfl ⟨rfl, rfl⟩ ?_
  refine n_aload_n (pc := 20) (dk dt_X4_init 10 rfl) rfl ?_
  refine n_iconst (pc := 21) (dk dt_X4_init 11 rfl) (ik rfl) ?_
  refine n_newa (k := 29) (N := 4) (kn := 20) (pc := 22) (dk dt_X4_init 12 rfl) arc_int (Or.inl ⟨rfl, rfl⟩) rfl ar_29 rfl ⟨Nat.le_of_ble_eq_true rfl, Nat.le_of_ble_eq_true rfl⟩ ?_
  refine n_putr (r := 28) (pc := 24) (dk dt_X4_init 13 rfl) cls_4 fl_RX4_18 cf_26_2 (Nat.le_of_ble_eq_true rfl) rfl rfl ⟨rfl, rfl⟩ ?_
  refine n_aload_n (pc := 27) (dk dt_X4_init 14 rfl) rfl ?_
  refine n_bipush (pc := 28) (dk dt_X4_init 15 rfl) (ik rfl) (bpk rfl) ?_
  refine n_newa (k := 30) (N := 16) (kn := 20) (pc := 30) (dk dt_X4_init 16 rfl) arc_int (Or.inl ⟨rfl, rfl⟩) rfl ar_30 rfl ⟨Nat.le_of_ble_eq_true rfl, Nat.le_of_ble_eq_true rfl⟩ ?_
  refine n_putr (r := 29) (pc := 32) (dk dt_X4_init 17 rfl) cls_4 fl_RX4_21 cf_26_4 (Nat.le_of_ble_eq_true rfl) rfl rfl ⟨rfl, rfl⟩ ?_
  refine n_aload_n (pc := 35) (dk dt_X4_init 18 rfl) rfl ?_
  refine n_bipush (pc := 36) (dk dt_X4_init 19 rfl) (ik rfl) (bpk rfl) ?_
  refine n_newa (k := 31) (N := 9) (kn := 20) (pc := 38) (dk dt_X4_init 20 rfl) arc_int (Or.inl ⟨rfl, rfl⟩) rfl ar_31 rfl ⟨Nat.le_of_ble_eq_true rfl, Nat.le_of_ble_eq_true rfl⟩ ?_
  refine n_putr (r := 30) (pc := 40) (dk dt_X4_init 21 rfl) cls_4 fl_RX4_24 cf_26_5 (Nat.le_of_ble_eq_true rfl) rfl rfl ⟨rfl, rfl⟩ ?_
  refine n_aload_n (pc := 43) (dk dt_X4_init 22 rfl) rfl ?_
  refine n_bipush (pc := 44) (dk dt_X4_init 23 rfl) (ik rfl) (bpk rfl) ?_
  refine n_newa (k := 32) (N := 9) (kn := 20) (pc := 46) (dk dt_X4_init 24 rfl) arc_int (Or.inl ⟨rfl, rfl⟩) rfl ar_32 rfl ⟨Nat.le_of_ble_eq_true rfl, Nat.le_of_ble_eq_true rfl⟩ ?_
  refine n_putr (r := 31) (pc := 48) (dk dt_X4_init 25 rfl) cls_4 fl_RX4_27 cf_26_6 (Nat.le_of_ble_eq_true rfl) rfl rfl ⟨rfl, rfl⟩ ?_
  refine n_aload_n (pc := 51) (dk dt_X4_init 26 rfl) rfl ?_
  refine n_sipush (pc := 52) (dk dt_X4_init 27 rfl) (ik rfl) (spk rfl) ?_
  refine n_newa (k := 33) (N := 744) (kn := 20) (pc := 55) (dk dt_X4_init 28 rfl) arc_int (Or.inl ⟨rfl, rfl⟩) rfl ar_33 rfl ⟨Nat.le_of_ble_eq_true rfl, Nat.le_of_ble_eq_true rfl⟩ ?_
  refine n_putr (r := 32) (pc := 57) (dk dt_X4_init 29 rfl) cls_4 fl_RX4_30 cf_26_9 (Nat.le_of_ble_eq_true rfl) rfl rfl ⟨rfl, rfl⟩ ?_
  exact n_vret (pc := 60) (dk dt_X4_init 30 rfl) rfl rfl rfl
def z_X7_init_75 (z : N3) : N3 := (setN (upN (newN (upN (newN (upN (newN (upN (newN (upN (newN z) 75 0 76)) 75 1 77)) 75 2 78)) 75 3 79)) 75 4 80) 75 6 10)
set_option maxHeartbeats 40000000 in
set_option maxRecDepth 100000 in
theorem nc_X7_init_75 {G : GG} {ρ : Nat → Nat → Nat} {f : Hp} : NC2 G m_X7_init [rv 75] (75, ρ, f) (z_X7_init_75 (75, ρ, f)) 5 60 := by
  refine NC2.of rfl (Nat.le_of_ble_eq_true rfl) rfl ?_
  refine n_aload_n (pc := 0) (dk dt_X7_init 0 rfl) rfl ?_
  refine n_obj (pc := 1) (dk dt_X7_init 1 rfl) obi_RX7_3 ⟨Nat.le_of_ble_eq_true rfl, Nat.le_of_ble_eq_true rfl⟩ (by decide) ?_
  refine n_aload_n (pc := 4) (dk dt_X7_init 2 rfl) rfl ?_
  refine n_bipush (pc := 5) (dk dt_X7_init 3 rfl) (ik rfl) (bpk rfl) ?_
  refine n_newa (k := 76) (N := 12) (kn := 20) (pc := 7) (dk dt_X7_init 4 rfl) arc_int (Or.inl ⟨rfl, rfl⟩) rfl ar_76 rfl ⟨Nat.le_of_ble_eq_true rfl, Nat.le_of_ble_eq_true rfl⟩ ?_
  refine n_putr (r := 75) (pc := 9) (dk dt_X7_init 5 rfl) cls_7 fl_RX7_11 cf_75_0 (Nat.le_of_ble_eq_true rfl) rfl rfl ⟨rfl, rfl⟩ ?_
  refine n_aload_n (pc := 12) (dk dt_X7_init 6 rfl) rfl ?_
  refine n_bipush (pc := 13) (dk dt_X7_init 7 rfl) (ik rfl) (bpk rfl) ?_
  refine n_newa (k := 77) (N := 12) (kn := 20) (pc := 15) (dk dt_X7_init 8 rfl) arc_int (Or.inl ⟨rfl, rfl⟩) rfl ar_77 rfl ⟨Nat.le_of_ble_eq_true rfl, Nat.le_of_ble_eq_true rfl⟩ ?_
  refine n_putr (r := 76) (pc := 17) (dk dt_X7_init 9 rfl) cls_7 fl_RX7_15 cf_75_1 (Nat.le_of_ble_eq_true rfl) rfl rfl ⟨rfl, rfl⟩ ?_
  refine n_aload_n (pc := 20) (dk dt_X7_init 10 rfl) rfl ?_
  refine n_bipush (pc := 21) (dk dt_X7_init 11 rfl) (ik rfl) (bpk rfl) ?_
  refine n_newa (k := 78) (N := 12) (kn := 20) (pc := 23) (dk dt_X7_init 12 rfl) arc_int (Or.inl ⟨rfl, rfl⟩) rfl ar_78 rfl ⟨Nat.le_of_ble_eq_true rfl, Nat.le_of_ble_eq_true rfl⟩ ?_
  refine n_putr (r := 77) (pc := 25) (dk dt_X7_init 13 rfl) cls_7 fl_RX7_18 cf_75_2 (Nat.le_of_ble_eq_true rfl) rfl rfl ⟨rfl, rfl⟩ ?_
  refine n_aload_n (pc := 28) (dk dt_X7_init 14 rfl) rfl ?_
  refine n_bipush (pc := 29) (dk dt_X7_init 15 rfl) (ik rfl) (bpk rfl) ?_
  refine n_newa (k := 79) (N := 12) (kn := 20) (pc := 31) (dk dt_X7_init 16 rfl) arc_int (Or.inl ⟨rfl, rfl⟩) rfl ar_79 rfl ⟨Nat.le_of_ble_eq_true rfl, Nat.le_of_ble_eq_true rfl⟩ ?_
  refine n_putr (r := 78) (pc := 33) (dk dt_X7_init 17 rfl) cls_7 fl_RX7_21 cf_75_3 (Nat.le_of_ble_eq_true rfl) rfl rfl ⟨rfl, rfl⟩ ?_
  refine n_aload_n (pc := 36) (dk dt_X7_init 18 rfl) rfl ?_
  refine n_bipush (pc := 37) (dk dt_X7_init 19 rfl) (ik rfl) (bpk rfl) ?_
  refine n_newa (k := 80) (N := 12) (kn := 20) (pc := 39) (dk dt_X7_init 20 rfl) arc_int (Or.inl ⟨rfl, rfl⟩) rfl ar_80 rfl ⟨Nat.le_of_ble_eq_true rfl, Nat.le_of_ble_eq_true rfl⟩ ?_
  refine n_putr (r := 79) (pc := 41) (dk dt_X7_init 21 rfl) cls_7 fl_RX7_24 cf_75_4 (Nat.le_of_ble_eq_true rfl) rfl rfl ⟨rfl, rfl⟩ ?_
  refine n_aload_n (pc := 44) (dk dt_X7_init 22 rfl) rfl ?_
  refine n_bipush (pc := 45) (dk dt_X7_init 23 rfl) (ik rfl) (bpk rfl) ?_
  refine n_puti (pc := 47) (dk dt_X7_init 24 rfl) cls_7 fl_RX7_27 cf_75_6 (Nat.le_of_ble_eq_true rfl) rfl rfl rfl ?_
  exact n_vret (pc := 50) (dk dt_X7_init 25 rfl) rfl rfl rfl
def z_X9_init_81 (z : N3) : N3 := (upN (newN (upN (newN (upN (newN z) 81 0 82)) 81 1 83)) 81 2 84)
set_option maxHeartbeats 40000000 in
set_option maxRecDepth 100000 in
theorem nc_X9_init_81 {G : GG} {ρ : Nat → Nat → Nat} {f : Hp} : NC2 G m_X9_init [rv 81] (81, ρ, f) (z_X9_init_81 (81, ρ, f)) 3 864 := by
  refine NC2.of rfl (Nat.le_of_ble_eq_true rfl) rfl ?_
  refine n_aload_n (pc := 0) (dk dt_X9_init 0 rfl) rfl ?_
  refine n_obj (pc := 1) (dk dt_X9_init 1 rfl) obi_RX9_5 ⟨Nat.le_of_ble_eq_true rfl, Nat.le_of_ble_eq_true rfl⟩ (by decide) ?_
  refine n_aload_n (pc := 4) (dk dt_X9_init 2 rfl) rfl ?_
  refine n_sipush (pc := 5) (dk dt_X9_init 3 rfl) (ik rfl) (spk rfl) ?_
  refine n_newa (k := 82) (N := 288) (kn := 21) (pc := 8) (dk dt_X9_init 4 rfl) arc_boolean (Or.inr ⟨rfl, rfl⟩) rfl ar_82 rfl ⟨Nat.le_of_ble_eq_true rfl, Nat.le_of_ble_eq_true rfl⟩ ?_
  refine n_putr (r := 81) (pc := 10) (dk dt_X9_init 5 rfl) cls_9 fl_RX9_11 cf_81_0 (Nat.le_of_ble_eq_true rfl) rfl rfl ⟨rfl, rfl⟩ ?_
  refine n_aload_n (pc := 13) (dk dt_X9_init 6 rfl) rfl ?_
  refine n_sipush (pc := 14) (dk dt_X9_init 7 rfl) (ik rfl) (spk rfl) ?_
  refine n_newa (k := 83) (N := 288) (kn := 20) (pc := 17) (dk dt_X9_init 8 rfl) arc_int (Or.inl ⟨rfl, rfl⟩) rfl ar_83 rfl ⟨Nat.le_of_ble_eq_true rfl, Nat.le_of_ble_eq_true rfl⟩ ?_
  refine n_putr (r := 82) (pc := 19) (dk dt_X9_init 9 rfl) cls_9 fl_RX9_15 cf_81_1 (Nat.le_of_ble_eq_true rfl) rfl rfl ⟨rfl, rfl⟩ ?_
  refine n_aload_n (pc := 22) (dk dt_X9_init 10 rfl) rfl ?_
  refine n_sipush (pc := 23) (dk dt_X9_init 11 rfl) (ik rfl) (spk rfl) ?_
  refine n_newa (k := 84) (N := 288) (kn := 20) (pc := 26) (dk dt_X9_init 12 rfl) arc_int (Or.inl ⟨rfl, rfl⟩) rfl ar_84 rfl ⟨Nat.le_of_ble_eq_true rfl, Nat.le_of_ble_eq_true rfl⟩ ?_
  refine n_putr (r := 83) (pc := 28) (dk dt_X9_init 13 rfl) cls_9 fl_RX9_19 cf_81_2 (Nat.le_of_ble_eq_true rfl) rfl rfl ⟨rfl, rfl⟩ ?_
  exact n_vret (pc := 31) (dk dt_X9_init 14 rfl) rfl rfl rfl
def z_X3_init_4 (z : N3) : N3 := (upN (newN (upN (newN (upN (newN (upN (newN (upN (newN (upN (newN (setN z 4 0 30)) 4 1 5)) 4 2 6)) 4 3 7)) 4 4 8)) 4 5 9)) 4 6 10)
set_option maxHeartbeats 40000000 in
set_option maxRecDepth 100000 in
theorem nc_X3_init_4 {G : GG} {ρ : Nat → Nat → Nat} {f : Hp} : NC2 G m_X3_init [rv 4, iv 30] (4, ρ, f) (z_X3_init_4 (4, ρ, f)) 6 180 := by
  refine NC2.of rfl (Nat.le_of_ble_eq_true rfl) rfl ?_
  refine n_aload_n (pc := 0) (dk dt_X3_init 0 rfl) rfl ?_
  refine n_obj (pc := 1) (dk dt_X3_init 1 rfl) obi_RX3_3 ⟨Nat.le_of_ble_eq_true rfl, Nat.le_of_ble_eq_true rfl⟩ (by decide) ?_
  refine n_aload_n (pc := 4) (dk dt_X3_init 2 rfl) rfl ?_
  refine n_iload_n (pc := 5) (dk dt_X3_init 3 rfl) rfl ?_
  refine n_puti (pc := 6) (dk dt_X3_init 4 rfl) cls_3 fl_RX3_9 cf_4_0 (Nat.le_of_ble_eq_true rfl) rfl rfl rfl ?_
  refine n_aload_n (pc := 9) (dk dt_X3_init 5 rfl) rfl ?_
  refine n_iload_n (pc := 10) (dk dt_X3_init 6 rfl) rfl ?_
  refine n_newa (k := 5) (N := 30) (kn := 20) (pc := 11) (dk dt_X3_init 7 rfl) arc_int (Or.inl ⟨rfl, rfl⟩) rfl ar_5 rfl ⟨Nat.le_of_ble_eq_true rfl, Nat.le_of_ble_eq_true rfl⟩ ?_
  refine n_putr (r := 4) (pc := 13) (dk dt_X3_init 8 rfl) cls_3 fl_RX3_15 cf_4_1 (Nat.le_of_ble_eq_true rfl) rfl rfl ⟨rfl, rfl⟩ ?_
  refine n_aload_n (pc := 16) (dk dt_X3_init 9 rfl) rfl ?_
  refine n_iload_n (pc := 17) (dk dt_X3_init 10 rfl) rfl ?_
  refine n_newa (k := 6) (N := 30) (kn := 20) (pc := 18) (dk dt_X3_init 11 rfl) arc_int (Or.inl ⟨rfl, rfl⟩) rfl ar_6 rfl ⟨Nat.le_of_ble_eq_true rfl, Nat.le_of_ble_eq_true rfl⟩ ?_
  refine n_putr (r := 5) (pc := 20) (dk dt_X3_init 12 rfl) cls_3 fl_RX3_19 cf_4_2 (Nat.le_of_ble_eq_true rfl) rfl rfl ⟨rfl, rfl⟩ ?_
  refine n_aload_n (pc := 23) (dk dt_X3_init 13 rfl) rfl ?_
  refine n_iload_n (pc := 24) (dk dt_X3_init 14 rfl) rfl ?_
  refine n_newa (k := 7) (N := 30) (kn := 20) (pc := 25) (dk dt_X3_init 15 rfl) arc_int (Or.inl ⟨rfl, rfl⟩) rfl ar_7 rfl ⟨Nat.le_of_ble_eq_true rfl, Nat.le_of_ble_eq_true rfl⟩ ?_
  refine n_putr (r := 6) (pc := 27) (dk dt_X3_init 16 rfl) cls_3 fl_RX3_22 cf_4_3 (Nat.le_of_ble_eq_true rfl) rfl rfl ⟨rfl, rfl⟩ ?_
  refine n_aload_n (pc := 30) (dk dt_X3_init 17 rfl) rfl ?_
  refine n_iload_n (pc := 31) (dk dt_X3_init 18 rfl) rfl ?_
  refine n_newa (k := 8) (N := 30) (kn := 20) (pc := 32) (dk dt_X3_init 19 rfl) arc_int (Or.inl ⟨rfl, rfl⟩) rfl ar_8 rfl ⟨Nat.le_of_ble_eq_true rfl, Nat.le_of_ble_eq_true rfl⟩ ?_
  refine n_putr (r := 7) (pc := 34) (dk dt_X3_init 20 rfl) cls_3 fl_RX3_25 cf_4_4 (Nat.le_of_ble_eq_true rfl) rfl rfl ⟨rfl, rfl⟩ ?_
  refine n_aload_n (pc := 37) (dk dt_X3_init 21 rfl) rfl ?_
  refine n_iload_n (pc := 38) (dk dt_X3_init 22 rfl) rfl ?_
  refine n_newa (k := 9) (N := 30) (kn := 20) (pc := 39) (dk dt_X3_init 23 rfl) arc_int (Or.inl ⟨rfl, rfl⟩) rfl ar_9 rfl ⟨Nat.le_of_ble_eq_true rfl, Nat.le_of_ble_eq_true rfl⟩ ?_
  refine n_putr (r := 8) (pc := 41) (dk dt_X3_init 24 rfl) cls_3 fl_RX3_28 cf_4_5 (Nat.le_of_ble_eq_true rfl) rfl rfl ⟨rfl, rfl⟩ ?_
  refine n_aload_n (pc := 44) (dk dt_X3_init 25 rfl) rfl ?_
  refine n_iload_n (pc := 45) (dk dt_X3_init 26 rfl) rfl ?_
  refine n_newa (k := 10) (N := 30) (kn := 20) (pc := 46) (dk dt_X3_init 27 rfl) arc_int (Or.inl ⟨rfl, rfl⟩) rfl ar_10 rfl ⟨Nat.le_of_ble_eq_true rfl, Nat.le_of_ble_eq_true rfl⟩ ?_
  refine n_putr (r := 9) (pc := 48) (dk dt_X3_init 28 rfl) cls_3 fl_RX3_31 cf_4_6 (Nat.le_of_ble_eq_true rfl) rfl rfl ⟨rfl, rfl⟩ ?_
  exact n_vret (pc := 51) (dk dt_X3_init 29 rfl) rfl rfl rfl
def z_X3_init_36 (z : N3) : N3 := (upN (newN (upN (newN (upN (newN (upN (newN (upN (newN (upN (newN (setN z 36 0 240)) 36 1 37)) 36 2 38)) 36 3 39)) 36 4 40)) 36 5 41)) 36 6 42)
set_option maxHeartbeats 40000000 in
set_option maxRecDepth 100000 in
theorem nc_X3_init_36 {G : GG} {ρ : Nat → Nat → Nat} {f : Hp} : NC2 G m_X3_init [rv 36, iv 240] (36, ρ, f) (z_X3_init_36 (36, ρ, f)) 6 1440 := by
  refine NC2.of rfl (Nat.le_of_ble_eq_true rfl) rfl ?_
  refine n_aload_n (pc := 0) (dk dt_X3_init 0 rfl) rfl ?_
  refine n_obj (pc := 1) (dk dt_X3_init 1 rfl) obi_RX3_3 ⟨Nat.le_of_ble_eq_true rfl, Nat.le_of_ble_eq_true rfl⟩ (by decide) ?_
  refine n_aload_n (pc := 4) (dk dt_X3_init 2 rfl) rfl ?_
  refine n_iload_n (pc := 5) (dk dt_X3_init 3 rfl) rfl ?_
  refine n_puti (pc := 6) (dk dt_X3_init 4 rfl) cls_3 fl_RX3_9 cf_36_0 (Nat.le_of_ble_eq_true rfl) rfl rfl rfl ?_
  refine n_aload_n (pc := 9) (dk dt_X3_init 5 rfl) rfl ?_
  refine n_iload_n (pc := 10) (dk dt_X3_init 6 rfl) rfl ?_
  refine n_newa (k := 37) (N := 240) (kn := 20) (pc := 11) (dk dt_X3_init 7 rfl) arc_int (Or.inl ⟨rfl, rfl⟩) rfl ar_37 rfl ⟨Nat.le_of_ble_eq_true rfl, Nat.le_of_ble_eq_true rfl⟩ ?_
  refine n_putr (r := 36) (pc := 13) (dk dt_X3_init 8 rfl) cls_3 fl_RX3_15 cf_36_1 (Nat.le_of_ble_eq_true rfl) rfl rfl ⟨rfl, rfl⟩ ?_
  refine n_aload_n (pc := 16) (dk dt_X3_init 9 rfl) rfl ?_
  refine n_iload_n (pc := 17) (dk dt_X3_init 10 rfl) rfl ?_
  refine n_newa (k := 38) (N := 240) (kn := 20) (pc := 18) (dk dt_X3_init 11 rfl) arc_int (Or.inl ⟨rfl, rfl⟩) rfl ar_38 rfl ⟨Nat.le_of_ble_eq_true rfl, Nat.le_of_ble_eq_true rfl⟩ ?_
  refine n_putr (r := 37) (pc := 20) (dk dt_X3_init 12 rfl) cls_3 fl_RX3_19 cf_36_2 (Nat.le_of_ble_eq_true rfl) rfl rfl ⟨rfl, rfl⟩ ?_
  refine n_aload_n (pc := 23) (dk dt_X3_init 13 rfl) rfl ?_
  refine n_iload_n (pc := 24) (dk dt_X3_init 14 rfl) rfl ?_
  refine n_newa (k := 39) (N := 240) (kn := 20) (pc := 25) (dk dt_X3_init 15 rfl) arc_int (Or.inl ⟨rfl, rfl⟩) rfl ar_39 rfl ⟨Nat.le_of_ble_eq_true rfl, Nat.le_of_ble_eq_true rfl⟩ ?_
  refine n_putr (r := 38) (pc := 27) (dk dt_X3_init 16 rfl) cls_3 fl_RX3_22 cf_36_3 (Nat.le_of_ble_eq_true rfl) rfl rfl ⟨rfl, rfl⟩ ?_
  refine n_aload_n (pc := 30) (dk dt_X3_init 17 rfl) rfl ?_
  refine n_iload_n (pc := 31) (dk dt_X3_init 18 rfl) rfl ?_
  refine n_newa (k := 40) (N := 240) (kn := 20) (pc := 32) (dk dt_X3_init 19 rfl) arc_int (Or.inl ⟨rfl, rfl⟩) rfl ar_40 rfl ⟨Nat.le_of_ble_eq_true rfl, Nat.le_of_ble_eq_true rfl⟩ ?_
  refine n_putr (r := 39) (pc := 34) (dk dt_X3_init 20 rfl) cls_3 fl_RX3_25 cf_36_4 (Nat.le_of_ble_eq_true rfl) rfl rfl ⟨rfl, rfl⟩ ?_
  refine n_aload_n (pc := 37) (dk dt_X3_init 21 rfl) rfl ?_
  refine n_iload_n (pc := 38) (dk dt_X3_init 22 rfl) rfl ?_
  refine n_newa (k := 41) (N := 240) (kn := 20) (pc := 39) (dk dt_X3_init 23 rfl) arc_int (Or.inl ⟨rfl, rfl⟩) rfl ar_41 rfl ⟨Nat.le_of_ble_eq_true rfl, Nat.le_of_ble_eq_true rfl⟩ ?_
  refine n_putr (r := 40) (pc := 41) (dk dt_X3_init 24 rfl) cls_3 fl_RX3_28 cf_36_5 (Nat.le_of_ble_eq_true rfl) rfl rfl ⟨rfl, rfl⟩ ?_
  refine n_aload_n (pc := 44) (dk dt_X3_init 25 rfl) rfl ?_
  refine n_iload_n (pc := 45) (dk dt_X3_init 26 rfl) rfl ?_
  refine n_newa (k := 42) (N := 240) (kn := 20) (pc := 46) (dk dt_X3_init 27 rfl) arc_int (Or.inl ⟨rfl, rfl⟩) rfl ar_42 rfl ⟨Nat.le_of_ble_eq_true rfl, Nat.le_of_ble_eq_true rfl⟩ ?_
  refine n_putr (r := 41) (pc := 48) (dk dt_X3_init 28 rfl) cls_3 fl_RX3_31 cf_36_6 (Nat.le_of_ble_eq_true rfl) rfl rfl ⟨rfl, rfl⟩ ?_
  exact n_vret (pc := 51) (dk dt_X3_init 29 rfl) rfl rfl rfl
def z_X3_init_43 (z : N3) : N3 := (upN (newN (upN (newN (upN (newN (upN (newN (upN (newN (upN (newN (setN z 43 0 240)) 43 1 44)) 43 2 45)) 43 3 46)) 43 4 47)) 43 5 48)) 43 6 49)
set_option maxHeartbeats 40000000 in
set_option maxRecDepth 100000 in
theorem nc_X3_init_43 {G : GG} {ρ : Nat → Nat → Nat} {f : Hp} : NC2 G m_X3_init [rv 43, iv 240] (43, ρ, f) (z_X3_init_43 (43, ρ, f)) 6 1440 := by
  refine NC2.of rfl (Nat.le_of_ble_eq_true rfl) rfl ?_
  refine n_aload_n (pc := 0) (dk dt_X3_init 0 rfl) rfl ?_
  refine n_obj (pc := 1) (dk dt_X3_init 1 rfl) obi_RX3_3 ⟨Nat.le_of_ble_eq_true rfl, Nat.le_of_ble_eq_true rfl⟩ (by decide) ?_
  refine n_aload_n (pc := 4) (dk dt_X3_init 2 rfl) rfl ?_
  refine n_iload_n (pc := 5) (dk dt_X3_init 3 rfl) rfl ?_
  refine n_puti (pc := 6) (dk dt_X3_init 4 rfl) cls_3 fl_RX3_9 cf_43_0 (Nat.le_of_ble_eq_true rfl) rfl rfl rfl ?_
  refine n_aload_n (pc := 9) (dk dt_X3_init 5 rfl) rfl ?_
  refine n_iload_n (pc := 10) (dk dt_X3_init 6 rfl) rfl ?_
  refine n_newa (k := 44) (N := 240) (kn := 20) (pc := 11) (dk dt_X3_init 7 rfl) arc_int (Or.inl ⟨rfl, rfl⟩) rfl ar_44 rfl ⟨Nat.le_of_ble_eq_true rfl, Nat.le_of_ble_eq_true rfl⟩ ?_
  refine n_putr (r := 43) (pc := 13) (dk dt_X3_init 8 rfl) cls_3 fl_RX3_15 cf_43_1 (Nat.le_of_ble_eq_true rfl) rfl rfl ⟨rfl, rfl⟩ ?_
  refine n_aload_n (pc := 16) (dk dt_X3_init 9 rfl) rfl ?_
  refine n_iload_n (pc := 17) (dk dt_X3_init 10 rfl) rfl ?_
  refine n_newa (k := 45) (N := 240) (kn := 20) (pc := 18) (dk dt_X3_init 11 rfl) arc_int (Or.inl ⟨rfl, rfl⟩) rfl ar_45 rfl ⟨Nat.le_of_ble_eq_true rfl, Nat.le_of_ble_eq_true rfl⟩ ?_
  refine n_putr (r := 44) (pc := 20) (dk dt_X3_init 12 rfl) cls_3 fl_RX3_19 cf_43_2 (Nat.le_of_ble_eq_true rfl) rfl rfl ⟨rfl, rfl⟩ ?_
  refine n_aload_n (pc := 23) (dk dt_X3_init 13 rfl) rfl ?_
  refine n_iload_n (pc := 24) (dk dt_X3_init 14 rfl) rfl ?_
  refine n_newa (k := 46) (N := 240) (kn := 20) (pc := 25) (dk dt_X3_init 15 rfl) arc_int (Or.inl ⟨rfl, rfl⟩) rfl ar_46 rfl ⟨Nat.le_of_ble_eq_true rfl, Nat.le_of_ble_eq_true rfl⟩ ?_
  refine n_putr (r := 45) (pc := 27) (dk dt_X3_init 16 rfl) cls_3 fl_RX3_22 cf_43_3 (Nat.le_of_ble_eq_true rfl) rfl rfl ⟨rfl, rfl⟩ ?_
  refine n_aload_n (pc := 30) (dk dt_X3_init 17 rfl) rfl ?_
  refine n_iload_n (pc := 31) (dk dt_X3_init 18 rfl) rfl ?_
  refine n_newa (k := 47) (N := 240) (kn := 20) (pc := 32) (dk dt_X3_init 19 rfl) arc_int (Or.inl ⟨rfl, rfl⟩) rfl ar_47 rfl ⟨Nat.le_of_ble_eq_true rfl, Nat.le_of_ble_eq_true rfl⟩ ?_
  refine n_putr (r := 46) (pc := 34) (dk dt_X3_init 20 rfl) cls_3 fl_RX3_25 cf_43_4 (Nat.le_of_ble_eq_true rfl) rfl rfl ⟨rfl, rfl⟩ ?_
  refine n_aload_n (pc := 37) (dk dt_X3_init 21 rfl) rfl ?_
  refine n_iload_n (pc := 38) (dk dt_X3_init 22 rfl) rfl ?_
  refine n_newa (k := 48) (N := 240) (kn := 20) (pc := 39) (dk dt_X3_init 23 rfl) arc_int (Or.inl ⟨rfl, rfl⟩) rfl ar_48 rfl ⟨Nat.le_of_ble_eq_true rfl, Nat.le_of_ble_eq_true rfl⟩ ?_
  refine n_putr (r := 47) (pc := 41) (dk dt_X3_init 24 rfl) cls_3 fl_RX3_28 cf_43_5 (Nat.le_of_ble_eq_true rfl) rfl rfl ⟨rfl, rfl⟩ ?_
  refine n_aload_n (pc := 44) (dk dt_X3_init 25 rfl) rfl ?_
  refine n_iload_n (pc := 45) (dk dt_X3_init 26 rfl) rfl ?_
  refine n_newa (k := 49) (N := 240) (kn := 20) (pc := 46) (dk dt_X3_init 27 rfl) arc_int (Or.inl ⟨rfl, rfl⟩) rfl ar_49 rfl ⟨Nat.le_of_ble_eq_true rfl, Nat.le_of_ble_eq_true rfl⟩ ?_
  refine n_putr (r := 48) (pc := 48) (dk dt_X3_init 28 rfl) cls_3 fl_RX3_31 cf_43_6 (Nat.le_of_ble_eq_true rfl) rfl rfl ⟨rfl, rfl⟩ ?_
  exact n_vret (pc := 51) (dk dt_X3_init 29 rfl) rfl rfl rfl
def z_X3_init_54 (z : N3) : N3 := (upN (newN (upN (newN (upN (newN (upN (newN (upN (newN (upN (newN (setN z 54 0 8)) 54 1 55)) 54 2 56)) 54 3 57)) 54 4 58)) 54 5 59)) 54 6 60)
set_option maxHeartbeats 40000000 in
set_option maxRecDepth 100000 in
theorem nc_X3_init_54 {G : GG} {ρ : Nat → Nat → Nat} {f : Hp} : NC2 G m_X3_init [rv 54, iv 8] (54, ρ, f) (z_X3_init_54 (54, ρ, f)) 6 48 := by
  refine NC2.of rfl (Nat.le_of_ble_eq_true rfl) rfl ?_
  refine n_aload_n (pc := 0) (dk dt_X3_init 0 rfl) rfl ?_
  refine n_obj (pc := 1) (dk dt_X3_init 1 rfl) obi_RX3_3 ⟨Nat.le_of_ble_eq_true rfl, Nat.le_of_ble_eq_true rfl⟩ (by decide) ?_
  refine n_aload_n (pc := 4) (dk dt_X3_init 2 rfl) rfl ?_
  refine n_iload_n (pc := 5) (dk dt_X3_init 3 rfl) rfl ?_
  refine n_puti (pc := 6) (dk dt_X3_init 4 rfl) cls_3 fl_RX3_9 cf_54_0 (Nat.le_of_ble_eq_true rfl) rfl rfl rfl ?_
  refine n_aload_n (pc := 9) (dk dt_X3_init 5 rfl) rfl ?_
  refine n_iload_n (pc := 10) (dk dt_X3_init 6 rfl) rfl ?_
  refine n_newa (k := 55) (N := 8) (kn := 20) (pc := 11) (dk dt_X3_init 7 rfl) arc_int (Or.inl ⟨rfl, rfl⟩) rfl ar_55 rfl ⟨Nat.le_of_ble_eq_true rfl, Nat.le_of_ble_eq_true rfl⟩ ?_
  refine n_putr (r := 54) (pc := 13) (dk dt_X3_init 8 rfl) cls_3 fl_RX3_15 cf_54_1 (Nat.le_of_ble_eq_true rfl) rfl rfl ⟨rfl, rfl⟩ ?_
  refine n_aload_n (pc := 16) (dk dt_X3_init 9 rfl) rfl ?_
  refine n_iload_n (pc := 17) (dk dt_X3_init 10 rfl) rfl ?_
  refine n_newa (k := 56) (N := 8) (kn := 20) (pc := 18) (dk dt_X3_init 11 rfl) arc_int (Or.inl ⟨rfl, rfl⟩) rfl ar_56 rfl ⟨Nat.le_of_ble_eq_true rfl, Nat.le_of_ble_eq_true rfl⟩ ?_
  refine n_putr (r := 55) (pc := 20) (dk dt_X3_init 12 rfl) cls_3 fl_RX3_19 cf_54_2 (Nat.le_of_ble_eq_true rfl) rfl rfl ⟨rfl, rfl⟩ ?_
  refine n_aload_n (pc := 23) (dk dt_X3_init 13 rfl) rfl ?_
  refine n_iload_n (pc := 24) (dk dt_X3_init 14 rfl) rfl ?_
  refine n_newa (k := 57) (N := 8) (kn := 20) (pc := 25) (dk dt_X3_init 15 rfl) arc_int (Or.inl ⟨rfl, rfl⟩) rfl ar_57 rfl ⟨Nat.le_of_ble_eq_true rfl, Nat.le_of_ble_eq_true rfl⟩ ?_
  refine n_putr (r := 56) (pc := 27) (dk dt_X3_init 16 rfl) cls_3 fl_RX3_22 cf_54_3 (Nat.le_of_ble_eq_true rfl) rfl rfl ⟨rfl, rfl⟩ ?_
  refine n_aload_n (pc := 30) (dk dt_X3_init 17 rfl) rfl ?_
  refine n_iload_n (pc := 31) (dk dt_X3_init 18 rfl) rfl ?_
  refine n_newa (k := 58) (N := 8) (kn := 20) (pc := 32) (dk dt_X3_init 19 rfl) arc_int (Or.inl ⟨rfl, rfl⟩) rfl ar_58 rfl ⟨Nat.le_of_ble_eq_true rfl, Nat.le_of_ble_eq_true rfl⟩ ?_
  refine n_putr (r := 57) (pc := 34) (dk dt_X3_init 20 rfl) cls_3 fl_RX3_25 cf_54_4 (Nat.le_of_ble_eq_true rfl) rfl rfl ⟨rfl, rfl⟩ ?_
  refine n_aload_n (pc := 37) (dk dt_X3_init 21 rfl) rfl ?_
  refine n_iload_n (pc := 38) (dk dt_X3_init 22 rfl) rfl ?_
  refine n_newa (k := 59) (N := 8) (kn := 20) (pc := 39) (dk dt_X3_init 23 rfl) arc_int (Or.inl ⟨rfl, rfl⟩) rfl ar_59 rfl ⟨Nat.le_of_ble_eq_true rfl, Nat.le_of_ble_eq_true rfl⟩ ?_
  refine n_putr (r := 58) (pc := 41) (dk dt_X3_init 24 rfl) cls_3 fl_RX3_28 cf_54_5 (Nat.le_of_ble_eq_true rfl) rfl rfl ⟨rfl, rfl⟩ ?_
  refine n_aload_n (pc := 44) (dk dt_X3_init 25 rfl) rfl ?_
  refine n_iload_n (pc := 45) (dk dt_X3_init 26 rfl) rfl ?_
  refine n_newa (k := 60) (N := 8) (kn := 20) (pc := 46) (dk dt_X3_init 27 rfl) arc_int (Or.inl ⟨rfl, rfl⟩) rfl ar_60 rfl ⟨Nat.le_of_ble_eq_true rfl, Nat.le_of_ble_eq_true rfl⟩ ?_
  refine n_putr (r := 59) (pc := 48) (dk dt_X3_init 28 rfl) cls_3 fl_RX3_31 cf_54_6 (Nat.le_of_ble_eq_true rfl) rfl rfl ⟨rfl, rfl⟩ ?_
  exact n_vret (pc := 51) (dk dt_X3_init 29 rfl) rfl rfl rfl
def z_X3_init_68 (z : N3) : N3 := (upN (newN (upN (newN (upN (newN (upN (newN (upN (newN (upN (newN (setN z 68 0 8)) 68 1 69)) 68 2 70)) 68 3 71)) 68 4 72)) 68 5 73)) 68 6 74)
set_option maxHeartbeats 40000000 in
set_option maxRecDepth 100000 in
theorem nc_X3_init_68 {G : GG} {ρ : Nat → Nat → Nat} {f : Hp} : NC2 G m_X3_init [rv 68, iv 8] (68, ρ, f) (z_X3_init_68 (68, ρ, f)) 6 48 := by
  refine NC2.of rfl (Nat.le_of_ble_eq_true rfl) rfl ?_
  refine n_aload_n (pc := 0) (dk dt_X3_init 0 rfl) rfl ?_
  refine n_obj (pc := 1) (dk dt_X3_init 1 rfl) obi_RX3_3 ⟨Nat.le_of_ble_eq_true rfl, Nat.le_of_ble_eq_true rfl⟩ (by decide) ?_
  refine n_aload_n (pc := 4) (dk dt_X3_init 2 rfl) rfl ?_
  refine n_iload_n (pc := 5) (dk dt_X3_init 3 rfl) rfl ?_
  refine n_puti (pc := 6) (dk dt_X3_init 4 rfl) cls_3 fl_RX3_9 cf_68_0 (Nat.le_of_ble_eq_true rfl) rfl rfl rfl ?_
  refine n_aload_n (pc := 9) (dk dt_X3_init 5 rfl) rfl ?_
  refine n_iload_n (pc := 10) (dk dt_X3_init 6 rfl) rfl ?_
  refine n_newa (k := 69) (N := 8) (kn := 20) (pc := 11) (dk dt_X3_init 7 rfl) arc_int (Or.inl ⟨rfl, rfl⟩) rfl ar_69 rfl ⟨Nat.le_of_ble_eq_true rfl, Nat.le_of_ble_eq_true rfl⟩ ?_
  refine n_putr (r := 68) (pc := 13) (dk dt_X3_init 8 rfl) cls_3 fl_RX3_15 cf_68_1 (Nat.le_of_ble_eq_true rfl) rfl rfl ⟨rfl, rfl⟩ ?_
  refine n_aload_n (pc := 16) (dk dt_X3_init 9 rfl) rfl ?_
  refine n_iload_n (pc := 17) (dk dt_X3_init 10 rfl) rfl ?_
  refine n_newa (k := 70) (N := 8) (kn := 20) (pc := 18) (dk dt_X3_init 11 rfl) arc_int (Or.inl ⟨rfl, rfl⟩) rfl ar_70 rfl ⟨Nat.le_of_ble_eq_true rfl, Nat.le_of_ble_eq_true rfl⟩ ?_
  refine n_putr (r := 69) (pc := 20) (dk dt_X3_init 12 rfl) cls_3 fl_RX3_19 cf_68_2 (Nat.le_of_ble_eq_true rfl) rfl rfl ⟨rfl, rfl⟩ ?_
  refine n_aload_n (pc := 23) (dk dt_X3_init 13 rfl) rfl ?_
  refine n_iload_n (pc := 24) (dk dt_X3_init 14 rfl) rfl ?_
  refine n_newa (k := 71) (N := 8) (kn := 20) (pc := 25) (dk dt_X3_init 15 rfl) arc_int (Or.inl ⟨rfl, rfl⟩) rfl ar_71 rfl ⟨Nat.le_of_ble_eq_true rfl, Nat.le_of_ble_eq_true rfl⟩ ?_
  refine n_putr (r := 70) (pc := 27) (dk dt_X3_init 16 rfl) cls_3 fl_RX3_22 cf_68_3 (Nat.le_of_ble_eq_true rfl) rfl rfl ⟨rfl, rfl⟩ ?_
  refine n_aload_n (pc := 30) (dk dt_X3_init 17 rfl) rfl ?_
  refine n_iload_n (pc := 31) (dk dt_X3_init 18 rfl) rfl ?_
  refine n_newa (k := 72) (N := 8) (kn := 20) (pc := 32) (dk dt_X3_init 19 rfl) arc_int (Or.inl ⟨rfl, rfl⟩) rfl ar_72 rfl ⟨Nat.le_of_ble_eq_true rfl, Nat.le_of_ble_eq_true rfl⟩ ?_
  refine n_putr (r := 71) (pc := 34) (dk dt_X3_init 20 rfl) cls_3 fl_RX3_25 cf_68_4 (Nat.le_of_ble_eq_true rfl) rfl rfl ⟨rfl, rfl⟩ ?_
  refine n_aload_n (pc := 37) (dk dt_X3_init 21 rfl) rfl ?_
  refine n_iload_n (pc := 38) (dk dt_X3_init 22 rfl) rfl ?_
  refine n_newa (k := 73) (N := 8) (kn := 20) (pc := 39) (dk dt_X3_init 23 rfl) arc_int (Or.inl ⟨rfl, rfl⟩) rfl ar_73 rfl ⟨Nat.le_of_ble_eq_true rfl, Nat.le_of_ble_eq_true rfl⟩ ?_
  refine n_putr (r := 72) (pc := 41) (dk dt_X3_init 24 rfl) cls_3 fl_RX3_28 cf_68_5 (Nat.le_of_ble_eq_true rfl) rfl rfl ⟨rfl, rfl⟩ ?_
  refine n_aload_n (pc := 44) (dk dt_X3_init 25 rfl) rfl ?_
  refine n_iload_n (pc := 45) (dk dt_X3_init 26 rfl) rfl ?_
  refine n_newa (k := 74) (N := 8) (kn := 20) (pc := 46) (dk dt_X3_init 27 rfl) arc_int (Or.inl ⟨rfl, rfl⟩) rfl ar_74 rfl ⟨Nat.le_of_ble_eq_true rfl, Nat.le_of_ble_eq_true rfl⟩ ?_
  refine n_putr (r := 73) (pc := 48) (dk dt_X3_init 28 rfl) cls_3 fl_RX3_31 cf_68_6 (Nat.le_of_ble_eq_true rfl) rfl rfl ⟨rfl, rfl⟩ ?_
  exact n_vret (pc := 51) (dk dt_X3_init 29 rfl) rfl rfl rfl
/-- a row filled from its begin on -/
def filN (z : N3) (k : Nat) (v : Int) (N : Int) : N3 := (z.1, z.2.1, fun c i => if c = k ∧ 0 ≤ i ∧ i < N then v else z.2.2 c i)
theorem fil_0 (z : N3) (k : Nat) (v : Int) : filN z k v 0 = z := by
  obtain ⟨n, ρ, f⟩ := z
  unfold filN
  congr 2
  funext c i
  rw [if_neg (by omega)]
theorem fil_s (z : N3) (k : Nat) (v m : Int) (h : 0 ≤ m) : setN (filN z k v m) k m v = filN z k v (m + 1) := by
  obtain ⟨n, ρ, f⟩ := z
  unfold filN setN up
  dsimp only
  congr 2
  funext c i
  by_cases q : c = k ∧ i = m
  · rw [if_pos q, if_pos (by omega)]
  · rw [if_neg q]
    by_cases q2 : c = k ∧ 0 ≤ i ∧ i < m
    · rw [if_pos q2, if_pos (by omega)]
    · rw [if_neg q2, if_neg (by omega)]
theorem fill_50 {G : GG} {z : N3} (hk : 50 ≤ z.1) : NC2 G m_J7_fill_53178 [rv 50, iv (-1)] z (filN z 50 (-1) 8) 0 0 := by
  refine NC2.of rfl (Nat.le_of_ble_eq_true rfl) rfl ?_
  refine n_iconst (pc := 0) (dk dt_J7_fill_53178 0 rfl) (ik rfl) ?_
  refine n_istore_n (pc := 1) (dk dt_J7_fill_53178 1 rfl) (by decide) rfl rfl ?_
  refine n_aload_n (pc := 2) (dk dt_J7_fill_53178 2 rfl) rfl ?_
  refine n_alen (pc := 3) (dk dt_J7_fill_53178 3 rfl) ar_50 hk ?_
  refine n_istore_n (pc := 4) (dk dt_J7_fill_53178 4 rfl) (by decide) rfl rfl ?_
  have loop : ∀ (d : Nat) (m : Int), 0 ≤ m → m + d = 8 → NTW G m_J7_fill_53178 (rmN m_J7_fill_53178.2.2.2.2 0 0) 0 0 (QMN G (filN z 50 (-1) 8) 0 0) 5 [(0, rv 50), (1, iv (-1)), (2, iv m), (3, iv 8)] [] (filN z 50 (-1) m) := by
    intro d
    induction d with
    | zero =>
      intro m h0 h1
      have : m = 8 := by omega
      subst this
      refine n_iload_n (pc := 5) (dk dt_J7_fill_53178 5 rfl) rfl ?_
      refine n_iload_n (pc := 6) (dk dt_J7_fill_53178 6 rfl) rfl ?_
      refine n_icmp_ge (pc := 7) (dk dt_J7_fill_53178 7 rfl) (tgt := 20) rfl ⟨fun _ => ?_, fun c => absurd c (by decide)⟩
      exact n_vret (pc := 20) (dk dt_J7_fill_53178 14 rfl) rfl rfl rfl
    | succ d ih =>
      intro m h0 h1
      refine n_iload_n (pc := 5) (dk dt_J7_fill_53178 5 rfl) rfl ?_
      refine n_iload_n (pc := 6) (dk dt_J7_fill_53178 6 rfl) rfl ?_
      refine n_icmp_ge (pc := 7) (dk dt_J7_fill_53178 7 rfl) (tgt := 20) rfl ⟨fun c => absurd c (by omega), fun _ => ?_⟩
      refine n_aload_n (pc := 10) (dk dt_J7_fill_53178 8 rfl) rfl ?_
      refine n_iload_n (pc := 11) (dk dt_J7_fill_53178 9 rfl) rfl ?_
      refine n_iload_n (pc := 12) (dk dt_J7_fill_53178 10 rfl) rfl ?_
      refine n_iast (pc := 13) (dk dt_J7_fill_53178 11 rfl) ar_50 hk ⟨h0, by omega⟩ ?_
      rw [fil_s z 50 (-1) m h0]
      refine n_iinc (pc := 14) (dk dt_J7_fill_53178 12 rfl) (by decide) rfl rfl rfl ?_
      refine n_goto (pc := 17) (dk dt_J7_fill_53178 13 rfl) (tgt := 5) rfl ?_
      rw [w32_of (by omega) (by omega)]
      exact ih (m + 1) (by omega) (by omega)
  have := loop 8 0 (by omega) (by omega)
  rw [fil_0] at this
  exact this

def z_X0_init_34 (z : N3) : N3 := (filN (upN (upN (upN (upN (upN (newN (upN (newN (upN (newN (upN (newN (upN (z_X3_init_54 (newN (upN (newN (upN (newN (upN (newN (upN (newN (upN (z_X3_init_43 (newN (upN (z_X3_init_36 (newN (upN (newN z) 34 7 35))) 34 8 36))) 34 9 43)) 34 10 50)) 34 11 51)) 34 12 52)) 34 13 53))) 34 15 54)) 34 16 61)) 34 17 62)) 34 18 63)) 34 19 64) 34 0 14) 34 1 18) 34 2 24) 34 3 26) 50 (-1) 8)
set_option maxHeartbeats 40000000 in
set_option maxRecDepth 100000 in
theorem nc_X0_init_34 {G : GG} {ρ : Nat → Nat → Nat} {f : Hp} : NC2 G m_X0_init [rv 34, rv 14, rv 18, rv 24, rv 26] (34, ρ, f) (z_X0_init_34 (34, ρ, f)) 30 3025 := by
  refine NC2.of rfl (Nat.le_of_ble_eq_true rfl) rfl ?_
  refine n_aload_n (pc := 0) (dk dt_X0_init 0 rfl) rfl ?_
  refine n_obj (pc := 1) (dk dt_X0_init 1 rfl) obi_RX0_3 ⟨Nat.le_of_ble_eq_true rfl, Nat.le_of_ble_eq_true rfl⟩ (by decide) ?_
  refine n_aload_n (pc := 4) (dk dt_X0_init 2 rfl) rfl ?_
  refine n_bipush (pc := 5) (dk dt_X0_init 3 rfl) (ik rfl) (bpk rfl) ?_
  refine n_newa (k := 35) (N := 8) (kn := 20) (pc := 7) (dk dt_X0_init 4 rfl) arc_int (Or.inl ⟨rfl, rfl⟩) rfl ar_35 rfl ⟨Nat.le_of_ble_eq_true rfl, Nat.le_of_ble_eq_true rfl⟩ ?_
  refine n_putr (r := 34) (pc := 9) (dk dt_X0_init 5 rfl) cls_0 fl_RX0_9 cf_34_7 (Nat.le_of_ble_eq_true rfl) rfl rfl ⟨rfl, rfl⟩ ?_
  refine n_aload_n (pc := 12) (dk dt_X0_init 6 rfl) rfl ?_
  refine n_new (k := 36) (pc := 13) (dk dt_X0_init 7 rfl) cn_RX0_15 cls_3 rfl cc_36 df_36 ⟨Nat.le_of_ble_eq_true rfl, Nat.le_of_ble_eq_true rfl⟩ ?_
  refine n_dup (pc := 16) (dk dt_X0_init 8 rfl) rfl ?_
  refine n_sipush (pc := 17) (dk dt_X0_init 9 rfl) (ik rfl) (spk rfl) ?_
  refine n_callI (as := [iv 240]) (st := [rv 36, rv 34]) (z' := z_X3_init_36 (newN (upN (newN (34, ρ, f)) 34 7 35))) (pc := 20) (dk dt_X0_init 10 rfl) cli_RX0_17 ⟨Nat.le_of_ble_eq_true rfl, Nat.le_of_ble_eq_true rfl⟩ ⟨Nat.le_of_ble_eq_true rfl, Nat.le_of_ble_eq_true rfl⟩ rfl rfl (by decide) rfl rfl (Nat.le_of_ble_eq_true rfl) nc_X3_init_36 ?_
  refine n_putr (r := 35) (pc := 23) (dk dt_X0_init 11 rfl) cls_0 fl_RX0_20 cf_34_8 (Nat.le_of_ble_eq_true rfl) rfl rfl ⟨rfl, rfl⟩ ?_
  refine n_aload_n (pc := 26) (dk dt_X0_init 12 rfl) rfl ?_
  refine n_new (k := 43) (pc := 27) (dk dt_X0_init 13 rfl) cn_RX0_15 cls_3 rfl cc_43 df_43 ⟨Nat.le_of_ble_eq_true rfl, Nat.le_of_ble_eq_true rfl⟩ ?_
  refine n_dup (pc := 30) (dk dt_X0_init 14 rfl) rfl ?_
  refine n_sipush (pc := 31) (dk dt_X0_init 15 rfl) (ik rfl) (spk rfl) ?_
  refine n_callI (as := [iv 240]) (st := [rv 43, rv 34]) (z' := z_X3_init_43 (newN (upN (z_X3_init_36 (newN (upN (newN (34, ρ, f)) 34 7 35))) 34 8 36))) (pc := 34) (dk dt_X0_init 16 rfl) cli_RX0_17 ⟨Nat.le_of_ble_eq_true rfl, Nat.le_of_ble_eq_true rfl⟩ ⟨Nat.le_of_ble_eq_true rfl, Nat.le_of_ble_eq_true rfl⟩ rfl rfl (by decide) rfl rfl (Nat.le_of_ble_eq_true rfl) nc_X3_init_43 ?_
  refine n_putr (r := 42) (pc := 37) (dk dt_X0_init 17 rfl) cls_0 fl_RX0_24 cf_34_9 (Nat.le_of_ble_eq_true rfl) rfl rfl ⟨rfl, rfl⟩ ?_
  refine n_aload_n (pc := 40) (dk dt_X0_init 18 rfl) rfl ?_
  refine n_bipush (pc := 41) (dk dt_X0_init 19 rfl) (ik rfl) (bpk rfl) ?_
  refine n_newa (k := 50) (N := 8) (kn := 20) (pc := 43) (dk dt_X0_init 20 rfl) arc_int (Or.inl ⟨rfl, rfl⟩) rfl ar_50 rfl ⟨Nat.le_of_ble_eq_true rfl, Nat.le_of_ble_eq_true rfl⟩ ?_
  refine n_putr (r := 49) (pc := 45) (dk dt_X0_init 21 rfl) cls_0 fl_RX0_27 cf_34_10 (Nat.le_of_ble_eq_true rfl) rfl rfl ⟨rfl, rfl⟩ ?_
  refine n_aload_n (pc := 48) (dk dt_X0_init 22 rfl) rfl ?_
  refine n_bipush (pc := 49) (dk dt_X0_init 23 rfl) (ik rfl) (bpk rfl) ?_
  refine n_newa (k := 51) (N := 8) (kn := 20) (pc := 51) (dk dt_X0_init 24 rfl) arc_int (Or.inl ⟨rfl, rfl⟩) rfl ar_51 rfl ⟨Nat.le_of_ble_eq_true rfl, Nat.le_of_ble_eq_true rfl⟩ ?_
  refine n_putr (r := 50) (pc := 53) (dk dt_X0_init 25 rfl) cls_0 fl_RX0_30 cf_34_11 (Nat.le_of_ble_eq_true rfl) rfl rfl ⟨rfl, rfl⟩ ?_
  refine n_aload_n (pc := 56) (dk dt_X0_init 26 rfl) rfl ?_
  refine n_bipush (pc := 57) (dk dt_X0_init 27 rfl) (ik rfl) (bpk rfl) ?_
  refine n_newa (k := 52) (N := 10) (kn := 20) (pc := 59) (dk dt_X0_init 28 rfl) arc_int (Or.inl ⟨rfl, rfl⟩) rfl ar_52 rfl ⟨Nat.le_of_ble_eq_true rfl, Nat.le_of_ble_eq_true rfl⟩ ?_
  refine n_putr (r := 51) (pc := 61) (dk dt_X0_init 29 rfl) cls_0 fl_RX0_33 cf_34_12 (Nat.le_of_ble_eq_true rfl) rfl rfl ⟨rfl, rfl⟩ ?_
  refine n_aload_n (pc := 64) (dk dt_X0_init 30 rfl) rfl ?_
  refine n_bipush (pc := 65) (dk dt_X0_init 31 rfl) (ik rfl) (bpk rfl) ?_
  refine n_newa (k := 53) (N := 10) (kn := 20) (pc := 67) (dk dt_X0_init 32 rfl) arc_int (Or.inl ⟨rfl, rfl⟩) rfl ar_53 rfl ⟨Nat.le_of_ble_eq_true rfl, Nat.le_of_ble_eq_true rfl⟩ ?_
  refine n_putr (r := 52) (pc := 69) (dk dt_X0_init 33 rfl) cls_0 fl_RX0_36 cf_34_13 (Nat.le_of_ble_eq_true rfl) rfl rfl ⟨rfl, rfl⟩ ?_
  refine n_aload_n (pc := 72) (dk dt_X0_init 34 rfl) rfl ?_
  refine n_new (k := 54) (pc := 73) (dk dt_X0_init 35 rfl) cn_RX0_15 cls_3 rfl cc_54 df_54 ⟨Nat.le_of_ble_eq_true rfl, Nat.le_of_ble_eq_true rfl⟩ ?_
  refine n_dup (pc := 76) (dk dt_X0_init 36 rfl) rfl ?_
  refine n_bipush (pc := 77) (dk dt_X0_init 37 rfl) (ik rfl) (bpk rfl) ?_
  refine n_callI (as := [iv 8]) (st := [rv 54, rv 34]) (z' := z_X3_init_54 (newN (upN (newN (upN (newN (upN (newN (upN (newN (upN (z_X3_init_43 (newN (upN (z_X3_init_36 (newN (upN (newN (34, ρ, f)) 34 7 35))) 34 8 36))) 34 9 43)) 34 10 50)) 34 11 51)) 34 12 52)) 34 13 53))) (pc := 79) (dk dt_X0_init 38 rfl) cli_RX0_17 ⟨Nat.le_of_ble_eq_true rfl, Nat.le_of_ble_eq_true rfl⟩ ⟨Nat.le_of_ble_eq_true rfl, Nat.le_of_ble_eq_true rfl⟩ rfl rfl (by decide) rfl rfl (Nat.le_of_ble_eq_true rfl) nc_X3_init_54 ?_
  refine n_putr (r := 53) (pc := 82) (dk dt_X0_init 39 rfl) cls_0 fl_RX0_39 cf_34_15 (Nat.le_of_ble_eq_true rfl) rfl rfl ⟨rfl, rfl⟩ ?_
  refine n_aload_n (pc := 85) (dk dt_X0_init 40 rfl) rfl ?_
  refine n_bipush (pc := 86) (dk dt_X0_init 41 rfl) (ik rfl) (bpk rfl) ?_
  refine n_newa (k := 61) (N := 8) (kn := 20) (pc := 88) (dk dt_X0_init 42 rfl) arc_int (Or.inl ⟨rfl, rfl⟩) rfl ar_61 rfl ⟨Nat.le_of_ble_eq_true rfl, Nat.le_of_ble_eq_true rfl⟩ ?_
  refine n_putr (r := 60) (pc := 90) (dk dt_X0_init 43 rfl) cls_0 fl_RX0_42 cf_34_16 (Nat.le_of_ble_eq_true rfl) rfl rfl ⟨rfl, rfl⟩ ?_
  refine n_aload_n (pc := 93) (dk dt_X0_init 44 rfl) rfl ?_
  refine n_bipush (pc := 94) (dk dt_X0_init 45 rfl) (ik rfl) (bpk rfl) ?_
  refine n_newa (k := 62) (N := 8) (kn := 20) (pc := 96) (dk dt_X0_init 46 rfl) arc_int (Or.inl ⟨rfl, rfl⟩) rfl ar_62 rfl ⟨Nat.le_of_ble_eq_true rfl, Nat.le_of_ble_eq_true rfl⟩ ?_
  refine n_putr (r := 61) (pc := 98) (dk dt_X0_init 47 rfl) cls_0 fl_RX0_45 cf_34_17 (Nat.le_of_ble_eq_true rfl) rfl rfl ⟨rfl, rfl⟩ ?_
  refine n_aload_n (pc := 101) (dk dt_X0_init 48 rfl) rfl ?_
  refine n_bipush (pc := 102) (dk dt_X0_init 49 rfl) (ik rfl) (bpk rfl) ?_
  refine n_newa (k := 63) (N := 8) (kn := 20) (pc := 104) (dk dt_X0_init 50 rfl) arc_int (Or.inl ⟨rfl, rfl⟩) rfl ar_63 rfl ⟨Nat.le_of_ble_eq_true rfl, Nat.le_of_ble_eq_true rfl⟩ ?_
  refine n_putr (r := 62) (pc := 106) (dk dt_X0_init 51 rfl) cls_0 fl_RX0_48 cf_34_18 (Nat.le_of_ble_eq_true rfl) rfl rfl ⟨rfl, rfl⟩ ?_
  refine n_aload_n (pc := 109) (dk dt_X0_init 52 rfl) rfl ?_
  refine n_bipush (pc := 110) (dk dt_X0_init 53 rfl) (ik rfl) (bpk rfl) ?_
  refine n_newa (k := 64) (N := 8) (kn := 20) (pc := 112) (dk dt_X0_init 54 rfl) arc_int (Or.inl ⟨rfl, rfl⟩) rfl ar_64 rfl ⟨Nat.le_of_ble_eq_true rfl, Nat.le_of_ble_eq_true rfl⟩ ?_
  refine n_putr (r := 63) (pc := 114) (dk dt_X0_init 55 rfl) cls_0 fl_RX0_51 cf_34_19 (Nat.le_of_ble_eq_true rfl) rfl rfl ⟨rfl, rfl⟩ ?_
  refine n_aload_n (pc := 117) (dk dt_X0_init 56 rfl) rfl ?_
  refine n_aload_n (pc := 118) (dk dt_X0_init 57 rfl) rfl ?_
  refine n_putr (r := 13) (pc := 119) (dk dt_X0_init 58 rfl) cls_0 fl_RX0_54 cf_34_0 (Nat.le_of_ble_eq_true rfl) rfl rfl ⟨rfl, rfl⟩ ?_
  refine n_aload_n (pc := 122) (dk dt_X0_init 59 rfl) rfl ?_
  refine n_aload_n (pc := 123) (dk dt_X0_init 60 rfl) rfl ?_
  refine n_putr (r := 17) (pc := 124) (dk dt_X0_init 61 rfl) cls_0 fl_RX0_58 cf_34_1 (Nat.le_of_ble_eq_true rfl) rfl rfl ⟨rfl, rfl⟩ ?_
  refine n_aload_n (pc := 127) (dk dt_X0_init 62 rfl) rfl ?_
  refine n_aload_n (pc := 128) (dk dt_X0_init 63 rfl) rfl ?_
  refine n_putr (r := 23) (pc := 129) (dk dt_X0_init 64 rfl) cls_0 fl_RX0_62 cf_34_2 (Nat.le_of_ble_eq_true rfl) rfl rfl ⟨rfl, rfl⟩ ?_
  refine n_aload_n (pc := 132) (dk dt_X0_init 65 rfl) rfl ?_
  refine n_aload (pc := 133) (dk dt_X0_init 66 rfl) rfl ?_
  refine n_putr (r := 25) (pc := 135) (dk dt_X0_init 67 rfl) cls_0 fl_RX0_66 cf_34_3 (Nat.le_of_ble_eq_true rfl) rfl rfl ⟨rfl, rfl⟩ ?_
  refine n_aload_n (pc := 138) (dk dt_X0_init 68 rfl) rfl ?_
  refine n_getr (r := 49) (pc := 139) (dk dt_X0_init 69 rfl) cls_0 fl_RX0_27 cf_34_10 (Nat.le_of_ble_eq_true rfl) rfl ?_
  refine n_iconst (pc := 142) (dk dt_X0_init 70 rfl) (ik rfl) ?_
  refine n_callS (as := [rv 50, iv (-1)]) (st := []) (z' := filN (upN (upN (upN (upN (upN (newN (upN (newN (upN (newN (upN (newN (upN (z_X3_init_54 (newN (upN (newN (upN (newN (upN (newN (upN (newN (upN (z_X3_init_43 (newN (upN (z_X3_init_36 (newN (upN (newN (34, ρ, f)) 34 7 35))) 34 8 36))) 34 9 43)) 34 10 50)) 34 11 51)) 34 12 52)) 34 13 53))) 34 15 54)) 34 16 61)) 34 17 62)) 34 18 63)) 34 19 64) 34 0 14) 34 1 18) 34 2 24) 34 3 26) 50 (-1) 8) (pc := 143) (dk dt_X0_init 71 rfl) cls_RX0_70 ⟨Nat.le_of_ble_eq_true rfl, Nat.le_of_ble_eq_true rfl⟩ ⟨Nat.le_of_ble_eq_true rfl, Nat.le_of_ble_eq_true rfl⟩ rfl rfl (Nat.le_of_ble_eq_true rfl) (fill_50 (Nat.le_of_ble_eq_true rfl)) ?_
  exact n_vret (pc := 146) (dk dt_X0_init 72 rfl) rfl rfl rfl
def z_X2_init_65 (z : N3) : N3 := (upN (z_X3_init_68 (newN (upN (newN (upN (newN z) 65 4 66)) 65 6 67))) 65 8 68)
set_option maxHeartbeats 40000000 in
set_option maxRecDepth 100000 in
theorem nc_X2_init_65 {G : GG} {ρ : Nat → Nat → Nat} {f : Hp} : NC2 G m_X2_init [rv 65] (65, ρ, f) (z_X2_init_65 (65, ρ, f)) 9 604 := by
  refine NC2.of rfl (Nat.le_of_ble_eq_true rfl) rfl ?_
  refine n_aload_n (pc := 0) (dk dt_X2_init 0 rfl) rfl ?_
  refine n_obj (pc := 1) (dk dt_X2_init 1 rfl) obi_RX2_3 ⟨Nat.le_of_ble_eq_true rfl, Nat.le_of_ble_eq_true rfl⟩ (by decide) ?_
  refine n_aload_n (pc := 4) (dk dt_X2_init 2 rfl) rfl ?_
  refine n_bipush (pc := 5) (dk dt_X2_init 3 rfl) (ik rfl) (bpk rfl) ?_
  refine n_newa (k := 66) (N := 9) (kn := 20) (pc := 7) (dk dt_X2_init 4 rfl) arc_int (Or.inl ⟨rfl, rfl⟩) rfl ar_66 rfl ⟨Nat.le_of_ble_eq_true rfl, Nat.le_of_ble_eq_true rfl⟩ ?_
  refine n_putr (r := 65) (pc := 9) (dk dt_X2_init 5 rfl) cls_2 fl_RX2_9 cf_65_4 (Nat.le_of_ble_eq_true rfl) rfl rfl ⟨rfl, rfl⟩ ?_
  refine n_aload_n (pc := 12) (dk dt_X2_init 6 rfl) rfl ?_
  refine n_sipush (pc := 13) (dk dt_X2_init 7 rfl) (ik rfl) (spk rfl) ?_
  refine n_newa (k := 67) (N := 540) (kn := 20) (pc := 16) (dk dt_X2_init 8 rfl) arc_int (Or.inl ⟨rfl, rfl⟩) rfl ar_67 rfl ⟨Nat.le_of_ble_eq_true rfl, Nat.le_of_ble_eq_true rfl⟩ ?_
  refine n_putr (r := 66) (pc := 18) (dk dt_X2_init 9 rfl) cls_2 fl_RX2_15 cf_65_6 (Nat.le_of_ble_eq_true rfl) rfl rfl ⟨rfl, rfl⟩ ?_
  refine n_aload_n (pc := 21) (dk dt_X2_init 10 rfl) rfl ?_
  refine n_new (k := 68) (pc := 22) (dk dt_X2_init 11 rfl) cn_RX2_18 cls_3 rfl cc_68 df_68 ⟨Nat.le_of_ble_eq_true rfl, Nat.le_of_ble_eq_true rfl⟩ ?_
  refine n_dup (pc := 25) (dk dt_X2_init 12 rfl) rfl ?_
  refine n_bipush (pc := 26) (dk dt_X2_init 13 rfl) (ik rfl) (bpk rfl) ?_
  refine n_callI (as := [iv 8]) (st := [rv 68, rv 65]) (z' := z_X3_init_68 (newN (upN (newN (upN (newN (65, ρ, f)) 65 4 66)) 65 6 67))) (pc := 28) (dk dt_X2_init 14 rfl) cli_RX2_20 ⟨Nat.le_of_ble_eq_true rfl, Nat.le_of_ble_eq_true rfl⟩ ⟨Nat.le_of_ble_eq_true rfl, Nat.le_of_ble_eq_true rfl⟩ rfl rfl (by decide) rfl rfl (Nat.le_of_ble_eq_true rfl) nc_X3_init_68 ?_
  refine n_putr (r := 67) (pc := 31) (dk dt_X2_init 15 rfl) cls_2 fl_RX2_23 cf_65_8 (Nat.le_of_ble_eq_true rfl) rfl rfl ⟨rfl, rfl⟩ ?_
  exact n_vret (pc := 34) (dk dt_X2_init 16 rfl) rfl rfl rfl
def z_X11_init_1 (z : N3) : N3 := (upN (z_X9_init_81 (newN (upN (z_X7_init_75 (newN (upN (z_X2_init_65 (newN (upN (z_X0_init_34 (newN (upN (z_X4_init_26 (newN (upN (z_X5_init_24 (newN (upN (z_X8_init_18 (newN (upN (z_X6_init_14 (newN (upN (z_X1_init_12 (newN (setN (upN (newN (upN (z_X3_init_4 (newN (upN (z_X10_init_2 (newN z)) 1 0 2))) 1 1 4)) 1 2 11) 1 3 0))) 1 4 12))) 1 5 14))) 1 6 18))) 1 7 24))) 1 8 26))) 1 9 34))) 1 10 65))) 1 11 75))) 1 12 81)
set_option maxHeartbeats 40000000 in
set_option maxRecDepth 100000 in
theorem nc_X11_init_1 {G : GG} {ρ : Nat → Nat → Nat} {f : Hp} : NC2 G m_X11_init [rv 1] (1, ρ, f) (z_X11_init_1 (1, ρ, f)) 83 9428 := by
  refine NC2.of rfl (Nat.le_of_ble_eq_true rfl) rfl ?_
  refine n_aload_n (pc := 0) (dk dt_X11_init 0 rfl) rfl ?_
  refine n_obj (pc := 1) (dk dt_X11_init 1 rfl) obi_RX11_1 ⟨Nat.le_of_ble_eq_true rfl, Nat.le_of_ble_eq_true rfl⟩ (by decide) ?_
  refine n_aload_n (pc := 4) (dk dt_X11_init 2 rfl) rfl ?_
  refine n_new (k := 2) (pc := 5) (dk dt_X11_init 3 rfl) cn_RX11_7 cls_10 rfl cc_2 df_2 ⟨Nat.le_of_ble_eq_true rfl, Nat.le_of_ble_eq_true rfl⟩ ?_
  refine n_dup (pc := 8) (dk dt_X11_init 4 rfl) rfl ?_
  refine n_callIN (as := []) (st := [rv 2, rv 1]) (z' := z_X10_init_2 (newN (1, ρ, f))) (pc := 9) (dk dt_X11_init 5 rfl) cli_RX11_9 ⟨Nat.le_of_ble_eq_true rfl, Nat.le_of_ble_eq_true rfl⟩ ⟨Nat.le_of_ble_eq_true rfl, Nat.le_of_ble_eq_true rfl⟩ rfl rfl (by decide) rfl rfl (Nat.le_of_ble_eq_true rfl) nc_X10_init_2 ?_
  refine n_putr (r := 1) (pc := 12) (dk dt_X11_init 6 rfl) cls_11 fl_RX11_10 cf_1_0 (Nat.le_of_ble_eq_true rfl) rfl rfl ⟨rfl, rfl⟩ ?_
  refine n_aload_n (pc := 15) (dk dt_X11_init 7 rfl) rfl ?_
  refine n_new (k := 4) (pc := 16) (dk dt_X11_init 8 rfl) cn_RX11_16 cls_3 rfl cc_4 df_4 ⟨Nat.le_of_ble_eq_true rfl, Nat.le_of_ble_eq_true rfl⟩ ?_
  refine n_dup (pc := 19) (dk dt_X11_init 9 rfl) rfl ?_
  refine n_bipush (pc := 20) (dk dt_X11_init 10 rfl) (ik rfl) (bpk rfl) ?_
  refine n_callI (as := [iv 30]) (st := [rv 4, rv 1]) (z' := z_X3_init_4 (newN (upN (z_X10_init_2 (newN (1, ρ, f))) 1 0 2))) (pc := 22) (dk dt_X11_init 11 rfl) cli_RX11_18 ⟨Nat.le_of_ble_eq_true rfl, Nat.le_of_ble_eq_true rfl⟩ ⟨Nat.le_of_ble_eq_true rfl, Nat.le_of_ble_eq_true rfl⟩ rfl rfl (by decide) rfl rfl (Nat.le_of_ble_eq_true rfl) nc_X3_init_4 ?_
  refine n_putr (r := 3) (pc := 25) (dk dt_X11_init 12 rfl) cls_11 fl_RX11_21 cf_1_1 (Nat.le_of_ble_eq_true rfl) rfl rfl ⟨rfl, rfl⟩ ?_
  refine n_aload_n (pc := 28) (dk dt_X11_init 13 rfl) rfl ?_
  refine n_sipush (pc := 29) (dk dt_X11_init 14 rfl) (ik rfl) (spk rfl) ?_
  refine n_newa (k := 11) (N := 288) (kn := 20) (pc := 32) (dk dt_X11_init 15 rfl) arc_int (Or.inl ⟨rfl, rfl⟩) rfl ar_11 rfl ⟨Nat.le_of_ble_eq_true rfl, Nat.le_of_ble_eq_true rfl⟩ ?_
  refine n_putr (r := 10) (pc := 34) (dk dt_X11_init 16 rfl) cls_11 fl_RX11_27 cf_1_2 (Nat.le_of_ble_eq_true rfl) rfl rfl ⟨rfl, rfl⟩ ?_
  refine n_aload_n (pc := 37) (dk dt_X11_init 17 rfl) rfl ?_
  refine n_iconst (pc := 38) (dk dt_X11_init 18 rfl) (ik rfl) ?_
  refine n_puti (pc := 39) (dk dt_X11_init 19 rfl) cls_11 fl_RX11_31 cf_1_3 (Nat.le_of_ble_eq_true rfl) rfl rfl rfl ?_
  refine n_aload_n (pc := 42) (dk dt_X11_init 20 rfl) rfl ?_
  refine n_new (k := 12) (pc := 43) (dk dt_X11_init 21 rfl) cn_RX11_35 cls_1 rfl cc_12 df_12 ⟨Nat.le_of_ble_eq_true rfl, Nat.le_of_ble_eq_true rfl⟩ ?_
  refine n_dup (pc := 46) (dk dt_X11_init 22 rfl) rfl ?_
  refine n_callIN (as := []) (st := [rv 12, rv 1]) (z' := z_X1_init_12 (newN (setN (upN (newN (upN (z_X3_init_4 (newN (upN (z_X10_init_2 (newN (1, ρ, f))) 1 0 2))) 1 1 4)) 1 2 11) 1 3 0))) (pc := 47) (dk dt_X11_init 23 rfl) cli_RX11_37 ⟨Nat.le_of_ble_eq_true rfl, Nat.le_of_ble_eq_true rfl⟩ ⟨Nat.le_of_ble_eq_true rfl, Nat.le_of_ble_eq_true rfl⟩ rfl rfl (by decide) rfl rfl (Nat.le_of_ble_eq_true rfl) nc_X1_init_12 ?_
  refine n_putr (r := 11) (pc := 50) (dk dt_X11_init 24 rfl) cls_11 fl_RX11_38 cf_1_4 (Nat.le_of_ble_eq_true rfl) rfl rfl ⟨rfl, rfl⟩ ?_
  refine n_aload_n (pc := 53) (dk dt_X11_init 25 rfl) rfl ?_
  refine n_new (k := 14) (pc := 54) (dk dt_X11_init 26 rfl) cn_RX11_42 cls_6 rfl cc_14 df_14 ⟨Nat.le_of_ble_eq_true rfl, Nat.le_of_ble_eq_true rfl⟩ ?_
  refine n_dup (pc := 57) (dk dt_X11_init 27 rfl) rfl ?_
  refine n_callIN (as := []) (st := [rv 14, rv 1]) (z' := z_X6_init_14 (newN (upN (z_X1_init_12 (newN (setN (upN (newN (upN (z_X3_init_4 (newN (upN (z_X10_init_2 (newN (1, ρ, f))) 1 0 2))) 1 1 4)) 1 2 11) 1 3 0))) 1 4 12))) (pc := 58) (dk dt_X11_init 28 rfl) cli_RX11_44 ⟨Nat.le_of_ble_eq_true rfl, Nat.le_of_ble_eq_true rfl⟩ ⟨Nat.le_of_ble_eq_true rfl, Nat.le_of_ble_eq_true rfl⟩ rfl rfl (by decide) rfl rfl (Nat.le_of_ble_eq_true rfl) nc_X6_init_14 ?_
  refine n_putr (r := 13) (pc := 61) (dk dt_X11_init 29 rfl) cls_11 fl_RX11_45 cf_1_5 (Nat.le_of_ble_eq_true rfl) rfl rfl ⟨rfl, rfl⟩ ?_
  refine n_aload_n (pc := 64) (dk dt_X11_init 30 rfl) rfl ?_
  refine n_new (k := 18) (pc := 65) (dk dt_X11_init 31 rfl) cn_RX11_49 cls_8 rfl cc_18 df_18 ⟨Nat.le_of_ble_eq_true rfl, Nat.le_of_ble_eq_true rfl⟩ ?_
  refine n_dup (pc := 68) (dk dt_X11_init 32 rfl) rfl ?_
  refine n_callIN (as := []) (st := [rv 18, rv 1]) (z' := z_X8_init_18 (newN (upN (z_X6_init_14 (newN (upN (z_X1_init_12 (newN (setN (upN (newN (upN (z_X3_init_4 (newN (upN (z_X10_init_2 (newN (1, ρ, f))) 1 0 2))) 1 1 4)) 1 2 11) 1 3 0))) 1 4 12))) 1 5 14))) (pc := 69) (dk dt_X11_init 33 rfl) cli_RX11_51 ⟨Nat.le_of_ble_eq_true rfl, Nat.le_of_ble_eq_true rfl⟩ ⟨Nat.le_of_ble_eq_true rfl, Nat.le_of_ble_eq_true rfl⟩ rfl rfl (by decide) rfl rfl (Nat.le_of_ble_eq_true rfl) nc_X8_init_18 ?_
  refine n_putr (r := 17) (pc := 72) (dk dt_X11_init 34 rfl) cls_11 fl_RX11_52 cf_1_6 (Nat.le_of_ble_eq_true rfl) rfl rfl ⟨rfl, rfl⟩ ?_
  refine n_aload_n (pc := 75) (dk dt_X11_init 35 rfl) rfl ?_
  refine n_new (k := 24) (pc := 76) (dk dt_X11_init 36 rfl) cn_RX11_56 cls_5 rfl cc_24 df_24 ⟨Nat.le_of_ble_eq_true rfl, Nat.le_of_ble_eq_true rfl⟩ ?_
  refine n_dup (pc := 79) (dk dt_X11_init 37 rfl) rfl ?_
  refine n_callIN (as := []) (st := [rv 24, rv 1]) (z' := z_X5_init_24 (newN (upN (z_X8_init_18 (newN (upN (z_X6_init_14 (newN (upN (z_X1_init_12 (newN (setN (upN (newN (upN (z_X3_init_4 (newN (upN (z_X10_init_2 (newN (1, ρ, f))) 1 0 2))) 1 1 4)) 1 2 11) 1 3 0))) 1 4 12))) 1 5 14))) 1 6 18))) (pc := 80) (dk dt_X11_init 38 rfl) cli_RX11_58 ⟨Nat.le_of_ble_eq_true rfl, Nat.le_of_ble_eq_true rfl⟩ ⟨Nat.le_of_ble_eq_true rfl, Nat.le_of_ble_eq_true rfl⟩ rfl rfl (by decide) rfl rfl (Nat.le_of_ble_eq_true rfl) nc_X5_init_24 ?_
  refine n_putr (r := 23) (pc := 83) (dk dt_X11_init 39 rfl) cls_11 fl_RX11_59 cf_1_7 (Nat.le_of_ble_eq_true rfl) rfl rfl ⟨rfl, rfl⟩ ?_
  refine n_aload_n (pc := 86) (dk dt_X11_init 40 rfl) rfl ?_
  refine n_new (k := 26) (pc := 87) (dk dt_X11_init 41 rfl) cn_RX11_63 cls_4 rfl cc_26 df_26 ⟨Nat.le_of_ble_eq_true rfl, Nat.le_of_ble_eq_true rfl⟩ ?_
  refine n_dup (pc := 90) (dk dt_X11_init 42 rfl) rfl ?_
  refine n_callIN (as := []) (st := [rv 26, rv 1]) (z' := z_X4_init_26 (newN (upN (z_X5_init_24 (newN (upN (z_X8_init_18 (newN (upN (z_X6_init_14 (newN (upN (z_X1_init_12 (newN (setN (upN (newN (upN (z_X3_init_4 (newN (upN (z_X10_init_2 (newN (1, ρ, f))) 1 0 2))) 1 1 4)) 1 2 11) 1 3 0))) 1 4 12))) 1 5 14))) 1 6 18))) 1 7 24))) (pc := 91) (dk dt_X11_init 43 rfl) cli_RX11_65 ⟨Nat.le_of_ble_eq_true rfl, Nat.le_of_ble_eq_true rfl⟩ ⟨Nat.le_of_ble_eq_true rfl, Nat.le_of_ble_eq_true rfl⟩ rfl rfl (by decide) rfl rfl (Nat.le_of_ble_eq_true rfl) nc_X4_init_26 ?_
  refine n_putr (r := 25) (pc := 94) (dk dt_X11_init 44 rfl) cls_11 fl_RX11_66 cf_1_8 (Nat.le_of_ble_eq_true rfl) rfl rfl ⟨rfl, rfl⟩ ?_
  refine n_aload_n (pc := 97) (dk dt_X11_init 45 rfl) rfl ?_
  refine n_new (k := 34) (pc := 98) (dk dt_X11_init 46 rfl) cn_RX11_70 cls_0 rfl cc_34 df_34 ⟨Nat.le_of_ble_eq_true rfl, Nat.le_of_ble_eq_true rfl⟩ ?_
  refine n_dup (pc := 101) (dk dt_X11_init 47 rfl) rfl ?_
  refine n_aload_n (pc := 102) (dk dt_X11_init 48 rfl) rfl ?_
  refine n_getr (r := 13) (pc := 103) (dk dt_X11_init 49 rfl) cls_11 fl_RX11_45 cf_1_5 (Nat.le_of_ble_eq_true rfl) rfl ?_
  refine n_aload_n (pc := 106) (dk dt_X11_init 50 rfl) rfl ?_
  refine n_getr (r := 17) (pc := 107) (dk dt_X11_init 51 rfl) cls_11 fl_RX11_52 cf_1_6 (Nat.le_of_ble_eq_true rfl) rfl ?_
  refine n_aload_n (pc := 110) (dk dt_X11_init 52 rfl) rfl ?_
  refine n_getr (r := 23) (pc := 111) (dk dt_X11_init 53 rfl) cls_11 fl_RX11_59 cf_1_7 (Nat.le_of_ble_eq_true rfl) rfl ?_
  refine n_aload_n (pc := 114) (dk dt_X11_init 54 rfl) rfl ?_
  refine n_getr (r := 25) (pc := 115) (dk dt_X11_init 55 rfl) cls_11 fl_RX11_66 cf_1_8 (Nat.le_of_ble_eq_true rfl) rfl ?_
  refine n_callI (as := [rv 14, rv 18, rv 24, rv 26]) (st := [rv 34, rv 1]) (z' := z_X0_init_34 (newN (upN (z_X4_init_26 (newN (upN (z_X5_init_24 (newN (upN (z_X8_init_18 (newN (upN (z_X6_init_14 (newN (upN (z_X1_init_12 (newN (setN (upN (newN (upN (z_X3_init_4 (newN (upN (z_X10_init_2 (newN (1, ρ, f))) 1 0 2))) 1 1 4)) 1 2 11) 1 3 0))) 1 4 12))) 1 5 14))) 1 6 18))) 1 7 24))) 1 8 26))) (pc := 118) (dk dt_X11_init 56 rfl) cli_RX11_72 ⟨Nat.le_of_ble_eq_true rfl, Nat.le_of_ble_eq_true rfl⟩ ⟨Nat.le_of_ble_eq_true rfl, Nat.le_of_ble_eq_true rfl⟩ rfl rfl (by decide) rfl rfl (Nat.le_of_ble_eq_true rfl) nc_X0_init_34 ?_
  refine n_putr (r := 33) (pc := 121) (dk dt_X11_init 57 rfl) cls_11 fl_RX11_75 cf_1_9 (Nat.le_of_ble_eq_true rfl) rfl rfl ⟨rfl, rfl⟩ ?_
  refine n_aload_n (pc := 124) (dk dt_X11_init 58 rfl) rfl ?_
  refine n_new (k := 65) (pc := 125) (dk dt_X11_init 59 rfl) cn_RX11_79 cls_2 rfl cc_65 df_65 ⟨Nat.le_of_ble_eq_true rfl, Nat.le_of_ble_eq_true rfl⟩ ?_
  refine n_dup (pc := 128) (dk dt_X11_init 60 rfl) rfl ?_
  refine n_callIN (as := []) (st := [rv 65, rv 1]) (z' := z_X2_init_65 (newN (upN (z_X0_init_34 (newN (upN (z_X4_init_26 (newN (upN (z_X5_init_24 (newN (upN (z_X8_init_18 (newN (upN (z_X6_init_14 (newN (upN (z_X1_init_12 (newN (setN (upN (newN (upN (z_X3_init_4 (newN (upN (z_X10_init_2 (newN (1, ρ, f))) 1 0 2))) 1 1 4)) 1 2 11) 1 3 0))) 1 4 12))) 1 5 14))) 1 6 18))) 1 7 24))) 1 8 26))) 1 9 34))) (pc := 129) (dk dt_X11_init 61 rfl) cli_RX11_81 ⟨Nat.le_of_ble_eq_true rfl, Nat.le_of_ble_eq_true rfl⟩ ⟨Nat.le_of_ble_eq_true rfl, Nat.le_of_ble_eq_true rfl⟩ rfl rfl (by decide) rfl rfl (Nat.le_of_ble_eq_true rfl) nc_X2_init_65 ?_
  refine n_putr (r := 64) (pc := 132) (dk dt_X11_init 62 rfl) cls_11 fl_RX11_82 cf_1_10 (Nat.le_of_ble_eq_true rfl) rfl rfl ⟨rfl, rfl⟩ ?_
  refine n_aload_n (pc := 135) (dk dt_X11_init 63 rfl) rfl ?_
  refine n_new (k := 75) (pc := 136) (dk dt_X11_init 64 rfl) cn_RX11_86 cls_7 rfl cc_75 df_75 ⟨Nat.le_of_ble_eq_true rfl, Nat.le_of_ble_eq_true rfl⟩ ?_
  refine n_dup (pc := 139) (dk dt_X11_init 65 rfl) rfl ?_
  refine n_callIN (as := []) (st := [rv 75, rv 1]) (z' := z_X7_init_75 (newN (upN (z_X2_init_65 (newN (upN (z_X0_init_34 (newN (upN (z_X4_init_26 (newN (upN (z_X5_init_24 (newN (upN (z_X8_init_18 (newN (upN (z_X6_init_14 (newN (upN (z_X1_init_12 (newN (setN (upN (newN (upN (z_X3_init_4 (newN (upN (z_X10_init_2 (newN (1, ρ, f))) 1 0 2))) 1 1 4)) 1 2 11) 1 3 0))) 1 4 12))) 1 5 14))) 1 6 18))) 1 7 24))) 1 8 26))) 1 9 34))) 1 10 65))) (pc := 140) (dk dt_X11_init 66 rfl) cli_RX11_88 ⟨Nat.le_of_ble_eq_true rfl, Nat.le_of_ble_eq_true rfl⟩ ⟨Nat.le_of_ble_eq_true rfl, Nat.le_of_ble_eq_true rfl⟩ rfl rfl (by decide) rfl rfl (Nat.le_of_ble_eq_true rfl) nc_X7_init_75 ?_
  refine n_putr (r := 74) (pc := 143) (dk dt_X11_init 67 rfl) cls_11 fl_RX11_89 cf_1_11 (Nat.le_of_ble_eq_true rfl) rfl rfl ⟨rfl, rfl⟩ ?_
  refine n_aload_n (pc := 146) (dk dt_X11_init 68 rfl) rfl ?_
  refine n_new (k := 81) (pc := 147) (dk dt_X11_init 69 rfl) cn_RX11_25 cls_9 rfl cc_81 df_81 ⟨Nat.le_of_ble_eq_true rfl, Nat.le_of_ble_eq_true rfl⟩ ?_
  refine n_dup (pc := 150) (dk dt_X11_init 70 rfl) rfl ?_
  refine n_callIN (as := []) (st := [rv 81, rv 1]) (z' := z_X9_init_81 (newN (upN (z_X7_init_75 (newN (upN (z_X2_init_65 (newN (upN (z_X0_init_34 (newN (upN (z_X4_init_26 (newN (upN (z_X5_init_24 (newN (upN (z_X8_init_18 (newN (upN (z_X6_init_14 (newN (upN (z_X1_init_12 (newN (setN (upN (newN (upN (z_X3_init_4 (newN (upN (z_X10_init_2 (newN (1, ρ, f))) 1 0 2))) 1 1 4)) 1 2 11) 1 3 0))) 1 4 12))) 1 5 14))) 1 6 18))) 1 7 24))) 1 8 26))) 1 9 34))) 1 10 65))) 1 11 75))) (pc := 151) (dk dt_X11_init 71 rfl) cli_RX11_93 ⟨Nat.le_of_ble_eq_true rfl, Nat.le_of_ble_eq_true rfl⟩ ⟨Nat.le_of_ble_eq_true rfl, Nat.le_of_ble_eq_true rfl⟩ rfl rfl (by decide) rfl rfl (Nat.le_of_ble_eq_true rfl) nc_X9_init_81 ?_
  refine n_putr (r := 80) (pc := 154) (dk dt_X11_init 72 rfl) cls_11 fl_RX11_94 cf_1_12 (Nat.le_of_ble_eq_true rfl) rfl rfl ⟨rfl, rfl⟩ ?_
  exact n_vret (pc := 157) (dk dt_X11_init 73 rfl) rfl rfl rfl
