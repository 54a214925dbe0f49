theorem fil_c (z : N3) (k k' : Nat) (v w m i : Int) (h : k' ≠ k) : setN (filN z k v m) k' i w = filN (setN z k' i w) k v m := by
  obtain ⟨n, ρ, f⟩ := z
  unfold filN setN up
  dsimp only
  congr 2
  funext c j
  by_cases q : c = k' ∧ j = i
  · rw [if_pos q, if_neg (by omega), if_pos q]
  · rw [if_neg q]
    by_cases q2 : c = k ∧ 0 ≤ j ∧ j < m
    · rw [if_pos q2, if_pos q2]
    · rw [if_neg q2, if_neg q2, if_neg q]
def zT (z : N3) : N3 := filN (filN (filN (filN z 116 (-1) 8) 131 (-1) 8) 103 (-1) 240) 109 (-1) 240
set_option maxHeartbeats 4000000 in
theorem X12_tail {G : GG} {z : N3} (hz : z.1 = 152) (h1 : z.2.1 85 49 = 116) (h2 : z.2.1 85 66 = 131) (h3 : z.2.1 85 36 = 103) (h4 : z.2.1 85 42 = 109) : NTW G m_X12_init (rmN m_X12_init.2.2.2.2 67 9479) 67 9479 (QMN G (zT z) 67 9479) 896 [(0, rv 85)] [] z := by
  have L3 : ∀ (y : N3), y.1 = 152 → y.2.1 = z.2.1 → ∀ (d : Nat) (m : Int), 0 ≤ m → m + d = 240 → NTW G m_X12_init (rmN m_X12_init.2.2.2.2 67 9479) 67 9479 (QMN G (filN (filN y 103 (-1) 240) 109 (-1) 240) 67 9479) 940 [(0, rv 85), (1, iv m)] [] (filN (filN y 103 (-1) m) 109 (-1) m) := by
    intro y hy hρ d
    induction d with
    | zero =>
      intro m q0 q1
      have : m = 240 := by omega
      subst this
      refine n_iload_n (pc := 940) (dk dt_X12_init_8 50 rfl) rfl ?_
      refine n_sipush (pc := 941) (dk dt_X12_init_8 51 rfl) (ik rfl) (spk rfl) ?_
      refine n_icmp_ge (pc := 944) (dk dt_X12_init_8 52 rfl) (tgt := 967) rfl ⟨fun _ => ?_, fun c => absurd c (by decide)⟩
      exact n_vret (pc := 967) (dk dt_X12_init_9 5 rfl) rfl rfl rfl
    | succ d ih =>
      intro m q0 q1
      refine n_iload_n (pc := 940) (dk dt_X12_init_8 50 rfl) rfl ?_
      refine n_sipush (pc := 941) (dk dt_X12_init_8 51 rfl) (ik rfl) (spk rfl) ?_
      refine n_icmp_ge (pc := 944) (dk dt_X12_init_8 52 rfl) (tgt := 967) rfl ⟨fun c => absurd c (by omega), fun _ => ?_⟩
      refine n_aload_n (pc := 947) (dk dt_X12_init_8 53 rfl) rfl ?_
      refine n_getr (r := 102) (pc := 948) (dk dt_X12_init_8 54 rfl) cls_12 fl_RX12_138 cf_85_36 (by show 85 ≤ y.1; omega) (by show y.2.1 85 36 = 103; rw [hρ]; exact h3) ?_
      refine n_iload_n (pc := 951) (dk dt_X12_init_8 55 rfl) rfl ?_
      refine n_iconst (pc := 952) (dk dt_X12_init_8 56 rfl) (ik rfl) ?_
      refine n_iast (pc := 953) (dk dt_X12_init_8 57 rfl) ar_103 (by show 103 ≤ y.1; omega) ⟨q0, by omega⟩ ?_
      refine n_aload_n (pc := 954) (dk dt_X12_init_8 58 rfl) rfl ?_
      refine n_getr (r := 108) (pc := 955) (dk dt_X12_init_8 59 rfl) cls_12 fl_RX12_156 cf_85_42 (by show 85 ≤ y.1; omega) (by show y.2.1 85 42 = 109; rw [hρ]; exact h4) ?_
      refine n_iload_n (pc := 958) (dk dt_X12_init_9 0 rfl) rfl ?_
      refine n_iconst (pc := 959) (dk dt_X12_init_9 1 rfl) (ik rfl) ?_
      refine n_iast (pc := 960) (dk dt_X12_init_9 2 rfl) ar_109 (by show 109 ≤ y.1; omega) ⟨q0, by omega⟩ ?_
      rw [fil_c _ 109 103 (-1) (-1) m m (by decide), fil_s y 103 (-1) m q0, fil_s _ 109 (-1) m q0]
      refine n_iinc (pc := 961) (dk dt_X12_init_9 3 rfl) (by decide) rfl rfl rfl ?_
      refine n_goto (pc := 964) (dk dt_X12_init_9 4 rfl) (tgt := 940) rfl ?_
      rw [w32_of (by omega) (by omega)]
      exact ih (m + 1) (by omega) (by omega)
  have L2 : ∀ (y : N3), y.1 = 152 → y.2.1 = z.2.1 → ∀ (d : Nat) (m : Int), 0 ≤ m → m + d = 8 → NTW G m_X12_init (rmN m_X12_init.2.2.2.2 67 9479) 67 9479 (QMN G (filN (filN (filN y 131 (-1) 8) 103 (-1) 240) 109 (-1) 240) 67 9479) 919 [(0, rv 85), (1, iv m)] [] (filN y 131 (-1) m) := by
    intro y hy hρ d
    induction d with
    | zero =>
      intro m q0 q1
      have : m = 8 := by omega
      subst this
      refine n_iload_n (pc := 919) (dk dt_X12_init_8 38 rfl) rfl ?_
      refine n_bipush (pc := 920) (dk dt_X12_init_8 39 rfl) (ik rfl) (bpk rfl) ?_
      refine n_icmp_ge (pc := 922) (dk dt_X12_init_8 40 rfl) (tgt := 938) rfl ⟨fun _ => ?_, fun c => absurd c (by decide)⟩
      refine n_iconst (pc := 938) (dk dt_X12_init_8 48 rfl) (ik rfl) ?_
      refine n_istore_n (pc := 939) (dk dt_X12_init_8 49 rfl) (by decide) rfl rfl ?_
      have := L3 (filN y 131 (-1) 8) hy hρ 240 0 (by omega) (by omega)
      rw [fil_0, fil_0] at this
      exact this
    | succ d ih =>
      intro m q0 q1
      refine n_iload_n (pc := 919) (dk dt_X12_init_8 38 rfl) rfl ?_
      refine n_bipush (pc := 920) (dk dt_X12_init_8 39 rfl) (ik rfl) (bpk rfl) ?_
      refine n_icmp_ge (pc := 922) (dk dt_X12_init_8 40 rfl) (tgt := 938) rfl ⟨fun c => absurd c (by omega), fun _ => ?_⟩
      refine n_aload_n (pc := 925) (dk dt_X12_init_8 41 rfl) rfl ?_
      refine n_getr (r := 130) (pc := 926) (dk dt_X12_init_8 42 rfl) cls_12 fl_RX12_222 cf_85_66 (by show 85 ≤ y.1; omega) (by show y.2.1 85 66 = 131; rw [hρ]; exact h2) ?_
      refine n_iload_n (pc := 929) (dk dt_X12_init_8 43 rfl) rfl ?_
      refine n_iconst (pc := 930) (dk dt_X12_init_8 44 rfl) (ik rfl) ?_
      refine n_iast (pc := 931) (dk dt_X12_init_8 45 rfl) ar_131 (by show 131 ≤ y.1; omega) ⟨q0, by omega⟩ ?_
      rw [fil_s y 131 (-1) m q0]
      refine n_iinc (pc := 932) (dk dt_X12_init_8 46 rfl) (by decide) rfl rfl rfl ?_
      refine n_goto (pc := 935) (dk dt_X12_init_8 47 rfl) (tgt := 919) rfl ?_
      rw [w32_of (by omega) (by omega)]
      exact ih (m + 1) (by omega) (by omega)
  have L1 : ∀ (d : Nat) (m : Int), 0 ≤ m → m + d = 8 → NTW G m_X12_init (rmN m_X12_init.2.2.2.2 67 9479) 67 9479 (QMN G (zT z) 67 9479) 898 [(0, rv 85), (1, iv m)] [] (filN z 116 (-1) m) := by
    intro d
    induction d with
    | zero =>
      intro m q0 q1
      have : m = 8 := by omega
      subst this
      refine n_iload_n (pc := 898) (dk dt_X12_init_8 26 rfl) rfl ?_
      refine n_bipush (pc := 899) (dk dt_X12_init_8 27 rfl) (ik rfl) (bpk rfl) ?_
      refine n_icmp_ge (pc := 901) (dk dt_X12_init_8 28 rfl) (tgt := 917) rfl ⟨fun _ => ?_, fun c => absurd c (by decide)⟩
      refine n_iconst (pc := 917) (dk dt_X12_init_8 36 rfl) (ik rfl) ?_
      refine n_istore_n (pc := 918) (dk dt_X12_init_8 37 rfl) (by decide) rfl rfl ?_
      have := L2 (filN z 116 (-1) 8) hz rfl 8 0 (by omega) (by omega)
      rw [fil_0] at this
      exact this
    | succ d ih =>
      intro m q0 q1
      refine n_iload_n (pc := 898) (dk dt_X12_init_8 26 rfl) rfl ?_
      refine n_bipush (pc := 899) (dk dt_X12_init_8 27 rfl) (ik rfl) (bpk rfl) ?_
      refine n_icmp_ge (pc := 901) (dk dt_X12_init_8 28 rfl) (tgt := 917) rfl ⟨fun c => absurd c (by omega), fun _ => ?_⟩
      refine n_aload_n (pc := 904) (dk dt_X12_init_8 29 rfl) rfl ?_
      refine n_getr (r := 115) (pc := 905) (dk dt_X12_init_8 30 rfl) cls_12 fl_RX12_177 cf_85_49 (by show 85 ≤ z.1; omega) h1 ?_
      refine n_iload_n (pc := 908) (dk dt_X12_init_8 31 rfl) rfl ?_
      refine n_iconst (pc := 909) (dk dt_X12_init_8 32 rfl) (ik rfl) ?_
      refine n_iast (pc := 910) (dk dt_X12_init_8 33 rfl) ar_116 (by show 116 ≤ z.1; omega) ⟨q0, by omega⟩ ?_
      rw [fil_s z 116 (-1) m q0]
      refine n_iinc (pc := 911) (dk dt_X12_init_8 34 rfl) (by decide) rfl rfl rfl ?_
      refine n_goto (pc := 914) (dk dt_X12_init_8 35 rfl) (tgt := 898) rfl ?_
      rw [w32_of (by omega) (by omega)]
      exact ih (m + 1) (by omega) (by omega)
  refine n_iconst (pc := 896) (dk dt_X12_init_8 24 rfl) (ik rfl) ?_
  refine n_istore_n (pc := 897) (dk dt_X12_init_8 25 rfl) (by decide) rfl rfl ?_
  have := L1 8 0 (by omega) (by omega)
  rw [fil_0] at this
  exact this
def z_X12_s (z : N3) : N3 := (upN (newN (upN (newN (setN (upN (newN (upN (newN (upN (newN (upN (newN (upN (newN (upN (newN (upN (newN (upN (newN (upN (newN (upN (newN (upN (newN (setN (upN (newN (upN (newN (upN (newN (upN (newN (upN (newN (upN (newN (upN (newN (upN (newN (upN (newN (upN (newN (upN (newN (upN (newN (upN (newN (upN (newN (upN (newN (upN (newN (upN (newN (upN (newN (upN (newN (upN (newN (upN (newN (upN (newN (upN (newN (upN (newN (upN (newN (upN (newN (upN (newN (upN (newN (upN (newN (upN (newN (upN (newN (upN (newN (upN (newN (upN (newN (upN (newN (upN (newN (upN (newN (upN (upN (newN (upN (upN (upN (upN (upN (upN (upN (upN (upN (newN (upN (upN (upN (upN (upN (upN (upN (upN (upN (upN (upN (upN (upN (upN (upN (upN (upN (upN (newN (upN (upN (upN (upN (upN (upN (upN (upN (upN (upN (upN (upN (upN (upN (newN (upN (upN (upN (upN (upN (upN (upN (upN (upN (upN (upN (upN (upN (upN (upN (upN (newN (upN (newN (upN (newN (upN (newN (upN (newN (upN (newN (setN (setN (setN (upN (newN (upN (newN (upN (newN (setN (upN (newN (upN (newN (upN (newN (upN (newN z) 85 0 86)) 85 1 87)) 85 2 88)) 85 8 89) 85 11 5400)) 85 15 90)) 85 16 91)) 85 17 92) 85 18 1000) 85 19 1000) 85 20 100)) 85 24 93)) 85 25 94)) 85 26 95)) 85 27 96)) 85 28 97)) 98 0 1032) 98 1 1033) 98 2 1034) 98 3 1035) 98 4 1036) 98 5 1037) 98 6 1038) 98 7 1039) 98 8 1040) 98 9 1041) 98 10 1042) 98 11 1043) 98 12 1044) 98 13 1045) 98 14 1046) 85 31 98)) 99 0 1032) 99 1 1033) 99 2 1034) 99 3 1035) 99 4 1036) 99 5 1037) 99 6 1038) 99 7 1039) 99 8 1040) 99 9 1041) 99 10 1042) 99 11 1043) 99 12 1044) 85 32 99)) 100 0 1047) 100 1 1048) 100 2 1049) 100 3 1041) 100 4 1050) 100 5 1051) 100 6 1052) 100 7 1053) 100 8 1054) 100 9 1055) 100 10 1056) 100 11 1057) 100 12 1058) 100 13 1059) 100 14 1060) 100 15 1061) 100 16 1062) 85 33 100)) 101 0 1055) 101 1 1056) 101 2 1057) 101 3 1058) 101 4 1059) 101 5 1060) 101 6 1061) 101 7 1062) 85 34 101)) 102 0 1037) 85 35 102)) 85 36 103)) 85 37 104)) 85 38 105)) 85 39 106)) 85 40 107)) 85 41 108)) 85 42 109)) 85 43 110)) 85 44 111)) 85 45 112)) 85 46 113)) 85 47 114)) 85 48 115)) 85 49 116)) 85 50 117)) 85 51 118)) 85 52 119)) 85 53 120)) 85 54 121)) 85 55 122)) 85 56 123)) 85 58 124)) 85 59 125)) 85 60 126)) 85 61 127)) 85 63 128)) 85 64 129)) 85 65 130)) 85 66 131)) 85 67 132)) 85 68 133)) 85 69 134)) 85 70 135)) 85 71 136)) 85 75 137)) 85 76 138)) 85 77 139) 85 84 (-1))) 85 91 140)) 85 92 141)) 85 93 142)) 85 94 143)) 85 95 144)) 85 96 145)) 85 97 146)) 85 98 147)) 85 99 148)) 85 100 149)) 85 101 150) 85 103 10)) 85 104 151)) 85 105 152)
set_option maxHeartbeats 400000000 in
set_option maxRecDepth 100000 in
theorem nc_X12_init {G : GG} {ρ : Nat → Nat → Nat} {f : Hp} : NC2 G m_X12_init [rv 85] (85, ρ, f) (zT (z_X12_s (85, ρ, f))) 67 9479 := by
  refine NC2.of rfl (Nat.le_of_ble_eq_true rfl) rfl ?_
  refine n_aload_n (pc := 0) (dk dt_X12_init_0 0 rfl) rfl ?_
  refine n_obj (pc := 1) (dk dt_X12_init_0 1 rfl) obi_RX12_1 ⟨Nat.le_of_ble_eq_true rfl, Nat.le_of_ble_eq_true rfl⟩ (by decide) ?_
  refine n_aload_n (pc := 4) (dk dt_X12_init_0 2 rfl) rfl ?_
  refine n_sipush (pc := 5) (dk dt_X12_init_0 3 rfl) (ik rfl) (spk rfl) ?_
  refine n_newa (k := 86) (N := 1600) (kn := 20) (pc := 8) (dk dt_X12_init_0 4 rfl) arc_int (Or.inl ⟨rfl, rfl⟩) rfl ar_86 rfl ⟨Nat.le_of_ble_eq_true rfl, Nat.le_of_ble_eq_true rfl⟩ ?_
  refine n_putr (r := 85) (pc := 10) (dk dt_X12_init_0 5 rfl) cls_12 fl_RX12_7 cf_85_0 (Nat.le_of_ble_eq_true rfl) rfl rfl ⟨rfl, rfl⟩ ?_
  refine n_aload_n (pc := 13) (dk dt_X12_init_0 6 rfl) rfl ?_
  refine n_sipush (pc := 14) (dk dt_X12_init_0 7 rfl) (ik rfl) (spk rfl) ?_
  refine n_newa (k := 87) (N := 1600) (kn := 20) (pc := 17) (dk dt_X12_init_0 8 rfl) arc_int (Or.inl ⟨rfl, rfl⟩) rfl ar_87 rfl ⟨Nat.le_of_ble_eq_true rfl, Nat.le_of_ble_eq_true rfl⟩ ?_
  refine n_putr (r := 86) (pc := 19) (dk dt_X12_init_0 9 rfl) cls_12 fl_RX12_13 cf_85_1 (Nat.le_of_ble_eq_true rfl) rfl rfl ⟨rfl, rfl⟩ ?_
  refine n_aload_n (pc := 22) (dk dt_X12_init_0 10 rfl) rfl ?_
  refine n_sipush (pc := 23) (dk dt_X12_init_0 11 rfl) (ik rfl) (spk rfl) ?_
  refine n_newa (k := 88) (N := 288) (kn := 20) (pc := 26) (dk dt_X12_init_0 12 rfl) arc_int (Or.inl ⟨rfl, rfl⟩) rfl ar_88 rfl ⟨Nat.le_of_ble_eq_true rfl, Nat.le_of_ble_eq_true rfl⟩ ?_
  refine n_putr (r := 87) (pc := 28) (dk dt_X12_init_0 13 rfl) cls_12 fl_RX12_16 cf_85_2 (Nat.le_of_ble_eq_true rfl) rfl rfl ⟨rfl, rfl⟩ ?_
  refine n_aload_n (pc := 31) (dk dt_X12_init_0 14 rfl) rfl ?_
  refine n_bipush (pc := 32) (dk dt_X12_init_0 15 rfl) (ik rfl) (bpk rfl) ?_
  refine n_newa (k := 89) (N := 10) (kn := 20) (pc := 34) (dk dt_X12_init_0 16 rfl) arc_int (Or.inl ⟨rfl, rfl⟩) rfl ar_89 rfl ⟨Nat.le_of_ble_eq_true rfl, Nat.le_of_ble_eq_true rfl⟩ ?_
  refine n_putr (r := 88) (pc := 36) (dk dt_X12_init_0 17 rfl) cls_12 fl_RX12_19 cf_85_8 (Nat.le_of_ble_eq_true rfl) rfl rfl ⟨rfl, rfl⟩ ?_
  refine n_aload_n (pc := 39) (dk dt_X12_init_0 18 rfl) rfl ?_
  refine n_sipush (pc := 40) (dk dt_X12_init_0 19 rfl) (ik rfl) (spk rfl) ?_
  refine n_puti (pc := 43) (dk dt_X12_init_0 20 rfl) cls_12 fl_RX12_22 cf_85_11 (Nat.le_of_ble_eq_true rfl) rfl rfl rfl ?_
  refine n_aload_n (pc := 46) (dk dt_X12_init_0 21 rfl) rfl ?_
  refine n_iconst (pc := 47) (dk dt_X12_init_0 22 rfl) (ik rfl) ?_
  refine n_newa (k := 90) (N := 4) (kn := 20) (pc := 48) (dk dt_X12_init_0 23 rfl) arc_int (Or.inl ⟨rfl, rfl⟩) rfl ar_90 rfl ⟨Nat.le_of_ble_eq_true rfl, Nat.le_of_ble_eq_true rfl⟩ ?_
  refine n_putr (r := 89) (pc := 50) (dk dt_X12_init_0 24 rfl) cls_12 fl_RX12_26 cf_85_15 (Nat.le_of_ble_eq_true rfl) rfl rfl ⟨rfl, rfl⟩ ?_
  refine n_aload_n (pc := 53) (dk dt_X12_init_0 25 rfl) rfl ?_
  refine n_iconst (pc := 54) (dk dt_X12_init_0 26 rfl) (ik rfl) ?_
  refine n_newa (k := 91) (N := 4) (kn := 20) (pc := 55) (dk dt_X12_init_0 27 rfl) arc_int (Or.inl ⟨rfl, rfl⟩) rfl ar_91 rfl ⟨Nat.le_of_ble_eq_true rfl, Nat.le_of_ble_eq_true rfl⟩ ?_
  refine n_putr (r := 90) (pc := 57) (dk dt_X12_init_0 28 rfl) cls_12 fl_RX12_29 cf_85_16 (Nat.le_of_ble_eq_true rfl) rfl rfl ⟨rfl, rfl⟩ ?_
  refine n_aload_n (pc := 60) (dk dt_X12_init_0 29 rfl) rfl ?_
  refine n_iconst (pc := 61) (dk dt_X12_init_0 30 rfl) (ik rfl) ?_
  refine n_newa (k := 92) (N := 4) (kn := 20) (pc := 62) (dk dt_X12_init_0 31 rfl) arc_int (Or.inl ⟨rfl, rfl⟩) rfl ar_92 rfl ⟨Nat.le_of_ble_eq_true rfl, Nat.le_of_ble_eq_true rfl⟩ ?_
  refine n_putr (r := 91) (pc := 64) (dk dt_X12_init_0 32 rfl) cls_12 fl_RX12_32 cf_85_17 (Nat.le_of_ble_eq_true rfl) rfl rfl ⟨rfl, rfl⟩ ?_
  refine n_aload_n (pc := 67) (dk dt_X12_init_0 33 rfl) rfl ?_
  refine n_sipush (pc := 68) (dk dt_X12_init_0 34 rfl) (ik rfl) (spk rfl) ?_
  refine n_puti (pc := 71) (dk dt_X12_init_0 35 rfl) cls_12 fl_RX12_35 cf_85_18 (Nat.le_of_ble_eq_true rfl) rfl rfl rfl ?_
  refine n_aload_n (pc := 74) (dk dt_X12_init_0 36 rfl) rfl ?_
  refine n_sipush (pc := 75) (dk dt_X12_init_0 37 rfl) (ik rfl) (spk rfl) ?_
  refine n_puti (pc := 78) (dk dt_X12_init_0 38 rfl) cls_12 fl_RX12_38 cf_85_19 (Nat.le_of_ble_eq_true rfl) rfl rfl rfl ?_
  refine n_aload_n (pc := 81) (dk dt_X12_init_0 39 rfl) rfl ?_
  refine n_bipush (pc := 82) (dk dt_X12_init_0 40 rfl) (ik rfl) (bpk rfl) ?_
  refine n_puti (pc := 84) (dk dt_X12_init_0 41 rfl) cls_12 fl_RX12_41 cf_85_20 (Nat.le_of_ble_eq_true rfl) rfl rfl rfl ?_
  refine n_aload_n (pc := 87) (dk dt_X12_init_0 42 rfl) rfl ?_
  refine n_bipush (pc := 88) (dk dt_X12_init_0 43 rfl) (ik rfl) (bpk rfl) ?_
  refine n_newa (k := 93) (N := 8) (kn := 20) (pc := 90) (dk dt_X12_init_0 44 rfl) arc_int (Or.inl ⟨rfl, rfl⟩) rfl ar_93 rfl ⟨Nat.le_of_ble_eq_true rfl, Nat.le_of_ble_eq_true rfl⟩ ?_
  refine n_putr (r := 92) (pc := 92) (dk dt_X12_init_0 45 rfl) cls_12 fl_RX12_44 cf_85_24 (Nat.le_of_ble_eq_true rfl) rfl rfl ⟨rfl, rfl⟩ ?_
  refine n_aload_n (pc := 95) (dk dt_X12_init_0 46 rfl) rfl ?_
  refine n_bipush (pc := 96) (dk dt_X12_init_0 47 rfl) (ik rfl) (bpk rfl) ?_
  refine n_newa (k := 94) (N := 8) (kn := 20) (pc := 98) (dk dt_X12_init_0 48 rfl) arc_int (Or.inl ⟨rfl, rfl⟩) rfl ar_94 rfl ⟨Nat.le_of_ble_eq_true rfl, Nat.le_of_ble_eq_true rfl⟩ ?_
  refine n_putr (r := 93) (pc := 100) (dk dt_X12_init_0 49 rfl) cls_12 fl_RX12_47 cf_85_25 (Nat.le_of_ble_eq_true rfl) rfl rfl ⟨rfl, rfl⟩ ?_
  refine n_aload_n (pc := 103) (dk dt_X12_init_0 50 rfl) rfl ?_
  refine n_bipush (pc := 104) (dk dt_X12_init_0 51 rfl) (ik rfl) (bpk rfl) ?_
  refine n_newa (k := 95) (N := 8) (kn := 21) (pc := 106) (dk dt_X12_init_0 52 rfl) arc_boolean (Or.inr ⟨rfl, rfl⟩) rfl ar_95 rfl ⟨Nat.le_of_ble_eq_true rfl, Nat.le_of_ble_eq_true rfl⟩ ?_
  refine n_putr (r := 94) (pc := 108) (dk dt_X12_init_0 53 rfl) cls_12 fl_RX12_50 cf_85_26 (Nat.le_of_ble_eq_true rfl) rfl rfl ⟨rfl, rfl⟩ ?_
  refine n_aload_n (pc := 111) (dk dt_X12_init_0 54 rfl) rfl ?_
  refine n_bipush (pc := 112) (dk dt_X12_init_0 55 rfl) (ik rfl) (bpk rfl) ?_
  refine n_newa (k := 96) (N := 8) (kn := 21) (pc := 114) (dk dt_X12_init_0 56 rfl) arc_boolean (Or.inr ⟨rfl, rfl⟩) rfl ar_96 rfl ⟨Nat.le_of_ble_eq_true rfl, Nat.le_of_ble_eq_true rfl⟩ ?_
  refine n_putr (r := 95) (pc := 116) (dk dt_X12_init_0 57 rfl) cls_12 fl_RX12_54 cf_85_27 (Nat.le_of_ble_eq_true rfl) rfl rfl ⟨rfl, rfl⟩ ?_
  refine n_aload_n (pc := 119) (dk dt_X12_init_0 58 rfl) rfl ?_
  refine n_bipush (pc := 120) (dk dt_X12_init_0 59 rfl) (ik rfl) (bpk rfl) ?_
  refine n_newa (k := 97) (N := 64) (kn := 20) (pc := 122) (dk dt_X12_init_1 0 rfl) arc_int (Or.inl ⟨rfl, rfl⟩) rfl ar_97 rfl ⟨Nat.le_of_ble_eq_true rfl, Nat.le_of_ble_eq_true rfl⟩ ?_
  refine n_putr (r := 96) (pc := 124) (dk dt_X12_init_1 1 rfl) cls_12 fl_RX12_57 cf_85_28 (Nat.le_of_ble_eq_true rfl) rfl rfl ⟨rfl, rfl⟩ ?_
  refine n_aload_n (pc := 127) (dk dt_X12_init_1 2 rfl) rfl ?_
  refine n_bipush (pc := 128) (dk dt_X12_init_1 3 rfl) (ik rfl) (bpk rfl) ?_
  refine n_newq (k := 98) (N := 15) (pc := 130) (dk dt_X12_init_1 4 rfl) ca_RX12_60 rfl ar_98 rfl ⟨Nat.le_of_ble_eq_true rfl, Nat.le_of_ble_eq_true rfl⟩ ?_
  refine n_dup (pc := 133) (dk dt_X12_init_1 5 rfl) rfl ?_
  refine n_iconst (pc := 134) (dk dt_X12_init_1 6 rfl) (ik rfl) ?_
  refine n_ldcS (i := 32) (pc := 135) (dk dt_X12_init_1 7 rfl) rfl ?_
  refine n_aast (pc := 137) (dk dt_X12_init_1 8 rfl) ar_98 (Nat.le_of_ble_eq_true rfl) ⟨by decide, by decide⟩ ⟨by decide, by decide⟩ ?_
  refine n_dup (pc := 138) (dk dt_X12_init_1 9 rfl) rfl ?_
  refine n_iconst (pc := 139) (dk dt_X12_init_1 10 rfl) (ik rfl) ?_
  refine n_ldcS (i := 33) (pc := 140) (dk dt_X12_init_1 11 rfl) rfl ?_
  refine n_aast (pc := 142) (dk dt_X12_init_1 12 rfl) ar_98 (Nat.le_of_ble_eq_true rfl) ⟨by decide, by decide⟩ ⟨by decide, by decide⟩ ?_
  refine n_dup (pc := 143) (dk dt_X12_init_1 13 rfl) rfl ?_
  refine n_iconst (pc := 144) (dk dt_X12_init_1 14 rfl) (ik rfl) ?_
  refine n_ldcS (i := 34) (pc := 145) (dk dt_X12_init_1 15 rfl) rfl ?_
  refine n_aast (pc := 147) (dk dt_X12_init_1 16 rfl) ar_98 (Nat.le_of_ble_eq_true rfl) ⟨by decide, by decide⟩ ⟨by decide, by decide⟩ ?_
  refine n_dup (pc := 148) (dk dt_X12_init_1 17 rfl) rfl ?_
  refine n_iconst (pc := 149) (dk dt_X12_init_1 18 rfl) (ik rfl) ?_
  refine n_ldcS (i := 35) (pc := 150) (dk dt_X12_init_1 19 rfl) rfl ?_
  refine n_aast (pc := 152) (dk dt_X12_init_1 20 rfl) ar_98 (Nat.le_of_ble_eq_true rfl) ⟨by decide, by decide⟩ ⟨by decide, by decide⟩ ?_
  refine n_dup (pc := 153) (dk dt_X12_init_1 21 rfl) rfl ?_
  refine n_iconst (pc := 154) (dk dt_X12_init_1 22 rfl) (ik rfl) ?_
  refine n_ldcS (i := 36) (pc := 155) (dk dt_X12_init_1 23 rfl) rfl ?_
  refine n_aast (pc := 157) (dk dt_X12_init_1 24 rfl) ar_98 (Nat.le_of_ble_eq_true rfl) ⟨by decide, by decide⟩ ⟨by decide, by decide⟩ ?_
  refine n_dup (pc := 158) (dk dt_X12_init_1 25 rfl) rfl ?_
  refine n_iconst (pc := 159) (dk dt_X12_init_1 26 rfl) (ik rfl) ?_
  refine n_ldcS (i := 37) (pc := 160) (dk dt_X12_init_1 27 rfl) rfl ?_
  refine n_aast (pc := 162) (dk dt_X12_init_1 28 rfl) ar_98 (Nat.le_of_ble_eq_true rfl) ⟨by decide, by decide⟩ ⟨by decide, by decide⟩ ?_
  refine n_dup (pc := 163) (dk dt_X12_init_1 29 rfl) rfl ?_
  refine n_bipush (pc := 164) (dk dt_X12_init_1 30 rfl) (ik rfl) (bpk rfl) ?_
  refine n_ldcS (i := 38) (pc := 166) (dk dt_X12_init_1 31 rfl) rfl ?_
  refine n_aast (pc := 168) (dk dt_X12_init_1 32 rfl) ar_98 (Nat.le_of_ble_eq_true rfl) ⟨by decide, by decide⟩ ⟨by decide, by decide⟩ ?_
  refine n_dup (pc := 169) (dk dt_X12_init_1 33 rfl) rfl ?_
  refine n_bipush (pc := 170) (dk dt_X12_init_1 34 rfl) (ik rfl) (bpk rfl) ?_
  refine n_ldcS (i := 39) (pc := 172) (dk dt_X12_init_1 35 rfl) rfl ?_
  refine n_aast (pc := 174) (dk dt_X12_init_1 36 rfl) ar_98 (Nat.le_of_ble_eq_true rfl) ⟨by decide, by decide⟩ ⟨by decide, by decide⟩ ?_
  refine n_dup (pc := 175) (dk dt_X12_init_1 37 rfl) rfl ?_
  refine n_bipush (pc := 176) (dk dt_X12_init_1 38 rfl) (ik rfl) (bpk rfl) ?_
  refine n_ldcS (i := 40) (pc := 178) (dk dt_X12_init_1 39 rfl) rfl ?_
  refine n_aast (pc := 180) (dk dt_X12_init_1 40 rfl) ar_98 (Nat.le_of_ble_eq_true rfl) ⟨by decide, by decide⟩ ⟨by decide, by decide⟩ ?_
  refine n_dup (pc := 181) (dk dt_X12_init_1 41 rfl) rfl ?_
  refine n_bipush (pc := 182) (dk dt_X12_init_1 42 rfl) (ik rfl) (bpk rfl) ?_
  refine n_ldcS (i := 41) (pc := 184) (dk dt_X12_init_1 43 rfl) rfl ?_
  refine n_aast (pc := 186) (dk dt_X12_init_1 44 rfl) ar_98 (Nat.le_of_ble_eq_true rfl) ⟨by decide, by decide⟩ ⟨by decide, by decide⟩ ?_
  refine n_dup (pc := 187) (dk dt_X12_init_1 45 rfl) rfl ?_
  refine n_bipush (pc := 188) (dk dt_X12_init_1 46 rfl) (ik rfl) (bpk rfl) ?_
  refine n_ldcS (i := 42) (pc := 190) (dk dt_X12_init_1 47 rfl) rfl ?_
  refine n_aast (pc := 192) (dk dt_X12_init_1 48 rfl) ar_98 (Nat.le_of_ble_eq_true rfl) ⟨by decide, by decide⟩ ⟨by decide, by decide⟩ ?_
  refine n_dup (pc := 193) (dk dt_X12_init_1 49 rfl) rfl ?_
  refine n_bipush (pc := 194) (dk dt_X12_init_1 50 rfl) (ik rfl) (bpk rfl) ?_
  refine n_ldcS (i := 43) (pc := 196) (dk dt_X12_init_1 51 rfl) rfl ?_
  refine n_aast (pc := 198) (dk dt_X12_init_1 52 rfl) ar_98 (Nat.le_of_ble_eq_true rfl) ⟨by decide, by decide⟩ ⟨by decide, by decide⟩ ?_
  refine n_dup (pc := 199) (dk dt_X12_init_1 53 rfl) rfl ?_
  refine n_bipush (pc := 200) (dk dt_X12_init_1 54 rfl) (ik rfl) (bpk rfl) ?_
  refine n_ldcS (i := 44) (pc := 202) (dk dt_X12_init_1 55 rfl) rfl ?_
  refine n_aast (pc := 204) (dk dt_X12_init_1 56 rfl) ar_98 (Nat.le_of_ble_eq_true rfl) ⟨by decide, by decide⟩ ⟨by decide, by decide⟩ ?_
  refine n_dup (pc := 205) (dk dt_X12_init_1 57 rfl) rfl ?_
  refine n_bipush (pc := 206) (dk dt_X12_init_1 58 rfl) (ik rfl) (bpk rfl) ?_
  refine n_ldcS (i := 45) (pc := 208) (dk dt_X12_init_1 59 rfl) rfl ?_
  refine n_aast (pc := 210) (dk dt_X12_init_2 0 rfl) ar_98 (Nat.le_of_ble_eq_true rfl) ⟨by decide, by decide⟩ ⟨by decide, by decide⟩ ?_
  refine n_dup (pc := 211) (dk dt_X12_init_2 1 rfl) rfl ?_
  refine n_bipush (pc := 212) (dk dt_X12_init_2 2 rfl) (ik rfl) (bpk rfl) ?_
  refine n_ldcS (i := 46) (pc := 214) (dk dt_X12_init_2 3 rfl) rfl ?_
  refine n_aast (pc := 216) (dk dt_X12_init_2 4 rfl) ar_98 (Nat.le_of_ble_eq_true rfl) ⟨by decide, by decide⟩ ⟨by decide, by decide⟩ ?_
  refine n_putr (r := 97) (pc := 217) (dk dt_X12_init_2 5 rfl) cls_12 fl_RX12_91 cf_85_31 (Nat.le_of_ble_eq_true rfl) rfl rfl ⟨rfl, rfl⟩ ?_
  refine n_aload_n (pc := 220) (dk dt_X12_init_2 6 rfl) rfl ?_
  refine n_bipush (pc := 221) (dk dt_X12_init_2 7 rfl) (ik rfl) (bpk rfl) ?_
  refine n_newq (k := 99) (N := 13) (pc := 223) (dk dt_X12_init_2 8 rfl) ca_RX12_60 rfl ar_99 rfl ⟨Nat.le_of_ble_eq_true rfl, Nat.le_of_ble_eq_true rfl⟩ ?_
  refine n_dup (pc := 226) (dk dt_X12_init_2 9 rfl) rfl ?_
  refine n_iconst (pc := 227) (dk dt_X12_init_2 10 rfl) (ik rfl) ?_
  refine n_ldcS (i := 32) (pc := 228) (dk dt_X12_init_2 11 rfl) rfl ?_
  refine n_aast (pc := 230) (dk dt_X12_init_2 12 rfl) ar_99 (Nat.le_of_ble_eq_true rfl) ⟨by decide, by decide⟩ ⟨by decide, by decide⟩ ?_
  refine n_dup (pc := 231) (dk dt_X12_init_2 13 rfl) rfl ?_
  refine n_iconst (pc := 232) (dk dt_X12_init_2 14 rfl) (ik rfl) ?_
  refine n_ldcS (i := 33) (pc := 233) (dk dt_X12_init_2 15 rfl) rfl ?_
  refine n_aast (pc := 235) (dk dt_X12_init_2 16 rfl) ar_99 (Nat.le_of_ble_eq_true rfl) ⟨by decide, by decide⟩ ⟨by decide, by decide⟩ ?_
  refine n_dup (pc := 236) (dk dt_X12_init_2 17 rfl) rfl ?_
  refine n_iconst (pc := 237) (dk dt_X12_init_2 18 rfl) (ik rfl) ?_
  refine n_ldcS (i := 34) (pc := 238) (dk dt_X12_init_2 19 rfl) rfl ?_
  refine n_aast (pc := 240) (dk dt_X12_init_2 20 rfl) ar_99 (Nat.le_of_ble_eq_true rfl) ⟨by decide, by decide⟩ ⟨by decide, by decide⟩ ?_
  refine n_dup (pc := 241) (dk dt_X12_init_2 21 rfl) rfl ?_
  refine n_iconst (pc := 242) (dk dt_X12_init_2 22 rfl) (ik rfl) ?_
  refine n_ldcS (i := 35) (pc := 243) (dk dt_X12_init_2 23 rfl) rfl ?_
  refine n_aast (pc := 245) (dk dt_X12_init_2 24 rfl) ar_99 (Nat.le_of_ble_eq_true rfl) ⟨by decide, by decide⟩ ⟨by decide, by decide⟩ ?_
  refine n_dup (pc := 246) (dk dt_X12_init_2 25 rfl) rfl ?_
  refine n_iconst (pc := 247) (dk dt_X12_init_2 26 rfl) (ik rfl) ?_
  refine n_ldcS (i := 36) (pc := 248) (dk dt_X12_init_2 27 rfl) rfl ?_
  refine n_aast (pc := 250) (dk dt_X12_init_2 28 rfl) ar_99 (Nat.le_of_ble_eq_true rfl) ⟨by decide, by decide⟩ ⟨by decide, by decide⟩ ?_
  refine n_dup (pc := 251) (dk dt_X12_init_2 29 rfl) rfl ?_
  refine n_iconst (pc := 252) (dk dt_X12_init_2 30 rfl) (ik rfl) ?_
  refine n_ldcS (i := 37) (pc := 253) (dk dt_X12_init_2 31 rfl) rfl ?_
  refine n_aast (pc := 255) (dk dt_X12_init_2 32 rfl) ar_99 (Nat.le_of_ble_eq_true rfl) ⟨by decide, by decide⟩ ⟨by decide, by decide⟩ ?_
  refine n_dup (pc := 256) (dk dt_X12_init_2 33 rfl) rfl ?_
  refine n_bipush (pc := 257) (dk dt_X12_init_2 34 rfl) (ik rfl) (bpk rfl) ?_
  refine n_ldcS (i := 38) (pc := 259) (dk dt_X12_init_2 35 rfl) rfl ?_
  refine n_aast (pc := 261) (dk dt_X12_init_2 36 rfl) ar_99 (Nat.le_of_ble_eq_true rfl) ⟨by decide, by decide⟩ ⟨by decide, by decide⟩ ?_
  refine n_dup (pc := 262) (dk dt_X12_init_2 37 rfl) rfl ?_
  refine n_bipush (pc := 263) (dk dt_X12_init_2 38 rfl) (ik rfl) (bpk rfl) ?_
  refine n_ldcS (i := 39) (pc := 265) (dk dt_X12_init_2 39 rfl) rfl ?_
  refine n_aast (pc := 267) (dk dt_X12_init_2 40 rfl) ar_99 (Nat.le_of_ble_eq_true rfl) ⟨by decide, by decide⟩ ⟨by decide, by decide⟩ ?_
  refine n_dup (pc := 268) (dk dt_X12_init_2 41 rfl) rfl ?_
  refine n_bipush (pc := 269) (dk dt_X12_init_2 42 rfl) (ik rfl) (bpk rfl) ?_
  refine n_ldcS (i := 40) (pc := 271) (dk dt_X12_init_2 43 rfl) rfl ?_
  refine n_aast (pc := 273) (dk dt_X12_init_2 44 rfl) ar_99 (Nat.le_of_ble_eq_true rfl) ⟨by decide, by decide⟩ ⟨by decide, by decide⟩ ?_
  refine n_dup (pc := 274) (dk dt_X12_init_2 45 rfl) rfl ?_
  refine n_bipush (pc := 275) (dk dt_X12_init_2 46 rfl) (ik rfl) (bpk rfl) ?_
  refine n_ldcS (i := 41) (pc := 277) (dk dt_X12_init_2 47 rfl) rfl ?_
  refine n_aast (pc := 279) (dk dt_X12_init_2 48 rfl) ar_99 (Nat.le_of_ble_eq_true rfl) ⟨by decide, by decide⟩ ⟨by decide, by decide⟩ ?_
  refine n_dup (pc := 280) (dk dt_X12_init_2 49 rfl) rfl ?_
  refine n_bipush (pc := 281) (dk dt_X12_init_2 50 rfl) (ik rfl) (bpk rfl) ?_
  refine n_ldcS (i := 42) (pc := 283) (dk dt_X12_init_2 51 rfl) rfl ?_
  refine n_aast (pc := 285) (dk dt_X12_init_2 52 rfl) ar_99 (Nat.le_of_ble_eq_true rfl) ⟨by decide, by decide⟩ ⟨by decide, by decide⟩ ?_
  refine n_dup (pc := 286) (dk dt_X12_init_2 53 rfl) rfl ?_
  refine n_bipush (pc := 287) (dk dt_X12_init_2 54 rfl) (ik rfl) (bpk rfl) ?_
  refine n_ldcS (i := 43) (pc := 289) (dk dt_X12_init_2 55 rfl) rfl ?_
  refine n_aast (pc := 291) (dk dt_X12_init_2 56 rfl) ar_99 (Nat.le_of_ble_eq_true rfl) ⟨by decide, by decide⟩ ⟨by decide, by decide⟩ ?_
  refine n_dup (pc := 292) (dk dt_X12_init_2 57 rfl) rfl ?_
  refine n_bipush (pc := 293) (dk dt_X12_init_2 58 rfl) (ik rfl) (bpk rfl) ?_
  refine n_ldcS (i := 44) (pc := 295) (dk dt_X12_init_2 59 rfl) rfl ?_
  refine n_aast (pc := 297) (dk dt_X12_init_3 0 rfl) ar_99 (Nat.le_of_ble_eq_true rfl) ⟨by decide, by decide⟩ ⟨by decide, by decide⟩ ?_
  refine n_putr (r := 98) (pc := 298) (dk dt_X12_init_3 1 rfl) cls_12 fl_RX12_95 cf_85_32 (Nat.le_of_ble_eq_true rfl) rfl rfl ⟨rfl, rfl⟩ ?_
  refine n_aload_n (pc := 301) (dk dt_X12_init_3 2 rfl) rfl ?_
  refine n_bipush (pc := 302) (dk dt_X12_init_3 3 rfl) (ik rfl) (bpk rfl) ?_
  refine n_newq (k := 100) (N := 17) (pc := 304) (dk dt_X12_init_3 4 rfl) ca_RX12_60 rfl ar_100 rfl ⟨Nat.le_of_ble_eq_true rfl, Nat.le_of_ble_eq_true rfl⟩ ?_
  refine n_dup (pc := 307) (dk dt_X12_init_3 5 rfl) rfl ?_
  refine n_iconst (pc := 308) (dk dt_X12_init_3 6 rfl) (ik rfl) ?_
  refine n_ldcS (i := 47) (pc := 309) (dk dt_X12_init_3 7 rfl) rfl ?_
  refine n_aast (pc := 311) (dk dt_X12_init_3 8 rfl) ar_100 (Nat.le_of_ble_eq_true rfl) ⟨by decide, by decide⟩ ⟨by decide, by decide⟩ ?_
  refine n_dup (pc := 312) (dk dt_X12_init_3 9 rfl) rfl ?_
  refine n_iconst (pc := 313) (dk dt_X12_init_3 10 rfl) (ik rfl) ?_
  refine n_ldcS (i := 48) (pc := 314) (dk dt_X12_init_3 11 rfl) rfl ?_
  refine n_aast (pc := 316) (dk dt_X12_init_3 12 rfl) ar_100 (Nat.le_of_ble_eq_true rfl) ⟨by decide, by decide⟩ ⟨by decide, by decide⟩ ?_
  refine n_dup (pc := 317) (dk dt_X12_init_3 13 rfl) rfl ?_
  refine n_iconst (pc := 318) (dk dt_X12_init_3 14 rfl) (ik rfl) ?_
  refine n_ldcS (i := 49) (pc := 319) (dk dt_X12_init_3 15 rfl) rfl ?_
  refine n_aast (pc := 321) (dk dt_X12_init_3 16 rfl) ar_100 (Nat.le_of_ble_eq_true rfl) ⟨by decide, by decide⟩ ⟨by decide, by decide⟩ ?_
  refine n_dup (pc := 322) (dk dt_X12_init_3 17 rfl) rfl ?_
  refine n_iconst (pc := 323) (dk dt_X12_init_3 18 rfl) (ik rfl) ?_
  refine n_ldcS (i := 41) (pc := 324) (dk dt_X12_init_3 19 rfl) rfl ?_
  refine n_aast (pc := 326) (dk dt_X12_init_3 20 rfl) ar_100 (Nat.le_of_ble_eq_true rfl) ⟨by decide, by decide⟩ ⟨by decide, by decide⟩ ?_
  refine n_dup (pc := 327) (dk dt_X12_init_3 21 rfl) rfl ?_
  refine n_iconst (pc := 328) (dk dt_X12_init_3 22 rfl) (ik rfl) ?_
  refine n_ldcS (i := 50) (pc := 329) (dk dt_X12_init_3 23 rfl) rfl ?_
  refine n_aast (pc := 331) (dk dt_X12_init_3 24 rfl) ar_100 (Nat.le_of_ble_eq_true rfl) ⟨by decide, by decide⟩ ⟨by decide, by decide⟩ ?_
  refine n_dup (pc := 332) (dk dt_X12_init_3 25 rfl) rfl ?_
  refine n_iconst (pc := 333) (dk dt_X12_init_3 26 rfl) (ik rfl) ?_
  refine n_ldcS (i := 51) (pc := 334) (dk dt_X12_init_3 27 rfl) rfl ?_
  refine n_aast (pc := 336) (dk dt_X12_init_3 28 rfl) ar_100 (Nat.le_of_ble_eq_true rfl) ⟨by decide, by decide⟩ ⟨by decide, by decide⟩ ?_
  refine n_dup (pc := 337) (dk dt_X12_init_3 29 rfl) rfl ?_
  refine n_bipush (pc := 338) (dk dt_X12_init_3 30 rfl) (ik rfl) (bpk rfl) ?_
  refine n_ldcS (i := 52) (pc := 340) (dk dt_X12_init_3 31 rfl) rfl ?_
  refine n_aast (pc := 342) (dk dt_X12_init_3 32 rfl) ar_100 (Nat.le_of_ble_eq_true rfl) ⟨by decide, by decide⟩ ⟨by decide, by decide⟩ ?_
  refine n_dup (pc := 343) (dk dt_X12_init_3 33 rfl) rfl ?_
  refine n_bipush (pc := 344) (dk dt_X12_init_3 34 rfl) (ik rfl) (bpk rfl) ?_
  refine n_ldcS (i := 53) (pc := 346) (dk dt_X12_init_3 35 rfl) rfl ?_
  refine n_aast (pc := 348) (dk dt_X12_init_3 36 rfl) ar_100 (Nat.le_of_ble_eq_true rfl) ⟨by decide, by decide⟩ ⟨by decide, by decide⟩ ?_
  refine n_dup (pc := 349) (dk dt_X12_init_3 37 rfl) rfl ?_
  refine n_bipush (pc := 350) (dk dt_X12_init_3 38 rfl) (ik rfl) (bpk rfl) ?_
  refine n_ldcS (i := 54) (pc := 352) (dk dt_X12_init_3 39 rfl) rfl ?_
  refine n_aast (pc := 354) (dk dt_X12_init_3 40 rfl) ar_100 (Nat.le_of_ble_eq_true rfl) ⟨by decide, by decide⟩ ⟨by decide, by decide⟩ ?_
  refine n_dup (pc := 355) (dk dt_X12_init_3 41 rfl) rfl ?_
  refine n_bipush (pc := 356) (dk dt_X12_init_3 42 rfl) (ik rfl) (bpk rfl) ?_
  refine n_ldcS (i := 55) (pc := 358) (dk dt_X12_init_3 43 rfl) rfl ?_
  refine n_aast (pc := 360) (dk dt_X12_init_3 44 rfl) ar_100 (Nat.le_of_ble_eq_true rfl) ⟨by decide, by decide⟩ ⟨by decide, by decide⟩ ?_
  refine n_dup (pc := 361) (dk dt_X12_init_3 45 rfl) rfl ?_
  refine n_bipush (pc := 362) (dk dt_X12_init_3 46 rfl) (ik rfl) (bpk rfl) ?_
  refine n_ldcS (i := 56) (pc := 364) (dk dt_X12_init_3 47 rfl) rfl ?_
  refine n_aast (pc := 366) (dk dt_X12_init_3 48 rfl) ar_100 (Nat.le_of_ble_eq_true rfl) ⟨by decide, by decide⟩ ⟨by decide, by decide⟩ ?_
  refine n_dup (pc := 367) (dk dt_X12_init_3 49 rfl) rfl ?_
  refine n_bipush (pc := 368) (dk dt_X12_init_3 50 rfl) (ik rfl) (bpk rfl) ?_
  refine n_ldcS (i := 57) (pc := 370) (dk dt_X12_init_3 51 rfl) rfl ?_
  refine n_aast (pc := 372) (dk dt_X12_init_3 52 rfl) ar_100 (Nat.le_of_ble_eq_true rfl) ⟨by decide, by decide⟩ ⟨by decide, by decide⟩ ?_
  refine n_dup (pc := 373) (dk dt_X12_init_3 53 rfl) rfl ?_
  refine n_bipush (pc := 374) (dk dt_X12_init_3 54 rfl) (ik rfl) (bpk rfl) ?_
  refine n_ldcS (i := 58) (pc := 376) (dk dt_X12_init_3 55 rfl) rfl ?_
  refine n_aast (pc := 378) (dk dt_X12_init_3 56 rfl) ar_100 (Nat.le_of_ble_eq_true rfl) ⟨by decide, by decide⟩ ⟨by decide, by decide⟩ ?_
  refine n_dup (pc := 379) (dk dt_X12_init_3 57 rfl) rfl ?_
  refine n_bipush (pc := 380) (dk dt_X12_init_3 58 rfl) (ik rfl) (bpk rfl) ?_
  refine n_ldcS (i := 59) (pc := 382) (dk dt_X12_init_3 59 rfl) rfl ?_
  refine n_aast (pc := 384) (dk dt_X12_init_4 0 rfl) ar_100 (Nat.le_of_ble_eq_true rfl) ⟨by decide, by decide⟩ ⟨by decide, by decide⟩ ?_
  refine n_dup (pc := 385) (dk dt_X12_init_4 1 rfl) rfl ?_
  refine n_bipush (pc := 386) (dk dt_X12_init_4 2 rfl) (ik rfl) (bpk rfl) ?_
  refine n_ldcS (i := 60) (pc := 388) (dk dt_X12_init_4 3 rfl) rfl ?_
  refine n_aast (pc := 390) (dk dt_X12_init_4 4 rfl) ar_100 (Nat.le_of_ble_eq_true rfl) ⟨by decide, by decide⟩ ⟨by decide, by decide⟩ ?_
  refine n_dup (pc := 391) (dk dt_X12_init_4 5 rfl) rfl ?_
  refine n_bipush (pc := 392) (dk dt_X12_init_4 6 rfl) (ik rfl) (bpk rfl) ?_
  refine n_ldcS (i := 61) (pc := 394) (dk dt_X12_init_4 7 rfl) rfl ?_
  refine n_aast (pc := 396) (dk dt_X12_init_4 8 rfl) ar_100 (Nat.le_of_ble_eq_true rfl) ⟨by decide, by decide⟩ ⟨by decide, by decide⟩ ?_
  refine n_dup (pc := 397) (dk dt_X12_init_4 9 rfl) rfl ?_
  refine n_bipush (pc := 398) (dk dt_X12_init_4 10 rfl) (ik rfl) (bpk rfl) ?_
  refine n_ldcS (i := 62) (pc := 400) (dk dt_X12_init_4 11 rfl) rfl ?_
  refine n_aast (pc := 402) (dk dt_X12_init_4 12 rfl) ar_100 (Nat.le_of_ble_eq_true rfl) ⟨by decide, by decide⟩ ⟨by decide, by decide⟩ ?_
  refine n_putr (r := 99) (pc := 403) (dk dt_X12_init_4 13 rfl) cls_12 fl_RX12_129 cf_85_33 (Nat.le_of_ble_eq_true rfl) rfl rfl ⟨rfl, rfl⟩ ?_
  refine n_aload_n (pc := 406) (dk dt_X12_init_4 14 rfl) rfl ?_
  refine n_bipush (pc := 407) (dk dt_X12_init_4 15 rfl) (ik rfl) (bpk rfl) ?_
  refine n_newq (k := 101) (N := 8) (pc := 409) (dk dt_X12_init_4 16 rfl) ca_RX12_60 rfl ar_101 rfl ⟨Nat.le_of_ble_eq_true rfl, Nat.le_of_ble_eq_true rfl⟩ ?_
  refine n_dup (pc := 412) (dk dt_X12_init_4 17 rfl) rfl ?_
  refine n_iconst (pc := 413) (dk dt_X12_init_4 18 rfl) (ik rfl) ?_
  refine n_ldcS (i := 55) (pc := 414) (dk dt_X12_init_4 19 rfl) rfl ?_
  refine n_aast (pc := 416) (dk dt_X12_init_4 20 rfl) ar_101 (Nat.le_of_ble_eq_true rfl) ⟨by decide, by decide⟩ ⟨by decide, by decide⟩ ?_
  refine n_dup (pc := 417) (dk dt_X12_init_4 21 rfl) rfl ?_
  refine n_iconst (pc := 418) (dk dt_X12_init_4 22 rfl) (ik rfl) ?_
  refine n_ldcS (i := 56) (pc := 419) (dk dt_X12_init_4 23 rfl) rfl ?_
  refine n_aast (pc := 421) (dk dt_X12_init_4 24 rfl) ar_101 (Nat.le_of_ble_eq_true rfl) ⟨by decide, by decide⟩ ⟨by decide, by decide⟩ ?_
  refine n_dup (pc := 422) (dk dt_X12_init_4 25 rfl) rfl ?_
  refine n_iconst (pc := 423) (dk dt_X12_init_4 26 rfl) (ik rfl) ?_
  refine n_ldcS (i := 57) (pc := 424) (dk dt_X12_init_4 27 rfl) rfl ?_
  refine n_aast (pc := 426) (dk dt_X12_init_4 28 rfl) ar_101 (Nat.le_of_ble_eq_true rfl) ⟨by decide, by decide⟩ ⟨by decide, by decide⟩ ?_
  refine n_dup (pc := 427) (dk dt_X12_init_4 29 rfl) rfl ?_
  refine n_iconst (pc := 428) (dk dt_X12_init_4 30 rfl) (ik rfl) ?_
  refine n_ldcS (i := 58) (pc := 429) (dk dt_X12_init_4 31 rfl) rfl ?_
  refine n_aast (pc := 431) (dk dt_X12_init_4 32 rfl) ar_101 (Nat.le_of_ble_eq_true rfl) ⟨by decide, by decide⟩ ⟨by decide, by decide⟩ ?_
  refine n_dup (pc := 432) (dk dt_X12_init_4 33 rfl) rfl ?_
  refine n_iconst (pc := 433) (dk dt_X12_init_4 34 rfl) (ik rfl) ?_
  refine n_ldcS (i := 59) (pc := 434) (dk dt_X12_init_4 35 rfl) rfl ?_
  refine n_aast (pc := 436) (dk dt_X12_init_4 36 rfl) ar_101 (Nat.le_of_ble_eq_true rfl) ⟨by decide, by decide⟩ ⟨by decide, by decide⟩ ?_
  refine n_dup (pc := 437) (dk dt_X12_init_4 37 rfl) rfl ?_
  refine n_iconst (pc := 438) (dk dt_X12_init_4 38 rfl) (ik rfl) ?_
  refine n_ldcS (i := 60) (pc := 439) (dk dt_X12_init_4 39 rfl) rfl ?_
  refine n_aast (pc := 441) (dk dt_X12_init_4 40 rfl) ar_101 (Nat.le_of_ble_eq_true rfl) ⟨by decide, by decide⟩ ⟨by decide, by decide⟩ ?_
  refine n_dup (pc := 442) (dk dt_X12_init_4 41 rfl) rfl ?_
  refine n_bipush (pc := 443) (dk dt_X12_init_4 42 rfl) (ik rfl) (bpk rfl) ?_
  refine n_ldcS (i := 61) (pc := 445) (dk dt_X12_init_4 43 rfl) rfl ?_
  refine n_aast (pc := 447) (dk dt_X12_init_4 44 rfl) ar_101 (Nat.le_of_ble_eq_true rfl) ⟨by decide, by decide⟩ ⟨by decide, by decide⟩ ?_
  refine n_dup (pc := 448) (dk dt_X12_init_4 45 rfl) rfl ?_
  refine n_bipush (pc := 449) (dk dt_X12_init_4 46 rfl) (ik rfl) (bpk rfl) ?_
  refine n_ldcS (i := 62) (pc := 451) (dk dt_X12_init_4 47 rfl) rfl ?_
  refine n_aast (pc := 453) (dk dt_X12_init_4 48 rfl) ar_101 (Nat.le_of_ble_eq_true rfl) ⟨by decide, by decide⟩ ⟨by decide, by decide⟩ ?_
  refine n_putr (r := 100) (pc := 454) (dk dt_X12_init_4 49 rfl) cls_12 fl_RX12_132 cf_85_34 (Nat.le_of_ble_eq_true rfl) rfl rfl ⟨rfl, rfl⟩ ?_
  refine n_aload_n (pc := 457) (dk dt_X12_init_4 50 rfl) rfl ?_
  refine n_iconst (pc := 458) (dk dt_X12_init_4 51 rfl) (ik rfl) ?_
  refine n_newq (k := 102) (N := 1) (pc := 459) (dk dt_X12_init_4 52 rfl) ca_RX12_60 rfl ar_102 rfl ⟨Nat.le_of_ble_eq_true rfl, Nat.le_of_ble_eq_true rfl⟩ ?_
  refine n_dup (pc := 462) (dk dt_X12_init_4 53 rfl) rfl ?_
  refine n_iconst (pc := 463) (dk dt_X12_init_4 54 rfl) (ik rfl) ?_
  refine n_ldcS (i := 37) (pc := 464) (dk dt_X12_init_4 55 rfl) rfl ?_
  refine n_aast (pc := 466) (dk dt_X12_init_4 56 rfl) ar_102 (Nat.le_of_ble_eq_true rfl) ⟨by decide, by decide⟩ ⟨by decide, by decide⟩ ?_
  refine n_putr (r := 101) (pc := 467) (dk dt_X12_init_4 57 rfl) cls_12 fl_RX12_135 cf_85_35 (Nat.le_of_ble_eq_true rfl) rfl rfl ⟨rfl, rfl⟩ ?_
  refine n_aload_n (pc := 470) (dk dt_X12_init_4 58 rfl) rfl ?_
  refine n_sipush (pc := 471) (dk dt_X12_init_4 59 rfl) (ik rfl) (spk rfl) ?_
  refine n_newa (k := 103) (N := 260) (kn := 20) (pc := 474) (dk dt_X12_init_5 0 rfl) arc_int (Or.inl ⟨rfl, rfl⟩) rfl ar_103 rfl ⟨Nat.le_of_ble_eq_true rfl, Nat.le_of_ble_eq_true rfl⟩ ?_
  refine n_putr (r := 102) (pc := 476) (dk dt_X12_init_5 1 rfl) cls_12 fl_RX12_138 cf_85_36 (Nat.le_of_ble_eq_true rfl) rfl rfl ⟨rfl, rfl⟩ ?_
  refine n_aload_n (pc := 479) (dk dt_X12_init_5 2 rfl) rfl ?_
  refine n_sipush (pc := 480) (dk dt_X12_init_5 3 rfl) (ik rfl) (spk rfl) ?_
  refine n_newa (k := 104) (N := 260) (kn := 20) (pc := 483) (dk dt_X12_init_5 4 rfl) arc_int (Or.inl ⟨rfl, rfl⟩) rfl ar_104 rfl ⟨Nat.le_of_ble_eq_true rfl, Nat.le_of_ble_eq_true rfl⟩ ?_
  refine n_putr (r := 103) (pc := 485) (dk dt_X12_init_5 5 rfl) cls_12 fl_RX12_141 cf_85_37 (Nat.le_of_ble_eq_true rfl) rfl rfl ⟨rfl, rfl⟩ ?_
  refine n_aload_n (pc := 488) (dk dt_X12_init_5 6 rfl) rfl ?_
  refine n_sipush (pc := 489) (dk dt_X12_init_5 7 rfl) (ik rfl) (spk rfl) ?_
  refine n_newa (k := 105) (N := 260) (kn := 20) (pc := 492) (dk dt_X12_init_5 8 rfl) arc_int (Or.inl ⟨rfl, rfl⟩) rfl ar_105 rfl ⟨Nat.le_of_ble_eq_true rfl, Nat.le_of_ble_eq_true rfl⟩ ?_
  refine n_putr (r := 104) (pc := 494) (dk dt_X12_init_5 9 rfl) cls_12 fl_RX12_144 cf_85_38 (Nat.le_of_ble_eq_true rfl) rfl rfl ⟨rfl, rfl⟩ ?_
  refine n_aload_n (pc := 497) (dk dt_X12_init_5 10 rfl) rfl ?_
  refine n_sipush (pc := 498) (dk dt_X12_init_5 11 rfl) (ik rfl) (spk rfl) ?_
  refine n_newa (k := 106) (N := 260) (kn := 20) (pc := 501) (dk dt_X12_init_5 12 rfl) arc_int (Or.inl ⟨rfl, rfl⟩) rfl ar_106 rfl ⟨Nat.le_of_ble_eq_true rfl, Nat.le_of_ble_eq_true rfl⟩ ?_
  refine n_putr (r := 105) (pc := 503) (dk dt_X12_init_5 13 rfl) cls_12 fl_RX12_147 cf_85_39 (Nat.le_of_ble_eq_true rfl) rfl rfl ⟨rfl, rfl⟩ ?_
  refine n_aload_n (pc := 506) (dk dt_X12_init_5 14 rfl) rfl ?_
  refine n_sipush (pc := 507) (dk dt_X12_init_5 15 rfl) (ik rfl) (spk rfl) ?_
  refine n_newa (k := 107) (N := 260) (kn := 20) (pc := 510) (dk dt_X12_init_5 16 rfl) arc_int (Or.inl ⟨rfl, rfl⟩) rfl ar_107 rfl ⟨Nat.le_of_ble_eq_true rfl, Nat.le_of_ble_eq_true rfl⟩ ?_
  refine n_putr (r := 106) (pc := 512) (dk dt_X12_init_5 17 rfl) cls_12 fl_RX12_150 cf_85_40 (Nat.le_of_ble_eq_true rfl) rfl rfl ⟨rfl, rfl⟩ ?_
  refine n_aload_n (pc := 515) (dk dt_X12_init_5 18 rfl) rfl ?_
  refine n_sipush (pc := 516) (dk dt_X12_init_5 19 rfl) (ik rfl) (spk rfl) ?_
  refine n_newa (k := 108) (N := 260) (kn := 20) (pc := 519) (dk dt_X12_init_5 20 rfl) arc_int (Or.inl ⟨rfl, rfl⟩) rfl ar_108 rfl ⟨Nat.le_of_ble_eq_true rfl, Nat.le_of_ble_eq_true rfl⟩ ?_
  refine n_putr (r := 107) (pc := 521) (dk dt_X12_init_5 21 rfl) cls_12 fl_RX12_153 cf_85_41 (Nat.le_of_ble_eq_true rfl) rfl rfl ⟨rfl, rfl⟩ ?_
  refine n_aload_n (pc := 524) (dk dt_X12_init_5 22 rfl) rfl ?_
  refine n_sipush (pc := 525) (dk dt_X12_init_5 23 rfl) (ik rfl) (spk rfl) ?_
  refine n_newa (k := 109) (N := 240) (kn := 20) (pc := 528) (dk dt_X12_init_5 24 rfl) arc_int (Or.inl ⟨rfl, rfl⟩) rfl ar_109 rfl ⟨Nat.le_of_ble_eq_true rfl, Nat.le_of_ble_eq_true rfl⟩ ?_
  refine n_putr (r := 108) (pc := 530) (dk dt_X12_init_5 25 rfl) cls_12 fl_RX12_156 cf_85_42 (Nat.le_of_ble_eq_true rfl) rfl rfl ⟨rfl, rfl⟩ ?_
  refine n_aload_n (pc := 533) (dk dt_X12_init_5 26 rfl) rfl ?_
  refine n_sipush (pc := 534) (dk dt_X12_init_5 27 rfl) (ik rfl) (spk rfl) ?_
  refine n_newa (k := 110) (N := 240) (kn := 20) (pc := 537) (dk dt_X12_init_5 28 rfl) arc_int (Or.inl ⟨rfl, rfl⟩) rfl ar_110 rfl ⟨Nat.le_of_ble_eq_true rfl, Nat.le_of_ble_eq_true rfl⟩ ?_
  refine n_putr (r := 109) (pc := 539) (dk dt_X12_init_5 29 rfl) cls_12 fl_RX12_159 cf_85_43 (Nat.le_of_ble_eq_true rfl) rfl rfl ⟨rfl, rfl⟩ ?_
  refine n_aload_n (pc := 542) (dk dt_X12_init_5 30 rfl) rfl ?_
  refine n_sipush (pc := 543) (dk dt_X12_init_5 31 rfl) (ik rfl) (spk rfl) ?_
  refine n_newa (k := 111) (N := 240) (kn := 20) (pc := 546) (dk dt_X12_init_5 32 rfl) arc_int (Or.inl ⟨rfl, rfl⟩) rfl ar_111 rfl ⟨Nat.le_of_ble_eq_true rfl, Nat.le_of_ble_eq_true rfl⟩ ?_
  refine n_putr (r := 110) (pc := 548) (dk dt_X12_init_5 33 rfl) cls_12 fl_RX12_162 cf_85_44 (Nat.le_of_ble_eq_true rfl) rfl rfl ⟨rfl, rfl⟩ ?_
  refine n_aload_n (pc := 551) (dk dt_X12_init_5 34 rfl) rfl ?_
  refine n_sipush (pc := 552) (dk dt_X12_init_5 35 rfl) (ik rfl) (spk rfl) ?_
  refine n_newa (k := 112) (N := 240) (kn := 20) (pc := 555) (dk dt_X12_init_5 36 rfl) arc_int (Or.inl ⟨rfl, rfl⟩) rfl ar_112 rfl ⟨Nat.le_of_ble_eq_true rfl, Nat.le_of_ble_eq_true rfl⟩ ?_
  refine n_putr (r := 111) (pc := 557) (dk dt_X12_init_5 37 rfl) cls_12 fl_RX12_165 cf_85_45 (Nat.le_of_ble_eq_true rfl) rfl rfl ⟨rfl, rfl⟩ ?_
  refine n_aload_n (pc := 560) (dk dt_X12_init_5 38 rfl) rfl ?_
  refine n_sipush (pc := 561) (dk dt_X12_init_5 39 rfl) (ik rfl) (spk rfl) ?_
  refine n_newa (k := 113) (N := 240) (kn := 20) (pc := 564) (dk dt_X12_init_5 40 rfl) arc_int (Or.inl ⟨rfl, rfl⟩) rfl ar_113 rfl ⟨Nat.le_of_ble_eq_true rfl, Nat.le_of_ble_eq_true rfl⟩ ?_
  refine n_putr (r := 112) (pc := 566) (dk dt_X12_init_5 41 rfl) cls_12 fl_RX12_168 cf_85_46 (Nat.le_of_ble_eq_true rfl) rfl rfl ⟨rfl, rfl⟩ ?_
  refine n_aload_n (pc := 569) (dk dt_X12_init_5 42 rfl) rfl ?_
  refine n_sipush (pc := 570) (dk dt_X12_init_5 43 rfl) (ik rfl) (spk rfl) ?_
  refine n_newa (k := 114) (N := 240) (kn := 20) (pc := 573) (dk dt_X12_init_5 44 rfl) arc_int (Or.inl ⟨rfl, rfl⟩) rfl ar_114 rfl ⟨Nat.le_of_ble_eq_true rfl, Nat.le_of_ble_eq_true rfl⟩ ?_
  refine n_putr (r := 113) (pc := 575) (dk dt_X12_init_5 45 rfl) cls_12 fl_RX12_171 cf_85_47 (Nat.le_of_ble_eq_true rfl) rfl rfl ⟨rfl, rfl⟩ ?_
  refine n_aload_n (pc := 578) (dk dt_X12_init_5 46 rfl) rfl ?_
  refine n_bipush (pc := 579) (dk dt_X12_init_5 47 rfl) (ik rfl) (bpk rfl) ?_
  refine n_newa (k := 115) (N := 8) (kn := 20) (pc := 581) (dk dt_X12_init_5 48 rfl) arc_int (Or.inl ⟨rfl, rfl⟩) rfl ar_115 rfl ⟨Nat.le_of_ble_eq_true rfl, Nat.le_of_ble_eq_true rfl⟩ ?_
  refine n_putr (r := 114) (pc := 583) (dk dt_X12_init_5 49 rfl) cls_12 fl_RX12_174 cf_85_48 (Nat.le_of_ble_eq_true rfl) rfl rfl ⟨rfl, rfl⟩ ?_
  refine n_aload_n (pc := 586) (dk dt_X12_init_5 50 rfl) rfl ?_
  refine n_bipush (pc := 587) (dk dt_X12_init_5 51 rfl) (ik rfl) (bpk rfl) ?_
  refine n_newa (k := 116) (N := 8) (kn := 20) (pc := 589) (dk dt_X12_init_5 52 rfl) arc_int (Or.inl ⟨rfl, rfl⟩) rfl ar_116 rfl ⟨Nat.le_of_ble_eq_true rfl, Nat.le_of_ble_eq_true rfl⟩ ?_
  refine n_putr (r := 115) (pc := 591) (dk dt_X12_init_5 53 rfl) cls_12 fl_RX12_177 cf_85_49 (Nat.le_of_ble_eq_true rfl) rfl rfl ⟨rfl, rfl⟩ ?_
  refine n_aload_n (pc := 594) (dk dt_X12_init_5 54 rfl) rfl ?_
  refine n_bipush (pc := 595) (dk dt_X12_init_5 55 rfl) (ik rfl) (bpk rfl) ?_
  refine n_newa (k := 117) (N := 8) (kn := 20) (pc := 597) (dk dt_X12_init_5 56 rfl) arc_int (Or.inl ⟨rfl, rfl⟩) rfl ar_117 rfl ⟨Nat.le_of_ble_eq_true rfl, Nat.le_of_ble_eq_true rfl⟩ ?_
  refine n_putr (r := 116) (pc := 599) (dk dt_X12_init_5 57 rfl) cls_12 fl_RX12_180 cf_85_50 (Nat.le_of_ble_eq_true rfl) rfl rfl ⟨rfl, rfl⟩ ?_
  refine n_aload_n (pc := 602) (dk dt_X12_init_5 58 rfl) rfl ?_
  refine n_bipush (pc := 603) (dk dt_X12_init_5 59 rfl) (ik rfl) (bpk rfl) ?_
  refine n_newa (k := 118) (N := 30) (kn := 20) (pc := 605) (dk dt_X12_init_6 0 rfl) arc_int (Or.inl ⟨rfl, rfl⟩) rfl ar_118 rfl ⟨Nat.le_of_ble_eq_true rfl, Nat.le_of_ble_eq_true rfl⟩ ?_
  refine n_putr (r := 117) (pc := 607) (dk dt_X12_init_6 1 rfl) cls_12 fl_RX12_183 cf_85_51 (Nat.le_of_ble_eq_true rfl) rfl rfl ⟨rfl, rfl⟩ ?_
  refine n_aload_n (pc := 610) (dk dt_X12_init_6 2 rfl) rfl ?_
  refine n_bipush (pc := 611) (dk dt_X12_init_6 3 rfl) (ik rfl) (bpk rfl) ?_
  refine n_newa (k := 119) (N := 30) (kn := 20) (pc := 613) (dk dt_X12_init_6 4 rfl) arc_int (Or.inl ⟨rfl, rfl⟩) rfl ar_119 rfl ⟨Nat.le_of_ble_eq_true rfl, Nat.le_of_ble_eq_true rfl⟩ ?_
  refine n_putr (r := 118) (pc := 615) (dk dt_X12_init_6 5 rfl) cls_12 fl_RX12_186 cf_85_52 (Nat.le_of_ble_eq_true rfl) rfl rfl ⟨rfl, rfl⟩ ?_
  refine n_aload_n (pc := 618) (dk dt_X12_init_6 6 rfl) rfl ?_
  refine n_bipush (pc := 619) (dk dt_X12_init_6 7 rfl) (ik rfl) (bpk rfl) ?_
  refine n_newa (k := 120) (N := 30) (kn := 20) (pc := 621) (dk dt_X12_init_6 8 rfl) arc_int (Or.inl ⟨rfl, rfl⟩) rfl ar_120 rfl ⟨Nat.le_of_ble_eq_true rfl, Nat.le_of_ble_eq_true rfl⟩ ?_
  refine n_putr (r := 119) (pc := 623) (dk dt_X12_init_6 9 rfl) cls_12 fl_RX12_189 cf_85_53 (Nat.le_of_ble_eq_true rfl) rfl rfl ⟨rfl, rfl⟩ ?_
  refine n_aload_n (pc := 626) (dk dt_X12_init_6 10 rfl) rfl ?_
  refine n_bipush (pc := 627) (dk dt_X12_init_6 11 rfl) (ik rfl) (bpk rfl) ?_
  refine n_newa (k := 121) (N := 30) (kn := 20) (pc := 629) (dk dt_X12_init_6 12 rfl) arc_int (Or.inl ⟨rfl, rfl⟩) rfl ar_121 rfl ⟨Nat.le_of_ble_eq_true rfl, Nat.le_of_ble_eq_true rfl⟩ ?_
  refine n_putr (r := 120) (pc := 631) (dk dt_X12_init_6 13 rfl) cls_12 fl_RX12_192 cf_85_54 (Nat.le_of_ble_eq_true rfl) rfl rfl ⟨rfl, rfl⟩ ?_
  refine n_aload_n (pc := 634) (dk dt_X12_init_6 14 rfl) rfl ?_
  refine n_bipush (pc := 635) (dk dt_X12_init_6 15 rfl) (ik rfl) (bpk rfl) ?_
  refine n_newa (k := 122) (N := 30) (kn := 20) (pc := 637) (dk dt_X12_init_6 16 rfl) arc_int (Or.inl ⟨rfl, rfl⟩) rfl ar_122 rfl ⟨Nat.le_of_ble_eq_true rfl, Nat.le_of_ble_eq_true rfl⟩ ?_
  refine n_putr (r := 121) (pc := 639) (dk dt_X12_init_6 17 rfl) cls_12 fl_RX12_195 cf_85_55 (Nat.le_of_ble_eq_true rfl) rfl rfl ⟨rfl, rfl⟩ ?_
  refine n_aload_n (pc := 642) (dk dt_X12_init_6 18 rfl) rfl ?_
  refine n_bipush (pc := 643) (dk dt_X12_init_6 19 rfl) (ik rfl) (bpk rfl) ?_
  refine n_newa (k := 123) (N := 30) (kn := 20) (pc := 645) (dk dt_X12_init_6 20 rfl) arc_int (Or.inl ⟨rfl, rfl⟩) rfl ar_123 rfl ⟨Nat.le_of_ble_eq_true rfl, Nat.le_of_ble_eq_true rfl⟩ ?_
  refine n_putr (r := 122) (pc := 647) (dk dt_X12_init_6 21 rfl) cls_12 fl_RX12_198 cf_85_56 (Nat.le_of_ble_eq_true rfl) rfl rfl ⟨rfl, rfl⟩ ?_
  refine n_aload_n (pc := 650) (dk dt_X12_init_6 22 rfl) rfl ?_
  refine n_iconst (pc := 651) (dk dt_X12_init_6 23 rfl) (ik rfl) ?_
  refine n_newa (k := 124) (N := 4) (kn := 20) (pc := 652) (dk dt_X12_init_6 24 rfl) arc_int (Or.inl ⟨rfl, rfl⟩) rfl ar_124 rfl ⟨Nat.le_of_ble_eq_true rfl, Nat.le_of_ble_eq_true rfl⟩ ?_
  refine n_putr (r := 123) (pc := 654) (dk dt_X12_init_6 25 rfl) cls_12 fl_RX12_201 cf_85_58 (Nat.le_of_ble_eq_true rfl) rfl rfl ⟨rfl, rfl⟩ ?_
  refine n_aload_n (pc := 657) (dk dt_X12_init_6 26 rfl) rfl ?_
  refine n_iconst (pc := 658) (dk dt_X12_init_6 27 rfl) (ik rfl) ?_
  refine n_newa (k := 125) (N := 4) (kn := 20) (pc := 659) (dk dt_X12_init_6 28 rfl) arc_int (Or.inl ⟨rfl, rfl⟩) rfl ar_125 rfl ⟨Nat.le_of_ble_eq_true rfl, Nat.le_of_ble_eq_true rfl⟩ ?_
  refine n_putr (r := 124) (pc := 661) (dk dt_X12_init_6 29 rfl) cls_12 fl_RX12_204 cf_85_59 (Nat.le_of_ble_eq_true rfl) rfl rfl ⟨rfl, rfl⟩ ?_
  refine n_aload_n (pc := 664) (dk dt_X12_init_6 30 rfl) rfl ?_
  refine n_bipush (pc := 665) (dk dt_X12_init_6 31 rfl) (ik rfl) (bpk rfl) ?_
  refine n_newa (k := 126) (N := 10) (kn := 20) (pc := 667) (dk dt_X12_init_6 32 rfl) arc_int (Or.inl ⟨rfl, rfl⟩) rfl ar_126 rfl ⟨Nat.le_of_ble_eq_true rfl, Nat.le_of_ble_eq_true rfl⟩ ?_
  refine n_putr (r := 125) (pc := 669) (dk dt_X12_init_6 33 rfl) cls_12 fl_RX12_207 cf_85_60 (Nat.le_of_ble_eq_true rfl) rfl rfl ⟨rfl, rfl⟩ ?_
  refine n_aload_n (pc := 672) (dk dt_X12_init_6 34 rfl) rfl ?_
  refine n_bipush (pc := 673) (dk dt_X12_init_6 35 rfl) (ik rfl) (bpk rfl) ?_
  refine n_newa (k := 127) (N := 10) (kn := 20) (pc := 675) (dk dt_X12_init_6 36 rfl) arc_int (Or.inl ⟨rfl, rfl⟩) rfl ar_127 rfl ⟨Nat.le_of_ble_eq_true rfl, Nat.le_of_ble_eq_true rfl⟩ ?_
  refine n_putr (r := 126) (pc := 677) (dk dt_X12_init_6 37 rfl) cls_12 fl_RX12_210 cf_85_61 (Nat.le_of_ble_eq_true rfl) rfl rfl ⟨rfl, rfl⟩ ?_
  refine n_aload_n (pc := 680) (dk dt_X12_init_6 38 rfl) rfl ?_
  refine n_bipush (pc := 681) (dk dt_X12_init_6 39 rfl) (ik rfl) (bpk rfl) ?_
  refine n_newa (k := 128) (N := 8) (kn := 20) (pc := 683) (dk dt_X12_init_6 40 rfl) arc_int (Or.inl ⟨rfl, rfl⟩) rfl ar_128 rfl ⟨Nat.le_of_ble_eq_true rfl, Nat.le_of_ble_eq_true rfl⟩ ?_
  refine n_putr (r := 127) (pc := 685) (dk dt_X12_init_6 41 rfl) cls_12 fl_RX12_213 cf_85_63 (Nat.le_of_ble_eq_true rfl) rfl rfl ⟨rfl, rfl⟩ ?_
  refine n_aload_n (pc := 688) (dk dt_X12_init_6 42 rfl) rfl ?_
  refine n_bipush (pc := 689) (dk dt_X12_init_6 43 rfl) (ik rfl) (bpk rfl) ?_
  refine n_newa (k := 129) (N := 8) (kn := 20) (pc := 691) (dk dt_X12_init_6 44 rfl) arc_int (Or.inl ⟨rfl, rfl⟩) rfl ar_129 rfl ⟨Nat.le_of_ble_eq_true rfl, Nat.le_of_ble_eq_true rfl⟩ ?_
  refine n_putr (r := 128) (pc := 693) (dk dt_X12_init_6 45 rfl) cls_12 fl_RX12_216 cf_85_64 (Nat.le_of_ble_eq_true rfl) rfl rfl ⟨rfl, rfl⟩ ?_
  refine n_aload_n (pc := 696) (dk dt_X12_init_6 46 rfl) rfl ?_
  refine n_bipush (pc := 697) (dk dt_X12_init_6 47 rfl) (ik rfl) (bpk rfl) ?_
  refine n_newa (k := 130) (N := 8) (kn := 20) (pc := 699) (dk dt_X12_init_6 48 rfl) arc_int (Or.inl ⟨rfl, rfl⟩) rfl ar_130 rfl ⟨Nat.le_of_ble_eq_true rfl, Nat.le_of_ble_eq_true rfl⟩ ?_
  refine n_putr (r := 129) (pc := 701) (dk dt_X12_init_6 49 rfl) cls_12 fl_RX12_219 cf_85_65 (Nat.le_of_ble_eq_true rfl) rfl rfl ⟨rfl, rfl⟩ ?_
  refine n_aload_n (pc := 704) (dk dt_X12_init_6 50 rfl) rfl ?_
  refine n_bipush (pc := 705) (dk dt_X12_init_6 51 rfl) (ik rfl) (bpk rfl) ?_
  refine n_newa (k := 131) (N := 8) (kn := 20) (pc := 707) (dk dt_X12_init_6 52 rfl) arc_int (Or.inl ⟨rfl, rfl⟩) rfl ar_131 rfl ⟨Nat.le_of_ble_eq_true rfl, Nat.le_of_ble_eq_true rfl⟩ ?_
  refine n_putr (r := 130) (pc := 709) (dk dt_X12_init_6 53 rfl) cls_12 fl_RX12_222 cf_85_66 (Nat.le_of_ble_eq_true rfl) rfl rfl ⟨rfl, rfl⟩ ?_
  refine n_aload_n (pc := 712) (dk dt_X12_init_6 54 rfl) rfl ?_
  refine n_bipush (pc := 713) (dk dt_X12_init_6 55 rfl) (ik rfl) (bpk rfl) ?_
  refine n_newa (k := 132) (N := 8) (kn := 21) (pc := 715) (dk dt_X12_init_6 56 rfl) arc_boolean (Or.inr ⟨rfl, rfl⟩) rfl ar_132 rfl ⟨Nat.le_of_ble_eq_true rfl, Nat.le_of_ble_eq_true rfl⟩ ?_
  refine n_putr (r := 131) (pc := 717) (dk dt_X12_init_6 57 rfl) cls_12 fl_RX12_225 cf_85_67 (Nat.le_of_ble_eq_true rfl) rfl rfl ⟨rfl, rfl⟩ ?_
  refine n_aload_n (pc := 720) (dk dt_X12_init_6 58 rfl) rfl ?_
  refine n_sipush (pc := 721) (dk dt_X12_init_6 59 rfl) (ik rfl) (spk rfl) ?_
  refine n_newa (k := 133) (N := 450) (kn := 20) (pc := 724) (dk dt_X12_init_7 0 rfl) arc_int (Or.inl ⟨rfl, rfl⟩) rfl ar_133 rfl ⟨Nat.le_of_ble_eq_true rfl, Nat.le_of_ble_eq_true rfl⟩ ?_
  refine n_putr (r := 132) (pc := 726) (dk dt_X12_init_7 1 rfl) cls_12 fl_RX12_227 cf_85_68 (Nat.le_of_ble_eq_true rfl) rfl rfl ⟨rfl, rfl⟩ ?_
  refine n_aload_n (pc := 729) (dk dt_X12_init_7 2 rfl) rfl ?_
  refine n_bipush (pc := 730) (dk dt_X12_init_7 3 rfl) (ik rfl) (bpk rfl) ?_
  refine n_newa (k := 134) (N := 50) (kn := 20) (pc := 732) (dk dt_X12_init_7 4 rfl) arc_int (Or.inl ⟨rfl, rfl⟩) rfl ar_134 rfl ⟨Nat.le_of_ble_eq_true rfl, Nat.le_of_ble_eq_true rfl⟩ ?_
  refine n_putr (r := 133) (pc := 734) (dk dt_X12_init_7 5 rfl) cls_12 fl_RX12_229 cf_85_69 (Nat.le_of_ble_eq_true rfl) rfl rfl ⟨rfl, rfl⟩ ?_
  refine n_aload_n (pc := 737) (dk dt_X12_init_7 6 rfl) rfl ?_
  refine n_bipush (pc := 738) (dk dt_X12_init_7 7 rfl) (ik rfl) (bpk rfl) ?_
  refine n_newa (k := 135) (N := 16) (kn := 20) (pc := 740) (dk dt_X12_init_7 8 rfl) arc_int (Or.inl ⟨rfl, rfl⟩) rfl ar_135 rfl ⟨Nat.le_of_ble_eq_true rfl, Nat.le_of_ble_eq_true rfl⟩ ?_
  refine n_putr (r := 134) (pc := 742) (dk dt_X12_init_7 9 rfl) cls_12 fl_RX12_232 cf_85_70 (Nat.le_of_ble_eq_true rfl) rfl rfl ⟨rfl, rfl⟩ ?_
  refine n_aload_n (pc := 745) (dk dt_X12_init_7 10 rfl) rfl ?_
  refine n_bipush (pc := 746) (dk dt_X12_init_7 11 rfl) (ik rfl) (bpk rfl) ?_
  refine n_newa (k := 136) (N := 9) (kn := 20) (pc := 748) (dk dt_X12_init_7 12 rfl) arc_int (Or.inl ⟨rfl, rfl⟩) rfl ar_136 rfl ⟨Nat.le_of_ble_eq_true rfl, Nat.le_of_ble_eq_true rfl⟩ ?_
  refine n_putr (r := 135) (pc := 750) (dk dt_X12_init_7 13 rfl) cls_12 fl_RX12_235 cf_85_71 (Nat.le_of_ble_eq_true rfl) rfl rfl ⟨rfl, rfl⟩ ?_
  refine n_aload_n (pc := 753) (dk dt_X12_init_7 14 rfl) rfl ?_
  refine n_bipush (pc := 754) (dk dt_X12_init_7 15 rfl) (ik rfl) (bpk rfl) ?_
  refine n_newa (k := 137) (N := 9) (kn := 20) (pc := 756) (dk dt_X12_init_7 16 rfl) arc_int (Or.inl ⟨rfl, rfl⟩) rfl ar_137 rfl ⟨Nat.le_of_ble_eq_true rfl, Nat.le_of_ble_eq_true rfl⟩ ?_
  refine n_putr (r := 136) (pc := 758) (dk dt_X12_init_7 17 rfl) cls_12 fl_RX12_238 cf_85_75 (Nat.le_of_ble_eq_true rfl) rfl rfl ⟨rfl, rfl⟩ ?_
  refine n_aload_n (pc := 761) (dk dt_X12_init_7 18 rfl) rfl ?_
  refine n_sipush (pc := 762) (dk dt_X12_init_7 19 rfl) (ik rfl) (spk rfl) ?_
  refine n_newa (k := 138) (N := 720) (kn := 20) (pc := 765) (dk dt_X12_init_7 20 rfl) arc_int (Or.inl ⟨rfl, rfl⟩) rfl ar_138 rfl ⟨Nat.le_of_ble_eq_true rfl, Nat.le_of_ble_eq_true rfl⟩ ?_
  refine n_putr (r := 137) (pc := 767) (dk dt_X12_init_7 21 rfl) cls_12 fl_RX12_241 cf_85_76 (Nat.le_of_ble_eq_true rfl) rfl rfl ⟨rfl, rfl⟩ ?_
  refine n_aload_n (pc := 770) (dk dt_X12_init_7 22 rfl) rfl ?_
  refine n_bipush (pc := 771) (dk dt_X12_init_7 23 rfl) (ik rfl) (bpk rfl) ?_
  refine n_newa (k := 139) (N := 24) (kn := 20) (pc := 773) (dk dt_X12_init_7 24 rfl) arc_int (Or.inl ⟨rfl, rfl⟩) rfl ar_139 rfl ⟨Nat.le_of_ble_eq_true rfl, Nat.le_of_ble_eq_true rfl⟩ ?_
  refine n_putr (r := 138) (pc := 775) (dk dt_X12_init_7 25 rfl) cls_12 fl_RX12_244 cf_85_77 (Nat.le_of_ble_eq_true rfl) rfl rfl ⟨rfl, rfl⟩ ?_
  refine n_aload_n (pc := 778) (dk dt_X12_init_7 26 rfl) rfl ?_
  refine n_iconst (pc := 779) (dk dt_X12_init_7 27 rfl) (ik rfl) ?_
  refine n_puti (pc := 780) (dk dt_X12_init_7 28 rfl) cls_12 fl_RX12_247 cf_85_84 (Nat.le_of_ble_eq_true rfl) rfl rfl rfl ?_
  refine n_aload_n (pc := 783) (dk dt_X12_init_7 29 rfl) rfl ?_
  refine n_bipush (pc := 784) (dk dt_X12_init_7 30 rfl) (ik rfl) (bpk rfl) ?_
  refine n_newa (k := 140) (N := 9) (kn := 20) (pc := 786) (dk dt_X12_init_7 31 rfl) arc_int (Or.inl ⟨rfl, rfl⟩) rfl ar_140 rfl ⟨Nat.le_of_ble_eq_true rfl, Nat.le_of_ble_eq_true rfl⟩ ?_
  refine n_putr (r := 139) (pc := 788) (dk dt_X12_init_7 32 rfl) cls_12 fl_RX12_250 cf_85_91 (Nat.le_of_ble_eq_true rfl) rfl rfl ⟨rfl, rfl⟩ ?_
  refine n_aload_n (pc := 791) (dk dt_X12_init_7 33 rfl) rfl ?_
  refine n_sipush (pc := 792) (dk dt_X12_init_7 34 rfl) (ik rfl) (spk rfl) ?_
  refine n_newa (k := 141) (N := 540) (kn := 20) (pc := 795) (dk dt_X12_init_7 35 rfl) arc_int (Or.inl ⟨rfl, rfl⟩) rfl ar_141 rfl ⟨Nat.le_of_ble_eq_true rfl, Nat.le_of_ble_eq_true rfl⟩ ?_
  refine n_putr (r := 140) (pc := 797) (dk dt_X12_init_7 36 rfl) cls_12 fl_RX12_253 cf_85_92 (Nat.le_of_ble_eq_true rfl) rfl rfl ⟨rfl, rfl⟩ ?_
  refine n_aload_n (pc := 800) (dk dt_X12_init_7 37 rfl) rfl ?_
  refine n_bipush (pc := 801) (dk dt_X12_init_7 38 rfl) (ik rfl) (bpk rfl) ?_
  refine n_newa (k := 142) (N := 60) (kn := 20) (pc := 803) (dk dt_X12_init_7 39 rfl) arc_int (Or.inl ⟨rfl, rfl⟩) rfl ar_142 rfl ⟨Nat.le_of_ble_eq_true rfl, Nat.le_of_ble_eq_true rfl⟩ ?_
  refine n_putr (r := 141) (pc := 805) (dk dt_X12_init_7 40 rfl) cls_12 fl_RX12_256 cf_85_93 (Nat.le_of_ble_eq_true rfl) rfl rfl ⟨rfl, rfl⟩ ?_
  refine n_aload_n (pc := 808) (dk dt_X12_init_7 41 rfl) rfl ?_
  refine n_bipush (pc := 809) (dk dt_X12_init_7 42 rfl) (ik rfl) (bpk rfl) ?_
  refine n_newa (k := 143) (N := 9) (kn := 20) (pc := 811) (dk dt_X12_init_7 43 rfl) arc_int (Or.inl ⟨rfl, rfl⟩) rfl ar_143 rfl ⟨Nat.le_of_ble_eq_true rfl, Nat.le_of_ble_eq_true rfl⟩ ?_
  refine n_putr (r := 142) (pc := 813) (dk dt_X12_init_7 44 rfl) cls_12 fl_RX12_259 cf_85_94 (Nat.le_of_ble_eq_true rfl) rfl rfl ⟨rfl, rfl⟩ ?_
  refine n_aload_n (pc := 816) (dk dt_X12_init_7 45 rfl) rfl ?_
  refine n_bipush (pc := 817) (dk dt_X12_init_7 46 rfl) (ik rfl) (bpk rfl) ?_
  refine n_newa (k := 144) (N := 9) (kn := 20) (pc := 819) (dk dt_X12_init_7 47 rfl) arc_int (Or.inl ⟨rfl, rfl⟩) rfl ar_144 rfl ⟨Nat.le_of_ble_eq_true rfl, Nat.le_of_ble_eq_true rfl⟩ ?_
  refine n_putr (r := 143) (pc := 821) (dk dt_X12_init_7 48 rfl) cls_12 fl_RX12_262 cf_85_95 (Nat.le_of_ble_eq_true rfl) rfl rfl ⟨rfl, rfl⟩ ?_
  refine n_aload_n (pc := 824) (dk dt_X12_init_7 49 rfl) rfl ?_
  refine n_bipush (pc := 825) (dk dt_X12_init_7 50 rfl) (ik rfl) (bpk rfl) ?_
  refine n_newa (k := 145) (N := 9) (kn := 20) (pc := 827) (dk dt_X12_init_7 51 rfl) arc_int (Or.inl ⟨rfl, rfl⟩) rfl ar_145 rfl ⟨Nat.le_of_ble_eq_true rfl, Nat.le_of_ble_eq_true rfl⟩ ?_
  refine n_putr (r := 144) (pc := 829) (dk dt_X12_init_7 52 rfl) cls_12 fl_RX12_265 cf_85_96 (Nat.le_of_ble_eq_true rfl) rfl rfl ⟨rfl, rfl⟩ ?_
  refine n_aload_n (pc := 832) (dk dt_X12_init_7 53 rfl) rfl ?_
  refine n_bipush (pc := 833) (dk dt_X12_init_7 54 rfl) (ik rfl) (bpk rfl) ?_
  refine n_newa (k := 146) (N := 9) (kn := 20) (pc := 835) (dk dt_X12_init_7 55 rfl) arc_int (Or.inl ⟨rfl, rfl⟩) rfl ar_146 rfl ⟨Nat.le_of_ble_eq_true rfl, Nat.le_of_ble_eq_true rfl⟩ ?_
  refine n_putr (r := 145) (pc := 837) (dk dt_X12_init_7 56 rfl) cls_12 fl_RX12_268 cf_85_97 (Nat.le_of_ble_eq_true rfl) rfl rfl ⟨rfl, rfl⟩ ?_
  refine n_aload_n (pc := 840) (dk dt_X12_init_7 57 rfl) rfl ?_
  refine n_bipush (pc := 841) (dk dt_X12_init_7 58 rfl) (ik rfl) (bpk rfl) ?_
  refine n_newa (k := 147) (N := 12) (kn := 20) (pc := 843) (dk dt_X12_init_7 59 rfl) arc_int (Or.inl ⟨rfl, rfl⟩) rfl ar_147 rfl ⟨Nat.le_of_ble_eq_true rfl, Nat.le_of_ble_eq_true rfl⟩ ?_
  refine n_putr (r := 146) (pc := 845) (dk dt_X12_init_8 0 rfl) cls_12 fl_RX12_271 cf_85_98 (Nat.le_of_ble_eq_true rfl) rfl rfl ⟨rfl, rfl⟩ ?_
  refine n_aload_n (pc := 848) (dk dt_X12_init_8 1 rfl) rfl ?_
  refine n_bipush (pc := 849) (dk dt_X12_init_8 2 rfl) (ik rfl) (bpk rfl) ?_
  refine n_newa (k := 148) (N := 12) (kn := 20) (pc := 851) (dk dt_X12_init_8 3 rfl) arc_int (Or.inl ⟨rfl, rfl⟩) rfl ar_148 rfl ⟨Nat.le_of_ble_eq_true rfl, Nat.le_of_ble_eq_true rfl⟩ ?_
  refine n_putr (r := 147) (pc := 853) (dk dt_X12_init_8 4 rfl) cls_12 fl_RX12_274 cf_85_99 (Nat.le_of_ble_eq_true rfl) rfl rfl ⟨rfl, rfl⟩ ?_
  refine n_aload_n (pc := 856) (dk dt_X12_init_8 5 rfl) rfl ?_
  refine n_bipush (pc := 857) (dk dt_X12_init_8 6 rfl) (ik rfl) (bpk rfl) ?_
  refine n_newa (k := 149) (N := 12) (kn := 20) (pc := 859) (dk dt_X12_init_8 7 rfl) arc_int (Or.inl ⟨rfl, rfl⟩) rfl ar_149 rfl ⟨Nat.le_of_ble_eq_true rfl, Nat.le_of_ble_eq_true rfl⟩ ?_
  refine n_putr (r := 148) (pc := 861) (dk dt_X12_init_8 8 rfl) cls_12 fl_RX12_277 cf_85_100 (Nat.le_of_ble_eq_true rfl) rfl rfl ⟨rfl, rfl⟩ ?_
  refine n_aload_n (pc := 864) (dk dt_X12_init_8 9 rfl) rfl ?_
  refine n_bipush (pc := 865) (dk dt_X12_init_8 10 rfl) (ik rfl) (bpk rfl) ?_
  refine n_newa (k := 150) (N := 12) (kn := 20) (pc := 867) (dk dt_X12_init_8 11 rfl) arc_int (Or.inl ⟨rfl, rfl⟩) rfl ar_150 rfl ⟨Nat.le_of_ble_eq_true rfl, Nat.le_of_ble_eq_true rfl⟩ ?_
  refine n_putr (r := 149) (pc := 869) (dk dt_X12_init_8 12 rfl) cls_12 fl_RX12_280 cf_85_101 (Nat.le_of_ble_eq_true rfl) rfl rfl ⟨rfl, rfl⟩ ?_
  refine n_aload_n (pc := 872) (dk dt_X12_init_8 13 rfl) rfl ?_
  refine n_bipush (pc := 873) (dk dt_X12_init_8 14 rfl) (ik rfl) (bpk rfl) ?_
  refine n_puti (pc := 875) (dk dt_X12_init_8 15 rfl) cls_12 fl_RX12_283 cf_85_103 (Nat.le_of_ble_eq_true rfl) rfl rfl rfl ?_
  refine n_aload_n (pc := 878) (dk dt_X12_init_8 16 rfl) rfl ?_
  refine n_sipush (pc := 879) (dk dt_X12_init_8 17 rfl) (ik rfl) (spk rfl) ?_
  refine n_newa (k := 151) (N := 288) (kn := 21) (pc := 882) (dk dt_X12_init_8 18 rfl) arc_boolean (Or.inr ⟨rfl, rfl⟩) rfl ar_151 rfl ⟨Nat.le_of_ble_eq_true rfl, Nat.le_of_ble_eq_true rfl⟩ ?_
  refine n_putr (r := 150) (pc := 884) (dk dt_X12_init_8 19 rfl) cls_12 fl_RX12_286 cf_85_104 (Nat.le_of_ble_eq_true rfl) rfl rfl ⟨rfl, rfl⟩ ?_
  refine n_aload_n (pc := 887) (dk dt_X12_init_8 20 rfl) rfl ?_
  refine n_sipush (pc := 888) (dk dt_X12_init_8 21 rfl) (ik rfl) (spk rfl) ?_
  refine n_newa (k := 152) (N := 288) (kn := 20) (pc := 891) (dk dt_X12_init_8 22 rfl) arc_int (Or.inl ⟨rfl, rfl⟩) rfl ar_152 rfl ⟨Nat.le_of_ble_eq_true rfl, Nat.le_of_ble_eq_true rfl⟩ ?_
  refine n_putr (r := 151) (pc := 893) (dk dt_X12_init_8 23 rfl) cls_12 fl_RX12_289 cf_85_105 (Nat.le_of_ble_eq_true rfl) rfl rfl ⟨rfl, rfl⟩ ?_
  exact X12_tail (z := z_X12_s (85, ρ, f)) rfl rfl rfl rfl rfl
