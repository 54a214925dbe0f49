/-! the invariant at the start -/
theorem iv_2_1 : hInit 2 1 = 0 := by decide +kernel
theorem iv_85_3 : hInit 85 3 = 0 := by decide +kernel
theorem iv_1_3 : hInit 1 3 = 0 := by decide +kernel
theorem iv_85_7 : hInit 85 7 = 0 := by decide +kernel
theorem iv_12_1 : hInit 12 1 = 0 := by decide +kernel
theorem iv_85_9 : hInit 85 9 = 0 := by decide +kernel
theorem iv_75_5 : hInit 75 5 = 0 := by decide +kernel
theorem iv_85_102 : hInit 85 102 = 0 := by decide +kernel
theorem iv_75_6 : hInit 75 6 = 10 := by decide +kernel
theorem iv_85_103 : hInit 85 103 = 10 := by decide +kernel
theorem iv_75_7 : hInit 75 7 = 0 := by decide +kernel
theorem iv_18_0 : hInit 18 0 = 1000 := by decide +kernel
theorem iv_85_18 : hInit 85 18 = 1000 := by decide +kernel
theorem iv_18_1 : hInit 18 1 = 1000 := by decide +kernel
theorem iv_85_19 : hInit 85 19 = 1000 := by decide +kernel
theorem iv_18_2 : hInit 18 2 = 100 := by decide +kernel
theorem iv_85_20 : hInit 85 20 = 100 := by decide +kernel
theorem iv_18_4 : hInit 18 4 = 0 := by decide +kernel
theorem iv_85_21 : hInit 85 21 = 0 := by decide +kernel
theorem iv_85_29 : hInit 85 29 = 0 := by decide +kernel
theorem iv_24_1 : hInit 24 1 = 0 := by decide +kernel
theorem iv_85_30 : hInit 85 30 = 0 := by decide +kernel
theorem iv_24_2 : hInit 24 2 = 0 := by decide +kernel
theorem iv_34_6 : hInit 34 6 = 0 := by decide +kernel
theorem iv_85_23 : hInit 85 23 = 0 := by decide +kernel
theorem iv_85_72 : hInit 85 72 = 0 := by decide +kernel
theorem iv_26_3 : hInit 26 3 = 0 := by decide +kernel
theorem iv_85_10 : hInit 85 10 = 0 := by decide +kernel
theorem iv_34_4 : hInit 34 4 = 0 := by decide +kernel
theorem iv_85_22 : hInit 85 22 = 0 := by decide +kernel
theorem iv_34_5 : hInit 34 5 = 0 := by decide +kernel
theorem iv_36_0 : hInit 36 0 = 240 := by decide +kernel
theorem iv_14_0 : hInit 14 0 = 5400 := by decide +kernel
theorem iv_85_11 : hInit 85 11 = 5400 := by decide +kernel
theorem iv_14_1 : hInit 14 1 = 0 := by decide +kernel
theorem iv_85_12 : hInit 85 12 = 0 := by decide +kernel
theorem iv_14_2 : hInit 14 2 = 0 := by decide +kernel
theorem iv_85_13 : hInit 85 13 = 0 := by decide +kernel
theorem iv_14_3 : hInit 14 3 = 0 := by decide +kernel
theorem iv_85_14 : hInit 85 14 = 0 := by decide +kernel
theorem iv_34_14 : hInit 34 14 = 0 := by decide +kernel
theorem iv_85_62 : hInit 85 62 = 0 := by decide +kernel
theorem iv_85_73 : hInit 85 73 = 0 := by decide +kernel
theorem iv_26_7 : hInit 26 7 = 0 := by decide +kernel
theorem iv_85_74 : hInit 85 74 = 0 := by decide +kernel
theorem iv_26_8 : hInit 26 8 = 0 := by decide +kernel
theorem iv_85_78 : hInit 85 78 = 0 := by decide +kernel
theorem iv_26_11 : hInit 26 11 = 0 := by decide +kernel
theorem iv_26_10 : hInit 26 10 = 0 := by decide +kernel
theorem iv_85_79 : hInit 85 79 = 0 := by decide +kernel
theorem iv_26_12 : hInit 26 12 = 0 := by decide +kernel
theorem iv_85_81 : hInit 85 81 = 0 := by decide +kernel
theorem iv_26_13 : hInit 26 13 = 0 := by decide +kernel
theorem iv_85_80 : hInit 85 80 = 0 := by decide +kernel
theorem iv_26_14 : hInit 26 14 = 0 := by decide +kernel
theorem iv_43_0 : hInit 43 0 = 240 := by decide +kernel
theorem iv_85_88 : hInit 85 88 = 0 := by decide +kernel
theorem iv_65_9 : hInit 65 9 = 0 := by decide +kernel
theorem iv_85_89 : hInit 85 89 = 0 := by decide +kernel
theorem iv_65_10 : hInit 65 10 = 0 := by decide +kernel
theorem iv_85_90 : hInit 85 90 = 0 := by decide +kernel
theorem iv_65_11 : hInit 65 11 = 0 := by decide +kernel
theorem iv_85_85 : hInit 85 85 = 0 := by decide +kernel
theorem iv_65_5 : hInit 65 5 = 0 := by decide +kernel
theorem iv_85_87 : hInit 85 87 = 0 := by decide +kernel
theorem iv_65_7 : hInit 65 7 = 0 := by decide +kernel
theorem iv_65_2 : hInit 65 2 = 0 := by decide +kernel
theorem iv_85_84 : hInit 85 84 = (-1) := by decide +kernel
theorem iv_85_82 : hInit 85 82 = 0 := by decide +kernel
theorem iv_65_0 : hInit 65 0 = 0 := by decide +kernel
theorem iv_85_83 : hInit 85 83 = 0 := by decide +kernel
theorem iv_65_1 : hInit 65 1 = 0 := by decide +kernel
theorem iv_4_0 : hInit 4 0 = 30 := by decide +kernel
theorem zI {k N : Nat} {v : Int} (z : ∀ i : Nat, i < N → hInit k (i : Int) = v) : ∀ i : Int, 0 ≤ i → i < N → hInit k i = v := fun i a b => by
  have t := z i.toNat (by omega)
  rw [Int.toNat_of_nonneg a] at t
  exact t
theorem ia_82 : ∀ i : Int, 0 ≤ i → i < 288 → hInit 82 i = 0 := zI (N := 288) (by decide +kernel)
theorem ia_151 : ∀ i : Int, 0 ≤ i → i < 288 → hInit 151 i = 0 := zI (N := 288) (by decide +kernel)
theorem ia_19 : ∀ i : Int, 0 ≤ i → i < 8 → hInit 19 i = 0 := zI (N := 8) (by decide +kernel)
theorem ia_93 : ∀ i : Int, 0 ≤ i → i < 8 → hInit 93 i = 0 := zI (N := 8) (by decide +kernel)
theorem ia_20 : ∀ i : Int, 0 ≤ i → i < 8 → hInit 20 i = 0 := zI (N := 8) (by decide +kernel)
theorem ia_94 : ∀ i : Int, 0 ≤ i → i < 8 → hInit 94 i = 0 := zI (N := 8) (by decide +kernel)
theorem ia_21 : ∀ i : Int, 0 ≤ i → i < 8 → hInit 21 i = 0 := zI (N := 8) (by decide +kernel)
theorem ia_95 : ∀ i : Int, 0 ≤ i → i < 8 → hInit 95 i = 0 := zI (N := 8) (by decide +kernel)
theorem ia_22 : ∀ i : Int, 0 ≤ i → i < 8 → hInit 22 i = 0 := zI (N := 8) (by decide +kernel)
theorem ia_96 : ∀ i : Int, 0 ≤ i → i < 8 → hInit 96 i = 0 := zI (N := 8) (by decide +kernel)
theorem ia_35 : ∀ i : Int, 0 ≤ i → i < 8 → hInit 35 i = 0 := zI (N := 8) (by decide +kernel)
theorem ia_51 : ∀ i : Int, 0 ≤ i → i < 8 → hInit 51 i = 0 := zI (N := 8) (by decide +kernel)
theorem ia_115 : ∀ i : Int, 0 ≤ i → i < 8 → hInit 115 i = 0 := zI (N := 8) (by decide +kernel)
theorem ia_61 : ∀ i : Int, 0 ≤ i → i < 8 → hInit 61 i = 0 := zI (N := 8) (by decide +kernel)
theorem ia_132 : ∀ i : Int, 0 ≤ i → i < 8 → hInit 132 i = 0 := zI (N := 8) (by decide +kernel)
theorem ia_129 : ∀ i : Int, 0 ≤ i → i < 8 → hInit 129 i = 0 := zI (N := 8) (by decide +kernel)
theorem ia_62 : ∀ i : Int, 0 ≤ i → i < 8 → hInit 62 i = 0 := zI (N := 8) (by decide +kernel)
theorem ia_130 : ∀ i : Int, 0 ≤ i → i < 8 → hInit 130 i = 0 := zI (N := 8) (by decide +kernel)
theorem ia_63 : ∀ i : Int, 0 ≤ i → i < 8 → hInit 63 i = 0 := zI (N := 8) (by decide +kernel)
theorem ia_25 : ∀ i : Int, 0 ≤ i → i < 64 → hInit 25 i = 0 := zI (N := 64) (by decide +kernel)
theorem ia_97 : ∀ i : Int, 0 ≤ i → i < 64 → hInit 97 i = 0 := zI (N := 64) (by decide +kernel)
theorem ia_124 : ∀ i : Int, 0 ≤ i → i < 4 → hInit 124 i = 0 := zI (N := 4) (by decide +kernel)
theorem ia_125 : ∀ i : Int, 0 ≤ i → i < 4 → hInit 125 i = 0 := zI (N := 4) (by decide +kernel)
theorem ia_50 : ∀ i : Int, 0 ≤ i → i < 8 → hInit 50 i = (-1) := zI (N := 8) (by decide +kernel)
theorem ia_116 : ∀ i : Int, 0 ≤ i → i < 8 → hInit 116 i = (-1) := zI (N := 8) (by decide +kernel)
theorem ia_29 : ∀ i : Int, 0 ≤ i → i < 4 → hInit 29 i = 0 := zI (N := 4) (by decide +kernel)
theorem ia_28 : ∀ i : Int, 0 ≤ i → i < 4 → hInit 28 i = 0 := zI (N := 4) (by decide +kernel)
theorem ia_135 : ∀ i : Int, 0 ≤ i → i < 16 → hInit 135 i = 0 := zI (N := 16) (by decide +kernel)
theorem ia_30 : ∀ i : Int, 0 ≤ i → i < 16 → hInit 30 i = 0 := zI (N := 16) (by decide +kernel)
theorem ia_37 : ∀ i : Int, 0 ≤ i → i < 240 → hInit 37 i = 0 := zI (N := 240) (by decide +kernel)
theorem ia_44 : ∀ i : Int, 0 ≤ i → i < 240 → hInit 44 i = 0 := zI (N := 240) (by decide +kernel)
theorem ia_109 : ∀ i : Int, 0 ≤ i → i < 240 → hInit 109 i = (-1) := zI (N := 240) (by decide +kernel)
theorem ia_15 : ∀ i : Int, 0 ≤ i → i < 4 → hInit 15 i = 0 := zI (N := 4) (by decide +kernel)
theorem ia_16 : ∀ i : Int, 0 ≤ i → i < 4 → hInit 16 i = 0 := zI (N := 4) (by decide +kernel)
theorem ia_17 : ∀ i : Int, 0 ≤ i → i < 4 → hInit 17 i = 0 := zI (N := 4) (by decide +kernel)
theorem ia_90 : ∀ i : Int, 0 ≤ i → i < 4 → hInit 90 i = 0 := zI (N := 4) (by decide +kernel)
theorem ia_91 : ∀ i : Int, 0 ≤ i → i < 4 → hInit 91 i = 0 := zI (N := 4) (by decide +kernel)
theorem ia_92 : ∀ i : Int, 0 ≤ i → i < 4 → hInit 92 i = 0 := zI (N := 4) (by decide +kernel)
theorem in_IT : IT hInit := by
  unfold IT; rw [iv_2_1, iv_85_3]
  exact ⟨by omega, by omega, rfl, fun i a b => by omega⟩
theorem in_IO : IO hInit := by
  unfold IO; rw [iv_1_3, iv_85_7]
  exact ⟨by omega, by omega, rfl, fun i a b => by omega⟩
theorem in_IC : IC hInit := by
  unfold IC; rw [iv_12_1, iv_85_9]
  exact ⟨⟨by omega, by omega, rfl⟩, fun i a b => by omega, fun i j a b c => by omega⟩
theorem in_ISb : ISb hInit := fun i a b => by rw [ia_82 i a b, ia_151 i a b]; exact ⟨Or.inl rfl, rfl⟩
theorem in_IPa : IPa hInit := by
  unfold IPa; rw [iv_75_5, iv_85_102, iv_75_6, iv_85_103]
  exact ⟨⟨by omega, by omega, rfl⟩, ⟨by omega, by omega, rfl⟩, fun i a b => by omega⟩
theorem in_IPc : IPc hInit := Or.inl iv_75_7
theorem in_IP : IP hInit := by
  unfold IP; rw [iv_18_0, iv_85_18, iv_18_1, iv_85_19, iv_18_2, iv_85_20, iv_18_4, iv_85_21]
  refine ⟨⟨by omega, by omega, rfl⟩, ⟨by omega, by omega, rfl⟩, ⟨by omega, by omega, rfl⟩, rfl, fun i a b => ?_⟩
  rw [ia_19 i a b, ia_93 i a b, ia_20 i a b, ia_94 i a b, ia_21 i a b, ia_95 i a b, ia_22 i a b, ia_96 i a b]
  exact ⟨⟨by omega, by omega, rfl⟩, ⟨by omega, by omega, rfl⟩, ⟨Or.inl rfl, rfl⟩, Or.inl rfl, rfl⟩
theorem in_IW : IW hInit := by
  unfold IW; rw [iv_85_29, iv_24_1, iv_85_30, iv_24_2]
  refine ⟨⟨rfl, rfl⟩, fun i a b => ?_⟩
  rw [ia_25 i a b, ia_97 i a b]
  exact ⟨⟨by omega, by omega⟩, rfl⟩
theorem in_IMo : IMo hInit := by
  unfold IMo; rw [iv_34_6, iv_85_23]
  refine ⟨⟨by omega, by omega, rfl⟩, fun i a b => ?_⟩
  rw [ia_35 i a (by omega), ia_35 (4 + i) (by omega) (by omega), ia_124 i a b, ia_125 i a b]
  exact ⟨⟨by omega, by omega, rfl⟩, by omega, by omega, rfl⟩
theorem in_IRu : IRu hInit := fun i a b => by
  unfold RUk
  rw [ia_50 i a b, ia_116 i a b, ia_51 i a b]
  exact ⟨rfl, by omega, by omega, by omega, by omega, fun _ => rfl, fun z => absurd rfl z⟩
theorem in_IRe : IRe hInit := by
  refine ⟨[], ?_⟩
  have A : ∀ p ∈ ([] : List Pk), pok p := fun p hp => absurd hp (List.not_mem_nil)
  have B : tot ([] : List Pk) ≤ 300 := by decide
  have C : Mrel hInit ([] : List Pk) := ⟨iv_85_72, fun i hi => absurd hi (by simp)⟩
  have D : Crel hInit ([] : List Pk) := by
    refine ⟨iv_26_3, fun c a b => ⟨?_, ?_, fun t ht => absurd ht (by simp [fc])⟩⟩
    · rw [ia_29 c a b]; rfl
    · rw [ia_28 c a b]; omega
  exact ⟨A, B, C, D⟩
theorem in_IKi : IKi hInit := fun i a b => by rw [ia_135 i a b, ia_30 i a b]; exact ⟨rfl, by omega, by omega⟩
theorem in_ICl : ICl hInit := by
  unfold ICl; rw [iv_85_10, iv_34_4, iv_24_1]
  exact ⟨rfl, by omega, by omega⟩
theorem in_IEv : IEv hInit := by
  unfold IEv; rw [iv_85_22, iv_34_5]
  exact ⟨rfl, by omega⟩
theorem in_ILn : ILn hInit := by
  refine ⟨iv_36_0, fun k a b => ?_⟩
  rw [ia_115 k a b]
  exact ⟨by omega, fun i c d => ⟨fun z => by omega, fun _ => ia_37 _ (by omega) (by omega)⟩⟩
theorem in_IB : IB hInit := by
  unfold IB; rw [iv_14_0, iv_85_11, iv_14_1, iv_85_12, iv_14_2, iv_85_13, iv_14_3, iv_85_14]
  refine ⟨⟨by omega, by omega, rfl⟩, ⟨by omega, by omega, rfl⟩, ⟨by omega, by omega, rfl⟩, ⟨by omega, by omega, rfl⟩, fun i a b => ?_⟩
  rw [ia_15 i a b, ia_16 i a b, ia_17 i a b, ia_90 i a b, ia_91 i a b, ia_92 i a b]
  exact ⟨⟨by omega, by omega, rfl⟩, ⟨by omega, by omega, rfl⟩, by omega, by omega, rfl⟩
theorem in_IMn : IMn hInit := fun k a b => by
  unfold MNk
  rw [ia_61 k a b, ia_132 k a b, ia_129 k a b, ia_62 k a b, ia_130 k a b, ia_63 k a b]
  exact ⟨Or.inl ⟨rfl, rfl⟩, ⟨rfl, by omega, by omega⟩, rfl, Or.inl rfl⟩
theorem in_IOr : IOr hInit := (by decide +kernel : ∀ k : Nat, k < 8 → hInit 23 (pos (hInit 20) (hInit 20 k) k) = k)
theorem in_ID : ID hInit := by
  unfold ID; rw [iv_34_14, iv_85_62]
  exact ⟨⟨by omega, by omega, rfl⟩, fun i a b => by omega⟩
theorem in_IUw : IUw hInit := by
  unfold IUw; rw [iv_85_73, iv_26_7, iv_85_74, iv_26_8]
  exact ⟨⟨rfl, rfl⟩, by omega, by omega, fun i a b => by omega⟩
theorem in_IFr : IFr hInit := by
  unfold IFr; rw [iv_85_78, iv_26_11, iv_26_10]
  exact ⟨⟨rfl, by omega, by omega⟩, by omega, fun i a b => by omega⟩
theorem in_ILk : ILk hInit := by
  unfold ILk; rw [iv_85_79, iv_26_12, iv_85_81, iv_26_13, iv_85_80, iv_26_14]
  exact ⟨⟨rfl, by omega, by omega⟩, ⟨rfl, by omega, by omega⟩, rfl, Or.inl rfl⟩
theorem in_IDr : IDr hInit := ⟨iv_43_0, fun i a b => Or.inl ⟨ia_44 i a b, ia_109 i a b⟩⟩
theorem in_IKp : IKp hInit := by
  unfold IKp; rw [iv_85_88, iv_65_9, iv_85_89, iv_65_10, iv_85_90, iv_65_11]
  exact ⟨⟨rfl, by omega, by omega⟩, ⟨rfl, by omega, by omega⟩, ⟨rfl, by omega, by omega⟩, fun i a b => by omega⟩
theorem in_IPi : IPi hInit := by
  unfold IPi; rw [iv_85_85, iv_65_5, iv_85_87, iv_65_7]
  exact ⟨⟨rfl, by omega, by omega⟩, fun i a b => by omega, fun z => by omega, ⟨rfl, by omega, by omega⟩, fun i a b => by omega⟩
theorem in_ICt : ICt hInit := by
  unfold ICt; rw [iv_65_2, iv_85_84, iv_85_82, iv_65_0, iv_85_83, iv_65_1]
  exact ⟨Or.inl ⟨rfl, rfl⟩, rfl, rfl⟩
theorem in_Bnd : Bnd 0 hInit := by
  unfold Bnd; rw [iv_34_4, iv_34_5]
  exact ⟨by decide, by decide⟩
theorem init_ok : INV 0 hInit := ⟨in_IT, in_IO, in_IC, in_ISb, in_IPa, in_IPc, in_IP, in_IW, in_IMo, in_IRu, in_IRe, in_IKi, in_ICl, in_IEv, in_ILn, in_IB, in_IMn, in_IOr, in_ID, in_IUw, in_IFr, in_ILk, in_IDr, in_IKp, in_IPi, in_ICt, iv_4_0, in_Bnd⟩
