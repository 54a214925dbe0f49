theorem sim_goOn {G : GG} {h : Hp} {k : Int} (hk : 0 ≤ k ∧ k < 8) (T : TL h) (he : h 34 5 ≤ 999998000) :
    ∃ h', CE G m_X0_goOn [rv 34, iv k] h 0 h' ∧ ME G m_X12_goes [rv 85, iv k] h 0 h' ∧ TL h' ∧ FR PPf h h' ∧ (h 34 5 ≤ h' 34 5 ∧ h' 34 5 ≤ h 34 5 + 24) := by
  have go : ∀ (d n : Nat), n + d = 8 → ∀ h : Hp, TL h → h 34 5 + 3 * d ≤ 999998500 → h 50 k ≠ -1 → h 51 k = 0 →
      ∃ h', CZ G m_X0_goOn 46 [(0, rv 34), (1, iv k), (2, iv 1), (3, iv (n : Int))] h 0 h' ∧ MZ G m_X12_goes 42 [(0, rv 85), (1, iv k), (2, iv (n : Int))] h 0 h' ∧ TL h' ∧ FR PPf h h' ∧ (h 34 5 ≤ h' 34 5 ∧ h' 34 5 ≤ h 34 5 + 3 * d) := by
    intro d
    induction d with
    | zero =>
      intro n hn h T he _ _
      refine ⟨h, fun g Φ K => U_X0_goOn_34_46 ⟨fun _ => K, fun z => absurd z (by omega)⟩, fun g Φ K => U_X12_goes_85_42 ⟨fun _ => K, fun z => absurd z (by omega)⟩, T, FR.rf, by omega⟩
    | succ d ih =>
      intro n hn h T he n1 n2
      obtain ⟨h1, r, ce, T1, fr, eb, oc⟩ := sim_doLine (G := G) hk T (by omega) n1 n2
      have cl : ∀ (g : Hp) (Φ : Int → Hp → Prop), AT G m_X0_goOn 46 [(0, rv 34), (1, iv k), (2, iv r), (3, iv ((n : Int) + 1))] [] (cb h1 g) Φ → AT G m_X0_goOn 46 [(0, rv 34), (1, iv k), (2, iv 1), (3, iv (n : Int))] [] (cb h g) Φ := fun g Φ K => by
        refine U_X0_goOn_34_46 ⟨fun z => absurd z (by omega), fun _ => ⟨fun z => absurd z (by omega), fun _ => ce g _ ?_⟩⟩
        rw [w32_of (z := (n : Int) + 1) (by omega) (by omega)]; exact K
      rcases oc with ⟨o1, o2, o3, o4⟩ | ⟨o1, o2⟩
      · subst o1
        obtain ⟨h2, cz, mz, T2, fr2, eb2⟩ := ih (n + 1) (by omega) h1 T1 (by omega) o2 o3
        refine ⟨h2, fun g Φ K => cl g Φ ?_, fun g Φ K => o4 n (by omega) g Φ ?_, T2, fr.trans fr2, by omega⟩
        · have t := cz g Φ K
          rw [Int.natCast_add] at t; exact t
        · have t := mz g Φ K
          rw [Int.natCast_add] at t; exact t
      · subst o1
        refine ⟨h1, fun g Φ K => cl g Φ ?_, fun g Φ K => o2 n (by omega) g Φ K, T1, fr, by omega⟩
        exact U_X0_goOn_34_46 ⟨fun _ => K, fun _ => ⟨fun _ => K, fun z => absurd rfl z⟩⟩
  have rk := T.1.2.2.2.1 k hk.1 hk.2
  obtain ⟨r1, r2, r3, r4, r5, r6, r7⟩ := id rk
  have q50 : ∀ g, cb h g 50 k = h 50 k := fun g => rfl
  have q51 : ∀ g, cb h g 51 k = h 51 k := fun g => rfl
  have q116 : ∀ g, cb g h 116 k = h 50 k := fun g => r1
  by_cases c : h 50 k = -1
  · have w0 := r6 c
    refine ⟨h, fun g Φ K => ?_, fun g Φ K => ?_, T, FR.rf, by omega⟩
    · refine Call.of rfl (Nat.le_of_ble_eq_true rfl) rfl (U_X0_goOn_34_0 ⟨hk, ?_⟩)
      rw [q50, q51]
      exact ⟨fun _ => ⟨hk, fun _ => U_X0_goOn_34_46 ⟨fun _ => K, fun _ => ⟨fun _ => K, fun z => absurd rfl z⟩⟩, fun z => absurd c z⟩, fun z => absurd z (by omega)⟩
    · refine Call.of rfl (Nat.le_of_ble_eq_true rfl) rfl (U_X12_goes_85_0 ⟨hk, ?_⟩)
      rw [q116]
      exact ⟨fun z => absurd c z, fun _ => K⟩
  · have q117 : ∀ g, cb g h 117 k = h 51 k := fun g => r7 c
    by_cases w : h 51 k = 0
    · obtain ⟨h', cz, mz, T2, fr2, eb2⟩ := go 8 0 (by omega) h T (by omega) c w
      refine ⟨h', fun g Φ K => ?_, fun g Φ K => ?_, T2, fr2, by omega⟩
      · refine Call.of rfl (Nat.le_of_ble_eq_true rfl) rfl (U_X0_goOn_34_0 ⟨hk, ?_⟩)
        rw [q50, q51]
        exact ⟨fun _ => ⟨hk, fun z => absurd z c, fun _ => ⟨hk, fun z => absurd w z, fun _ => cz g Φ K⟩⟩, fun z => absurd z (by omega)⟩
      · refine Call.of rfl (Nat.le_of_ble_eq_true rfl) rfl (U_X12_goes_85_0 ⟨hk, ?_⟩)
        rw [q116, q117]
        exact ⟨fun _ => ⟨hk, fun _ => mz g Φ K, fun z => absurd z (by omega)⟩, fun z => absurd z c⟩
    · have fr : FR PPf h (up (up h 51 k (h 51 k - 1)) 117 k (h 51 k - 1)) := (FR.rf.up (by simp [PPf])).up (by simp [PPf])
      have T1 : TL (up (up h 51 k (h 51 k - 1)) 117 k (h 51 k - 1)) := by
        obtain ⟨hP, hW, hMo, hR, hRe, hKi, hCl⟩ := T.1
        have fr0 : FR (fun k i => k = 51 ∨ k = 117) h (up (up h 51 k (h 51 k - 1)) 117 k (h 51 k - 1)) := (FR.rf.up (by omega)).up (by omega)
        refine T.st fr ⟨IP_cg (dj fr0 (by unfold DP; omega)) hP, IW_cg (dj fr0 (by unfold DW; omega)) hW, IMo_cg (dj fr0 (by unfold DMo; omega)) hMo, IRu_set (p := k) hR (fun j z => ?_) ?_, IRe_cg (dj fr0 (by unfold DRe; omega)) hRe, IKi_cg (dj fr0 (by unfold DKi; omega)) hKi, ICl_cg (dj fr0 (by unfold DCl; omega)) hCl⟩ T.2.1
        · simp [up_ap, z]
        · unfold RUk; simp [up_ap]; omega
      have ec : ∀ g, cb (up (up h 51 k (h 51 k - 1)) 117 k (h 51 k - 1)) g = up (cb h g) 51 k (h 51 k - 1) := fun g => by rw [cb_uc' (by omega), cb_uc (by omega)]
      have em : ∀ g, cb g (up (up h 51 k (h 51 k - 1)) 117 k (h 51 k - 1)) = up (cb g h) 117 k (h 51 k - 1) := fun g => by rw [cb_um (by omega), cb_um' (by omega)]
      by_cases w1 : h 51 k - 1 = 0
      · obtain ⟨h', cz, mz, T2, fr2, eb2⟩ := go 8 0 (by omega) _ T1 (show h 34 5 + 3 * ((8 : Nat) : Int) ≤ 999998500 by omega) c (by rw [up_nk (by omega), up_at]; exact w1)
        have v5 : up (up h 51 k (h 51 k - 1)) 117 k (h 51 k - 1) 34 5 = h 34 5 := rfl
        rw [v5] at eb2
        refine ⟨h', fun g Φ K => ?_, fun g Φ K => ?_, T2, fr.trans fr2, by omega⟩
        · refine Call.of rfl (Nat.le_of_ble_eq_true rfl) rfl (U_X0_goOn_34_0 ⟨hk, ?_⟩)
          have t := cz g Φ K
          rw [ec] at t
          rw [q50, q51, w32_of (z := h 51 k - 1) (by omega) (by omega)]
          exact ⟨fun z => absurd z (by omega), fun _ => ⟨hk, hk, hk, fun z => absurd z c, fun _ => ⟨hk, fun z => absurd w1 z, fun _ => t⟩⟩⟩
        · refine Call.of rfl (Nat.le_of_ble_eq_true rfl) rfl (U_X12_goes_85_0 ⟨hk, ?_⟩)
          have t := mz g Φ K
          rw [em] at t
          rw [q116, q117, w32_of (z := h 51 k - 1) (by omega) (by omega)]
          exact ⟨fun _ => ⟨hk, fun z => absurd z (by omega), fun _ => ⟨hk, hk, hk, fun _ => t, fun z => absurd z (by omega)⟩⟩, fun z => absurd z c⟩
      · refine ⟨_, fun g Φ K => ?_, fun g Φ K => ?_, T1, fr, ⟨Int.le_refl _, show h 34 5 ≤ h 34 5 + 24 by omega⟩⟩
        · rw [ec] at K
          refine Call.of rfl (Nat.le_of_ble_eq_true rfl) rfl (U_X0_goOn_34_0 ⟨hk, ?_⟩)
          rw [q50, q51, w32_of (z := h 51 k - 1) (by omega) (by omega)]
          exact ⟨fun z => absurd z (by omega), fun _ => ⟨hk, hk, hk, fun z => absurd z c, fun _ => ⟨hk, fun _ => U_X0_goOn_34_46 ⟨fun _ => K, fun _ => ⟨fun _ => K, fun z => absurd rfl z⟩⟩, fun z => absurd z w1⟩⟩⟩
        · rw [em] at K
          refine Call.of rfl (Nat.le_of_ble_eq_true rfl) rfl (U_X12_goes_85_0 ⟨hk, ?_⟩)
          rw [q116, q117, w32_of (z := h 51 k - 1) (by omega) (by omega)]
          exact ⟨fun _ => ⟨hk, fun z => absurd z (by omega), fun _ => ⟨hk, hk, hk, fun z => absurd z (by omega), fun _ => K⟩⟩, fun z => absurd z c⟩
