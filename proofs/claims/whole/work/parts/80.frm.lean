/-! tick, ship, runs; noise, lose -/
theorem op_tick {G : GG} {h : Hp} {a : Int} (T : TS h) (hc : h 34 4 ≤ 900000) (he : h 34 5 ≤ 800000000) : BOTH G m_X11_tick m_X12_tick [iv a] h (fun h' => TS h' ∧ FR PTk h h' ∧ (h 34 4 ≤ h' 34 4 ∧ h' 34 4 ≤ h 34 4 + 500) ∧ (h 34 5 ≤ h' 34 5 ∧ h' 34 5 ≤ h 34 5 + 150000)) := by
  by_cases b : 0 ≤ a ∧ a ≤ 500
  · have go : ∀ (d n : Nat), (n : Int) + d = a → ∀ h : Hp, TS h → h 34 4 + d ≤ 999999 → h 34 5 + 300 * d ≤ 900000000 →
        ∃ h', CR G m_X11_tick 15 [(0, rv 1), (1, iv a), (2, iv (n : Int))] h 15 [(0, rv 1), (1, iv a), (2, iv a)] h' ∧ MR G m_X12_tick 15 [(0, rv 85), (1, iv a), (2, iv (n : Int))] h 15 [(0, rv 85), (1, iv a), (2, iv a)] h' ∧ TS h' ∧ FR PTk h h' ∧ h' 34 4 = h 34 4 + d ∧ (h 34 5 ≤ h' 34 5 ∧ h' 34 5 ≤ h 34 5 + 300 * d) := by
      intro d
      induction d with
      | zero =>
        intro n hn h T _ _
        have e : (n : Int) = a := by omega
        rw [e]
        exact ⟨h, CR.rf, MR.rf, T, FR.rf, by omega, by omega⟩
      | succ d ih =>
        intro n hn h T c1 c2
        obtain ⟨h1, ce, mr, T1, f1, k1, e1⟩ := sim_second (G := G) (x1 := a) (x2 := n) (by omega) (by omega) T (by omega) (by omega)
        obtain ⟨h2, cr2, mr2, T2, f2, k2, e2⟩ := ih (n + 1) (by omega) h1 T1 (by omega) (by omega)
        refine ⟨h2, fun g Φ K => ?_, fun g Φ K => mr g Φ ?_, T2, f1.trans f2, by omega, by omega⟩
        · refine U_X11_tick_1_15 ⟨fun z => absurd z (by omega), fun _ => ce g _ ?_⟩
          rw [w32_of (z := (n : Int) + 1) (by omega) (by omega)]
          have t := cr2 g Φ K
          rw [Int.natCast_add] at t; exact t
        · have t := mr2 g Φ K
          rw [Int.natCast_add] at t; exact t
    obtain ⟨h', cr, mr, T', f', k', e'⟩ := go a.toNat 0 (by omega) h T (by omega) (by omega)
    refine BOTH.of (r := h' 34 4) (h' := h') (fun g Φ K => ?_) (fun g Φ K => ?_) ⟨T', f', by omega, by omega⟩
    · refine Call.of rfl (Nat.le_of_ble_eq_true rfl) rfl (U_X11_tick_1_0 ⟨fun z => absurd z (by omega), fun _ => ⟨fun z => absurd z (by omega), fun _ => cr g Φ (U_X11_tick_1_15 ⟨fun _ => K, fun z => absurd z (by omega)⟩)⟩⟩)
    · refine Call.of rfl (Nat.le_of_ble_eq_true rfl) rfl (U_X12_tick_85_0 ⟨fun z => absurd z (by omega), fun _ => ⟨fun z => absurd z (by omega), fun _ => mr g Φ (U_X12_tick_85_15 ⟨fun _ => ?_, fun z => absurd z (by omega)⟩)⟩⟩)
      have q : cb g h' 85 10 = h' 34 4 := T'.1.2.2.2.2.2.2.1
      rw [q]; exact K
  · refine BOTH.of (r := -1) (h' := h) (fun g Φ K => ?_) (fun g Φ K => ?_) ⟨T, FR.rf, by omega, by omega⟩
    · exact Call.of rfl (Nat.le_of_ble_eq_true rfl) rfl (U_X11_tick_1_0 ⟨fun _ => K, fun _ => ⟨fun _ => K, fun z => absurd z (by omega)⟩⟩)
    · exact Call.of rfl (Nat.le_of_ble_eq_true rfl) rfl (U_X12_tick_85_0 ⟨fun _ => K, fun _ => ⟨fun _ => K, fun z => absurd z (by omega)⟩⟩)
