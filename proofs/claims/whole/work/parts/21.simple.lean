/-! operations that only look and set: orbit, station, power, mode, gap, clear, pass, bar, served, ground, due, flip -/
def IB (h : Hp) : Prop := (60 ≤ h 14 0 ∧ h 14 0 ≤ 20000 ∧ h 85 11 = h 14 0) ∧ (0 ≤ h 14 1 ∧ h 14 1 ≤ 3599 ∧ h 85 12 = h 14 1) ∧ (0 ≤ h 14 2 ∧ h 14 2 ≤ 3599 ∧ h 85 13 = h 14 2) ∧ (0 ≤ h 14 3 ∧ h 14 3 ≤ 3600 ∧ h 85 14 = h 14 3) ∧
  ∀ i, 0 ≤ i → i < 4 → (0 ≤ h 15 i ∧ h 15 i ≤ 3599 ∧ h 90 i = h 15 i) ∧ (0 ≤ h 16 i ∧ h 16 i ≤ 3600 ∧ h 91 i = h 16 i) ∧ (0 ≤ h 17 i ∧ h 17 i ≤ 3599 ∧ h 92 i = h 17 i)
def PB (k : Nat) (i : Int) : Prop := k = 14 ∧ (i = 0 ∨ i = 1 ∨ i = 2 ∨ i = 3) ∨ k = 15 ∨ k = 16 ∨ k = 17 ∨ k = 85 ∧ (i = 11 ∨ i = 12 ∨ i = 13 ∨ i = 14) ∨ k = 90 ∨ k = 91 ∨ k = 92
theorem FR.up {P : Nat → Int → Prop} {h h' : Hp} {k : Nat} {i v : Int} (f : FR P h h') (p : P k i) : FR P h (up h' k i v) := fun k' i' q => by
  unfold Jvm.Pilot.CMissionHouseLaw_law_r4178_01fd52.up
  rw [if_neg (fun z => q (by rw [z.1, z.2]; exact p))]
  exact f k' i' q
theorem op_orbit {G : GG} {h : Hp} {a b c d : Int} (hI : IB h) : BOTH G m_X11_orbit m_X12_orbit [iv a, iv b, iv c, iv d] h (fun h' => IB h' ∧ FR PB h h') := by
  have hN : IB h ∧ FR PB h h := ⟨hI, FR.rf⟩
  obtain ⟨j0, j1, j2, j3, j4⟩ := id hI
  unfold BOTH
  refine Call.of rfl (Nat.le_of_ble_eq_true rfl) rfl (U_X11_orbit_1_0 ?_)
  repeat' (first | with_reducible apply And.intro | with_reducible intro _)
  all_goals refine Call.of rfl (Nat.le_of_ble_eq_true rfl) rfl (U_X12_orbit_85_0 ?_)
  all_goals repeat' (first | with_reducible apply And.intro | with_reducible intro _)
  all_goals try first | rfl | (exfalso; omega) | exact hN.1 | exact hN.2
  · refine ⟨?_, ?_, ?_, ?_, fun i q0 q1 => ?_⟩
    all_goals simp [up]
    · omega
    · omega
    · omega
    · omega
    · exact j4 i q0 q1
  · repeat' (first | exact FR.rf | refine FR.up ?_ (by simp [PB]))
theorem op_station {G : GG} {h : Hp} {a b c d : Int} (hI : IB h) : BOTH G m_X11_station m_X12_station [iv a, iv b, iv c, iv d] h (fun h' => IB h' ∧ FR PB h h') := by
  have hN : IB h ∧ FR PB h h := ⟨hI, FR.rf⟩
  obtain ⟨j0, j1, j2, j3, j4⟩ := id hI
  unfold BOTH
  refine Call.of rfl (Nat.le_of_ble_eq_true rfl) rfl (U_X11_station_1_0 ?_)
  repeat' (first | with_reducible apply And.intro | with_reducible intro _)
  all_goals try omega
  all_goals refine Call.of rfl (Nat.le_of_ble_eq_true rfl) rfl (U_X12_station_85_0 ?_)
  all_goals repeat' (first | with_reducible apply And.intro | with_reducible intro _)
  all_goals try first | rfl | omega | (exfalso; omega) | exact hN.1 | exact hN.2
  · refine ⟨j0, j1, j2, j3, fun i q0 q1 => ?_⟩
    have j := j4 i q0 q1
    simp only [up]
    by_cases q : i = a
    · subst q; simp; omega
    · simp [q]; exact j
  · repeat' (first | exact FR.rf | refine FR.up ?_ (by simp [PB]))
/-- power: capacity, battery, sun, units, rank, on, served, used, order -/
def IP (h : Hp) : Prop := (0 ≤ h 18 0 ∧ h 18 0 ≤ 1000000 ∧ h 85 18 = h 18 0) ∧ (0 ≤ h 18 1 ∧ h 18 1 ≤ 1000000 ∧ h 85 19 = h 18 1) ∧ (0 ≤ h 18 2 ∧ h 18 2 ≤ 10000 ∧ h 85 20 = h 18 2) ∧ h 85 21 = h 18 4 ∧
  ∀ i, 0 ≤ i → i < 8 → (0 ≤ h 19 i ∧ h 19 i ≤ 1000 ∧ h 93 i = h 19 i) ∧ (0 ≤ h 20 i ∧ h 20 i ≤ 9 ∧ h 94 i = h 20 i) ∧ ((h 21 i = 0 ∨ h 21 i = 1) ∧ h 95 i = h 21 i) ∧ ((h 22 i = 0 ∨ h 22 i = 1) ∧ h 96 i = h 22 i)
def PP (k : Nat) (i : Int) : Prop := k = 18 ∧ (i = 0 ∨ i = 1 ∨ i = 2) ∨ k = 85 ∧ (i = 18 ∨ i = 19 ∨ i = 20)
theorem op_power {G : GG} {h : Hp} {a b : Int} (hI : IP h) : BOTH G m_X11_power m_X12_power [iv a, iv b] h (fun h' => IP h' ∧ FR PP h h') := by
  have hN : IP h ∧ FR PP h h := ⟨hI, FR.rf⟩
  obtain ⟨j0, j1, j2, j3, j4⟩ := id hI
  unfold BOTH
  refine Call.of rfl (Nat.le_of_ble_eq_true rfl) rfl (U_X11_power_1_0 ?_)
  repeat' (first | with_reducible apply And.intro | with_reducible intro _)
  all_goals refine Call.of rfl (Nat.le_of_ble_eq_true rfl) rfl (U_X12_power_85_0 ?_)
  all_goals repeat' (first | with_reducible apply And.intro | with_reducible intro _)
  all_goals try first | rfl | (exfalso; omega) | exact hN.1 | exact hN.2
  · refine ⟨?_, ?_, ?_, ?_, fun i q0 q1 => ?_⟩
    all_goals simp [up, imin]
    · omega
    · rw [j1.2.2]
      by_cases q : a < h 18 1
      · simp [q]; omega
      · simp [q]; omega
    · omega
    · exact j3
    · exact j4 i q0 q1
  · repeat' (first | exact FR.rf | refine FR.up ?_ (by simp [PP]))
theorem op_served {G : GG} {h : Hp} {a b : Int} (hI : IP h) : BOTH G m_X11_served m_X12_served [iv a, iv b] h (fun h' => h' = h) := by
  obtain ⟨j0, j1, j2, j3, j4⟩ := id hI
  unfold BOTH
  refine Call.of rfl (Nat.le_of_ble_eq_true rfl) rfl (U_X11_served_1_0 ?_)
  repeat' (first | with_reducible apply And.intro | with_reducible intro _)
  all_goals try omega
  all_goals refine Call.of rfl (Nat.le_of_ble_eq_true rfl) rfl (U_X12_served_85_0 ?_)
  all_goals repeat' (first | with_reducible apply And.intro | with_reducible intro _)
  all_goals try first | rfl | omega | (exfalso; have j := j4 a (by omega) (by omega); omega)
/-- modes -/
def IMo (h : Hp) : Prop := (0 ≤ h 34 6 ∧ h 34 6 ≤ 3 ∧ h 85 23 = h 34 6) ∧ ∀ i, 0 ≤ i → i < 4 → (0 ≤ h 35 i ∧ h 35 i ≤ 255 ∧ h 124 i = h 35 i) ∧ (0 ≤ h 35 (4 + i) ∧ h 35 (4 + i) ≤ 255 ∧ h 125 i = h 35 (4 + i))
def PMo (k : Nat) (_ : Int) : Prop := k = 35 ∨ k = 124 ∨ k = 125
theorem op_mode {G : GG} {h : Hp} {a b c : Int} (hI : IMo h) : BOTH G m_X11_mode m_X12_mode [iv a, iv b, iv c] h (fun h' => IMo h' ∧ FR PMo h h') := by
  have hN : IMo h ∧ FR PMo h h := ⟨hI, FR.rf⟩
  obtain ⟨j0, j4⟩ := id hI
  unfold BOTH
  refine Call.of rfl (Nat.le_of_ble_eq_true rfl) rfl (U_X11_mode_1_0 ?_)
  repeat' (first | with_reducible apply And.intro | with_reducible intro _)
  all_goals try first | omega | (rw [w32s (by omega)]; omega)
  all_goals refine Call.of rfl (Nat.le_of_ble_eq_true rfl) rfl (U_X12_mode_85_0 ?_)
  all_goals repeat' (first | with_reducible apply And.intro | with_reducible intro _)
  all_goals try first | rfl | omega | (exfalso; omega) | exact hN.1 | exact hN.2
  · refine ⟨?_, fun i q0 q1 => ?_⟩
    · simp [up]; omega
    · have j := j4 i q0 q1
      rw [w32s (by omega)]
      simp only [up]
      by_cases q : i = a
      · subst q
        have : ¬ i = 4 + i := by omega
        simp [this]; omega
      · have q2 : ¬ (4 + i = 4 + a) := by omega
        have q3 : ¬ (i = 4 + a) := by omega
        have q4 : ¬ (4 + i = a) := by omega
        simp [q, q2, q3, q4]; exact j
  · repeat' (first | exact FR.rf | refine FR.up ?_ (by simp [PMo]))
/-- passes: all but what was chosen -/
def IPa (h : Hp) : Prop := (0 ≤ h 75 5 ∧ h 75 5 ≤ 12 ∧ h 85 102 = h 75 5) ∧ (0 ≤ h 75 6 ∧ h 75 6 ≤ 999 ∧ h 85 103 = h 75 6) ∧
  ∀ i, 0 ≤ i → i < h 75 5 → (0 ≤ h 76 i ∧ h 76 i ≤ 3 ∧ h 147 i = h 76 i) ∧ (0 ≤ h 77 i ∧ h 77 i ≤ 99999 ∧ h 148 i = h 77 i) ∧ (0 ≤ h 78 i ∧ h 78 i ≤ 99999 ∧ h 149 i = h 78 i) ∧ (1 ≤ h 79 i ∧ h 79 i ≤ 99 ∧ h 150 i = h 79 i)
def PPa (k : Nat) (i : Int) : Prop := k = 75 ∧ (i = 5 ∨ i = 6 ∨ i = 7) ∨ k = 76 ∨ k = 77 ∨ k = 78 ∨ k = 79 ∨ k = 85 ∧ (i = 102 ∨ i = 103) ∨ k = 147 ∨ k = 148 ∨ k = 149 ∨ k = 150
theorem op_gap {G : GG} {h : Hp} {a : Int} (hI : IPa h) : BOTH G m_X11_gap m_X12_gap [iv a] h (fun h' => (IPa h' ∧ FR PPa h h') ∧ (h' = h ∨ h' 75 7 = 0)) := by
  have hN : IPa h ∧ FR PPa h h := ⟨hI, FR.rf⟩
  obtain ⟨j0, j1, j4⟩ := id hI
  unfold BOTH
  refine Call.of rfl (Nat.le_of_ble_eq_true rfl) rfl (U_X11_gap_1_0 ?_)
  repeat' (first | with_reducible apply And.intro | with_reducible intro _)
  all_goals refine Call.of rfl (Nat.le_of_ble_eq_true rfl) rfl (U_X12_gap_85_0 ?_)
  all_goals repeat' (first | with_reducible apply And.intro | with_reducible intro _)
  all_goals try first | rfl | (exfalso; omega) | exact hN.1 | exact hN.2 | exact Or.inl rfl
  · simp [up]; exact j1.2.2.symm
  · refine ⟨?_, ?_, fun i q0 q1 => ?_⟩
    · simp [up]; omega
    · simp [up]; omega
    · simp [up] at q1 ⊢
      exact j4 i q0 q1
  · repeat' (first | exact FR.rf | refine FR.up ?_ (by simp [PPa]))
  · exact Or.inr (by simp [up])
theorem op_clear {G : GG} {h : Hp} (hI : IPa h) : BOTH G m_X11_clear m_X12_clear [] h (fun h' => (IPa h' ∧ FR PPa h h') ∧ (h' = h ∨ h' 75 7 = 0)) := by
  obtain ⟨j0, j1, j4⟩ := id hI
  unfold BOTH
  refine Call.of rfl (Nat.le_of_ble_eq_true rfl) rfl (U_X11_clear_1_0 ?_)
  refine Call.of rfl (Nat.le_of_ble_eq_true rfl) rfl (U_X12_clear_85_0 ?_)
  refine ⟨?_, ⟨⟨?_, ?_, fun i q0 q1 => ?_⟩, ?_⟩, Or.inr (by simp [up])⟩
  · simp [up]; exact j0.2.2.symm
  · simp [up]
  · simp [up]; omega
  · simp [up] at q1; omega
  · repeat' (first | exact FR.rf | refine FR.up ?_ (by simp [PPa]))
theorem op_pass {G : GG} {h : Hp} {a b c d : Int} (hI : IPa h) : BOTH G m_X11_pass m_X12_pass [iv a, iv b, iv c, iv d] h (fun h' => (IPa h' ∧ FR PPa h h') ∧ (h' = h ∨ h' 75 7 = 0)) := by
  have hN : IPa h ∧ FR PPa h h := ⟨hI, FR.rf⟩
  obtain ⟨j0, j1, j4⟩ := id hI
  unfold BOTH
  refine Call.of rfl (Nat.le_of_ble_eq_true rfl) rfl (V_X11_pass_1_0 ?_)
  repeat' (first | with_reducible apply And.intro | with_reducible intro _)
  all_goals try omega
  all_goals try (refine Call.of rfl (Nat.le_of_ble_eq_true rfl) rfl (U_X12_pass_85_0 ?_); (repeat' (first | with_reducible apply And.intro | with_reducible intro _)); all_goals first | rfl | omega | (exfalso; omega) | exact hN.1 | exact hN.2 | exact Or.inl rfl; done)
  rw [w32s (z := h 75 5 + 1) (by omega)]
  generalize hg : up (up (up (up (up (up h 76 (h 75 5) a) 77 (h 75 5) b) 78 (h 75 5) c) 79 (h 75 5) d) 75 5 (h 75 5 + 1)) 75 7 0 = g
  have e1 : g 85 102 = h 75 5 := by rw [← hg]; simp [up]; omega
  refine Call.of rfl (Nat.le_of_ble_eq_true rfl) rfl (U_X12_pass_85_0 ?_)
  rw [e1]
  repeat' (first | with_reducible apply And.intro | with_reducible intro _)
  all_goals try first | rfl | omega | (exfalso; omega)
  all_goals rw [w32s (z := h 75 5 + 1) (by omega)]
  all_goals rw [← hg]
  · refine ⟨?_, ?_, fun i q0 q1 => ?_⟩
    · simp [up]; omega
    · simp [up]; omega
    · simp [up] at q1 ⊢
      by_cases q : i = h 75 5
      · subst q; simp; omega
      · simp [q]; exact j4 i q0 (by omega)
  · repeat' (first | exact FR.rf | refine FR.up ?_ (by simp [PPa]))
  · exact Or.inr (by simp [up])
/-- the sky's bars -/
def ISb (h : Hp) : Prop := ∀ i, 0 ≤ i → i < 288 → (h 82 i = 0 ∨ h 82 i = 1) ∧ h 151 i = h 82 i
def PSb (k : Nat) (_ : Int) : Prop := k = 82 ∨ k = 151
theorem op_bar {G : GG} {h : Hp} {a b c : Int} (hc : c = 0 ∨ c = 1) (hI : ISb h) : BOTH G m_X11_bar m_X12_bar [iv a, iv b, iv c] h (fun h' => ISb h' ∧ FR PSb h h') := by
  have hN : ISb h ∧ FR PSb h h := ⟨hI, FR.rf⟩
  unfold BOTH
  refine Call.of rfl (Nat.le_of_ble_eq_true rfl) rfl (U_X11_bar_1_0 ?_)
  refine ⟨fun c1 => ?_, fun c1 => ⟨fun c2 => ?_, fun c2 => ⟨fun c3 => ?_, fun c3 => ⟨fun c4 => ?_, fun c4 => ?_⟩⟩⟩⟩
  any_goals (refine Call.of rfl (Nat.le_of_ble_eq_true rfl) rfl (U_X12_bar_85_0 ?_); (repeat' (first | with_reducible apply And.intro | with_reducible intro _)); all_goals first | rfl | (exfalso; omega) | exact hN.1 | exact hN.2; done)
  have e0 : w32 (w32 (b * 24) + a) = 24 * b + a := by rw [w32s (z := b * 24) (by omega), w32s (by omega)]; omega
  have e2 : w32 (w32 (24 * b) + a) = 24 * b + a := by rw [w32s (z := 24 * b) (by omega), w32s (by omega)]
  rw [e0]
  obtain ⟨j1, j2⟩ := hI (24 * b + a) (by omega) (by omega)
  have key : ∀ r : Int, r = h 82 (24 * b + a) → Call G m_X12_bar [rv 85, iv a, iv b, iv c] (up h 82 (24 * b + a) c) (fun r2 h2 => r = r2 ∧ ISb h2 ∧ FR PSb h h2) := by
    intro r hr
    refine Call.of rfl (Nat.le_of_ble_eq_true rfl) rfl (U_X12_bar_85_0 ?_)
    rw [e2]
    have e3 : up h 82 (24 * b + a) c 151 (24 * b + a) = h 82 (24 * b + a) := by simp [up]; exact j2
    rw [e3]
    have fin : ISb (up (up h 82 (24 * b + a) c) 151 (24 * b + a) c) ∧ FR PSb h (up (up h 82 (24 * b + a) c) 151 (24 * b + a) c) := by
      refine ⟨fun i q0 q1 => ?_, FR.up (FR.up FR.rf (Or.inl rfl)) (Or.inr rfl)⟩
      by_cases q : i = 24 * b + a
      · subst q; simp [up]; exact hc
      · simp [up, q]; exact hI i q0 q1
    repeat' (first | with_reducible apply And.intro | with_reducible intro _)
    all_goals first | omega | exact hc | exact fin.1 | exact fin.2
  refine ⟨by omega, fun q => ⟨by omega, hc, key 0 q.symm⟩, fun q => ⟨by omega, hc, key 1 ?_⟩⟩
  rcases j1 with z | z
  · exact absurd z q
  · exact z.symm
/-- due starts -/
def ID (h : Hp) : Prop := (0 ≤ h 34 14 ∧ h 34 14 ≤ 10 ∧ h 85 62 = h 34 14) ∧ ∀ i, 0 ≤ i → i < h 34 14 → h 126 i = h 52 i ∧ 0 ≤ h 53 i ∧ h 53 i ≤ 7 ∧ h 127 i = h 53 i
def PD (k : Nat) (i : Int) : Prop := k = 34 ∧ i = 14 ∨ k = 52 ∨ k = 53 ∨ k = 85 ∧ i = 62 ∨ k = 126 ∨ k = 127
theorem op_due {G : GG} {h : Hp} {a b : Int} (hK : h 85 10 = h 34 4) (hI : ID h) : BOTH G m_X11_due m_X12_due [iv a, iv b] h (fun h' => ID h' ∧ FR PD h h') := by
  have hN : ID h ∧ FR PD h h := ⟨hI, FR.rf⟩
  obtain ⟨j0, j4⟩ := id hI
  unfold BOTH
  refine Call.of rfl (Nat.le_of_ble_eq_true rfl) rfl (V_X11_due_1_0 ?_)
  repeat' (first | with_reducible apply And.intro | with_reducible intro _)
  all_goals try omega
  all_goals try (refine Call.of rfl (Nat.le_of_ble_eq_true rfl) rfl (U_X12_due_85_0 ?_); rw [hK]; (repeat' (first | with_reducible apply And.intro | with_reducible intro _)); all_goals first | rfl | omega | (exfalso; omega) | exact hN.1 | exact hN.2; done)
  rw [w32s (z := h 34 14 + 1) (by omega)]
  generalize hg : up (up (up h 52 (h 34 14) a) 53 (h 34 14) b) 34 14 (h 34 14 + 1) = g
  have e1 : g 85 62 = h 34 14 := by rw [← hg]; simp [up]; omega
  have e2 : g 85 10 = h 34 4 := by rw [← hg]; simp [up]; exact hK
  refine Call.of rfl (Nat.le_of_ble_eq_true rfl) rfl (U_X12_due_85_0 ?_)
  rw [e1, e2]
  repeat' (first | with_reducible apply And.intro | with_reducible intro _)
  all_goals try first | rfl | omega | (exfalso; omega)
  all_goals rw [w32s (z := h 34 14 + 1) (by omega)]
  · rw [← hg]
    refine ⟨?_, fun i q0 q1 => ?_⟩
    · simp [up]; omega
    · simp [up] at q1 ⊢
      by_cases q : i = h 34 14
      · subst q; simp; omega
      · simp [q]; exact j4 i q0 (by omega)
  · rw [← hg]
    repeat' (first | exact FR.rf | refine FR.up ?_ (by simp [PD]))
