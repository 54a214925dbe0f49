/-! THE CALENDAR -/
def mdays (y m : Int) : Int := if m = 2 then (if y % 4 = 0 then 29 else 28) else if m = 4 ∨ m = 6 ∨ m = 9 ∨ m = 11 then 30 else 31
def yd (y : Int) : Int := (y - 2000) * 365 + (y - 2000 + 3) / 4
def mo (y : Int) : Nat → Int
  | 0 => 0
  | n + 1 => mo y n + mdays y (n + 1)
def ylen (y : Int) : Int := if y % 4 = 0 then 366 else 365
theorem mdays_b (y m : Int) : 28 ≤ mdays y m ∧ mdays y m ≤ 31 := by unfold mdays; split <;> (try split) <;> omega
theorem mo_b (y : Int) : ∀ n : Nat, 28 * n ≤ mo y n ∧ mo y n ≤ 31 * n
  | 0 => by simp [mo]
  | n + 1 => by
    have ih := mo_b y n
    have b := mdays_b y (n + 1)
    unfold mo; omega
theorem yd_s {y : Int} : yd (y + 1) = yd y + ylen y := by unfold yd ylen; split <;> omega
theorem mo_12 {y : Int} : mo y 12 = ylen y := by
  simp [mo, mdays, ylen]
  split <;> omega
theorem tmod4 {y : Int} (h : 0 ≤ y) (n : Int) (hn : 0 ≤ n) : y.tmod n = y % n := Int.tmod_eq_emod_of_nonneg h
theorem xc901 : ∀ n : Nat, n < 12 → xc 901 (n : Int) = mdays 1 ((n : Int) + 1) := by decide
theorem mdays_ne {y z m : Int} (h : m ≠ 2) : mdays y m = mdays z m := by unfold mdays; rw [if_neg h, if_neg h]
theorem sp_daysIn {G : GG} {h : Hp} {Φ : Int → Hp → Prop} {y m : Int} (hy : 0 ≤ y) (hm : 1 ≤ m ∧ m ≤ 12) (k : Φ (mdays y m) h) : Call G m_X1_daysIn [iv y, iv m] h Φ := by
  refine Call.of rfl (Nat.le_of_ble_eq_true rfl) rfl (U_X1_daysIn_0 ⟨fun z => absurd z (by omega), fun _ => ⟨fun z => absurd z (by omega), fun _ => ?_⟩⟩)
  have e := xc901 (m - 1).toNat (by omega)
  rw [show (((m - 1).toNat : Nat) : Int) = m - 1 by omega, show m - 1 + 1 = m by omega] at e
  have b := mdays_b 1 m
  rw [w32_of (z := m - 1) (by omega) (by omega), e, w32_of (z := mdays 1 m + 0) (by omega) (by omega), w32_of (z := mdays 1 m + 1) (by omega) (by omega), tmod4 hy 4 (by omega), Int.add_zero]
  refine ⟨by omega, fun c => ?_, fun c => ⟨fun c2 => ?_, fun c2 => ?_⟩⟩
  · rw [mdays_ne (y := 1) (z := y) c]; exact k
  · subst c
    rw [show mdays 1 2 = mdays y 2 by simp [mdays, c2]]; exact k
  · subst c
    rw [show mdays 1 2 + 1 = mdays y 2 by simp [mdays, c2]]; exact k
theorem sp_isLong {G : GG} {h : Hp} {Φ : Int → Hp → Prop} {y : Int} (hy : 2000 ≤ y ∧ y ≤ 2060) (k : Φ (if y % 4 = 0 then 1 else 0) h) : Call G m_X12_isLong [iv y] h Φ := by
  refine Call.of rfl (Nat.le_of_ble_eq_true rfl) rfl (U_X12_isLong_0 ?_)
  rw [tmod4 (by omega) 4 (by omega), tmod4 (by omega) 100 (by omega), tmod4 (by omega) 400 (by omega)]
  refine ⟨fun c => ?_, fun c => ⟨fun c2 => ?_, fun c2 => ⟨fun c3 => ?_, fun c3 => ?_⟩⟩⟩
  · rw [if_neg c] at k; exact k
  · rw [if_pos c] at k; exact k
  · exfalso; omega
  · rw [if_pos c] at k; exact k
theorem sp_days {G : GG} {h : Hp} {Φ : Int → Hp → Prop} {y m : Int} (hy : 2000 ≤ y ∧ y ≤ 2060) (hm : 1 ≤ m ∧ m ≤ 12) (k : Φ (mdays y m) h) : Call G m_X12_days [iv y, iv m] h Φ := by
  refine Call.of rfl (Nat.le_of_ble_eq_true rfl) rfl (U_X12_days_0 ⟨fun c => ?_, fun c => ?_, fun c => ?_⟩)
  · subst c
    refine sp_isLong hy ⟨fun c2 => ?_, fun c2 => ?_⟩
    · have : ¬ y % 4 = 0 := fun z => by rw [if_pos z] at c2; omega
      simpa [mdays, this] using k
    · have : y % 4 = 0 := by
        apply Decidable.byContradiction
        intro z; rw [if_neg z] at c2; exact c2 rfl
      simpa [mdays, this] using k
  · unfold mdays at k
    rw [if_neg (by omega), if_pos c] at k
    exact k
  · unfold mdays at k
    rw [if_neg (by omega), if_neg (by omega)] at k
    exact k
theorem yd_b {y : Int} (hy : 2000 ≤ y ∧ y ≤ 2060) : 0 ≤ yd y ∧ yd y ≤ 21915 := by unfold yd; omega
theorem sp_dayOfC {G : GG} {h : Hp} {Φ : Int → Hp → Prop} {y d : Int} {m : Nat} (hy : 2000 ≤ y ∧ y ≤ 2060) (hm : m < 12) (hd : 0 ≤ d ∧ d ≤ 100) (k : Φ (yd y + mo y m + d - 1) h) : Call G m_X1_dayOf [iv y, iv ((m : Int) + 1), iv d] h Φ := by
  refine Call.of rfl (Nat.le_of_ble_eq_true rfl) rfl (U_X1_dayOf_0 ?_)
  have y0 := yd_b hy
  have e : w32 (w32 (w32 (y - 2000) * 365) + w32 ((w32 (w32 (y - 2000) + 3)).tdiv 4)) = yd y := by
    rw [w32_of (z := y - 2000) (by omega) (by omega), w32_of (z := (y - 2000) * 365) (by omega) (by omega), w32_of (z := y - 2000 + 3) (by omega) (by omega), Int.tdiv_eq_ediv_of_nonneg (by omega), w32_of (z := (y - 2000 + 3) / 4) (by omega) (by omega)]
    unfold yd at *
    rw [w32_of (by omega) (by omega)]
  rw [e]
  have go : ∀ e n : Nat, n + e = m → AT G m_X1_dayOf 23 [(0, iv y), (1, iv ((m : Int) + 1)), (2, iv d), (3, iv (yd y + mo y n)), (4, iv ((n : Int) + 1))] [] h Φ := by
    intro e
    induction e with
    | zero =>
      intro n hn
      have e : n = m := by omega
      subst e
      have b := mo_b y n
      refine U_X1_dayOf_23 ⟨fun _ => ?_, fun z => absurd z (by omega)⟩
      rw [w32_of (z := yd y + mo y n + d) (by omega) (by omega), w32_of (by omega) (by omega)]
      exact k
    | succ e ih =>
      intro n hn
      have t := ih (n + 1) (by omega)
      have b := mo_b y n
      have b2 := mdays_b y ((n : Int) + 1)
      refine U_X1_dayOf_23 ⟨fun z => absurd z (by omega), fun _ => sp_daysIn (by omega) (by omega) ?_⟩
      rw [w32_of (z := yd y + mo y n + mdays y ((n : Int) + 1)) (by omega) (by omega), w32_of (z := (n : Int) + 1 + 1) (by omega) (by omega), Int.add_assoc]
      rw [mo, Int.natCast_add] at t
      exact t
  have := go m 0 (by omega)
  simpa [mo] using this
theorem sp_dayOfM {G : GG} {h : Hp} {Φ : Int → Hp → Prop} {y : Int} {m : Nat} (hy : 2000 ≤ y ∧ y ≤ 2060) (hm : m < 12) (k : Φ (yd y + mo y m) h) : Call G m_X12_dayOf [iv y, iv ((m : Int) + 1)] h Φ := by
  refine Call.of rfl (Nat.le_of_ble_eq_true rfl) rfl (U_X12_dayOf_0 ?_)
  have y0 := yd_b hy
  have go2 : ∀ e n : Nat, n + e = m → AT G m_X12_dayOf 38 [(0, iv y), (1, iv ((m : Int) + 1)), (2, iv (yd y + mo y n)), (3, iv ((n : Int) + 1))] [] h Φ := by
    intro e
    induction e with
    | zero =>
      intro n hn
      have e : n = m := by omega
      subst e
      exact U_X12_dayOf_38 ⟨fun _ => k, fun z => absurd z (by omega)⟩
    | succ e ih =>
      intro n hn
      have t := ih (n + 1) (by omega)
      have b := mo_b y n
      have b2 := mdays_b y ((n : Int) + 1)
      refine U_X12_dayOf_38 ⟨fun z => absurd z (by omega), fun _ => sp_days hy (by omega) ?_⟩
      rw [w32_of (z := yd y + mo y n + mdays y ((n : Int) + 1)) (by omega) (by omega), w32_of (z := (n : Int) + 1 + 1) (by omega) (by omega), Int.add_assoc]
      rw [mo, Int.natCast_add] at t
      exact t
  have go1 : ∀ (e : Nat) (z : Int), 2000 ≤ z → z + e = y → AT G m_X12_dayOf 6 [(0, iv y), (1, iv ((m : Int) + 1)), (2, iv (yd z)), (3, iv z)] [] h Φ := by
    intro e
    induction e with
    | zero =>
      intro z h1 h2
      have e : z = y := by omega
      subst e
      refine U_X12_dayOf_6 ⟨fun _ => ?_, fun z => absurd z (by omega)⟩
      have := go2 m 0 (by omega)
      simpa [mo] using this
    | succ e ih =>
      intro z h1 h2
      have t := ih (z + 1) (by omega) (by omega)
      rw [yd_s] at t
      have zb := yd_b (y := z) (by omega)
      refine U_X12_dayOf_6 ⟨fun c => absurd c (by omega), fun _ => sp_isLong (by omega) ?_⟩
      unfold ylen at t
      rw [w32_of (z := yd z + 365) (by omega) (by omega), w32_of (z := yd z + 366) (by omega) (by omega), w32_of (z := z + 1) (by omega) (by omega)]
      by_cases q : z % 4 = 0
      · rw [if_pos q] at t ⊢
        exact ⟨fun c => absurd c (by omega), fun _ => t⟩
      · rw [if_neg q] at t ⊢
        exact ⟨fun _ => t, fun c => absurd rfl c⟩
  have := go1 (y - 2000).toNat 2000 (by omega) (by omega)
  simpa [yd] using this
/-- leaps alike, ascending -/
def IC (h : Hp) : Prop := (0 ≤ h 12 1 ∧ h 12 1 ≤ 10 ∧ h 85 9 = h 12 1) ∧ (∀ i, 0 ≤ i → i < h 12 1 → 0 ≤ h 13 i ∧ h 13 i ≤ 21914 ∧ h 89 i = h 13 i) ∧ ∀ i j, 0 ≤ i → i < j → j < h 12 1 → h 13 i < h 13 j
def PC (k : Nat) (i : Int) : Prop := k = 12 ∧ i = 1 ∨ k = 13 ∨ k = 85 ∧ i = 9 ∨ k = 89
theorem op_leap {G : GG} {h : Hp} {a b : Int} (hI : IC h) : BOTH G m_X11_leap m_X12_leap [iv a, iv b] h (fun h' => IC h' ∧ FR PC h h') := by
  have hN : IC h ∧ FR PC h h := ⟨hI, FR.rf⟩
  obtain ⟨j0, j1, j2⟩ := id hI
  unfold BOTH
  refine Call.of rfl (Nat.le_of_ble_eq_true rfl) rfl (U_X11_leap_1_0 ?_)
  by_cases c1 : 2000 ≤ a ∧ a ≤ 2059 ∧ (b = 6 ∨ b = 12)
  · obtain ⟨c1, c2, c3⟩ := c1
    have key : Call G m_X1_addLeap [rv 12, iv a, iv b] h (fun r h1 => Call G m_X12_leap [rv 85, iv a, iv b] h1 (fun r2 h2 => r = r2 ∧ IC h2 ∧ FR PC h h2)) := by
      obtain ⟨m, hm, rfl⟩ : ∃ m : Nat, m < 12 ∧ b = (m : Int) + 1 := ⟨(b - 1).toNat, by omega, by omega⟩
      have bd := mdays_b a ((m : Int) + 1)
      have bm := mo_b a m
      have by' := yd_b (y := a) (by omega)
      have by2 := yd_b (y := a + 1) (by omega)
      have lim : yd a + mo a m + mdays a ((m : Int) + 1) ≤ 21915 := by
        have : mo a 12 = ylen a := mo_12
        rw [yd_s] at by2
        have e2 : ∀ n : Nat, n ≤ 12 → mo a n ≤ mo a 12 := by
          have st : ∀ n, mo a n ≤ mo a (n + 1) := fun n => by
            have := mdays_b a ((n : Int) + 1)
            rw [mo]; omega
          intro n hn
          have : ∀ d n : Nat, n + d = 12 → mo a n ≤ mo a 12 := by
            intro d
            induction d with
            | zero => intro n h; have : n = 12 := by omega
                      subst this; omega
            | succ d ih => intro n h; have := ih (n + 1) (by omega); have := st n; omega
          exact this (12 - n) n (by omega)
        have e3 := e2 (m + 1) (by omega)
        rw [mo] at e3
        omega
      generalize hD : yd a + mo a m + mdays a ((m : Int) + 1) - 1 = D
      refine Call.of rfl (Nat.le_of_ble_eq_true rfl) rfl (U_X1_addLeap_12_0 ?_)
      refine sp_daysIn (by omega) (by omega) (sp_dayOfC (by omega) hm (by omega) ?_)
      rw [hD]
      have mk : ∀ (g : Hp) (Ψ : Int → Hp → Prop), g 85 9 = h 12 1 → (∀ i, 0 ≤ i → i < h 12 1 → g 89 i = h 13 i) → ((h 12 1 ≤ 0 ∨ h 13 (h 12 1 - 1) < D) → h 12 1 ≠ 10 → Ψ (h 12 1 + 1) (up (up g 89 (h 12 1) D) 85 9 (h 12 1 + 1))) → ((h 12 1 ≤ 0 ∨ h 13 (h 12 1 - 1) < D) → h 12 1 = 10 → Ψ (-4) g) → (0 < h 12 1 → D ≤ h 13 (h 12 1 - 1) → Ψ (-1) g) → Call G m_X12_leap [rv 85, iv a, iv ((m : Int) + 1)] g Ψ := by
        intro g Ψ g0 g1 k1 k2 k3
        refine Call.of rfl (Nat.le_of_ble_eq_true rfl) rfl (U_X12_leap_85_0 ⟨fun z => absurd z (by omega), fun _ => ⟨fun z => absurd z (by omega), fun _ => ?_⟩⟩)
        refine ⟨fun _ => sp_dayOfM (by omega) hm (sp_days (by omega) (by omega) ?_), fun _ => ⟨fun _ => sp_dayOfM (by omega) hm (sp_days (by omega) (by omega) ?_), fun z => absurd z (by omega)⟩⟩
        all_goals rw [w32_of (z := yd a + mo a m + mdays a ((m : Int) + 1)) (by omega) (by omega), hD, w32_of (z := D) (by omega) (by omega), g0, w32_of (z := h 12 1 + 1) (by omega) (by omega), w32_of (z := h 12 1 - 1) (by omega) (by omega)]
        all_goals refine ⟨fun c => ⟨fun c2 => ⟨by omega, k1 (Or.inl c) c2⟩, fun c2 => k2 (Or.inl c) c2⟩, fun c => ⟨by omega, ?_⟩⟩
        all_goals rw [g1 (h 12 1 - 1) (by omega) (by omega)]
        all_goals exact ⟨fun c2 => ⟨fun c3 => ⟨by omega, k1 (Or.inr c2) c3⟩, fun c3 => k2 (Or.inr c2) c3⟩, fun c2 => k3 c c2⟩
      rw [w32_of (z := h 12 1 + 1) (by omega) (by omega), w32_of (z := h 12 1 - 1) (by omega) (by omega)]
      have good : (h 12 1 ≤ 0 ∨ h 13 (h 12 1 - 1) < D) → h 12 1 ≠ 10 → Call G m_X12_leap [rv 85, iv a, iv ((m : Int) + 1)] (up (up h 13 (h 12 1) D) 12 1 (h 12 1 + 1)) (fun r2 h2 => h 12 1 + 1 = r2 ∧ IC h2 ∧ FR PC h h2) := by
        intro c1 c2
        refine mk _ _ ?_ (fun i q0 q1 => ?_) (fun _ _ => ?_) (fun _ z => absurd z c2) (fun z1 z2 => absurd c1 (by omega))
        · simp [up]; exact j0.2.2
        · simp [up]; exact (j1 i q0 q1).2.2
        · refine ⟨rfl, ⟨?_, ?_, ?_⟩, ?_⟩
          · simp [up]; omega
          · intro i q0 q1
            simp [up] at q1 ⊢
            by_cases q : i = h 12 1
            · simp [q]; omega
            · simp [q]; exact j1 i q0 (by omega)
          · intro i j q0 q1 q2
            simp [up] at q2 ⊢
            have e1 : ¬ i = h 12 1 := by omega
            by_cases q : j = h 12 1
            · simp [q, e1]
              by_cases q3 : i = h 12 1 - 1
              · subst q3; omega
              · have := j2 i (h 12 1 - 1) q0 (by omega) (by omega)
                omega
            · simp [q, e1]; exact j2 i j q0 q1 (by omega)
          · repeat' (first | exact FR.rf | refine FR.up ?_ (by simp [PC]))
      have full : (h 12 1 ≤ 0 ∨ h 13 (h 12 1 - 1) < D) → h 12 1 = 10 → Call G m_X12_leap [rv 85, iv a, iv ((m : Int) + 1)] h (fun r2 h2 => (-4) = r2 ∧ IC h2 ∧ FR PC h h2) := by
        intro c1 c2
        exact mk _ _ j0.2.2 (fun i q0 q1 => (j1 i q0 q1).2.2) (fun _ z => absurd c2 z) (fun _ _ => ⟨rfl, hN⟩) (fun z1 z2 => absurd c1 (by omega))
      refine ⟨fun c => ⟨fun c2 => ⟨by omega, good (Or.inl c) c2⟩, fun c2 => full (Or.inl c) c2⟩, fun c => ⟨by omega, fun c2 => ⟨fun c3 => ⟨by omega, good (Or.inr c2) c3⟩, fun c3 => full (Or.inr c2) c3⟩, fun c2 => ?_⟩⟩
      exact mk _ _ j0.2.2 (fun i q0 q1 => (j1 i q0 q1).2.2) (fun z _ => absurd z (by omega)) (fun z _ => absurd z (by omega)) (fun _ _ => ⟨rfl, hN⟩)
    exact ⟨fun z => absurd z (by omega), fun _ => ⟨fun z => absurd z (by omega), fun _ => ⟨fun _ => key, fun _ => ⟨fun _ => key, fun z => absurd z (by omega)⟩⟩⟩⟩
  · have key : Call G m_X12_leap [rv 85, iv a, iv b] h (fun r2 h2 => -1 = r2 ∧ IC h2 ∧ FR PC h h2) := by
      refine Call.of rfl (Nat.le_of_ble_eq_true rfl) rfl (U_X12_leap_85_0 ?_)
      exact ⟨fun _ => ⟨rfl, hN⟩, fun _ => ⟨fun _ => ⟨rfl, hN⟩, fun _ => ⟨fun z => absurd z (by omega), fun _ => ⟨fun z => absurd z (by omega), fun _ => ⟨rfl, hN⟩⟩⟩⟩⟩
    exact ⟨fun _ => key, fun _ => ⟨fun _ => key, fun _ => ⟨fun z => absurd z (by omega), fun _ => ⟨fun z => absurd z (by omega), fun _ => key⟩⟩⟩⟩
