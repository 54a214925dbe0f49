theorem szr_of {a : Nat} {b : Int} {c : Nat} {h : Hp} {n : Int} (hac : a ≠ c) : up h a b n = szr a b c h n (h c) := by
  funext k i
  unfold szr row up
  by_cases q : k = c
  · subst q
    have : ¬ k = a := fun z => hac z.symm
    simp [this]
  · simp [q]
theorem row_id {h : Hp} {k : Nat} : row h k (h k) = h := by
  funext k' i
  unfold row
  by_cases q : k' = k
  · subst q; simp
  · simp [q]
theorem sp_dayOfM1 {G : GG} {h : Hp} {Φ : Int → Hp → Prop} {y : Int} (hy : 2000 ≤ y ∧ y ≤ 2060) (k : Φ (yd y) h) : Call G m_X12_dayOf [iv y, iv 1] h Φ := by
  have := sp_dayOfM (G := G) (h := h) (Φ := Φ) (y := y) (m := 0) hy (by omega) (by simp only [mo]; rw [show yd y + 0 = yd y by omega]; exact k)
  simpa using this
def m19 (f : Int → Int) (Y m d H M S : Int) : Int → Int :=
  put (put (put (put (put (put (put (put (put (put (put (put (put (put (put (put (put (put (put f 0 (48 + Y / 1000)) 1 (48 + Y / 100 % 10)) 2 (48 + Y / 10 % 10)) 3 (48 + Y % 10)) 4 45) 5 (48 + m / 10)) 6 (48 + m % 10)) 7 45) 8 (48 + d / 10)) 9 (48 + d % 10)) 10 84) 11 (48 + H / 10)) 12 (48 + H % 10)) 13 58) 14 (48 + M / 10)) 15 (48 + M % 10)) 16 58) 17 (48 + S / 10)) 18 (48 + S % 10)
theorem sp_written {G : GG} {h : Hp} {Φ : Int → Hp → Prop} {s D Y : Int} {L m : Nat} (hL : h 85 9 = L) (L10 : L ≤ 10) (hs : 0 ≤ s) (hs2 : s < 86400 * 21915 + cnt (h 89) 21915 L) (D0 : 0 ≤ D ∧ D ≤ 21914) (f1 : 86400 * D + cnt (h 89) D L ≤ s) (f2 : s < 86400 * (D + 1) + cnt (h 89) (D + 1) L) (f3 : s - (86400 * D + cnt (h 89) D L) ≤ 86400) (hY : 2000 ≤ Y ∧ Y ≤ 2059) (y1 : yd Y ≤ D) (y2 : D < yd (Y + 1)) (hm : m < 12) (m1 : yd Y + mo Y m ≤ D) (m2 : D < yd Y + mo Y (m + 1))
    (k1 : s - (86400 * D + cnt (h 89) D L) = 86400 → Φ 19 (szr 85 7 88 h 19 (m19 (h 88) Y ((m : Int) + 1) (D - (yd Y + mo Y m) + 1) 23 59 60)))
    (k2 : ∀ R : Int, R = s - (86400 * D + cnt (h 89) D L) → R < 86400 → Φ 19 (szr 85 7 88 h 19 (m19 (h 88) Y ((m : Int) + 1) (D - (yd Y + mo Y m) + 1) (R / 3600) (R / 60 % 60) (R % 60)))) : Call G m_X12_written [rv 85, iv s] h Φ := by
  have cb1 := cnt_b (h 89) D L
  have cb2 := cnt_b (h 89) (D + 1) L
  have cb3 := cnt_b (h 89) 21915 L
  have step : ∀ d, cnt (h 89) (d + 1) L ≤ L := fun d => (cnt_b (h 89) (d + 1) L).2
  have one : cnt (h 89) (D + 1) L ≤ cnt (h 89) D L + 10 := by omega
  have y0 := yd_b (y := Y) (by omega)
  have m0 := mo_b Y m
  have dd : D - (yd Y + mo Y m) + 1 ≤ 31 := by
    have := mdays_b Y ((m : Int) + 1)
    rw [mo] at m2; omega
  refine Call.of rfl (Nat.le_of_ble_eq_true rfl) rfl (U_X12_written_85_0 (sp_dayOfM1 (by omega) ⟨fun z => absurd z (by omega), fun _ => ?_⟩))
  rw [show yd 2060 = 21915 by decide]
  refine sp_firstSecond (by omega) hL L10 ⟨fun _ => ?_, fun z => absurd z (by omega)⟩
  rw [Int.tdiv_eq_ediv_of_nonneg hs, w32_of (by omega) (by omega)]
  generalize hS : s - (86400 * D + cnt (h 89) D L) = S at *
  have fin : S ≤ 86400 → AT G m_X12_written 114 [(0, rv 85), (4, iv S), (5, iv (D - yd Y - mo Y m)), (6, iv Y), (7, iv ((m : Int) + 1))] [] h Φ := by
    intro S1
    refine U_X12_written_85_114 (sp_days (by omega) (by omega) ⟨fun _ => ?_, fun z => absurd z (by rw [mo] at m2; omega)⟩)
    rw [w32_of (z := D - yd Y - mo Y m + 1) (by omega) (by omega), szr_of (c := 88) (by decide), show D - yd Y - mo Y m + 1 = D - (yd Y + mo Y m) + 1 by omega]
    refine ⟨fun c => ?_, fun c => ?_⟩
    · have k := k2 S rfl (by omega)
      rw [Int.tdiv_eq_ediv_of_nonneg (by omega), Int.tdiv_eq_ediv_of_nonneg (by omega), Int.tmod_eq_emod_of_nonneg (show 0 ≤ S by omega), w32_of (z := S / 3600) (by omega) (by omega), w32_of (z := S / 60) (by omega) (by omega), Int.tmod_eq_emod_of_nonneg (show 0 ≤ S / 60 by omega)]
      refine sp_digit4 (by omega) (by omega) (by omega) ?_
      simp only [Int.reduceAdd]
      refine sp_add (by omega) (by omega) ?_
      simp only [Int.reduceAdd]
      refine sp_digit2 (by omega) (by omega) (by omega) ?_
      simp only [Int.reduceAdd]
      refine sp_add (by omega) (by omega) ?_
      simp only [Int.reduceAdd]
      refine sp_digit2 (by omega) (by omega) (by omega) ?_
      simp only [Int.reduceAdd]
      refine sp_add (by omega) (by omega) ?_
      simp only [Int.reduceAdd]
      refine sp_digit2 (by omega) (by omega) (by omega) ?_
      simp only [Int.reduceAdd]
      refine sp_add (by omega) (by omega) ?_
      simp only [Int.reduceAdd]
      refine sp_digit2 (by omega) (by omega) (by omega) ?_
      simp only [Int.reduceAdd]
      refine sp_add (by omega) (by omega) ?_
      simp only [Int.reduceAdd]
      refine sp_digit2 (by omega) (by omega) (by omega) ?_
      simp only [Int.reduceAdd]
      rw [szr_n (by decide)]
      exact k
    · have k := k1 c
      refine sp_digit4 (by omega) (by omega) (by omega) ?_
      simp only [Int.reduceAdd]
      refine sp_add (by omega) (by omega) ?_
      simp only [Int.reduceAdd]
      refine sp_digit2 (by omega) (by omega) (by omega) ?_
      simp only [Int.reduceAdd]
      refine sp_add (by omega) (by omega) ?_
      simp only [Int.reduceAdd]
      refine sp_digit2 (by omega) (by omega) (by omega) ?_
      simp only [Int.reduceAdd]
      refine sp_add (by omega) (by omega) ?_
      simp only [Int.reduceAdd]
      refine sp_digit2 (v := 23) (by omega) (by omega) (by omega) ?_
      simp only [Int.reduceAdd]
      refine sp_add (by omega) (by omega) ?_
      simp only [Int.reduceAdd]
      refine sp_digit2 (v := 59) (by omega) (by omega) (by omega) ?_
      simp only [Int.reduceAdd]
      refine sp_add (by omega) (by omega) ?_
      simp only [Int.reduceAdd]
      refine sp_digit2 (v := 60) (by omega) (by omega) (by omega) ?_
      simp only [Int.reduceAdd]
      rw [szr_n (by decide)]
      exact k
  have go2 : S ≤ 86400 → ∀ e n : Nat, n + e = m → AT G m_X12_written 114 [(0, rv 85), (4, iv S), (5, iv (D - yd Y - mo Y n)), (6, iv Y), (7, iv ((n : Int) + 1))] [] h Φ := by
    intro S1 e
    induction e with
    | zero =>
      intro n hn
      have e : n = m := by omega
      subst e
      exact fin S1
    | succ e ih =>
      intro n hn
      have t := ih (n + 1) (by omega)
      have mm := mo_mono Y (show n + 1 ≤ m by omega)
      have mb := mo_b Y n
      have mb2 := mdays_b Y ((n : Int) + 1)
      rw [mo] at mm
      refine U_X12_written_85_114 (sp_days (by omega) (by omega) ⟨fun z => absurd z (by omega), fun _ => sp_days (by omega) (by omega) ?_⟩)
      rw [w32_of (z := D - yd Y - mo Y n - mdays Y ((n : Int) + 1)) (by omega) (by omega), w32_of (z := (n : Int) + 1 + 1) (by omega) (by omega)]
      rw [mo, Int.natCast_add, show D - yd Y - (mo Y n + mdays Y ((n : Int) + 1)) = D - yd Y - mo Y n - mdays Y ((n : Int) + 1) by omega] at t
      exact t
  have go1 : S ≤ 86400 → ∀ (e : Nat) (y : Int), 2000 ≤ y → y + e = Y → AT G m_X12_written 61 [(0, rv 85), (4, iv S), (5, iv (D - yd y)), (6, iv y)] [] h Φ := by
    intro S1 e
    induction e with
    | zero =>
      intro y h1 h2
      have e : y = Y := by omega
      subst e
      have t := go2 S1 m 0 (by omega)
      rw [show ((0 : Nat) : Int) + 1 = 1 by omega, mo, Int.sub_zero] at t
      have ys := yd_s (y := y)
      unfold ylen at ys
      refine U_X12_written_85_61 (sp_isLong (by omega) ?_)
      by_cases q : y % 4 = 0
      · rw [if_pos q] at ys ⊢
        exact ⟨fun z => absurd z (by omega), fun _ => ⟨fun _ => t, fun z => absurd z (by omega)⟩⟩
      · rw [if_neg q] at ys ⊢
        exact ⟨fun _ => ⟨fun _ => t, fun z => absurd z (by omega)⟩, fun z => absurd rfl z⟩
    | succ e ih =>
      intro y h1 h2
      have t := ih (y + 1) (by omega) (by omega)
      have ys := yd_s (y := y)
      have le : yd (y + 1) ≤ yd Y := by unfold yd; omega
      have yb := yd_b (y := y) (by omega)
      rw [ys] at t le
      unfold ylen at t le
      refine U_X12_written_85_61 (sp_isLong (by omega) ?_)
      rw [w32_of (z := D - yd y - 365) (by omega) (by omega), w32_of (z := D - yd y - 366) (by omega) (by omega), w32_of (z := y + 1) (by omega) (by omega)]
      by_cases q : y % 4 = 0
      · rw [if_pos q] at t le ⊢
        rw [show D - (yd y + 366) = D - yd y - 366 by omega] at t
        exact ⟨fun z => absurd z (by omega), fun _ => ⟨fun z => absurd z (by omega), fun _ => sp_isLong (by omega) (by rw [if_pos q]; exact ⟨fun z => absurd z (by omega), fun _ => t⟩)⟩⟩
      · rw [if_neg q] at t le ⊢
        rw [show D - (yd y + 365) = D - yd y - 365 by omega] at t
        exact ⟨fun _ => ⟨fun z => absurd z (by omega), fun _ => sp_isLong (by omega) (by rw [if_neg q]; exact ⟨fun _ => t, fun z => absurd rfl z⟩)⟩, fun z => absurd rfl z⟩
  have go0 : ∀ e : Nat, D + e ≤ 21915 → AT G m_X12_written 29 [(0, rv 85), (1, iv s), (3, iv (D + e))] [] h Φ := by
    intro e
    induction e with
    | zero =>
      intro _
      have t := go1 f3 (Y - 2000).toNat 2000 (by omega) (by omega)
      rw [show yd 2000 = 0 by decide, Int.sub_zero] at t
      rw [show D + ((0 : Nat) : Int) = D by omega]
      refine U_X12_written_85_29 (sp_firstSecond (by omega) hL L10 ⟨fun _ => sp_firstSecond (by omega) hL L10 ?_, fun z => absurd z (by omega)⟩)
      rw [hS, w32_of (z := S) (by omega) (by omega)]
      exact t
    | succ e ih =>
      intro he
      have t := ih (by omega)
      have mm := cnt_mono (h 89) (show D + 1 ≤ D + ((e + 1 : Nat) : Int) by omega) L
      refine U_X12_written_85_29 (sp_firstSecond (by omega) hL L10 ⟨fun z => absurd z (by omega), fun _ => ?_⟩)
      rw [show D + ((e + 1 : Nat) : Int) + -1 = D + e by omega, w32_of (by omega) (by omega)]
      exact t
  have := go0 (s / 86400 - D).toNat (by omega)
  rw [show D + (((s / 86400 - D).toNat : Nat) : Int) = s / 86400 by omega] at this
  exact this
def PWr (k : Nat) (i : Int) : Prop := k = 1 ∧ i = 3 ∨ k = 11 ∨ k = 85 ∧ i = 7 ∨ k = 88
theorem op_written {G : GG} {h : Hp} {s : Int} (hI : IC h) (hO : IO h) : BOTH G m_X11_written m_X12_written [iv s] h (fun h' => IO h' ∧ FR PWr h h') := by
  have hN : IO h ∧ FR PWr h h := ⟨hO, FR.rf⟩
  obtain ⟨j0, j1, j2⟩ := id hI
  obtain ⟨L, hL⟩ : ∃ L : Nat, h 12 1 = (L : Int) := ⟨(h 12 1).toNat, by omega⟩
  unfold BOTH
  have m9 : h 85 9 = L := by omega
  have all : cnt (h 89) 21915 L = L := cnt_at L (by omega) (fun i a b => by have := j1 i a (by omega); omega) (fun i a b => by omega)
  refine Call.of rfl (Nat.le_of_ble_eq_true rfl) rfl (U_X11_written_1_0 ?_)
  refine Call.of rfl (Nat.le_of_ble_eq_true rfl) rfl (U_X1_hasSecond_12_0 (sp_dayOfC1 (by omega) ?_))
  rw [show yd 2060 = 21915 by decide, hL, show w32 (21915 * 86400) = 1893456000 by decide, w32_of (z := 1893456000 + (L : Int)) (by omega) (by omega), w32_of (z := 1893456000 + (L : Int) - 1) (by omega) (by omega)]
  have bad : (s < 0 ∨ 1893456000 + (L : Int) ≤ s) → Call G m_X12_written [rv 85, iv s] h (fun r2 h2 => -1 = r2 ∧ IO h2 ∧ FR PWr h h2) := by
    intro c
    refine Call.of rfl (Nat.le_of_ble_eq_true rfl) rfl (U_X12_written_85_0 (sp_dayOfM1 (by omega) ⟨fun _ => ⟨rfl, hN⟩, fun c2 => ?_⟩))
    rw [show yd 2060 = 21915 by decide]
    exact sp_firstSecond (by omega) m9 (by omega) ⟨fun z => absurd z (by omega), fun _ => ⟨rfl, hN⟩⟩
  refine ⟨fun c => ⟨fun z => absurd rfl z, fun _ => bad (by omega)⟩, fun c => ⟨fun c2 => ⟨fun z => absurd rfl z, fun _ => bad (by omega)⟩, fun c2 => ⟨fun _ => ?_, fun z => absurd z (by omega)⟩⟩⟩
  obtain ⟨D, p, a1, a2, a3, a4, a5, a6, a7, a8, a9⟩ := day_of (f := h 13) (s := s) (L := L) (by omega) (by omega) (fun i a b => by have := j1 i a (by omega); omega) (fun i j a b c => j2 i j a b (by omega))
  obtain ⟨y, b0, b1, b2⟩ := find_step (g := fun n : Nat => yd (2000 + n)) (D := D) 60 (by simp [yd]; omega) (by simp [yd]; omega)
  generalize hY : (2000 : Int) + (y : Int) = Y at *
  rw [show (2000 : Int) + ((y + 1 : Nat) : Int) = Y + 1 by omega] at b2
  obtain ⟨m, c0, c3, c4⟩ := find_step (g := fun n : Nat => yd Y + mo Y n) (D := D) 12 (by simp [mo]; omega) (by simp only [mo_12]; rw [← yd_s]; omega)
  have ce : ∀ d, cnt (h 89) d L = cnt (h 13) d L := fun d => cnt_eq L (fun i a b => (j1 i a (by omega)).2.2)
  obtain ⟨q, hq, q01, R, hR, hR2⟩ : ∃ q : Int, lfN (h 13) s L = q ∧ (q = 0 ∨ q = 1) ∧ ∃ R : Int, s - p - q = 86400 * D + R ∧ 0 ≤ R ∧ R < 86400 ∧ (q = 1 → R = 86399) := by
    rcases a9 with z | z
    · exact ⟨1, z.1, Or.inr rfl, 86399, by omega, by omega, by omega, fun _ => rfl⟩
    · exact ⟨0, z.1, Or.inl rfl, s - p - 86400 * D, by omega, by omega, by omega, fun z => by omega⟩
  rw [show h = row h 11 (h 11) from row_id.symm]
  refine sp_writeDate (D := D) (Y := Y) (p := p) (q := q) (R := R) (L := L) (m := m) hL (by omega) (fun i a b => by have := j1 i a (by omega); omega) (by omega) a5 hq q01 ⟨a3, a4⟩ hR ⟨hR2.1, hR2.2.1⟩ a1 (by omega) b1 b2 c0 c3 c4 ?_
  rw [row_id]
  generalize hg : up (row h 11 (w29 (w19 (h 11) Y ((m : Int) + 1) (D - (yd Y + mo Y m) + 1)) (R / 3600) (R / 60 % 60) (R % 60 + q))) 1 3 19 = g
  have g89 : g 89 = h 89 := by rw [← hg]; funext i; simp [up, row]
  have g9 : g 85 9 = L := by rw [← hg]; simp [up, row]; exact m9
  have fin : ∀ H M S : Int, H = R / 3600 → M = R / 60 % 60 → S = R % 60 + q → (19 : Int) = 19 ∧ IO (szr 85 7 88 g 19 (m19 (g 88) Y ((m : Int) + 1) (D - (yd Y + mo Y m) + 1) H M S)) ∧ FR PWr h (szr 85 7 88 g 19 (m19 (g 88) Y ((m : Int) + 1) (D - (yd Y + mo Y m) + 1) H M S)) := by
    intro H M S e1 e2 e3
    subst e1; subst e2; subst e3
    have e13 : szr 85 7 88 g 19 (m19 (g 88) Y ((m : Int) + 1) (D - (yd Y + mo Y m) + 1) (R / 3600) (R / 60 % 60) (R % 60 + q)) 1 3 = 19 := by
      rw [szr_o (by decide) (Or.inl (by decide)), ← hg]; simp [up]
    refine ⟨rfl, ⟨by rw [e13]; omega, by rw [e13]; omega, ?_, ?_⟩, ?_⟩
    · rw [e13, szr_n (by decide)]
    · intro i q0 q1
      rw [e13] at q1
      rw [szr_f, szr_o (by decide) (Or.inl (by decide)), ← hg]
      have e11 : ∀ F, up (row h 11 F) 1 3 19 11 i = F i := fun F => by simp [up, row]
      rw [e11]
      have : i = 0 ∨ i = 1 ∨ i = 2 ∨ i = 3 ∨ i = 4 ∨ i = 5 ∨ i = 6 ∨ i = 7 ∨ i = 8 ∨ i = 9 ∨ i = 10 ∨ i = 11 ∨ i = 12 ∨ i = 13 ∨ i = 14 ∨ i = 15 ∨ i = 16 ∨ i = 17 ∨ i = 18 := by omega
      rcases this with rfl | rfl | rfl | rfl | rfl | rfl | rfl | rfl | rfl | rfl | rfl | rfl | rfl | rfl | rfl | rfl | rfl | rfl | rfl
      all_goals simp [m19, w29, w19, put]
      all_goals omega
    · intro k i hk
      have n88 : k ≠ 88 := fun z => hk (Or.inr (Or.inr (Or.inr z)))
      have n11 : k ≠ 11 := fun z => hk (Or.inr (Or.inl z))
      have n13 : ¬ (k = 1 ∧ i = 3) := fun z => hk (Or.inl z)
      have n857 : k ≠ 85 ∨ i ≠ 7 := by
        by_cases z : k = 85
        · exact Or.inr fun z2 => hk (Or.inr (Or.inr (Or.inl ⟨z, z2⟩)))
        · exact Or.inl z
      rw [szr_o n88 n857, ← hg]
      unfold up
      rw [if_neg n13, row_ne n11]
  refine sp_written (D := D) (Y := Y) (L := L) (m := m) g9 (by omega) c (by rw [g89, all]; omega) ⟨a1, a2⟩ (by rw [g89, ce]; exact a6) (by rw [g89, ce]; exact a7) (by rw [g89, ce, a8]; omega) (by omega) b1 b2 c0 c3 c4 (fun z => ?_) (fun R2 z1 z2 => ?_)
  · rw [g89, ce, a8] at z
    have q1 : q = 1 := by omega
    have := hR2.2.2 q1
    exact fin _ _ _ (by omega) (by omega) (by omega)
  · rw [g89, ce, a8] at z1
    have q1 : q = 0 := by
      rcases q01 with y | y
      · exact y
      · have := hR2.2.2 y; omega
    have : R2 = R := by omega
    subst this
    exact fin _ _ _ rfl rfl (by omega)
