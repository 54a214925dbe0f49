theorem sp_dayOfC1 {G : GG} {h : Hp} {Φ : Int → Hp → Prop} {y : Int} (hy : 2000 ≤ y ∧ y ≤ 2060) (k : Φ (yd y) h) : Call G m_X1_dayOf [iv y, iv 1, iv 1] h Φ := by
  have := sp_dayOfC (G := G) (h := h) (Φ := Φ) (y := y) (d := 1) (m := 0) hy (by omega) (by omega) (by simp only [mo]; rw [show yd y + 0 + 1 - 1 = yd y by omega]; exact k)
  simpa using this
theorem mo_mono (y : Int) {a b : Nat} (h : a ≤ b) : mo y a ≤ mo y b := by
  induction b with
  | zero => have : a = 0 := by omega
            subst this; omega
  | succ b ih =>
    by_cases q : a = b + 1
    · subst q; omega
    · have := ih (by omega)
      have := mdays_b y ((b : Int) + 1)
      rw [mo]; omega
def w19 (f : Int → Int) (Y m d : Int) : Int → Int := put (put (put (put (put (put (put (put (put (put f 0 (48 + Y / 100 / 10)) 1 (48 + Y / 100 % 10)) 2 (48 + Y % 100 / 10)) 3 (48 + Y % 100 % 10)) 4 45) 5 (48 + m / 10)) 6 (48 + m % 10)) 7 45) 8 (48 + d / 10)) 9 (48 + d % 10)
theorem sp_writeDay {G : GG} {h : Hp} {Φ : Int → Hp → Prop} {D Y : Int} {m : Nat} {f : Int → Int} (hY : 2000 ≤ Y ∧ Y ≤ 2059) (y1 : yd Y ≤ D) (y2 : D < yd (Y + 1)) (hm : m < 12) (m1 : yd Y + mo Y m ≤ D) (m2 : D < yd Y + mo Y (m + 1)) (k : Φ 0 (row h 11 (w19 f Y ((m : Int) + 1) (D - (yd Y + mo Y m) + 1)))) : Call G m_X1_writeDay [iv D, rv 11] (row h 11 f) Φ := by
  have y0 := yd_b (y := Y) (by omega)
  have m0 := mo_b Y m
  have dd : D - (yd Y + mo Y m) + 1 ≤ 31 := by
    have := mdays_b Y ((m : Int) + 1)
    rw [mo] at m2; omega
  refine Call.of rfl (Nat.le_of_ble_eq_true rfl) rfl (U_X1_writeDay_11_0 ?_)
  have fin : Call G m_X1_writeTwo [iv (w32 (Y.tdiv 100)), rv 11, iv 0] (row h 11 f) (fun _ h2 => Call G m_X1_writeTwo [iv (Y.tmod 100), rv 11, iv 2] h2 (fun _ h4 => Call G m_X1_writeTwo [iv ((m : Int) + 1), rv 11, iv 5] (up h4 11 4 45) (fun _ h6 => Call G m_X1_dayOf [iv Y, iv ((m : Int) + 1), iv 1] (up h6 11 7 45) (fun r7 h8 => Call G m_X1_writeTwo [iv (w32 ((w32 (D - r7)) + 1)), rv 11, iv 8] h8 (fun _ h10 => Φ 0 h10))))) := by
    rw [Int.tdiv_eq_ediv_of_nonneg (by omega), Int.tmod_eq_emod_of_nonneg (by omega), w32_of (z := Y / 100) (by omega) (by omega)]
    refine sp_writeTwo (by omega) (by omega) (by omega) (sp_writeTwo (by omega) (by omega) (by omega) ?_)
    rw [up_row]
    refine sp_writeTwo (by omega) (by omega) (by omega) ?_
    rw [up_row]
    refine sp_dayOfC (by omega) hm (by omega) ?_
    rw [show yd Y + mo Y m + 1 - 1 = yd Y + mo Y m by omega, w32_of (z := D - (yd Y + mo Y m)) (by omega) (by omega), w32_of (by omega) (by omega)]
    exact sp_writeTwo (by omega) (by omega) (by omega) k
  have go2 : ∀ e n : Nat, n + e = m → AT G m_X1_writeDay 31 [(0, iv D), (1, rv 11), (2, iv Y), (3, iv ((n : Int) + 1))] [] (row h 11 f) Φ := by
    intro e
    induction e with
    | zero =>
      intro n hn
      have e : n = m := by omega
      subst e
      refine U_X1_writeDay_11_31 ⟨fun _ => fin, fun c => ?_⟩
      rw [w32_of (z := (n : Int) + 1 + 1) (by omega) (by omega)]
      have := sp_dayOfC (G := G) (h := row h 11 f) (y := Y) (d := 1) (m := n + 1) (by omega) (by omega) (by omega) (Φ := fun r11 h12 => ((D < r11 → Call G m_X1_writeTwo [iv (w32 (Y.tdiv 100)), rv 11, iv 0] h12 (fun _ h14 => Call G m_X1_writeTwo [iv (Y.tmod 100), rv 11, iv 2] h14 (fun _ h16 => Call G m_X1_writeTwo [iv ((n : Int) + 1), rv 11, iv 5] (up h16 11 4 45) (fun _ h18 => Call G m_X1_dayOf [iv Y, iv ((n : Int) + 1), iv 1] (up h18 11 7 45) (fun r19 h20 => Call G m_X1_writeTwo [iv (w32 ((w32 (D - r19)) + 1)), rv 11, iv 8] h20 (fun _ h22 => Φ 0 h22)))))) ∧ (r11 ≤ D → AT G m_X1_writeDay 31 [(0, iv D), (1, rv 11), (2, iv Y), (3, iv ((n : Int) + 1 + 1))] [] h12 Φ))) ⟨fun _ => fin, fun z => absurd z (by omega)⟩
      rw [Int.natCast_add] at this
      exact this
    | succ e ih =>
      intro n hn
      have t := ih (n + 1) (by omega)
      have mm := mo_mono Y (show n + 1 ≤ m by omega)
      refine U_X1_writeDay_11_31 ⟨fun z => absurd z (by omega), fun c => ?_⟩
      rw [w32_of (z := (n : Int) + 1 + 1) (by omega) (by omega)]
      rw [Int.natCast_add] at t
      have := sp_dayOfC (G := G) (h := row h 11 f) (y := Y) (d := 1) (m := n + 1) (by omega) (by omega) (by omega) (Φ := fun r11 h12 => ((D < r11 → Call G m_X1_writeTwo [iv (w32 (Y.tdiv 100)), rv 11, iv 0] h12 (fun _ h14 => Call G m_X1_writeTwo [iv (Y.tmod 100), rv 11, iv 2] h14 (fun _ h16 => Call G m_X1_writeTwo [iv ((n : Int) + 1), rv 11, iv 5] (up h16 11 4 45) (fun _ h18 => Call G m_X1_dayOf [iv Y, iv ((n : Int) + 1), iv 1] (up h18 11 7 45) (fun r19 h20 => Call G m_X1_writeTwo [iv (w32 ((w32 (D - r19)) + 1)), rv 11, iv 8] h20 (fun _ h22 => Φ 0 h22)))))) ∧ (r11 ≤ D → AT G m_X1_writeDay 31 [(0, iv D), (1, rv 11), (2, iv Y), (3, iv ((n : Int) + 1 + 1))] [] h12 Φ))) ⟨fun z => absurd z (by omega), fun _ => t⟩
      rw [Int.natCast_add] at this
      exact this
  have go1 : ∀ (e : Nat) (y : Int), 2000 ≤ y → y + e = Y → AT G m_X1_writeDay 4 [(0, iv D), (1, rv 11), (2, iv y)] [] (row h 11 f) Φ := by
    intro e
    induction e with
    | zero =>
      intro y h1 h2
      have e : y = Y := by omega
      subst e
      have := go2 m 0 (by omega)
      rw [show ((0 : Nat) : Int) + 1 = 1 by omega] at this
      refine U_X1_writeDay_11_4 ⟨fun _ => this, fun c => ?_⟩
      rw [w32_of (z := y + 1) (by omega) (by omega)]
      exact sp_dayOfC1 (by omega) ⟨fun _ => this, fun z => absurd z (by omega)⟩
    | succ e ih =>
      intro y h1 h2
      have t := ih (y + 1) (by omega) (by omega)
      refine U_X1_writeDay_11_4 ⟨fun z => absurd z (by omega), fun c => ?_⟩
      rw [w32_of (z := y + 1) (by omega) (by omega)]
      have : yd (y + 1) ≤ yd Y := by unfold yd; omega
      exact sp_dayOfC1 (by omega) ⟨fun z => absurd z (by omega), fun _ => t⟩
  exact go1 (Y - 2000).toNat 2000 (by omega) (by omega)
def w29 (f : Int → Int) (H M S : Int) : Int → Int := put (put (put (put (put (put (put (put (put f 10 84) 11 (48 + H / 10)) 12 (48 + H % 10)) 13 58) 14 (48 + M / 10)) 15 (48 + M % 10)) 16 58) 17 (48 + S / 10)) 18 (48 + S % 10)
theorem sp_writeDate {G : GG} {h : Hp} {Φ : Int → Hp → Prop} {s D Y p q R : Int} {L m : Nat} {f : Int → Int} (hL : h 12 1 = L) (L10 : L ≤ 10) (hf : ∀ i : Int, 0 ≤ i → i < L → 0 ≤ h 13 i ∧ h 13 i ≤ 21914) (hs : 0 ≤ s ∧ s ≤ 2000000000)
    (e1 : pcN (h 13) s L = p) (e2 : lfN (h 13) s L = q) (hq : q = 0 ∨ q = 1) (hp : 0 ≤ p ∧ p ≤ 10) (hR : s - p - q = 86400 * D + R) (R0 : 0 ≤ R ∧ R < 86400) (D0 : 0 ≤ D) (hY : 2000 ≤ Y ∧ Y ≤ 2059) (y1 : yd Y ≤ D) (y2 : D < yd (Y + 1)) (hm : m < 12) (m1 : yd Y + mo Y m ≤ D) (m2 : D < yd Y + mo Y (m + 1))
    (k : Φ 19 (row h 11 (w29 (w19 f Y ((m : Int) + 1) (D - (yd Y + mo Y m) + 1)) (R / 3600) (R / 60 % 60) (R % 60 + q)))) : Call G m_X1_writeDate [rv 12, iv s, rv 11] (row h 11 f) Φ := by
  have r12 : row h 11 f 12 1 = L := by rw [row_ne (by decide)]; exact hL
  have r13 : ∀ i, row h 11 f 13 i = h 13 i := fun i => by rw [row_ne (by decide)]
  have dv : ∀ z : Int, 0 ≤ z → z < 86400 → Int.tdiv z 3600 = z / 3600 ∧ Int.tdiv z 60 = z / 60 ∧ Int.tmod z 60 = z % 60 := fun z a b => ⟨Int.tdiv_eq_ediv_of_nonneg a, Int.tdiv_eq_ediv_of_nonneg a, Int.tmod_eq_emod_of_nonneg a⟩
  have fin : AT G m_X1_writeDate 8 [(0, rv 12), (1, iv s), (2, rv 11), (3, iv p), (4, iv q), (5, iv (L : Int))] [] (row h 11 f) Φ := by
    refine U_X1_writeDate_12_11_8 ⟨fun _ => ?_, fun z => absurd z (by rw [r12]; omega)⟩
    have pl : ∀ q2 : Int, q2 = q → w32 (w32 (s - p) - q2) = 86400 * D + R := fun q2 hq2 => by
      subst hq2
      rw [w32_of (z := s - p) (by omega) (by omega), w32_of (by omega) (by omega)]; exact hR
    have t1 : w32 ((86400 * D + R).tdiv 86400) = D := by
      rw [Int.tdiv_eq_ediv_of_nonneg (by omega), w32_of (by omega) (by omega)]; omega
    have t2 : (86400 * D + R).tmod 86400 = R := by
      rw [Int.tmod_eq_emod_of_nonneg (by omega)]; omega
    obtain ⟨d1, d2, d3⟩ := dv R R0.1 R0.2
    have d4 : w32 (R / 3600) = R / 3600 := w32_of (by omega) (by omega)
    have d5 : (w32 (R / 60)).tmod 60 = R / 60 % 60 := by rw [w32_of (by omega) (by omega), Int.tmod_eq_emod_of_nonneg (by omega)]
    refine ⟨fun c => ?_, fun c => ?_⟩
    · rw [pl 0 c.symm, t1, t2, d1, d2, d3, d4, d5]
      subst c
      refine sp_writeDay hY y1 y2 hm m1 m2 ?_
      rw [up_row]
      refine sp_writeTwo (by omega) (by omega) (by omega) ?_
      rw [up_row]
      refine sp_writeTwo (by omega) (by omega) (by omega) ⟨fun _ => ?_, fun z => absurd rfl z⟩
      rw [up_row, w32_of (z := R % 60 + 0) (by omega) (by omega)]
      exact sp_writeTwo (by omega) (by omega) (by omega) k
    · have hq1 : q = 1 := by omega
      rw [pl 1 hq1.symm, t1, t2, d1, d2, d3, d4, d5]
      subst hq1
      refine sp_writeDay hY y1 y2 hm m1 m2 ?_
      rw [up_row]
      refine sp_writeTwo (by omega) (by omega) (by omega) ?_
      rw [up_row]
      refine sp_writeTwo (by omega) (by omega) (by omega) ⟨fun z => absurd z (by omega), fun _ => ?_⟩
      rw [up_row, w32_of (z := R % 60 + 1) (by omega) (by omega)]
      exact sp_writeTwo (by omega) (by omega) (by omega) k
  refine Call.of rfl (Nat.le_of_ble_eq_true rfl) rfl (U_X1_writeDate_12_11_0 ?_)
  have pb : ∀ n : Nat, 0 ≤ pcN (h 13) s n ∧ pcN (h 13) s n ≤ n := by
    intro n
    induction n with
    | zero => simp [pcN]
    | succ n ih => unfold pcN; split <;> omega
  have go : ∀ e n : Nat, n + e = L → AT G m_X1_writeDate 8 [(0, rv 12), (1, iv s), (2, rv 11), (3, iv (pcN (h 13) s n)), (4, iv (lfN (h 13) s n)), (5, iv (n : Int))] [] (row h 11 f) Φ := by
    intro e
    induction e with
    | zero =>
      intro n hn
      have e : n = L := by omega
      subst e
      rw [e1, e2]; exact fin
    | succ e ih =>
      intro n hn
      have t := ih (n + 1) (by omega)
      have fb := hf n (by omega) (by omega)
      have := pb n
      refine U_X1_writeDate_12_11_8 ⟨fun z => absurd z (by rw [r12]; omega), fun _ => ⟨by omega, ?_⟩⟩
      rw [r13]
      have el : w32 (w32 (w32 (h 13 n + 1) * 86400) + n) = lsec (h 13) n := by
        unfold lsec
        rw [w32_of (z := h 13 n + 1) (by omega) (by omega), w32_of (z := (h 13 n + 1) * 86400) (by omega) (by omega), w32_of (by omega) (by omega)]
      rw [el, w32_of (z := pcN (h 13) s n + 1) (by omega) (by omega), w32_of (z := (n : Int) + 1) (by omega) (by omega)]
      unfold pcN lfN at t
      rw [Int.natCast_add] at t
      refine ⟨fun c => ⟨fun c2 => ?_, fun c2 => ⟨fun c3 => ?_, fun c3 => ?_⟩⟩, fun c => ⟨fun c2 => ?_, fun c2 => ⟨fun c3 => ?_, fun c3 => ?_⟩⟩⟩
      · rw [if_neg (by omega), if_pos c2, Int.add_zero] at t; exact t
      · rw [if_neg (by omega), if_neg (by omega), if_neg c3, Int.add_zero] at t; exact t
      · rw [if_neg (by omega), if_neg (by omega), if_pos c3, Int.add_zero] at t; exact t
      · rw [if_pos (by omega), if_pos c2] at t; exact t
      · rw [if_pos (by omega), if_neg (by omega), if_neg c3] at t; exact t
      · rw [if_pos (by omega), if_neg (by omega), if_pos c3] at t; exact t
  exact go L 0 (by omega)
