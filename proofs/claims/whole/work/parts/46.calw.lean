/-! written -/
def cnt (f : Int → Int) (d : Int) : Nat → Int
  | 0 => 0
  | n + 1 => cnt f d n + (if f n < d then 1 else 0)
theorem cnt_b (f : Int → Int) (d : Int) : ∀ n, 0 ≤ cnt f d n ∧ cnt f d n ≤ n
  | 0 => by simp [cnt]
  | n + 1 => by
    have := cnt_b f d n
    unfold cnt; split <;> omega
theorem cnt_mono (f : Int → Int) {d e : Int} (h : d ≤ e) : ∀ n, cnt f d n ≤ cnt f e n
  | 0 => by simp [cnt]
  | n + 1 => by
    have := cnt_mono f h n
    unfold cnt; split <;> split <;> omega
theorem cnt_eq {f g : Int → Int} {d : Int} : ∀ n : Nat, (∀ i : Int, 0 ≤ i → i < n → f i = g i) → cnt f d n = cnt g d n
  | 0, _ => by simp [cnt]
  | n + 1, h => by
    have := cnt_eq (d := d) n (fun i a b => h i a (by omega))
    unfold cnt
    rw [this, h n (by omega) (by omega)]
theorem cnt_at {f : Int → Int} {d : Int} {p : Nat} : ∀ n : Nat, p ≤ n → (∀ i : Int, 0 ≤ i → i < p → f i < d) → (∀ i : Int, (p : Int) ≤ i → i < n → d ≤ f i) → cnt f d n = p
  | 0, h, _, _ => by simp [cnt]; omega
  | n + 1, h, a, b => by
    unfold cnt
    by_cases q : p = n + 1
    · subst q
      rw [if_pos (a n (by omega) (by omega))]
      have : ∀ n : Nat, (∀ i : Int, 0 ≤ i → i < n → f i < d) → cnt f d n = n := by
        intro n
        induction n with
        | zero => intro _; rfl
        | succ n ih => intro a; unfold cnt; rw [ih (fun i x y => a i x (by omega)), if_pos (a n (by omega) (by omega))]; omega
      rw [this n (fun i x y => a i x (by omega))]; omega
    · rw [if_neg (by have := b n (by omega) (by omega); omega), cnt_at n (by omega) a (fun i x y => b i x (by omega))]; omega
theorem sp_firstSecond {G : GG} {h : Hp} {Φ : Int → Hp → Prop} {d : Int} (hd : 0 ≤ d ∧ d ≤ 21915) {L : Nat} (e : h 85 9 = L) (hL : L ≤ 10) (k : Φ (86400 * d + cnt (h 89) d L) h) : Call G m_X12_firstSecond [rv 85, iv d] h Φ := by
  refine Call.of rfl (Nat.le_of_ble_eq_true rfl) rfl (U_X12_firstSecond_85_0 ?_)
  rw [w32_of (by omega) (by omega)]
  have go : ∀ r n : Nat, n + r = L → AT G m_X12_firstSecond 8 [(0, rv 85), (1, iv d), (2, iv (86400 * d + cnt (h 89) d n)), (3, iv (n : Int))] [] h Φ := by
    intro r
    induction r with
    | zero =>
      intro n hn
      have e2 : n = L := by omega
      subst e2
      exact U_X12_firstSecond_85_8 ⟨fun _ => k, fun z => absurd z (by omega)⟩
    | succ r ih =>
      intro n hn
      have t := ih (n + 1) (by omega)
      have b := cnt_b (h 89) d n
      refine U_X12_firstSecond_85_8 ⟨fun z => absurd z (by omega), fun _ => ⟨by omega, ?_⟩⟩
      rw [w32_of (z := 86400 * d + cnt (h 89) d n + 0) (by omega) (by omega), w32_of (z := 86400 * d + cnt (h 89) d n + 1) (by omega) (by omega), w32_of (z := (n : Int) + 1) (by omega) (by omega)]
      unfold cnt at t
      refine ⟨fun c => ?_, fun c => ?_⟩
      · rw [if_neg (by omega), ← Int.add_assoc] at t
        exact t
      · rw [if_pos c, ← Int.add_assoc] at t
        exact t
  have := go L 0 (by omega)
  simpa [cnt] using this
def lsec (f : Int → Int) (i : Int) : Int := (f i + 1) * 86400 + i
def pcN (f : Int → Int) (s : Int) : Nat → Int
  | 0 => 0
  | n + 1 => pcN f s n + (if lsec f n < s then 1 else 0)
def lfN (f : Int → Int) (s : Int) : Nat → Int
  | 0 => 0
  | n + 1 => if lfN f s n ≠ 0 then 1 else if s = lsec f n then 1 else 0
theorem leap_find {f : Int → Int} {s : Int} : ∀ n : Nat, (∀ i j : Int, 0 ≤ i → i < j → j < n → f i < f j) → ∃ p : Nat, p ≤ n ∧ pcN f s n = p ∧ (∀ i : Int, 0 ≤ i → i < p → lsec f i < s) ∧ (∀ i : Int, (p : Int) ≤ i → i < n → s ≤ lsec f i) ∧ ((lfN f s n = 1 ∧ p < n ∧ s = lsec f p) ∨ (lfN f s n = 0 ∧ ∀ i : Int, 0 ≤ i → i < n → s ≠ lsec f i))
  | 0, _ => ⟨0, by omega, rfl, fun i a b => by omega, fun i a b => by omega, Or.inr ⟨rfl, fun i a b => by omega⟩⟩
  | n + 1, asc => by
    obtain ⟨p, p0, p1, p2, p3, p4⟩ := leap_find (s := s) n (fun i j a b c => asc i j a b (by omega))
    have mono : ∀ i : Int, 0 ≤ i → i < n → lsec f i < lsec f n := fun i a b => by
      have := asc i n a b (by omega)
      unfold lsec; omega
    by_cases q : lsec f n < s
    · have e : p = n := by
        rcases Nat.lt_or_ge p n with z | z
        · have := p3 p (by omega) (by omega)
          have := mono p (by omega) (by omega)
          omega
        · omega
      subst e
      refine ⟨p + 1, by omega, ?_, ?_, fun i a b => by omega, Or.inr ⟨?_, ?_⟩⟩
      · unfold pcN; rw [if_pos q, p1]; omega
      · intro i a b
        by_cases z : i = p
        · subst z; exact q
        · exact p2 i a (by omega)
      · rcases p4 with z | z
        · omega
        · unfold lfN; rw [if_neg (by omega), if_neg (by omega)]
      · intro i a b
        by_cases z : i = p
        · subst z; omega
        · have := p2 i a (by omega); omega
    · refine ⟨p, by omega, ?_, p2, ?_, ?_⟩
      · unfold pcN; rw [if_neg q, p1]; omega
      · intro i a b
        by_cases z : i = n
        · subst z; omega
        · exact p3 i a (by omega)
      · rcases p4 with ⟨z1, z2, z3⟩ | ⟨z1, z2⟩
        · refine Or.inl ⟨?_, by omega, z3⟩
          unfold lfN; rw [if_pos (by omega)]
        · by_cases z : s = lsec f n
          · have e : p = n := by
              rcases Nat.lt_or_ge p n with y | y
              · have := p3 p (by omega) (by omega)
                have := mono p (by omega) (by omega)
                omega
              · omega
            subst e
            refine Or.inl ⟨?_, by omega, z⟩
            unfold lfN; rw [if_neg (by omega), if_pos z]
          · refine Or.inr ⟨?_, fun i a b => ?_⟩
            · unfold lfN; rw [if_neg (by omega), if_neg z]
            · by_cases y : i = n
              · subst y; exact z
              · exact z2 i a (by omega)
/-- the day of a second: p LEAPS before it; q is 1 on a LEAP -/
theorem day_of {f : Int → Int} {s : Int} {L : Nat} (hL : L ≤ 10) (hs : 0 ≤ s ∧ s < 86400 * 21915 + L) (hf : ∀ i : Int, 0 ≤ i → i < L → 0 ≤ f i ∧ f i ≤ 21914) (asc : ∀ i j : Int, 0 ≤ i → i < j → j < L → f i < f j) : ∃ D p : Int, 0 ≤ D ∧ D ≤ 21914 ∧ 0 ≤ p ∧ p ≤ 10 ∧ pcN f s L = p ∧ 86400 * D + cnt f D L ≤ s ∧ s < 86400 * (D + 1) + cnt f (D + 1) L ∧ cnt f D L = p ∧ ((lfN f s L = 1 ∧ s - p - 1 = 86400 * D + 86399) ∨ (lfN f s L = 0 ∧ s - p < 86400 * D + 86400)) := by
  obtain ⟨p, p0, p1, p2, p3, p4⟩ := leap_find (s := s) L asc
  rcases p4 with ⟨z1, z2, z3⟩ | ⟨z1, z2⟩
  · have hp := hf p (by omega) (by omega)
    unfold lsec at z3
    have c0 : cnt f (f p) L = p := cnt_at L (by omega) (fun i a b => asc i p a b (by omega)) (fun i a b => by
      by_cases q : i = p
      · subst q; omega
      · have := asc p i (by omega) (by omega) b; omega)
    have c1 : cnt f (f p + 1) L = (p + 1 : Nat) := cnt_at L (by omega) (fun i a b => by
      by_cases q : i = p
      · subst q; omega
      · have := asc i p a (by omega) (by omega); omega) (fun i a b => by have := asc p i (by omega) (by omega) b; omega)
    refine ⟨f p, p, by omega, by omega, by omega, by omega, p1, ?_, ?_, c0, Or.inl ⟨z1, by omega⟩⟩
    · omega
    · omega
  · have lo : 0 ≤ s - p := by
      by_cases q : p = 0
      · omega
      · have := p2 (p - 1) (by omega) (by omega)
        have hp := hf (p - 1) (by omega) (by omega)
        unfold lsec at this; omega
    have c0 : cnt f ((s - p) / 86400) L = p := by
      refine cnt_at L (by omega) (fun i a b => ?_) (fun i a b => ?_)
      · have h1 := p2 (p - 1) (by omega) (by omega)
        unfold lsec at h1
        have h2 : f i ≤ f (p - 1) := by
          by_cases q : i = p - 1
          · subst q; omega
          · have := asc i (p - 1) a (by omega) (by omega); omega
        omega
      · have h1 := p3 i a b
        have h3 := p3 p (by omega) (by omega)
        have h4 := z2 p (by omega) (by omega)
        unfold lsec at h1 h3 h4
        have h2 : f p ≤ f i := by
          by_cases q : i = p
          · subst q; omega
          · have := asc p i (by omega) (by omega) b; omega
        omega
    have hD : (s - p) / 86400 ≤ 21914 := by
      have : p < L ∨ p = L := by omega
      rcases this with q | q
      · have h3 := p3 p (by omega) (by omega)
        have h4 := z2 p (by omega) (by omega)
        have hp := hf p (by omega) (by omega)
        unfold lsec at h3 h4; omega
      · omega
    have c1 := cnt_mono f (show (s - p) / 86400 ≤ (s - p) / 86400 + 1 by omega) L
    exact ⟨(s - p) / 86400, p, by omega, hD, by omega, by omega, p1, by omega, by omega, c0, Or.inr ⟨z1, by omega⟩⟩
theorem find_step {g : Nat → Int} {D : Int} : ∀ n : Nat, g 0 ≤ D → D < g n → ∃ m : Nat, m < n ∧ g m ≤ D ∧ D < g (m + 1)
  | 0, a, b => by omega
  | n + 1, a, b => by
    by_cases q : g n ≤ D
    · exact ⟨n, by omega, q, b⟩
    · obtain ⟨m, c⟩ := find_step n a (by omega)
      exact ⟨m, by omega, c.2⟩
def put (f : Int → Int) (n v : Int) : Int → Int := fun i => if i = n then v else f i
theorem sp_add {G : GG} {h : Hp} {n x : Int} {f : Int → Int} {Φ : Int → Hp → Prop} (h0 : 0 ≤ n) (h1 : n < 288) (k : Φ 0 (szr 85 7 88 h (n + 1) (put f n x))) : Call G m_X12_add [rv 85, iv x] (szr 85 7 88 h n f) Φ := by
  refine Call.of rfl (Nat.le_of_ble_eq_true rfl) rfl (U_X12_add_85_0 ?_)
  rw [szr_n (by decide), szr_st (by decide), w32_of (by omega) (by omega)]
  exact ⟨fun z => absurd z (by omega), fun _ => ⟨⟨h0, h1⟩, k⟩⟩
theorem sp_digit2 {G : GG} {h : Hp} {n v : Int} {f : Int → Int} {Φ : Int → Hp → Prop} (h0 : 0 ≤ n) (h1 : n < 280) (hv : 0 ≤ v ∧ v ≤ 99) (k : Φ 0 (szr 85 7 88 h (n + 1 + 1) (put (put f n (48 + v / 10)) (n + 1) (48 + v % 10)))) : Call G m_X12_digit [rv 85, iv v, iv 2] (szr 85 7 88 h n f) Φ := by
  refine Call.of rfl (Nat.le_of_ble_eq_true rfl) rfl (U_X12_digit_85_0 ?_)
  refine U_X12_digit_85_5 ⟨fun z => absurd z (by omega), fun _ => ?_⟩
  rw [show w32 (1 * 10) = 10 by decide, show w32 (1 + 1) = 2 by decide]
  refine U_X12_digit_85_5 ⟨fun _ => ?_, fun z => absurd z (by omega)⟩
  refine U_X12_digit_85_22 ⟨fun z => absurd z (by omega), fun _ => ⟨by omega, sp_add h0 (by omega) ?_⟩⟩
  rw [show w32 (Int.tdiv 10 10) = 1 by decide]
  refine U_X12_digit_85_22 ⟨fun z => absurd z (by omega), fun _ => ⟨by omega, sp_add (by omega) (by omega) ?_⟩⟩
  rw [show w32 (Int.tdiv 1 10) = 0 by decide]
  refine U_X12_digit_85_22 ⟨fun _ => ?_, fun z => absurd z (by omega)⟩
  rw [Int.tdiv_eq_ediv_of_nonneg hv.1, Int.tdiv_eq_ediv_of_nonneg hv.1, w32_of (z := v / 10) (by omega) (by omega), w32_of (z := v / 1) (by omega) (by omega), Int.tmod_eq_emod_of_nonneg (by omega), Int.tmod_eq_emod_of_nonneg (by omega), w32_of (by omega) (by omega), w32_of (by omega) (by omega), show v / 10 % 10 = v / 10 by omega, Int.ediv_one]
  exact k
theorem sp_digit4 {G : GG} {h : Hp} {n v : Int} {f : Int → Int} {Φ : Int → Hp → Prop} (h0 : 0 ≤ n) (h1 : n < 280) (hv : 0 ≤ v ∧ v ≤ 9999) (k : Φ 0 (szr 85 7 88 h (n + 1 + 1 + 1 + 1) (put (put (put (put f n (48 + v / 1000)) (n + 1) (48 + v / 100 % 10)) (n + 1 + 1) (48 + v / 10 % 10)) (n + 1 + 1 + 1) (48 + v % 10)))) : Call G m_X12_digit [rv 85, iv v, iv 4] (szr 85 7 88 h n f) Φ := by
  refine Call.of rfl (Nat.le_of_ble_eq_true rfl) rfl (U_X12_digit_85_0 ?_)
  refine U_X12_digit_85_5 ⟨fun z => absurd z (by omega), fun _ => ?_⟩
  rw [show w32 (1 * 10) = 10 by decide, show w32 (1 + 1) = 2 by decide]
  refine U_X12_digit_85_5 ⟨fun z => absurd z (by omega), fun _ => ?_⟩
  rw [show w32 (10 * 10) = 100 by decide, show w32 (2 + 1) = 3 by decide]
  refine U_X12_digit_85_5 ⟨fun z => absurd z (by omega), fun _ => ?_⟩
  rw [show w32 (100 * 10) = 1000 by decide, show w32 (3 + 1) = 4 by decide]
  refine U_X12_digit_85_5 ⟨fun _ => ?_, fun z => absurd z (by omega)⟩
  refine U_X12_digit_85_22 ⟨fun z => absurd z (by omega), fun _ => ⟨by omega, sp_add h0 (by omega) ?_⟩⟩
  rw [show w32 (Int.tdiv 1000 10) = 100 by decide]
  refine U_X12_digit_85_22 ⟨fun z => absurd z (by omega), fun _ => ⟨by omega, sp_add (by omega) (by omega) ?_⟩⟩
  rw [show w32 (Int.tdiv 100 10) = 10 by decide]
  refine U_X12_digit_85_22 ⟨fun z => absurd z (by omega), fun _ => ⟨by omega, sp_add (by omega) (by omega) ?_⟩⟩
  rw [show w32 (Int.tdiv 10 10) = 1 by decide]
  refine U_X12_digit_85_22 ⟨fun z => absurd z (by omega), fun _ => ⟨by omega, sp_add (by omega) (by omega) ?_⟩⟩
  rw [show w32 (Int.tdiv 1 10) = 0 by decide]
  refine U_X12_digit_85_22 ⟨fun _ => ?_, fun z => absurd z (by omega)⟩
  simp only [Int.tdiv_eq_ediv_of_nonneg hv.1]
  rw [w32_of (z := v / 1000) (by omega) (by omega), w32_of (z := v / 100) (by omega) (by omega), w32_of (z := v / 10) (by omega) (by omega), w32_of (z := v / 1) (by omega) (by omega)]
  rw [Int.tmod_eq_emod_of_nonneg (show 0 ≤ v / 1000 by omega), Int.tmod_eq_emod_of_nonneg (show 0 ≤ v / 100 by omega), Int.tmod_eq_emod_of_nonneg (show 0 ≤ v / 10 by omega), Int.tmod_eq_emod_of_nonneg (show 0 ≤ v / 1 by omega)]
  rw [w32_of (z := 48 + v / 1000 % 10) (by omega) (by omega), w32_of (z := 48 + v / 100 % 10) (by omega) (by omega), w32_of (z := 48 + v / 10 % 10) (by omega) (by omega), w32_of (z := 48 + v / 1 % 10) (by omega) (by omega), show v / 1000 % 10 = v / 1000 by omega, Int.ediv_one]
  exact k
theorem up_row {h : Hp} {k : Nat} {f : Int → Int} {i v : Int} : up (row h k f) k i v = row h k (put f i v) := by
  funext k' i'
  unfold up row put
  by_cases q : k' = k
  · simp [q]
  · simp [q]
theorem sp_writeTwo {G : GG} {h : Hp} {n v : Int} {f : Int → Int} {Φ : Int → Hp → Prop} (h0 : 0 ≤ n) (h1 : n < 280) (hv : 0 ≤ v ∧ v ≤ 99) (k : Φ 0 (row h 11 (put (put f n (48 + v / 10)) (n + 1) (48 + v % 10)))) : Call G m_X1_writeTwo [iv v, rv 11, iv n] (row h 11 f) Φ := by
  refine Call.of rfl (Nat.le_of_ble_eq_true rfl) rfl (U_X1_writeTwo_11_0 ?_)
  rw [w32_of (z := n + 1) (by omega) (by omega), Int.tdiv_eq_ediv_of_nonneg hv.1, Int.tmod_eq_emod_of_nonneg hv.1, w32_of (z := v / 10) (by omega) (by omega), w32_of (z := 48 + v / 10) (by omega) (by omega), w32_of (z := 48 + v % 10) (by omega) (by omega), up_row, up_row]
  exact ⟨by omega, by omega, k⟩
