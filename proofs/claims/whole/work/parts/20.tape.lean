/-! THE TAPE and THE OUT: feed, end, out -/
def row (h : Hp) (k : Nat) (f : Int → Int) : Hp := fun k' i => if k' = k then f i else h k' i
theorem row_eq {h : Hp} {k : Nat} {f : Int → Int} : row h k f k = f := by funext i; simp [row]
theorem row_ne {h : Hp} {k k' : Nat} {f : Int → Int} (e : k' ≠ k) : row h k f k' = h k' := by funext i; simp [row, e]
/-- the bytes of an int behind s bytes -/
def app4 (f : Int → Int) (s x : Int) : Int → Int := fun i => if s ≤ i ∧ i < s + 4 then (x / (if i = s then 16777216 else if i = s + 1 then 65536 else if i = s + 2 then 256 else 1)) % 256 else f i
theorem app4_lt {f : Int → Int} {s x i : Int} (h : i < s) : app4 f s x i = f i := by unfold app4; rw [if_neg (by omega)]
theorem app4_cg {f g : Int → Int} {s x : Int} (h : ∀ i, 0 ≤ i → i < s → g i = f i) : ∀ i, 0 ≤ i → i < s + 4 → app4 g s x i = app4 f s x i := by
  intro i h0 h1
  unfold app4
  by_cases q : s ≤ i ∧ i < s + 4
  · rw [if_pos q, if_pos q]
  · rw [if_neg q, if_neg q]
    exact h i h0 (by omega)
theorem app4_b {f : Int → Int} {s x : Int} (h : ∀ i, 0 ≤ i → i < s → 0 ≤ f i ∧ f i ≤ 255) : ∀ i, 0 ≤ i → i < s + 4 → 0 ≤ app4 f s x i ∧ app4 f s x i ≤ 255 := by
  intro i h0 h1
  unfold app4
  by_cases q : s ≤ i ∧ i < s + 4
  · rw [if_pos q]
    omega
  · rw [if_neg q]
    exact h i h0 (by omega)
theorem sel_u {x : Int} (hx : i32 x) : band (bushr x 24) 255 = (x / 16777216) % 256 ∧ band (bushr x 16) 255 = (x / 65536) % 256 ∧ band (bushr x 8) 255 = (x / 256) % 256 ∧ band (bushr x 0) 255 = x % 256 := by
  have a := bushr_n (x := x) 24 (by omega) (by omega)
  have b := bushr_n (x := x) 16 (by omega) (by omega)
  have c := bushr_n (x := x) 8 (by omega) (by omega)
  have d : bushr x 0 = x := by
    unfold bushr
    have : ((Int32.ofInt x).toUInt32 >>> ((Int32.ofInt 0).toUInt32 &&& Int32.toUInt32 31)).toInt32 = Int32.ofInt x := b_ext fun i _ => by
      have := b_ushr 0 (by omega) (Int32.ofInt x) i
      rw [Nat.zero_add] at this
      exact this
    rw [this, t_o32 hx]
  simp only [band_255x]
  rw [show (24 : Int) = ((24 : Nat) : Int) from rfl, show (16 : Int) = ((16 : Nat) : Int) from rfl, show (8 : Int) = ((8 : Nat) : Int) from rfl, a, b, c, d]
  simp only [Nat.reducePow]
  refine ⟨by omega, by omega, by omega, ?_⟩
  first | rfl | trivial | (rw [d]) | (show _ = _; rfl)
theorem sel_s {x : Int} (hx : i32 x) : band (bshr x 24) 255 = (x / 16777216) % 256 ∧ band (bshr x 16) 255 = (x / 65536) % 256 ∧ band (bshr x 8) 255 = (x / 256) % 256 ∧ band (bshr x 0) 255 = x % 256 := by
  have a := bshr_n (x := x) 24 (by omega) hx
  have b := bshr_n (x := x) 16 (by omega) hx
  have c := bshr_n (x := x) 8 (by omega) hx
  have d := bshr_0 hx
  simp only [band_255x]
  rw [show (24 : Int) = ((24 : Nat) : Int) from rfl, show (16 : Int) = ((16 : Nat) : Int) from rfl, show (8 : Int) = ((8 : Nat) : Int) from rfl, a, b, c, d]
  simp only [Nat.reducePow]
  refine ⟨by omega, by omega, by omega, ?_⟩
  first | rfl | trivial | (rw [d]) | (show _ = _; rfl)
theorem w32s {z : Int} (h : -2147483648 ≤ z ∧ z ≤ 2147483647) : w32 z = z := w32_of h.1 h.2
/-- a size (cell a, place b) and a row of bytes (cell c) -/
def szr (a : Nat) (b : Int) (c : Nat) (h : Hp) (n : Int) (f : Int → Int) : Hp := row (up h a b n) c f
theorem szr_id {a : Nat} {b : Int} {c : Nat} {h : Hp} : szr a b c h (h a b) (h c) = h := by
  funext k i
  unfold szr row up
  by_cases q : k = c
  · subst q; simp
  · by_cases q2 : k = a ∧ i = b
    · obtain ⟨rfl, rfl⟩ := q2; simp [q]
    · simp [q, q2]
theorem szr_n {a : Nat} {b : Int} {c : Nat} (hac : a ≠ c) {h : Hp} {n : Int} {f : Int → Int} : szr a b c h n f a b = n := by simp [szr, row, up, hac]
theorem szr_f {a : Nat} {b : Int} {c : Nat} {h : Hp} {n : Int} {f : Int → Int} : szr a b c h n f c = f := row_eq
theorem szr_o {a : Nat} {b : Int} {c : Nat} {h : Hp} {n : Int} {f : Int → Int} {k : Nat} {i : Int} (h1 : k ≠ c) (h2 : k ≠ a ∨ i ≠ b) : szr a b c h n f k i = h k i := by
  unfold szr row up
  rw [if_neg h1, if_neg (by intro q; rcases h2 with z | z; exact z q.1; exact z q.2)]
theorem szr_st {a : Nat} {b : Int} {c : Nat} (hac : a ≠ c) {h : Hp} {n v m : Int} {f : Int → Int} : up (up (szr a b c h n f) c n v) a b m = szr a b c h m (fun i => if i = n then v else f i) := by
  funext k i
  unfold szr row up
  by_cases q : k = c
  · subst q
    have : ¬ k = a := fun z => hac z.symm
    simp [this]
  · by_cases q2 : k = a ∧ i = b
    · obtain ⟨rfl, rfl⟩ := q2; simp [hac]
    · simp [q, q2]
theorem app4_it {f : Int → Int} {s x : Int} : (fun i => if i = s + 3 then x % 256 else (fun i => if i = s + 2 then x / 256 % 256 else (fun i => if i = s + 1 then x / 65536 % 256 else (fun i => if i = s then x / 16777216 % 256 else f i) i) i) i) = app4 f s x := by
  funext i
  unfold app4
  dsimp only
  by_cases c0 : i = s
  · subst c0
    rw [if_neg (by omega), if_neg (by omega), if_neg (by omega), if_pos rfl, if_pos (by omega), if_pos rfl]
  · by_cases c1 : i = s + 1
    · subst c1
      rw [if_neg (by omega), if_neg (by omega), if_pos rfl, if_pos (by omega), if_neg (by omega), if_pos rfl]
    · by_cases c2 : i = s + 2
      · subst c2
        rw [if_neg (by omega), if_pos rfl, if_pos (by omega), if_neg (by omega), if_neg (by omega), if_pos rfl]
      · by_cases c3 : i = s + 3
        · subst c3
          rw [if_pos rfl, if_pos (by omega), if_neg (by omega), if_neg (by omega), if_neg (by omega)]
          omega
        · rw [if_neg c3, if_neg c2, if_neg c1, if_neg c0, if_neg (by omega)]
theorem sp_append {G : GG} {h : Hp} {n x : Int} {f : Int → Int} {Φ : Int → Hp → Prop} (h0 : 0 ≤ n) (h1 : n + 4 ≤ 1600) (k : Φ 0 (szr 2 1 3 h (n + 4) (app4 f n x))) : Call G m_X10_append [rv 2, iv x] (szr 2 1 3 h n f) Φ := by
  refine Call.ok fun _ oa => ?_
  have hx : i32 x := oa (iv x) (by simp)
  obtain ⟨s1, s2, s3, s4⟩ := sel_u hx
  have go : ∀ (m : Int) (g : Int → Int) (sh : Int), 0 ≤ m → m < 1600 → 0 ≤ sh → AT G m_X10_append 3 [(0, rv 2), (1, iv x), (2, iv (w32 (sh + (-8))))] [] (szr 2 1 3 h (m + 1) (fun i => if i = m then band (bushr x sh) 255 else g i)) Φ → AT G m_X10_append 3 [(0, rv 2), (1, iv x), (2, iv sh)] [] (szr 2 1 3 h m g) Φ := by
    intro m g sh a1 a2 a3 kk
    refine U_X10_append_2_3 ⟨fun c => absurd c (by omega), fun _ => ?_⟩
    rw [szr_n (by decide)]
    refine ⟨fun c => absurd c (by omega), fun _ => ⟨⟨a1, a2⟩, ?_⟩⟩
    rw [szr_st (by decide), w32s (z := m + 1) (by omega)]
    exact kk
  refine Call.of rfl (Nat.le_of_ble_eq_true rfl) rfl (U_X10_append_2_0 (go n f 24 h0 (by omega) (by omega) ?_))
  rw [s1, show w32 (24 + -8) = 16 by decide]
  refine go (n + 1) _ 16 (by omega) (by omega) (by omega) ?_
  rw [s2, show w32 (16 + -8) = 8 by decide, show n + 1 + 1 = n + 2 by omega]
  refine go (n + 2) _ 8 (by omega) (by omega) (by omega) ?_
  rw [s3, show w32 (8 + -8) = 0 by decide, show n + 2 + 1 = n + 3 by omega]
  refine go (n + 3) _ 0 (by omega) (by omega) (by omega) ?_
  rw [s4, show w32 (0 + -8) = -8 by decide, show n + 3 + 1 = n + 4 by omega, app4_it]
  exact U_X10_append_2_3 ⟨fun _ => k, fun c => absurd c (by omega)⟩
theorem sp_four {G : GG} {h : Hp} {n x : Int} {f : Int → Int} {Φ : Int → Hp → Prop} (h0 : 0 ≤ n) (h1 : n + 4 ≤ 1600) (k : Φ 0 (szr 85 3 86 h (n + 4) (app4 f n x))) : Call G m_X12_four [rv 85, iv x] (szr 85 3 86 h n f) Φ := by
  refine Call.ok fun _ oa => ?_
  have hx : i32 x := oa (iv x) (by simp)
  obtain ⟨s1, s2, s3, s4⟩ := sel_s hx
  have go : ∀ (m : Int) (g : Int → Int) (sh : Int), 0 ≤ m → m < 1600 → 0 ≤ sh → AT G m_X12_four 3 [(0, rv 85), (1, iv x), (2, iv (w32 (sh + (-8))))] [] (szr 85 3 86 h (m + 1) (fun i => if i = m then band (bshr x sh) 255 else g i)) Φ → AT G m_X12_four 3 [(0, rv 85), (1, iv x), (2, iv sh)] [] (szr 85 3 86 h m g) Φ := by
    intro m g sh a1 a2 a3 kk
    refine U_X12_four_85_3 ⟨fun c => absurd c (by omega), fun _ => ?_⟩
    rw [szr_n (by decide)]
    refine ⟨⟨a1, a2⟩, ?_⟩
    rw [szr_st (by decide), w32s (z := m + 1) (by omega)]
    exact kk
  refine Call.of rfl (Nat.le_of_ble_eq_true rfl) rfl (U_X12_four_85_0 (go n f 24 h0 (by omega) (by omega) ?_))
  rw [s1, show w32 (24 + -8) = 16 by decide]
  refine go (n + 1) _ 16 (by omega) (by omega) (by omega) ?_
  rw [s2, show w32 (16 + -8) = 8 by decide, show n + 1 + 1 = n + 2 by omega]
  refine go (n + 2) _ 8 (by omega) (by omega) (by omega) ?_
  rw [s3, show w32 (8 + -8) = 0 by decide, show n + 2 + 1 = n + 3 by omega]
  refine go (n + 3) _ 0 (by omega) (by omega) (by omega) ?_
  rw [s4, show w32 (0 + -8) = -8 by decide, show n + 3 + 1 = n + 4 by omega, app4_it]
  exact U_X12_four_85_3 ⟨fun _ => k, fun c => absurd c (by omega)⟩
/-- class and model hold the same tape -/
def IT (h : Hp) : Prop := 0 ≤ h 2 1 ∧ h 2 1 ≤ 1600 ∧ h 85 3 = h 2 1 ∧ ∀ i, 0 ≤ i → i < h 2 1 → h 86 i = h 3 i ∧ 0 ≤ h 3 i ∧ h 3 i ≤ 255
def IO (h : Hp) : Prop := 0 ≤ h 1 3 ∧ h 1 3 ≤ 288 ∧ h 85 7 = h 1 3 ∧ ∀ i, 0 ≤ i → i < h 1 3 → h 88 i = h 11 i
def app20 (f : Int → Int) (s a b c d e : Int) : Int → Int := app4 (app4 (app4 (app4 (app4 f s a) (s + 4) b) (s + 4 + 4) c) (s + 4 + 4 + 4) d) (s + 4 + 4 + 4 + 4) e
theorem app20_cg {f g : Int → Int} {s a b c d e : Int} (h : ∀ i, 0 ≤ i → i < s → g i = f i) : ∀ i, 0 ≤ i → i < s + 4 + 4 + 4 + 4 + 4 → app20 g s a b c d e i = app20 f s a b c d e i :=
  app4_cg (app4_cg (app4_cg (app4_cg (app4_cg h))))
theorem app20_b {f : Int → Int} {s a b c d e : Int} (h : ∀ i, 0 ≤ i → i < s → 0 ≤ f i ∧ f i ≤ 255) : ∀ i, 0 ≤ i → i < s + 4 + 4 + 4 + 4 + 4 → 0 ≤ app20 f s a b c d e i ∧ app20 f s a b c d e i ≤ 255 :=
  app4_b (app4_b (app4_b (app4_b (app4_b h))))
/-- what an operation leaves as it was: all but what P names -/
def FR (P : Nat → Int → Prop) (h h' : Hp) : Prop := ∀ k i, ¬ P k i → h' k i = h k i
theorem FR.rf {P : Nat → Int → Prop} {h : Hp} : FR P h h := fun _ _ _ => rfl
/-- both answer alike, and the invariant holds behind -/
def BOTH (G : GG) (M1 M2 : MD) (as : List AV) (h : Hp) (Ψ : Hp → Prop) : Prop := Call G M1 (rv 1 :: as) h (fun r h1 => Call G M2 (rv 85 :: as) h1 (fun r2 h2 => r = r2 ∧ Ψ h2))
def PT (k : Nat) (i : Int) : Prop := k = 2 ∧ i = 1 ∨ k = 3 ∨ k = 85 ∧ i = 3 ∨ k = 86
theorem op_feed {G : GG} {h : Hp} {a b c d e : Int} (hI : IT h) : BOTH G m_X11_feed m_X12_feed [iv a, iv b, iv c, iv d, iv e] h (fun h' => IT h' ∧ FR PT h h') := by
  obtain ⟨i0, i1, i2, i3⟩ := hI
  unfold BOTH
  refine Call.of rfl (Nat.le_of_ble_eq_true rfl) rfl (U_X11_feed_1_0 ?_)
  rw [w32s (by omega)]
  refine ⟨fun q => ?_, fun q => ?_⟩
  · have hh : h = szr 2 1 3 h (h 2 1) (h 3) := szr_id.symm
    generalize hn : h 2 1 = n at *
    generalize hf : h 3 = f at *
    rw [hh]
    refine sp_append i0 (by omega) (sp_append (by omega) (by omega) (sp_append (by omega) (by omega) (sp_append (by omega) (by omega) (sp_append (by omega) (by omega) ?_))))
    rw [szr_n (by decide)]
    refine Call.of rfl (Nat.le_of_ble_eq_true rfl) rfl (U_X12_feed_85_0 ?_)
    rw [szr_o (by decide) (Or.inl (by decide)), i2, w32s (by omega)]
    refine ⟨fun _ => ?_, fun z => absurd z (by omega)⟩
    generalize hg : szr 2 1 3 h (n + 4 + 4 + 4 + 4 + 4) _ = g
    have g1 : g 85 3 = n := by rw [← hg, szr_o (by decide) (Or.inl (by decide)), i2]
    have hh2 : g = szr 85 3 86 g n (g 86) := by rw [← g1]; exact szr_id.symm
    rw [hh2]
    refine sp_four i0 (by omega) (sp_four (by omega) (by omega) (sp_four (by omega) (by omega) (sp_four (by omega) (by omega) (sp_four (by omega) (by omega) ?_))))
    rw [szr_n (by decide)]
    have f21 : ∀ (m : Int) (F : Int → Int), szr 85 3 86 g m F 2 1 = n + 4 + 4 + 4 + 4 + 4 := fun m F => by rw [szr_o (by decide) (Or.inl (by decide)), ← hg, szr_n (by decide)]
    have f3 : ∀ (m : Int) (F : Int → Int) (i : Int), szr 85 3 86 g m F 3 i = app20 f n a b c d e i := fun m F i => by rw [szr_o (by decide) (Or.inl (by decide)), ← hg, szr_f]; rfl
    have g86 : ∀ i, g 86 i = h 86 i := fun i => by rw [← hg, szr_o (by decide) (Or.inl (by decide))]
    refine ⟨rfl, ⟨?_, ?_, ?_, ?_⟩, ?_⟩
    · rw [f21]; omega
    · rw [f21]; omega
    · rw [f21, szr_n (by decide)]
    · intro i q0 q1
      rw [f21] at q1
      rw [f3, szr_f]
      refine ⟨app20_cg (fun i a1 a2 => ?_) i q0 q1, app20_b (fun i a1 a2 => (i3 i a1 a2).2) i q0 q1⟩
      rw [g86]
      exact (i3 i a1 a2).1
    · intro k i q
      rw [szr_o (fun z => q (Or.inr (Or.inr (Or.inr z)))) (by
        by_cases z : k = 85
        · exact Or.inr fun z2 => q (Or.inr (Or.inr (Or.inl ⟨z, z2⟩)))
        · exact Or.inl z), ← hg, szr_o (fun z => q (Or.inr (Or.inl z))) (by
        by_cases z : k = 2
        · exact Or.inr fun z2 => q (Or.inl ⟨z, z2⟩)
        · exact Or.inl z)]
      exact congrFun (congrFun hh k) i
  · refine Call.of rfl (Nat.le_of_ble_eq_true rfl) rfl (U_X12_feed_85_0 ?_)
    rw [i2, w32s (by omega)]
    exact ⟨fun z => absurd z (by omega), fun _ => ⟨rfl, ⟨i0, i1, i2, i3⟩, FR.rf⟩⟩
theorem op_end {G : GG} {h : Hp} {a : Int} (hI : IT h) : BOTH G m_X11_end m_X12_end [iv a] h (fun h' => IT h' ∧ FR PT h h') := by
  obtain ⟨i0, i1, i2, i3⟩ := hI
  unfold BOTH
  refine Call.of rfl (Nat.le_of_ble_eq_true rfl) rfl (U_X11_end_1_0 ⟨fun c => ?_, fun c => ⟨fun c2 => ?_, fun c2 => ?_⟩⟩)
  · exact Call.of rfl (Nat.le_of_ble_eq_true rfl) rfl (U_X12_end_85_0 ⟨fun _ => ⟨rfl, ⟨i0, i1, i2, i3⟩, FR.rf⟩, fun z => absurd z (by omega)⟩)
  · exact Call.of rfl (Nat.le_of_ble_eq_true rfl) rfl (U_X12_end_85_0 ⟨fun z => absurd z (by omega), fun _ => ⟨fun z => absurd z (by omega), fun _ => ⟨rfl, ⟨i0, i1, i2, i3⟩, FR.rf⟩⟩⟩)
  · refine Call.of rfl (Nat.le_of_ble_eq_true rfl) rfl (U_X12_end_85_0 ⟨fun z => absurd z (by omega), fun _ => ⟨fun _ => ⟨rfl, ⟨?_, ?_, ?_, ?_⟩, ?_⟩, fun z => absurd z ?_⟩⟩)
    · simp [up]; omega
    · simp [up]; omega
    · simp [up]
    · intro i q0 q1
      simp [up] at q1 ⊢
      exact i3 i q0 (by omega)
    · intro k i q
      unfold up
      rw [if_neg (fun z => q (Or.inr (Or.inr (Or.inl z)))), if_neg (fun z => q (Or.inl z))]
    · simp [up]; omega
theorem op_out {G : GG} {h : Hp} {a : Int} (hI : IO h) : BOTH G m_X11_out m_X12_out [iv a] h (fun h' => h' = h) := by
  obtain ⟨i0, i1, i2, i3⟩ := hI
  unfold BOTH
  refine Call.of rfl (Nat.le_of_ble_eq_true rfl) rfl (U_X11_out_1_0 ?_)
  rw [w32s (by omega)]
  refine ⟨fun c => ?_, fun c => ⟨fun c2 => ?_, fun c2 => ⟨by omega, ?_⟩⟩⟩
  all_goals refine Call.of rfl (Nat.le_of_ble_eq_true rfl) rfl (U_X12_out_85_0 ?_)
  all_goals rw [i2, w32s (by omega)]
  · exact ⟨fun _ => ⟨rfl, rfl⟩, fun z => absurd z (by omega)⟩
  · exact ⟨fun z => absurd z (by omega), fun _ => ⟨fun _ => ⟨rfl, rfl⟩, fun z => absurd z (by omega)⟩⟩
  · exact ⟨fun z => absurd z (by omega), fun _ => ⟨fun z => absurd z (by omega), fun _ => ⟨by omega, (i3 a c (by omega)).symm, rfl⟩⟩⟩
