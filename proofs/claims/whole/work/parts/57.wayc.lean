def ltr (t : Int) : Int := if t = 0 then 117 else if t = 1 then 108 else if t = 2 then 114 else 100
theorem xc903 : ∀ n : Nat, n < 4 → xc 903 (n : Int) = ltr n := by decide
theorem ltr_xc {t : Int} (h : 0 ≤ t ∧ t < 4) : xc 903 t = ltr t := by
  have := xc903 t.toNat (by omega)
  rw [toN' h.1] at this
  exact this
where toN' {z : Int} (h : 0 ≤ z) : ((z.toNat : Nat) : Int) = z := Int.toNat_of_nonneg h
theorem least4 {P : Int → Prop} (h : ∃ t, (0 ≤ t ∧ t < 4) ∧ P t) : ∃ t, (0 ≤ t ∧ t < 4) ∧ P t ∧ ∀ u, 0 ≤ u → u < t → ¬ P u := by
  by_cases p0 : P 0
  · exact ⟨0, by omega, p0, fun u a b => by omega⟩
  · by_cases p1 : P 1
    · exact ⟨1, by omega, p1, fun u a b => by have : u = 0 := by omega
                                              subst this; exact p0⟩
    · by_cases p2 : P 2
      · refine ⟨2, by omega, p2, fun u a b => ?_⟩
        have : u = 0 ∨ u = 1 := by omega
        rcases this with rfl | rfl
        · exact p0
        · exact p1
      · obtain ⟨t, t1, t2⟩ := h
        have : t = 3 := by
          have : t = 0 ∨ t = 1 ∨ t = 2 ∨ t = 3 := by omega
          rcases this with rfl | rfl | rfl | rfl
          · exact absurd t2 p0
          · exact absurd t2 p1
          · exact absurd t2 p2
          · rfl
        subst this
        refine ⟨3, by omega, t2, fun u a b => ?_⟩
        have : u = 0 ∨ u = 1 ∨ u = 2 := by omega
        rcases this with rfl | rfl | rfl
        · exact p0
        · exact p1
        · exact p2
/-- side t leads nearer, to a field of distance r -/
def nearer (bar : Int → Int) (to : Int) (r : Nat) (f t : Int) : Prop := fld (nbI f t) ∧ Ds bar to r (nbI f t)
def firstN (bar : Int → Int) (to : Int) (r : Nat) (f t : Int) : Prop := (0 ≤ t ∧ t < 4) ∧ nearer bar to r f t ∧ ∀ u, 0 ≤ u → u < t → ¬ nearer bar to r f u
theorem first_ex {bar : Int → Int} {to f : Int} {r : Nat} (h : Ds bar to (r + 1) f) : ∃ t, firstN bar to r f t := by
  obtain ⟨g, t, a1, a2, a3, a4, a5⟩ := Ds_step h
  obtain ⟨u, u1, u2, u3⟩ := least4 (P := nearer bar to r f) ⟨3 - t, by omega, by
    have := nb_sym a2 a3 a5 (by have := a1.1; omega)
    unfold nearer
    rw [this]; exact ⟨a2, a4⟩⟩
  exact ⟨u, u1, u2, u3⟩
theorem first_uniq {bar : Int → Int} {to f t u : Int} {r : Nat} (a : firstN bar to r f t) (b : firstN bar to r f u) : t = u := by
  rcases Int.lt_trichotomy t u with q | q | q
  · exact absurd a.2.1 (b.2.2 t a.1.1 q)
  · exact q
  · exact absurd b.2.1 (a.2.2 u b.1.1 q)
def Pth (bar : Int → Int) (to : Int) : Nat → Int → (Int → Int) → Int → Prop
  | 0, _, _, _ => True
  | r + 1, f, o, i => ∃ t, firstN bar to r f t ∧ o i = ltr t ∧ Pth bar to r (nbI f t) o (i + 1)
theorem Pth_uniq {bar : Int → Int} {to : Int} {o p : Int → Int} : ∀ (r : Nat) (f i : Int), Pth bar to r f o i → Pth bar to r f p i → ∀ j, i ≤ j → j < i + r → o j = p j
  | 0, f, i, _, _, j, a, b => by omega
  | r + 1, f, i, ⟨t, t1, t2, t3⟩, ⟨u, u1, u2, u3⟩, j, a, b => by
    have e := first_uniq t1 u1
    subst e
    by_cases q : j = i
    · subst q; rw [t2, u2]
    · exact Pth_uniq r (nbI f t) (i + 1) t3 u3 j (by omega) (by omega)
theorem sp_writeTurns {G : GG} {g : Hp} {Φ : Int → Hp → Prop} {bar C : Int → Int} {to fr : Int} {n : Nat} (hn : n ≤ 287) (hC : g 83 = C) (he : ∀ j : Nat, j < n → ∀ f, fld f → (C f = j ↔ Ds bar to j f)) (hf : fld fr) (hD : Ds bar to n fr) (k : ∀ o, Pth bar to n fr o 0 → Φ 0 (row g 11 o)) : Call G m_X9_writeTurns [rv 81, iv fr, iv (n : Int), rv 11] g Φ := by
  refine Call.of rfl (Nat.le_of_ble_eq_true rfl) rfl (U_X9_writeTurns_81_11_0 ?_)
  have r83 : ∀ o : Int → Int, row g 11 o 83 = C := fun o => by rw [row_ne (by decide)]; exact hC
  have side : ∀ (r : Nat) (f : Int) (i : Nat) (o : Int → Int) (t0 : Int), i + (r + 1) = n → fld f → firstN bar to r f t0 → AT G m_X9_writeTurns 6 [(0, rv 81), (2, iv (n : Int)), (3, rv 11), (4, iv (nbI f t0)), (5, iv ((i : Int) + 1))] [] (row g 11 (put o i (ltr t0))) Φ → ∀ (e : Nat) (t : Int), t + e = t0 → 0 ≤ t → AT G m_X9_writeTurns 15 [(0, rv 81), (2, iv (n : Int)), (3, rv 11), (4, iv f), (5, iv (i : Int)), (6, iv t)] [] (row g 11 o) Φ := by
    intro r f i o t0 hi hf hfirst kk e
    obtain ⟨b0, b1, b2⟩ := hfirst
    have last : Call G m_X9_neighbour [iv f, iv t0] (up (row g 11 o) 11 i (xc 903 t0)) (fun r1 h2 => AT G m_X9_writeTurns 6 [(0, rv 81), (2, iv (n : Int)), (3, rv 11), (4, iv r1), (5, iv (w32 ((i : Int) + 1)))] [] h2 Φ) := by
      refine sp_neighbour hf b0 ?_
      rw [up_row, ltr_xc b0, w32_of (by omega) (by omega)]
      exact kk
    induction e with
    | zero =>
      intro t ht t0'
      have et : t = t0 := by omega
      subst et
      refine U_X9_writeTurns_81_11_15 ⟨fun _ => ⟨by omega, by omega, last⟩, fun _ => sp_neighbour hf b0 ?_⟩
      refine Call.of rfl (Nat.le_of_ble_eq_true rfl) rfl (U_X9_isNearer_81_0 ?_)
      rw [r83, w32_of (z := (n : Int) - i) (by omega) (by omega), w32_of (z := (n : Int) - i - 1) (by omega) (by omega)]
      refine ⟨fun c => absurd c (by have := b1.1.1; omega), fun _ => ⟨b1.1, fun c => ?_, fun c => ⟨fun _ => ?_, fun z => absurd z (by decide)⟩⟩⟩
      · exact absurd ((he r (by omega) _ b1.1).mpr b1.2) (by omega)
      · exact ⟨by omega, by omega, last⟩
    | succ e ih =>
      intro t ht t0'
      have nt := b2 t t0' (by omega)
      have go := ih (t + 1) (by omega) (by omega)
      refine U_X9_writeTurns_81_11_15 ⟨fun z => absurd z (by omega), fun _ => sp_neighbour hf (by omega) ?_⟩
      refine Call.of rfl (Nat.le_of_ble_eq_true rfl) rfl (U_X9_isNearer_81_0 ?_)
      rw [r83, w32_of (z := (n : Int) - i) (by omega) (by omega), w32_of (z := (n : Int) - i - 1) (by omega) (by omega), w32_of (z := t + 1) (by omega) (by omega)]
      refine ⟨fun c => ⟨fun z => absurd rfl z, fun _ => go⟩, fun c => ?_⟩
      have hff : fld (nbI f t) := by
        rcases nb_f (t := t) hf with y | y
        · exact absurd y c
        · exact y
      refine ⟨hff, fun c2 => ⟨fun z => absurd rfl z, fun _ => go⟩, fun c2 => ?_⟩
      exact absurd ⟨hff, (he r (by omega) _ hff).mp (by omega)⟩ nt
  have main : ∀ (r : Nat) (f : Int) (i : Nat) (o : Int → Int), i + r = n → fld f → Ds bar to r f → (∀ p, (∀ j : Int, 0 ≤ j → j < i → p j = o j) → Pth bar to r f p i → Φ 0 (row g 11 p)) → AT G m_X9_writeTurns 6 [(0, rv 81), (2, iv (n : Int)), (3, rv 11), (4, iv f), (5, iv (i : Int))] [] (row g 11 o) Φ := by
    intro r
    induction r with
    | zero =>
      intro f i o hi hf hD kk
      exact U_X9_writeTurns_81_11_6 ⟨fun _ => kk o (fun _ _ _ => rfl) trivial, fun z => absurd z (by omega)⟩
    | succ r ih =>
      intro f i o hi hf hD kk
      obtain ⟨t0, f1⟩ := first_ex hD
      obtain ⟨⟨fa0, fa1⟩, fb, fc⟩ := id f1
      refine U_X9_writeTurns_81_11_6 ⟨fun z => absurd z (by omega), fun _ => ?_⟩
      refine side r f i o t0 (by omega) hf f1 ?_ t0.toNat 0 (by omega) (by omega)
      have t := ih (nbI f t0) (i + 1) (put o i (ltr t0)) (by omega) f1.2.1.1 f1.2.1.2 (fun p p1 p2 => kk p (fun j j0 j1 => ?_) ⟨t0, f1, ?_, ?_⟩)
      · rw [Int.natCast_add] at t
        exact t
      · rw [p1 j j0 (by omega)]; unfold put; rw [if_neg (by omega)]
      · rw [p1 i (by omega) (by omega)]; unfold put; rw [if_pos rfl]
      · rw [Int.natCast_add] at p2; exact p2
  have := main n fr 0 (g 11) (by omega) hf hD (fun p _ hp => k p hp)
  rw [row_id] at this
  exact this
/-- the model's distances, complete -/
theorem sp_search97 {G : GG} {g : Hp} {Φ : Int → Hp → Prop} {bar : Int → Int} {fr to : Int} (hb : ∀ f, fld f → g 151 f = bar f) (hto : fld to) (hbt : bar to = 0) (hfr : fld fr)
    (k : ∀ (F : Int → Int) (x8 : Int), tells bar to F → (∀ m f, ball bar to m f → F f ≠ -1) → AT G m_X12_way 97 [(0, rv 85), (5, iv fr), (6, iv to), (7, iv 0), (8, iv x8)] [] (row g 152 F) Φ) : AT G m_X12_way 61 [(0, rv 85), (5, iv fr), (6, iv to), (7, iv 0)] [] g Φ := by
  have r151 : ∀ (F : Int → Int) f, fld f → row g 152 F 151 f = bar f := fun F f hf => by rw [row_ne (by decide)]; exact hb f hf
  -- a round
  have round : ∀ (n : Nat) (F0 : Int → Int), n ≤ 288 → tells bar to F0 → (∀ f, fld f → (F0 f ≠ -1 ↔ ball bar to n f)) →
      (∀ F, tells bar to F → (∀ f, fld f → (F f ≠ -1 ↔ ball bar to (n + 1) f)) → nones F + 1 ≤ nones F0 → AT G m_X12_way 97 [(0, rv 85), (5, iv fr), (6, iv to), (7, iv 1), (8, iv ((n : Int) + 1))] [] (row g 152 F) Φ) →
      (∀ F, tells bar to F → (∀ f, fld f → (F f ≠ -1 ↔ ball bar to (n + 1) f)) → (∀ f, fld f → F f = F0 f) → AT G m_X12_way 97 [(0, rv 85), (5, iv fr), (6, iv to), (7, iv 0), (8, iv ((n : Int) + 1))] [] (row g 152 F) Φ) →
      AT G m_X12_way 108 [(0, rv 85), (5, iv fr), (6, iv to), (7, iv 0), (8, iv (n : Int)), (9, iv 0)] [] (row g 152 F0) Φ := by
    intro n F0 hn T0 B0 kmore kend
    -- invariant within: done are fields below f, and sides below t of f
    let RI : (Int → Int) → Int → Int → Int → Prop := fun F f t more =>
      tells bar to F ∧ (∀ x, fld x → F x ≠ -1 → ball bar to (n + 1) x) ∧ (∀ x, fld x → ball bar to n x → F x = F0 x) ∧ (∀ x u, fld x → (0 ≤ u ∧ u < 4) → F0 x = n → (x < f ∨ (x = f ∧ u < t)) → fld (nbI x u) → bar (nbI x u) = 0 → F (nbI x u) ≠ -1) ∧ ((more = 0 ∧ ∀ x, fld x → F x = F0 x) ∨ (more = 1 ∧ nones F + 1 ≤ nones F0))
    have fieldN : ∀ (F : Int → Int) (f t more : Int), RI F f t more → fld f → (F f = n ↔ F0 f = n) := by
      intro F f t more ⟨r1, r2, r3, r4, r5⟩ hf
      constructor
      · intro e
        rcases r1 f hf with y | ⟨k, k1, k2⟩
        · omega
        · have : k = n := by omega
          subst this
          rw [← r3 f hf k2.1]; exact e
      · intro e
        rw [r3 f hf ((B0 f hf).mp (by omega))]; exact e
    have sides : ∀ (e : Nat) (t : Int) (F : Int → Int) (f more : Int), t + e = 4 → 0 ≤ t → fld f → F0 f = n → RI F f t more → (∀ F more, RI F f 4 more → AT G m_X12_way 108 [(0, rv 85), (5, iv fr), (6, iv to), (7, iv more), (8, iv (n : Int)), (9, iv (f + 1))] [] (row g 152 F) Φ) → AT G m_X12_way 134 [(0, rv 85), (5, iv fr), (6, iv to), (7, iv more), (8, iv (n : Int)), (9, iv f), (10, iv t)] [] (row g 152 F) Φ := by
      intro e
      induction e with
      | zero =>
        intro t F f more ht t0 hf hF R kk
        have et : t = 4 := by omega
        subst et
        refine U_X12_way_85_134 ⟨fun _ => ?_, fun z => absurd z (by omega)⟩
        rw [w32_of (by unfold fld at hf; omega) (by unfold fld at hf; omega)]
        exact kk F more R
      | succ e ih =>
        intro t F f more ht t0 hf hF R kk
        obtain ⟨r1, r2, r3, r4, r5⟩ := id R
        have bf : ball bar to n f := (B0 f hf).mp (by omega)
        have skip : (fld (nbI f t) → bar (nbI f t) = 0 → F (nbI f t) ≠ -1) → AT G m_X12_way 134 [(0, rv 85), (5, iv fr), (6, iv to), (7, iv more), (8, iv (n : Int)), (9, iv f), (10, iv (t + 1))] [] (row g 152 F) Φ := fun hs => by
          refine ih (t + 1) F f more (by omega) (by omega) hf hF ⟨r1, r2, r3, fun x u hx hu hx0 hd hn2 hb2 => ?_, r5⟩ kk
          by_cases q : x = f ∧ u = t
          · obtain ⟨rfl, rfl⟩ := q; exact hs hn2 hb2
          · exact r4 x u hx hu hx0 (by omega) hn2 hb2
        refine U_X12_way_85_134 ⟨fun z => absurd z (by omega), fun _ => sp_beside hf (by omega) ?_⟩
        rw [w32_of (z := t + 1) (by omega) (by omega)]
        refine ⟨fun c => skip (fun z => absurd z.1 (by omega)), fun c => ?_⟩
        have hg : fld (nbI f t) := by
          rcases nb_f (t := t) hf with y | y
          · exact absurd y c
          · exact y
        rw [r151 F _ hg, row_eq]
        refine ⟨hg, fun c2 => skip (fun _ z => absurd z c2), fun c2 => ⟨hg, fun c3 => ⟨hg, ?_⟩, fun c3 => skip (fun _ _ => c3)⟩⟩
        rw [up_row, w32_of (z := (n : Int) + 1) (by omega) (by omega)]
        have nball : ¬ ball bar to n (nbI f t) := fun z => by
          have := r3 _ hg z
          rw [c3] at this
          exact (B0 _ hg).mpr z this.symm
        have b1 : ball bar to (n + 1) (nbI f t) := Or.inr ⟨hg, c2, f, t, hf, by omega, bf, rfl⟩
        have pne : ∀ x, F x ≠ -1 → put F (nbI f t) ((n : Int) + 1) x ≠ -1 := fun x hx => by
          unfold put; split
          · omega
          · exact hx
        refine ih (t + 1) _ f 1 (by omega) (by omega) hf hF ⟨fun x hx => ?_, fun x hx hx2 => ?_, fun x hx hx2 => ?_, fun x u hx hu hx0 hd hn2 hb2 => ?_, Or.inr ⟨rfl, ?_⟩⟩ kk
        · unfold put
          by_cases q : x = nbI f t
          · rw [if_pos q]
            refine Or.inr ⟨n + 1, by omega, ?_⟩
            rw [q]
            exact ⟨b1, fun m hm hbm => nball (ball_mono (by omega) hbm)⟩
          · rw [if_neg q]; exact r1 x hx
        · unfold put at hx2
          by_cases q : x = nbI f t
          · rw [q]; exact b1
          · rw [if_neg q] at hx2; exact r2 x hx hx2
        · unfold put
          rw [if_neg (fun q => nball (by rw [← q]; exact hx2))]
          exact r3 x hx hx2
        · by_cases q : x = f ∧ u = t
          · obtain ⟨rfl, rfl⟩ := q
            unfold put; rw [if_pos rfl]; omega
          · exact pne _ (r4 x u hx hu hx0 (by omega) hn2 hb2)
        · rw [nones_set hg c3 (by omega)]
          rcases r5 with ⟨_, y⟩ | ⟨_, y⟩
          · have : nones F = nones F0 := sumN_eq 288 (fun j hj => by rw [y j (by unfold fld; omega)])
            omega
          · omega
    have fields : ∀ (e : Nat) (f : Int) (F : Int → Int) (more : Int), f + e = 288 → 0 ≤ f → RI F f 0 more → AT G m_X12_way 108 [(0, rv 85), (5, iv fr), (6, iv to), (7, iv more), (8, iv (n : Int)), (9, iv f)] [] (row g 152 F) Φ := by
      intro e
      induction e with
      | zero =>
        intro f F more hf f0 ⟨r1, r2, r3, r4, r5⟩
        refine U_X12_way_85_108 ⟨fun _ => ?_, fun z => absurd z (by omega)⟩
        rw [w32_of (by omega) (by omega)]
        have bb : ∀ f, fld f → (F f ≠ -1 ↔ ball bar to (n + 1) f) := fun x hx => ⟨r2 x hx, fun h => by
          rcases h with z | ⟨z1, z2, y, u, z3, z4, z5, z6⟩
          · rw [r3 x hx z]; exact (B0 x hx).mpr z
          · obtain ⟨k, k1, k2⟩ := ball_Ds n z5
            by_cases q : k = n
            · subst q
              have e0 : F0 y = k := by
                rcases T0 y z3 with w | ⟨k', w1, w2⟩
                · exact absurd w ((B0 y z3).mpr z5)
                · have := Ds_uniq w2 k2; omega
              have := r4 y u z3 z4 e0 (Or.inl (by unfold fld at z3; omega)) (by rw [z6]; exact z1) (by rw [z6]; exact z2)
              rw [z6] at this; exact this
            · have : ball bar to n x := ball_mono (m := k + 1) (by omega) (Or.inr ⟨z1, z2, y, u, z3, z4, k2.1, z6⟩)
              rw [r3 x hx this]; exact (B0 x hx).mpr this⟩
        rcases r5 with ⟨rfl, y⟩ | ⟨rfl, y⟩
        · exact kend F r1 bb y
        · exact kmore F r1 bb y
      | succ e ih =>
        intro f F more hf f0 R
        have hff : fld f := ⟨f0, by omega⟩
        refine U_X12_way_85_108 ⟨fun z => absurd z (by omega), fun _ => ⟨hff, ?_⟩⟩
        rw [row_eq, w32_of (z := f + 1) (by omega) (by omega)]
        refine ⟨fun c => ?_, fun c => ?_⟩
        · refine sides 4 0 F f more (by omega) (by omega) hff ((fieldN F f 0 more R hff).mp c) R (fun F' more' R' => ih (f + 1) F' more' (by omega) (by omega) ?_)
          obtain ⟨r1, r2, r3, r4, r5⟩ := R'
          exact ⟨r1, r2, r3, fun x u hx hu hx0 hd hn2 hb2 => r4 x u hx hu hx0 (by omega) hn2 hb2, r5⟩
        · obtain ⟨r1, r2, r3, r4, r5⟩ := id R
          refine ih (f + 1) F more (by omega) (by omega) ⟨r1, r2, r3, fun x u hx hu hx0 hd hn2 hb2 => ?_, r5⟩
          by_cases q : x = f
          · subst q; exact absurd ((fieldN F x 0 more R hff).mpr hx0) c
          · exact r4 x u hx hu hx0 (by omega) hn2 hb2
    exact fields 288 0 F0 0 (by omega) (by omega) ⟨T0, fun x hx h => Or.inl ((B0 x hx).mp h), fun x hx h => rfl, fun x u hx hu hx0 hd => by unfold fld at hx; omega, Or.inl ⟨rfl, fun x hx => rfl⟩⟩
  have rounds : ∀ (e n : Nat) (F : Int → Int), nones F + n ≤ 288 → (n : Int) + e = 289 → tells bar to F → (∀ f, fld f → (F f ≠ -1 ↔ ball bar to n f)) → AT G m_X12_way 97 [(0, rv 85), (5, iv fr), (6, iv to), (7, iv 1), (8, iv (n : Int))] [] (row g 152 F) Φ := by
    intro e
    induction e with
    | zero =>
      intro n F hm hn T B
      have := sumN_b (f := fun j : Nat => if F j = -1 then 1 else 0) 288 (fun j _ => by split <;> omega)
      unfold nones at hm
      omega
    | succ e ih =>
      intro n F hm hn T B
      refine U_X12_way_85_97 ⟨fun z => absurd z (by omega), fun _ => ?_⟩
      refine round n F (by omega) T B (fun F' T' B' hn' => ?_) (fun F' T' B' eq' => ?_)
      · have t := ih (n + 1) F' (by omega) (by omega) T' B'
        rw [Int.natCast_add] at t
        exact t
      · refine k F' _ T' (closed ?_ (fun f t hf ht hc hnb hb2 => ?_))
        · exact (B' to hto).mpr (ball_mono (m := 0) (by omega) rfl)
        · have : ball bar to n f := (B f hf).mp (by rw [← eq' f hf]; exact hc)
          exact (B' _ hnb).mpr (Or.inr ⟨hnb, hb2, f, t, hf, ht, this, rfl⟩)
  have fill : ∀ (e i : Nat) (F : Int → Int), i + e = 288 → (∀ f : Int, 0 ≤ f → f < i → F f = -1) → AT G m_X12_way 61 [(0, rv 85), (5, iv fr), (6, iv to), (7, iv (i : Int))] [] (row g 152 F) Φ := by
    intro e
    induction e with
    | zero =>
      intro i F hi hF
      refine U_X12_way_85_61 ⟨fun _ => ⟨hto, ?_⟩, fun z => absurd z (by omega)⟩
      rw [up_row]
      have hall : ∀ f, fld f → F f = -1 := fun f hf => hF f hf.1 (by unfold fld at hf; omega)
      refine rounds 289 0 _ ?_ (by omega) (fun f hf => ?_) (fun f hf => ?_)
      · rw [nones_set hto (hall to hto) (by omega)]
        have := sumN_b (f := fun j : Nat => if F j = -1 then 1 else 0) 288 (fun j _ => by split <;> omega)
        unfold nones; omega
      · unfold put
        by_cases q : f = to
        · rw [if_pos q]; exact Or.inr ⟨0, rfl, q, fun m hm => by omega⟩
        · rw [if_neg q]; exact Or.inl (hall f hf)
      · unfold put
        by_cases q : f = to
        · rw [if_pos q]; exact ⟨fun _ => q, fun _ => by omega⟩
        · rw [if_neg q]; exact ⟨fun z => absurd (hall f hf) z, fun z => absurd z q⟩
    | succ e ih =>
      intro i F hi hF
      refine U_X12_way_85_61 ⟨fun z => absurd z (by omega), fun _ => ⟨by omega, ?_⟩⟩
      rw [up_row, w32_of (by omega) (by omega)]
      have t := ih (i + 1) (put F i (-1)) (by omega) (fun f f0 f1 => by
        unfold put
        by_cases q : f = i
        · rw [if_pos q]
        · rw [if_neg q]; exact hF f f0 (by omega))
      rw [Int.natCast_add] at t
      exact t
  have := fill 288 0 (g 152) (by omega) (fun f a b => by omega)
  rw [row_id] at this
  exact this
