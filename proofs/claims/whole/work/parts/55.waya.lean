/-! THE SKY: neighbours and distances -/
def nbI (f t : Int) : Int := if t = 0 then (if f < 24 then -1 else f - 24) else if t = 1 then f / 24 * 24 + (f % 24 + 23) % 24 else if t = 2 then f / 24 * 24 + (f % 24 + 1) % 24 else (if 264 ≤ f then -1 else f + 24)
def fld (f : Int) : Prop := 0 ≤ f ∧ f < 288
theorem nb_f {f t : Int} (hf : fld f) : nbI f t = -1 ∨ fld (nbI f t) := by
  unfold fld nbI at *
  split
  · split <;> omega
  · split
    · omega
    · split
      · omega
      · split <;> omega
theorem nb_sym {f t g : Int} (hf : fld f) (ht : 0 ≤ t ∧ t < 4) (e : nbI f t = g) (hg : g ≠ -1) : nbI g (3 - t) = f := by
  unfold fld nbI at *
  have : t = 0 ∨ t = 1 ∨ t = 2 ∨ t = 3 := by omega
  rcases this with rfl | rfl | rfl | rfl
  · simp at e ⊢
    split at e
    · omega
    · rw [if_neg (by omega)]; omega
  · simp at e ⊢; omega
  · simp at e ⊢; omega
  · simp at e ⊢
    split at e
    · omega
    · rw [if_neg (by omega)]; omega
theorem sp_neighbour {G : GG} {h : Hp} {Φ : Int → Hp → Prop} {f t : Int} (hf : fld f) (ht : 0 ≤ t ∧ t < 4) (k : Φ (nbI f t) h) : Call G m_X9_neighbour [iv f, iv t] h Φ := by
  unfold fld at hf
  refine Call.of rfl (Nat.le_of_ble_eq_true rfl) rfl (U_X9_neighbour_0 ?_)
  rw [Int.tdiv_eq_ediv_of_nonneg hf.1, Int.tmod_eq_emod_of_nonneg hf.1, w32_of (z := f / 24) (by omega) (by omega), w32_of (z := f / 24 * 24) (by omega) (by omega), w32_of (z := f % 24 + 24) (by omega) (by omega), w32_of (z := f % 24 + 24 - 1) (by omega) (by omega), w32_of (z := f % 24 + 1) (by omega) (by omega), Int.tmod_eq_emod_of_nonneg (by omega), Int.tmod_eq_emod_of_nonneg (by omega), w32_of (z := f - 24) (by omega) (by omega), w32_of (z := f + 24) (by omega) (by omega), w32_of (z := f / 24 * 24 + (f % 24 + 24 - 1) % 24) (by omega) (by omega), w32_of (z := f / 24 * 24 + (f % 24 + 1) % 24) (by omega) (by omega)]
  unfold nbI at k
  refine ⟨fun c => ?_, fun c => ?_, fun c => ?_, fun c => ?_⟩
  · rw [if_pos c] at k
    refine ⟨fun d => ?_, fun d => ?_⟩
    · rw [if_pos (by omega)] at k; exact k
    · rw [if_neg (by omega)] at k; exact k
  · rw [if_neg (by omega), if_pos c] at k
    rw [show f % 24 + 24 - 1 = f % 24 + 23 by omega]; exact k
  · rw [if_neg (by omega), if_neg (by omega), if_pos c] at k
    exact k
  · rw [if_neg (by omega), if_neg (by omega), if_neg (by omega)] at k
    refine ⟨fun d => ?_, fun d => ?_⟩
    · rw [if_pos (by omega)] at k; exact k
    · rw [if_neg (by omega)] at k; exact k
theorem sp_beside {G : GG} {h : Hp} {Φ : Int → Hp → Prop} {f t : Int} (hf : fld f) (ht : 0 ≤ t ∧ t < 4) (k : Φ (nbI f t) h) : Call G m_X12_beside [iv f, iv t] h Φ := by
  unfold fld at hf
  refine Call.of rfl (Nat.le_of_ble_eq_true rfl) rfl (U_X12_beside_0 ?_)
  rw [Int.tdiv_eq_ediv_of_nonneg hf.1, Int.tmod_eq_emod_of_nonneg hf.1, w32_of (z := f / 24) (by omega) (by omega), w32_of (z := 24 * (f / 24)) (by omega) (by omega), w32_of (z := f % 24 + 24) (by omega) (by omega), w32_of (z := f % 24 + 24 - 1) (by omega) (by omega), w32_of (z := f % 24 + 1) (by omega) (by omega), Int.tmod_eq_emod_of_nonneg (by omega), Int.tmod_eq_emod_of_nonneg (by omega), w32_of (z := f - 24) (by omega) (by omega), w32_of (z := f + 24) (by omega) (by omega), w32_of (z := 24 * (f / 24) + (f % 24 + 24 - 1) % 24) (by omega) (by omega), w32_of (z := 24 * (f / 24) + (f % 24 + 1) % 24) (by omega) (by omega)]
  unfold nbI at k
  refine ⟨fun c => ?_, fun c => ?_, fun c => ?_, fun c => ?_⟩
  · rw [if_pos c] at k
    refine ⟨fun d => ?_, fun d => ?_⟩
    · rw [if_neg (by omega)] at k; exact k
    · rw [if_pos (by omega)] at k; exact k
  · rw [if_neg (by omega), if_pos c] at k
    rw [show f % 24 + 24 - 1 = f % 24 + 23 by omega, Int.mul_comm]; exact k
  · rw [if_neg (by omega), if_neg (by omega), if_pos c] at k
    rw [Int.mul_comm]; exact k
  · rw [if_neg (by omega), if_neg (by omega), if_neg (by omega)] at k
    refine ⟨fun d => ?_, fun d => ?_⟩
    · rw [if_neg (by omega)] at k; exact k
    · rw [if_pos (by omega)] at k; exact k
/-- reached within n turns; bar is the row of barred fields -/
def ball (bar : Int → Int) (to : Int) : Nat → Int → Prop
  | 0, f => f = to
  | n + 1, f => ball bar to n f ∨ (fld f ∧ bar f = 0 ∧ ∃ g t, fld g ∧ (0 ≤ t ∧ t < 4) ∧ ball bar to n g ∧ nbI g t = f)
theorem ball_mono {bar : Int → Int} {to f : Int} {m n : Nat} (h : m ≤ n) (b : ball bar to m f) : ball bar to n f := by
  induction n with
  | zero => have : m = 0 := by omega
            subst this; exact b
  | succ n ih =>
    by_cases q : m = n + 1
    · subst q; exact b
    · exact Or.inl (ih (by omega))
def Ds (bar : Int → Int) (to : Int) (k : Nat) (f : Int) : Prop := ball bar to k f ∧ ∀ m, m < k → ¬ ball bar to m f
theorem Ds_uniq {bar : Int → Int} {to f : Int} {k m : Nat} (a : Ds bar to k f) (b : Ds bar to m f) : k = m := by
  rcases Nat.lt_trichotomy k m with q | q | q
  · exact absurd a.1 (b.2 k q)
  · exact q
  · exact absurd b.1 (a.2 m q)
theorem ball_Ds {bar : Int → Int} {to f : Int} : ∀ n, ball bar to n f → ∃ k, k ≤ n ∧ Ds bar to k f
  | 0, h => ⟨0, by omega, h, fun m z => by omega⟩
  | n + 1, h => by
    by_cases q : ball bar to n f
    · obtain ⟨k, k1, k2⟩ := ball_Ds n q
      exact ⟨k, by omega, k2⟩
    · refine ⟨n + 1, by omega, h, fun m hm hb => q (ball_mono (by omega) hb)⟩
theorem Ds_step {bar : Int → Int} {to f : Int} {k : Nat} (a : Ds bar to (k + 1) f) : ∃ g t, fld f ∧ fld g ∧ (0 ≤ t ∧ t < 4) ∧ Ds bar to k g ∧ nbI g t = f := by
  rcases a.1 with z | ⟨z1, z2, g, t, z3, z4, z5, z6⟩
  · exact absurd z (a.2 k (by omega))
  · refine ⟨g, t, z1, z3, z4, ⟨z5, fun m hm hb => ?_⟩, z6⟩
    exact a.2 (m + 1) (by omega) (Or.inr ⟨z1, z2, g, t, z3, z4, hb, z6⟩)
theorem Ds_next {bar : Int → Int} {to f g t : Int} {k : Nat} (a : Ds bar to k f) (hf : fld f) (ht : 0 ≤ t ∧ t < 4) (e : nbI f t = g) (hg : fld g) (hb : bar g = 0) : ∃ m, m ≤ k + 1 ∧ Ds bar to m g :=
  ball_Ds (k + 1) (Or.inr ⟨hg, hb, f, t, hf, ht, a.1, e⟩)
theorem ball_bar {bar : Int → Int} {to : Int} (h0 : bar to = 0) (hf : fld to) : ∀ n f, ball bar to n f → bar f = 0 ∧ fld f
  | 0, f, h => by have : f = to := h
                  subst this; exact ⟨h0, hf⟩
  | n + 1, f, h => by
    rcases h with z | ⟨z1, z2, _⟩
    · exact ball_bar h0 hf n f z
    · exact ⟨z2, z1⟩
/-- a row of distances tells the truth where it tells anything -/
def tells (bar : Int → Int) (to : Int) (C : Int → Int) : Prop := ∀ f, fld f → C f = -1 ∨ ∃ k : Nat, C f = (k : Int) ∧ Ds bar to k f
def nones (C : Int → Int) : Int := sumN (fun j => if C j = -1 then 1 else 0) 288
theorem nones_set {C : Int → Int} {g v : Int} (hg : fld g) (e : C g = -1) (hv : v ≠ -1) : nones (put C g v) = nones C - 1 := by
  unfold nones fld at *
  obtain ⟨j, rfl⟩ : ∃ j : Nat, g = (j : Int) := ⟨g.toNat, by omega⟩
  rw [sumN_one (f := fun i => if put C j v i = -1 then 1 else 0) (g := fun i => if C i = -1 then 1 else 0) (k := j) 288 (by omega) (fun i a b => by
    have : ¬ (i : Int) = (j : Int) := by omega
    simp [put, this])]
  simp [put, e, hv]
theorem nones_pos {C : Int → Int} {g : Int} (hg : fld g) (e : C g = -1) : 1 ≤ nones C := by
  have h1 := nones_set (v := 0) hg e (by omega)
  have h2 := sumN_b (f := fun j : Nat => if put C g 0 j = -1 then 1 else 0) 288 (fun j _ => by split <;> omega)
  unfold nones at h1 ⊢
  omega
/-- the fields' closure: nothing new beyond what is told -/
theorem closed {bar : Int → Int} {to : Int} {C : Int → Int} (h0 : C to ≠ -1) (cl : ∀ f t, fld f → (0 ≤ t ∧ t < 4) → C f ≠ -1 → fld (nbI f t) → bar (nbI f t) = 0 → C (nbI f t) ≠ -1) : ∀ n f, ball bar to n f → C f ≠ -1
  | 0, f, h => by have : f = to := h
                  subst this; exact h0
  | n + 1, f, h => by
    rcases h with z | ⟨z1, z2, g, t, z3, z4, z5, z6⟩
    · exact closed h0 cl n f z
    · have := cl g t z3 z4 (closed h0 cl n g z5) (by rw [z6]; exact z1) (by rw [z6]; exact z2)
      rw [z6] at this; exact this
