/-! TEXTS: signs, digits, numbers: model -/
section
variable {G : GG} {b : Int → Int} {n lo hi fr a w v c x : Int} {h : Hp} {s : PS} {Φ : Int → Hp → Prop}
theorem m_here (T : TX b n) (C : TXm h b n) (S : 0 ≤ s.1) (K : Φ (b s.1) (sM h s)) : Call G m_X12_here [rv 85] (sM h s) Φ := by
  have t1 := T.1
  refine Call.of rfl (Nat.le_of_ble_eq_true rfl) rfl (U_X12_here_85_0 ?_)
  have e : sM h s 87 s.1 = h 87 s.1 := sM_o (by decide)
  rw [sM_a, sM_n, C.1, e]
  refine ⟨fun c => ?_, fun c => ⟨by omega, ?_⟩⟩
  · rw [T.2.2 s.1 (by omega)] at K; exact K
  · rw [C.2 s.1 S c]; exact K
theorem m_need (T : TX b n) (C : TXm h b n) (S : SV n s) (K : Φ 0 (sM h (skp b c s))) : Call G m_X12_need [rv 85, iv c] (sM h s) Φ := by
  obtain ⟨⟨s0, s1⟩, s2⟩ := id S
  have t1 := T.1
  refine Call.of rfl (Nat.le_of_ble_eq_true rfl) rfl (U_X12_need_85_0 ?_)
  rw [sM_w]
  unfold skp at K
  refine ⟨fun z => m_here T C s0 ⟨fun y => ⟨fun x => ?_, fun x => ?_⟩, fun y => ?_⟩, fun z => ?_⟩
  · rw [sM_w] at x; exact absurd x (by omega)
  · rw [if_pos (by omega), if_neg y] at K; rw [sM_a, sM_2]; exact K
  · have e : s.2 = -1 := by omega
    rw [if_pos e, if_pos y] at K; rw [sM_a, w32_of (by omega) (by omega), sM_1, e]; exact K
  · rw [if_neg (by omega)] at K; exact K
/-- the end of a number -/
theorem m_end (hw : w = -1 ∨ 0 ≤ w) (K : Φ (rng lo hi fr (a, w, v)).2 (sM h (rng lo hi fr (a, w, v)).1)) : ((sM h (a, w) 85 6 < 0 → ((v < lo → ((0 ≤ sM h (a, w) 85 6 → Φ v (sM h (a, w))) ∧ (sM h (a, w) 85 6 < 0 → Φ v (up (sM h (a, w)) 85 6 fr)))) ∧ (lo ≤ v → ((hi < v → ((0 ≤ sM h (a, w) 85 6 → Φ v (sM h (a, w))) ∧ (sM h (a, w) 85 6 < 0 → Φ v (up (sM h (a, w)) 85 6 fr)))) ∧ (v ≤ hi → Φ v (sM h (a, w))))))) ∧ (0 ≤ sM h (a, w) 85 6 → Φ v (sM h (a, w)))) := by
  simp only [sM_w, sM_2]
  have bad : w < 0 → ¬ (lo ≤ v ∧ v ≤ hi) → Φ v (sM h (a, fr)) := fun z y => by
    have e : w = -1 := by omega
    subst e
    rw [rng_n y] at K; exact K
  refine ⟨fun z => ⟨fun y => ⟨fun x => absurd x (by omega), fun _ => bad z (by omega)⟩, fun y => ⟨fun x => ⟨fun u => absurd u (by omega), fun _ => bad z (by omega)⟩, fun x => ?_⟩⟩, fun z => ?_⟩
  · rw [rng_y ⟨y, x⟩] at K; exact K
  · rw [rng_w (by omega)] at K; exact K
theorem m_digits {d : Nat} (T : TX b n) (C : TXm h b n) (S : SV n s) (hd : d ≤ 4) (K : Φ (fix b d lo hi s).2 (sM h (fix b d lo hi s).1)) : Call G m_X12_digits [rv 85, iv (d : Int), iv lo, iv hi] (sM h s) Φ := by
  obtain ⟨a0, w0⟩ := s
  obtain ⟨⟨s0, s1⟩, s2⟩ := id S
  dsimp only at s0 s1 s2
  have t1 := T.1
  have go : ∀ (k j : Nat) (a w v : Int), j + k = d → 0 ≤ a → a ≤ n → (w = -1 ∨ 0 ≤ w) → 0 ≤ v → v < ten j → Φ (rng lo hi a0 (fxd b k a w v)).2 (sM h (rng lo hi a0 (fxd b k a w v)).1) → AT G m_X12_digits 21 [(0, rv 85), (1, iv (d : Int)), (2, iv lo), (3, iv hi), (4, iv a0), (5, iv v), (6, iv (j : Int))] [] (sM h (a, w)) Φ := by
    intro k
    induction k with
    | zero =>
      intro j a w v hj a0 a1 hw v0 v1 K
      exact U_X12_digits_85_21 ⟨fun _ => m_end hw K, fun z => absurd z (by omega)⟩
    | succ k ih =>
      intro j a w v hj a0 a1 hw v0 v1 K
      have tb := ten_3 j (by omega)
      have bb := T.r (x := a)
      have nd : w = -1 → ¬ (48 ≤ b a ∧ b a ≤ 57) → AT G m_X12_digits 21 [(0, rv 85), (1, iv (d : Int)), (2, iv lo), (3, iv hi), (4, iv _), (5, iv v), (6, iv (w32 ((j : Int) + 1)))] [] (sM h (a, a)) Φ := fun z y => by
        rw [fxd_n z y] at K
        rw [w32_of (by omega) (by omega)]
        refine ih (j + 1) a a v (by omega) a0 a1 (Or.inr a0) v0 (by show v < ten j * 10; omega) ?_
        rw [fxd_w (by omega)]
        exact K
      refine U_X12_digits_85_21 ⟨fun z => absurd z (by omega), fun _ => ⟨fun z => ?_, fun z => ?_⟩⟩
      · rw [sM_w] at z
        have z : w = -1 := by have z : w < 0 := z; omega
        refine m_here T C a0 ⟨fun y => ⟨fun x => ?_, fun _ => ?_⟩, fun y => ⟨fun x => ⟨fun u => ?_, fun _ => ?_⟩, fun x => m_here T C a0 ?_⟩⟩
        · rw [sM_w] at x; have x : 0 ≤ w := x; exact absurd x (by omega)
        · rw [sM_a, sM_2]; exact nd z (by show ¬ (48 ≤ b a ∧ b a ≤ 57); have y : b a < 48 := y; omega)
        · rw [sM_w] at u; have u : 0 ≤ w := u; exact absurd u (by omega)
        · rw [sM_a, sM_2]; exact nd z (by show ¬ (48 ≤ b a ∧ b a ≤ 57); have x : 57 < b a := x; omega)
        · have y : 48 ≤ b a := y
          have x : b a ≤ 57 := x
          rw [fxd_y z ⟨y, x⟩] at K
          rw [sM_a, sM_1]
          dsimp only
          have e1 : v * 10 + b a - 48 = 10 * v + b a - 48 := by omega
          rw [w32_of (z := 10 * v) (by omega) (by omega), w32_of (z := 10 * v + b a) (by omega) (by omega), w32_of (z := 10 * v + b a - 48) (by omega) (by omega), w32_of (z := (j : Int) + 1) (by omega) (by omega), w32_of (z := a + 1) (by omega) (by omega)]
          have q := T.lt (x := a) (by omega)
          rw [e1] at K
          exact ih (j + 1) (a + 1) w (10 * v + b a - 48) (by omega) (by omega) (by omega) hw (by omega) (by show 10 * v + b a - 48 < ten j * 10; omega) K
      · rw [sM_w] at z
        have z : 0 ≤ w := z
        rw [fxd_w (by omega)] at K
        exact m_end hw K
  refine Call.of rfl (Nat.le_of_ble_eq_true rfl) rfl (U_X12_digits_85_0 ⟨fun z => ?_, fun z => ?_⟩)
  · rw [sM_w] at z
    have z : w0 = -1 := by have z : w0 < 0 := z; omega
    subst z
    rw [sM_a]
    exact go d 0 a0 (-1) 0 (by omega) s0 s1 (Or.inl rfl) (by omega) (by decide) K
  · rw [sM_w] at z
    have z : w0 ≠ -1 := by have z : 0 ≤ w0 := z; omega
    rw [fix_w (s := (a0, w0)) z] at K
    exact K
/-- the loop of whole() -/
theorem m_wloop {bg mi : Int} (T : TX b n) (C : TXm h b n) (f0 : 0 ≤ fr) (R : Int × Int × Int → Int × Int × Int) (hR0 : mi = 0 → ∀ r, R r = r) (hR1 : mi ≠ 0 → ∀ r, R r = ngt r) :
    ∀ (k j : Nat) (w v : Int), j + k = 10 → j ≤ 9 → fr + j ≤ n → (w = -1 ∨ 0 ≤ w) → 0 ≤ v → v < ten j → Φ (rng lo hi bg (R (dgs b fr k (fr + j) w v))).2 (sM h (rng lo hi bg (R (dgs b fr k (fr + j) w v))).1) → AT G m_X12_whole 91 [(0, rv 85), (2, iv lo), (3, iv hi), (4, iv bg), (5, iv mi), (6, iv fr), (7, iv v)] [] (sM h (fr + j, w)) Φ := by
  have t1 := T.1
  have ends : ∀ (a w v : Int), (w = -1 ∨ 0 ≤ w) → 0 ≤ v → v < 1000000000 → Φ (rng lo hi bg (R (a, w, v))).2 (sM h (rng lo hi bg (R (a, w, v))).1) → (mi = 0 → ((sM h (a, w) 85 6 < 0 → ((v < lo → ((0 ≤ sM h (a, w) 85 6 → Φ v (sM h (a, w))) ∧ (sM h (a, w) 85 6 < 0 → Φ v (up (sM h (a, w)) 85 6 bg)))) ∧ (lo ≤ v → ((hi < v → ((0 ≤ sM h (a, w) 85 6 → Φ v (sM h (a, w))) ∧ (sM h (a, w) 85 6 < 0 → Φ v (up (sM h (a, w)) 85 6 bg)))) ∧ (v ≤ hi → Φ v (sM h (a, w))))))) ∧ (0 ≤ sM h (a, w) 85 6 → Φ v (sM h (a, w))))) ∧ (mi ≠ 0 → ((sM h (a, w) 85 6 < 0 → ((w32 (-v) < lo → ((0 ≤ sM h (a, w) 85 6 → Φ (w32 (-v)) (sM h (a, w))) ∧ (sM h (a, w) 85 6 < 0 → Φ (w32 (-v)) (up (sM h (a, w)) 85 6 bg)))) ∧ (lo ≤ w32 (-v) → ((hi < w32 (-v) → ((0 ≤ sM h (a, w) 85 6 → Φ (w32 (-v)) (sM h (a, w))) ∧ (sM h (a, w) 85 6 < 0 → Φ (w32 (-v)) (up (sM h (a, w)) 85 6 bg)))) ∧ (w32 (-v) ≤ hi → Φ (w32 (-v)) (sM h (a, w))))))) ∧ (0 ≤ sM h (a, w) 85 6 → Φ (w32 (-v)) (sM h (a, w))))) := fun a w v hw v0 v1 K =>
    ⟨fun m => by rw [hR0 m] at K; exact m_end hw K, fun m => by rw [hR1 m] at K; rw [w32_of (z := -v) (by omega) (by omega)]; exact m_end hw K⟩
  intro k
  induction k with
  | zero => intro j w v hj h9; omega
  | succ k ih =>
    intro j w v hj h9 a1 hw v0 v1 K
    have tb := ten_9 j (by omega)
    have bb := T.r (x := fr + j)
    have nf : w = -1 → (48 ≤ b (fr + j) ∧ b (fr + j) ≤ 57) → ((fr + (j : Int)) - fr = 9 ∨ (fr < fr + (j : Int) ∧ b fr = 48)) → AT G m_X12_whole 91 [(0, rv 85), (2, iv lo), (3, iv hi), (4, iv bg), (5, iv mi), (6, iv fr), (7, iv v)] [] (sM h (fr + j, fr + j)) Φ := fun z y u => by
      rw [dgs_f ⟨z, y⟩ u] at K
      refine U_X12_whole_85_91 ⟨fun t => ?_, fun _ => ends _ _ _ (Or.inr (by omega)) v0 (by omega) K⟩
      rw [sM_w] at t; have t : fr + (j : Int) < 0 := t; omega
    have ns : w = -1 → (48 ≤ b (fr + j) ∧ b (fr + j) ≤ 57) → ¬ ((fr + (j : Int)) - fr = 9 ∨ (fr < fr + (j : Int) ∧ b fr = 48)) → AT G m_X12_whole 91 [(0, rv 85), (2, iv lo), (3, iv hi), (4, iv bg), (5, iv mi), (6, iv fr), (7, iv (w32 (w32 (w32 (10 * v) + b (fr + j)) - 48)))] [] (sM h (w32 (fr + j + 1), w)) Φ := fun z y u => by
      have tb := ten_8 j (by omega)
      have q := T.lt (x := fr + j) (by omega)
      rw [dgs_s ⟨z, y⟩ u] at K
      have e1 : v * 10 + b (fr + j) - 48 = 10 * v + b (fr + j) - 48 := by omega
      have e : fr + (j : Int) + 1 = fr + ((j + 1 : Nat) : Int) := by omega
      rw [w32_of (z := 10 * v) (by omega) (by omega), w32_of (z := 10 * v + b (fr + j)) (by omega) (by omega), w32_of (z := 10 * v + b (fr + j) - 48) (by omega) (by omega), w32_of (z := fr + j + 1) (by omega) (by omega), e]
      rw [e, e1] at K
      exact ih (j + 1) w _ (by omega) (by omega) (by omega) hw (by omega) (by show 10 * v + b (fr + j) - 48 < ten j * 10; omega) K
    have nd : ¬ (w = -1 ∧ 48 ≤ b (fr + j) ∧ b (fr + j) ≤ 57) → Φ (rng lo hi bg (R (fr + j, w, v))).2 (sM h (rng lo hi bg (R (fr + j, w, v))).1) := fun z => by
      rw [dgs_z z] at K; exact K
    refine U_X12_whole_85_91 ⟨fun z => ?_, fun z => ?_⟩
    · rw [sM_w] at z
      have z : w = -1 := by have z : w < 0 := z; omega
      have a0 : 0 ≤ ((fr + (j : Int), w) : PS).1 := by show 0 ≤ fr + (j : Int); omega
      refine m_here T C a0 ⟨fun y => ends _ _ _ hw v0 (by omega) (nd (fun t => by have y : b (fr + j) < 48 := y; omega)), fun y => ⟨fun x => ends _ _ _ hw v0 (by omega) (nd (fun t => by have x : 57 < b (fr + j) := x; omega)), fun x => ?_⟩⟩
      have y : 48 ≤ b (fr + j) := y
      have x : b (fr + j) ≤ 57 := x
      have e87 : sM h (fr + (j : Int), w) 87 fr = h 87 fr := sM_o (by decide)
      rw [sM_a, sM_w, e87]
      dsimp only
      rw [w32_of (z := fr + (j : Int) - fr) (by omega) (by omega)]
      refine ⟨fun u => ⟨fun t => absurd t (by omega), fun _ => ?_⟩, fun u => ⟨fun t => m_here T C a0 ?_, fun t => ⟨by omega, fun o => m_here T C a0 ?_, fun o => ⟨fun p => absurd p (by omega), fun _ => ?_⟩⟩⟩⟩
      · rw [sM_2]; exact nf z ⟨y, x⟩ (Or.inl u)
      · rw [sM_a, sM_1]; exact ns z ⟨y, x⟩ (by omega)
      · rw [sM_a, sM_1]
        refine ns z ⟨y, x⟩ (fun p => ?_)
        rcases p with p | p
        · exact u p
        · rw [C.2 fr f0 (by omega)] at o; exact o p.2
      · rw [sM_2]
        rw [C.2 fr f0 (by omega)] at o
        exact nf z ⟨y, x⟩ (Or.inr ⟨t, o⟩)
    · rw [sM_w] at z
      have z : 0 ≤ w := z
      exact ends _ _ _ hw v0 (by omega) (nd (fun t => by omega))
end
