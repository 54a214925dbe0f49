/-! TEXTS: signs, digits, numbers: class -/
section
variable {G : GG} {b : Int → Int} {n lo hi fr a w v c x : Int} {h : Hp} {s : PS} {Φ : Int → Hp → Prop}
theorem c_byteAt (T : TX b n) (C : TXc h b n) (K : Φ (b x) h) : Call G m_X10_byteAt [rv 2, iv x] h Φ := by
  have t1 := T.1
  refine Call.of rfl (Nat.le_of_ble_eq_true rfl) rfl (U_X10_byteAt_2_0 ?_)
  rw [C.1]
  refine ⟨fun c => ?_, fun c => ⟨fun c2 => ?_, fun c2 => ⟨by omega, ?_⟩⟩⟩
  · rw [T.2.2 x (by omega)] at K; exact K
  · rw [T.2.2 x (by omega)] at K; exact K
  · rw [C.2 x c c2]; exact K
theorem c_skip (T : TX b n) (C : TXc h b n) (S : SV n s) (K : Φ 0 (sT h (skp b c s))) : Call G m_X10_skip [rv 2, iv c] (sT h s) Φ := by
  obtain ⟨⟨s0, s1⟩, s2⟩ := id S
  have t1 := T.1
  refine Call.of rfl (Nat.le_of_ble_eq_true rfl) rfl (U_X10_skip_2_0 ?_)
  rw [sT_w, sT_a]
  unfold skp at K
  refine ⟨fun z => ?_, fun z => c_byteAt T C.q ⟨fun y => ?_, fun y => ?_⟩⟩
  · rw [if_neg z] at K; exact K
  · rw [if_pos z, if_neg y] at K; rw [sT_a, sT_2]; exact K
  · rw [if_pos z, if_pos y] at K; rw [sT_a, w32_of (by omega) (by omega), sT_1, z]; exact K
theorem c_inRange (f0 : 0 ≤ fr) (K : Φ (cvl lo (rng lo hi fr (a, w, v))) (sT h (rng lo hi fr (a, w, v)).1)) : Call G m_X10_inRange [rv 2, iv v, iv lo, iv hi, iv fr] (sT h (a, w)) Φ := by
  refine Call.of rfl (Nat.le_of_ble_eq_true rfl) rfl (U_X10_inRange_2_0 ?_)
  simp only [sT_w, sT_2]
  have bad : w = -1 → ¬ (lo ≤ v ∧ v ≤ hi) → Φ lo (sT h (a, fr)) := fun z y => by
    subst z
    rw [rng_n y] at K
    have e : cvl lo ((a, fr), v) = lo := if_neg (by show ¬ fr = -1; omega)
    rw [e] at K; exact K
  refine ⟨fun z => ⟨fun _ => ?_, fun y => absurd y z⟩, fun z => ⟨fun y => ⟨fun _ => bad z (by omega), fun x => absurd x (by omega)⟩, fun y => ⟨fun x => ⟨fun _ => bad z (by omega), fun u => absurd u (by omega)⟩, fun x => ⟨fun u => absurd z u, fun _ => ?_⟩⟩⟩⟩
  · rw [rng_w z] at K
    have e : cvl lo ((a, w), v) = lo := if_neg z
    rw [e] at K; exact K
  · rw [rng_y ⟨y, x⟩] at K
    have e : cvl lo ((a, w), v) = v := if_pos z
    rw [e] at K; exact K
theorem c_fixed {d : Nat} (T : TX b n) (C : TXc h b n) (S : SV n s) (hd : d ≤ 4) (K : Φ (cvl lo (fix b d lo hi s)) (sT h (fix b d lo hi s).1)) : Call G m_X10_fixed [rv 2, iv (d : Int), iv lo, iv hi] (sT h s) Φ := by
  obtain ⟨a0, w0⟩ := s
  obtain ⟨⟨s0, s1⟩, s2⟩ := id S
  dsimp only at s0 s1 s2
  have t1 := T.1
  have go : ∀ (k j : Nat) (a w v : Int), j + k = d → 0 ≤ a → a ≤ n → 0 ≤ v → v < ten j → Φ (cvl lo (rng lo hi a0 (fxd b k a w v))) (sT h (rng lo hi a0 (fxd b k a w v)).1) → AT G m_X10_fixed 12 [(0, rv 2), (1, iv (d : Int)), (2, iv lo), (3, iv hi), (4, iv a0), (5, iv v), (6, iv (j : Int))] [] (sT h (a, w)) Φ := by
    intro k
    induction k with
    | zero =>
      intro j a w v hj a0 a1 v0 v1 K
      exact U_X10_fixed_2_12 ⟨fun _ => c_inRange s0 K, fun z => absurd z (by omega)⟩
    | succ k ih =>
      intro j a w v hj a0 a1 v0 v1 K
      have tb := ten_3 j (by omega)
      have bb := T.r (x := a)
      refine U_X10_fixed_2_12 ⟨fun z => absurd z (by omega), fun _ => ?_⟩
      simp only [sT_w, sT_a]
      have nd : w = -1 → ¬ (48 ≤ b a ∧ b a ≤ 57) → AT G m_X10_fixed 12 [(0, rv 2), (1, iv (d : Int)), (2, iv lo), (3, iv hi), (4, iv _), (5, iv v), (6, iv (w32 ((j : Int) + 1)))] [] (sT h (a, a)) Φ := fun z y => by
        rw [fxd_n z y] at K
        rw [w32_of (by omega) (by omega)]
        refine ih (j + 1) a a v (by omega) a0 a1 v0 (by show v < ten j * 10; omega) ?_
        rw [fxd_w (by omega)]
        exact K
      refine ⟨fun z => ?_, fun z => c_byteAt T C.q ⟨fun y => ?_, fun y => ⟨fun x => ?_, fun x => c_byteAt T C.q ?_⟩⟩⟩
      · rw [fxd_w z] at K; exact c_inRange s0 K
      · simp only [sT_a, sT_2]; exact nd z (by omega)
      · simp only [sT_a, sT_2]; exact nd z (by omega)
      · rw [fxd_y z ⟨y, x⟩] at K
        simp only [sT_a, sT_1]
        rw [w32_of (z := v * 10) (by omega) (by omega), w32_of (z := v * 10 + b a) (by omega) (by omega), w32_of (z := v * 10 + b a - 48) (by omega) (by omega), w32_of (z := (j : Int) + 1) (by omega) (by omega), w32_of (z := a + 1) (by omega) (by omega)]
        have q := T.lt (x := a) (by omega)
        exact ih (j + 1) (a + 1) w (v * 10 + b a - 48) (by omega) (by omega) (by omega) (by omega) (by show v * 10 + b a - 48 < ten j * 10; omega) K
  refine Call.of rfl (Nat.le_of_ble_eq_true rfl) rfl (U_X10_fixed_2_0 ?_)
  rw [sT_a]
  refine go d 0 a0 w0 0 (by omega) s0 s1 (by omega) (by decide) ?_
  by_cases z : w0 = -1
  · subst z
    exact K
  · rw [fix_w (s := (a0, w0)) z] at K
    rw [fxd_w z, rng_w z]
    exact K
/-- the end of digits() -/
theorem c_dend (K : Φ (dg1 fr (a, w, v)).2.2 (sT h ((dg1 fr (a, w, v)).1, (dg1 fr (a, w, v)).2.1))) : ((sT h (a, w) 2 3 ≠ -1 → Φ v (sT h (a, w))) ∧ (sT h (a, w) 2 3 = -1 → ((sT h (a, w) 2 2 ≠ fr → Φ v (sT h (a, w))) ∧ (sT h (a, w) 2 2 = fr → Φ v (up (sT h (a, w)) 2 3 (sT h (a, w) 2 2)))))) := by
  rw [sT_w, sT_a, sT_2]
  refine ⟨fun z => ?_, fun z => ⟨fun y => ?_, fun y => ?_⟩⟩
  · have e : dg1 fr (a, w, v) = (a, w, v) := if_neg (fun t => z t.1)
    rw [e] at K; exact K
  · have e : dg1 fr (a, w, v) = (a, w, v) := if_neg (fun t => y t.2)
    rw [e] at K; exact K
  · have e : dg1 fr (a, w, v) = (fr, fr, v) := if_pos ⟨z, y⟩
    rw [e] at K
    have y : a = fr := y
    subst y
    exact K
theorem c_digits (T : TX b n) (C : TXc h b n) (S : SV n s) (K : Φ (dig b s).2.2 (sT h ((dig b s).1, (dig b s).2.1))) : Call G m_X10_digits [rv 2] (sT h s) Φ := by
  obtain ⟨a0, w0⟩ := s
  obtain ⟨⟨s0, s1⟩, s2⟩ := id S
  dsimp only at s0 s1 s2
  have t1 := T.1
  have bad : ∀ (a w v x : Int), w ≠ -1 → Φ (dg1 a0 (a, w, v)).2.2 (sT h ((dg1 a0 (a, w, v)).1, (dg1 a0 (a, w, v)).2.1)) → AT G m_X10_digits 9 [(0, rv 2), (1, iv a0), (2, iv v), (3, iv x)] [] (sT h (a, w)) Φ := fun a w v x z K =>
    U_X10_digits_2_9 ⟨fun _ => c_dend K, fun _ => ⟨fun _ => c_dend K, fun y => absurd (sT_w.symm.trans y) z⟩⟩
  have go : ∀ (k j : Nat) (v : Int), j + k = 10 → a0 + j ≤ n → (2 ≤ j → b a0 ≠ 48) → 0 ≤ v → v < ten j → Φ (dg1 a0 (dgs b a0 k (a0 + j) (-1) v)).2.2 (sT h ((dg1 a0 (dgs b a0 k (a0 + j) (-1) v)).1, (dg1 a0 (dgs b a0 k (a0 + j) (-1) v)).2.1)) → AT G m_X10_digits 9 [(0, rv 2), (1, iv a0), (2, iv v), (3, iv (j : Int))] [] (sT h (a0 + j, -1)) Φ := by
    intro k
    induction k with
    | zero =>
      intro j v hj a1 lz v0 v1 K
      exact U_X10_digits_2_9 ⟨fun _ => c_dend K, fun z => absurd z (by omega)⟩
    | succ k ih =>
      intro j v hj a1 lz v0 v1 K
      have bb := T.r (x := a0 + j)
      refine U_X10_digits_2_9 ⟨fun z => absurd z (by omega), fun _ => ⟨fun z => absurd sT_w z, fun _ => ?_⟩⟩
      rw [sT_a]
      have nd : ¬ (48 ≤ b (a0 + j) ∧ b (a0 + j) ≤ 57) → Φ (dg1 a0 (a0 + j, -1, v)).2.2 (sT h ((dg1 a0 (a0 + j, -1, v)).1, (dg1 a0 (a0 + j, -1, v)).2.1)) := fun y => by
        rw [dgs_z (fun t => y t.2)] at K; exact K
      have nf : (48 ≤ b (a0 + j) ∧ b (a0 + j) ≤ 57) → (j = 9 ∨ j = 1 ∧ b a0 = 48) → ∀ x, AT G m_X10_digits 9 [(0, rv 2), (1, iv a0), (2, iv v), (3, iv x)] [] (sT h (a0 + j, a0 + j)) Φ := fun y u x => by
        rw [dgs_f ⟨rfl, y⟩ (by omega)] at K
        exact bad _ _ _ _ (by omega) K
      have ns : (48 ≤ b (a0 + j) ∧ b (a0 + j) ≤ 57) → ¬ (j = 9 ∨ j = 1 ∧ b a0 = 48) → AT G m_X10_digits 9 [(0, rv 2), (1, iv a0), (2, iv (w32 (w32 (w32 (v * 10) + b (a0 + j)) - 48))), (3, iv (w32 ((j : Int) + 1)))] [] (sT h (w32 (a0 + j + 1), -1)) Φ := fun y u => by
        have tb := ten_8 j (by omega)
        have q := T.lt (x := a0 + j) (by omega)
        have nz : ¬ (a0 + (j : Int) - a0 = 9 ∨ (a0 < a0 + (j : Int) ∧ b a0 = 48)) := fun t => by
          rcases t with t | t
          · exact u (Or.inl (by omega))
          · by_cases o : j = 1
            · exact u (Or.inr ⟨o, t.2⟩)
            · exact lz (by omega) t.2
        rw [dgs_s ⟨rfl, y⟩ nz] at K
        rw [w32_of (z := v * 10) (by omega) (by omega), w32_of (z := v * 10 + b (a0 + j)) (by omega) (by omega), w32_of (z := v * 10 + b (a0 + j) - 48) (by omega) (by omega), w32_of (z := (j : Int) + 1) (by omega) (by omega), w32_of (z := a0 + j + 1) (by omega) (by omega)]
        have e : a0 + (j : Int) + 1 = a0 + ((j + 1 : Nat) : Int) := by omega
        rw [e] at K ⊢
        refine ih (j + 1) _ (by omega) (by omega) (fun t o => ?_) (by omega) (by show v * 10 + b (a0 + j) - 48 < ten j * 10; omega) K
        by_cases f : j = 1
        · exact u (Or.inr ⟨f, o⟩)
        · exact lz (by omega) o
      show Call G m_X10_byteAt [rv 2, iv (a0 + (j : Int))] (sT h (a0 + j, -1)) _
      refine c_byteAt T C.q ⟨fun y => c_dend (nd (by omega)), fun y => ⟨fun x => c_dend (nd (by omega)), fun x => ⟨fun z => ?_, fun z => ⟨fun u => c_byteAt T C.q ?_, fun u => c_byteAt T C.q ⟨fun t => c_byteAt T C.q ?_, fun t => ?_⟩⟩⟩⟩⟩
      · rw [sT_a, sT_2]; exact nf ⟨y, x⟩ (by omega) _
      · simp only [sT_a, sT_1]; exact ns ⟨y, x⟩ (by omega)
      · simp only [sT_a, sT_1]; exact ns ⟨y, x⟩ (fun o => by omega)
      · rw [sT_a, sT_2]; exact nf ⟨y, x⟩ (Or.inr ⟨by omega, t⟩) _
  refine Call.of rfl (Nat.le_of_ble_eq_true rfl) rfl (U_X10_digits_2_0 ?_)
  rw [sT_a]
  by_cases z : w0 = -1
  · subst z
    have t := go 10 0 0 (by omega) (by omega) (by omega) (by omega) (by decide)
    have e : a0 + ((0 : Nat) : Int) = a0 := by omega
    rw [e] at t
    exact t K
  · rw [dig_w (s := (a0, w0)) z] at K
    refine bad a0 w0 0 0 z ?_
    have e : dg1 a0 (a0, w0, 0) = (a0, w0, 0) := if_neg (fun t => z t.1)
    rw [e]; exact K
theorem c_number (T : TX b n) (C : TXc h b n) (S : SV n s) (K : Φ (cvl lo (num b lo hi s)) (sT h (num b lo hi s).1)) : Call G m_X10_number [rv 2, iv lo, iv hi] (sT h s) Φ := by
  refine Call.of rfl (Nat.le_of_ble_eq_true rfl) rfl (U_X10_number_2_0 ?_)
  rw [sT_a]
  exact c_digits T C S (c_inRange S.1.1 K)
/-- the digits' value -/
theorem ten_9 : ∀ k : Nat, k < 10 → ten k ≤ 1000000000 := by decide
theorem dgs_b : ∀ (k j : Nat) (a w v : Int), j + k = 10 → j ≤ 9 → a - fr = j → 0 ≤ v → v < ten j → (∀ x, b x ≤ 255) → 0 ≤ (dgs b fr k a w v).2.2 ∧ (dgs b fr k a w v).2.2 < 1000000000
  | 0, j, a, w, v, hj, h9, ha, v0, v1, B => by omega
  | k + 1, j, a, w, v, hj, h9, ha, v0, v1, B => by
    have tb := ten_9 j (by omega)
    by_cases z : w = -1 ∧ 48 ≤ b a ∧ b a ≤ 57
    · by_cases y : a - fr = 9 ∨ (fr < a ∧ b fr = 48)
      · rw [dgs_f z y]; show 0 ≤ v ∧ v < 1000000000; omega
      · rw [dgs_s z y]
        exact dgs_b k (j + 1) _ _ _ (by omega) (by omega) (by omega) (by omega) (by show v * 10 + b a - 48 < ten j * 10; omega) B
    · rw [dgs_z z]; show 0 ≤ v ∧ v < 1000000000; omega
theorem dig_b (T : TX b n) : 0 ≤ (dig b s).2.2 ∧ (dig b s).2.2 < 1000000000 := by
  have q := dgs_b (b := b) (fr := s.1) 10 0 s.1 s.2 0 (by omega) (by omega) (by omega) (by omega) (by decide) (fun x => (T.r (x := x)).2)
  unfold dig dg1
  split
  · exact q
  · exact q
theorem c_integer (T : TX b n) (C : TXc h b n) (S : SV n s) (K : Φ (cvl lo (itg b lo hi s)) (sT h (itg b lo hi s).1)) : Call G m_X10_integer [rv 2, iv lo, iv hi] (sT h s) Φ := by
  obtain ⟨⟨s0, s1⟩, s2⟩ := id S
  have t1 := T.1
  refine Call.of rfl (Nat.le_of_ble_eq_true rfl) rfl (U_X10_integer_2_0 ?_)
  rw [sT_a]
  refine c_byteAt T C.q ⟨fun y => ⟨fun z => ?_, fun z => ?_⟩, fun y => ?_⟩
  · have z : s.2 ≠ -1 := fun e => z (sT_w.trans e)
    rw [itg_w z] at K
    have e2 : cvl lo (s, 0) = lo := if_neg z
    rw [e2] at K
    refine c_digits T C S ?_
    show Call G m_X10_inRange [rv 2, iv (w32 (-(dig b s).2.2)), iv lo, iv hi, iv s.1] (sT h ((dig b s).1, (dig b s).2.1)) _
    rw [dig_w z]
    refine c_inRange s0 ?_
    have e3 : rng lo hi s.1 (s.1, s.2, w32 (-0)) = ((s.1, s.2), w32 (-0)) := rng_w z
    show Φ (cvl lo (rng lo hi s.1 (s.1, s.2, w32 (-0)))) (sT h (rng lo hi s.1 (s.1, s.2, w32 (-0))).1)
    rw [e3]
    have e : cvl lo ((s.1, s.2), w32 (-0)) = lo := if_neg z
    rw [e]; exact K
  · have z : s.2 = -1 := sT_w.symm.trans z
    have e : itg b lo hi s = rng lo hi s.1 (ngt (dig b (s.1 + 1, if b (s.1 + 1) = 48 then s.1 + 1 else -1))) := if_pos ⟨z, y⟩
    rw [e] at K
    have q := T.lt (x := s.1) (by omega)
    rw [sT_a, sT_1, w32_of (by omega) (by omega), z]
    refine c_byteAt T C.q ⟨fun x => ?_, fun x => ?_⟩
    · rw [if_neg x] at K
      have bb := dig_b (s := (s.1 + 1, -1)) T
      refine c_digits T C ⟨⟨by show 0 ≤ s.1 + 1; omega, by show s.1 + 1 ≤ n; omega⟩, Or.inl rfl⟩ ?_
      show Call G m_X10_inRange [rv 2, iv (w32 (-(dig b (s.1 + 1, -1)).2.2)), iv lo, iv hi, iv s.1] _ _
      rw [w32_of (by omega) (by omega)]
      exact c_inRange s0 K
    · rw [if_pos x] at K
      rw [sT_a, sT_2]
      have bb := dig_b (s := (s.1 + 1, s.1 + 1)) T
      refine c_digits T C ⟨⟨by show 0 ≤ s.1 + 1; omega, by show s.1 + 1 ≤ n; omega⟩, Or.inr ⟨by show 0 ≤ s.1 + 1; omega, by show s.1 + 1 ≤ n; omega⟩⟩ ?_
      show Call G m_X10_inRange [rv 2, iv (w32 (-(dig b (s.1 + 1, s.1 + 1)).2.2)), iv lo, iv hi, iv s.1] _ _
      rw [w32_of (by omega) (by omega)]
      exact c_inRange s0 K
  · have e : itg b lo hi s = num b lo hi s := if_neg (fun t => y t.2)
    rw [e] at K
    exact c_digits T C S (c_inRange s0 K)
theorem c_compare (T : TX b n) (C : TXc h b n) (S : SV n s) (K : Φ (b s.1) (sT h (cmp b s))) : Call G m_X10_compareSign [rv 2] (sT h s) Φ := by
  obtain ⟨⟨s0, s1⟩, s2⟩ := id S
  have t1 := T.1
  refine Call.of rfl (Nat.le_of_ble_eq_true rfl) rfl (U_X10_compareSign_2_0 ?_)
  rw [sT_a]
  have ok : s.2 = -1 → (b s.1 = 61 ∨ b s.1 = 60 ∨ b s.1 = 62) → Φ (b s.1) (up (sT h s) 2 2 (w32 (sT h s 2 2 + 1))) := fun z y => by
    have e : cmp b s = (s.1 + 1, -1) := by unfold cmp; rw [if_pos z, if_pos y]
    rw [e] at K
    rw [sT_a, sT_1, w32_of (by omega) (by omega), z]; exact K
  refine c_byteAt T C.q ⟨fun z => ?_, fun z => ?_⟩
  · rw [cmp_w (fun e => z (sT_w.trans e))] at K; exact K
  · have z : s.2 = -1 := sT_w.symm.trans z
    refine ⟨fun y => ok z (Or.inl y), fun y => ⟨fun x => ok z (Or.inr (Or.inl x)), fun x => ⟨fun u => ?_, fun u => ok z (Or.inr (Or.inr u))⟩⟩⟩
    have e : cmp b s = (s.1, s.1) := by unfold cmp; rw [if_pos z, if_neg (by omega)]
    rw [e] at K
    rw [sT_a, sT_2]; exact K
theorem c_closes (S : SV n s) (C : TXc h b n) (K1 : s.2 = -1 → n ≤ s.1 → Φ 1 (up (sT h s) 2 1 0)) (K0 : s.2 ≠ -1 → Φ 0 (up (sT h s) 2 1 0)) (K2 : s.2 = -1 → s.1 < n → Φ 0 (up (sT h (s.1, s.1)) 2 1 0)) : Call G m_X10_closes [rv 2] (sT h s) Φ := by
  obtain ⟨⟨s0, s1⟩, s2⟩ := id S
  refine Call.of rfl (Nat.le_of_ble_eq_true rfl) rfl (U_X10_closes_2_0 ?_)
  simp only [sT_w, sT_a, sT_n, C.1, sT_2]
  exact ⟨fun z => ⟨fun _ => K0 z, fun y => absurd y z⟩, fun z => ⟨fun y => ⟨fun _ => K2 z y, fun x => absurd x (by omega)⟩, fun y => ⟨fun x => absurd z x, fun _ => K1 z y⟩⟩⟩
end
