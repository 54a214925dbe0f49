/-! TEXTS: whole numbers of the model; words -/
section
variable {G : GG} {b : Int → Int} {n lo hi fr a w v c x : Int} {h : Hp} {s : PS} {Φ : Int → Hp → Prop}
theorem dig_n (z : s.2 = -1) (y : ¬ (48 ≤ b s.1 ∧ b s.1 ≤ 57)) : dig b s = (s.1, s.1, 0) := by
  unfold dig
  rw [dgs_z (fun t => y t.2)]
  exact if_pos ⟨z, rfl⟩
theorem dig_d (z : s.2 = -1) (y : 48 ≤ b s.1 ∧ b s.1 ≤ 57) : dig b s = dgs b s.1 10 s.1 (-1) 0 := by
  unfold dig
  rw [z]
  refine if_neg (fun t => ?_)
  have q : (dgs b s.1 (9 + 1) s.1 (-1) 0).1 = s.1 := t.2
  rw [dgs_s ⟨rfl, y⟩ (by omega)] at q
  have := dgs_ge (b := b) (fr := s.1) 9 (s.1 + 1) (-1) (0 * 10 + b s.1 - 48)
  omega
theorem m_whole0 (T : TX b n) (C : TXm h b n) (S : SV n s) (K : Φ (num b lo hi s).2 (sM h (num b lo hi s).1)) : Call G m_X12_whole [rv 85, iv 0, iv lo, iv hi] (sM h s) Φ := by
  obtain ⟨a0, w0⟩ := s
  obtain ⟨⟨s0, s1⟩, s2⟩ := id S
  dsimp only at s0 s1 s2
  have t1 := T.1
  refine Call.of rfl (Nat.le_of_ble_eq_true rfl) rfl (U_X12_whole_85_0 ⟨fun z => ⟨fun _ => ?_, fun y => absurd rfl y⟩, fun z => ?_⟩)
  · rw [sM_w] at z
    have z : w0 = -1 := by have z : w0 < 0 := z; omega
    subst z
    rw [sM_a]
    have lp := m_wloop (G := G) (Φ := Φ) (h := h) (b := b) (n := n) (lo := lo) (hi := hi) (fr := a0) (bg := a0) (mi := 0) T C s0 id (fun _ _ => rfl) (fun z => absurd rfl z) 10 0
    have e0 : a0 + ((0 : Nat) : Int) = a0 := by omega
    rw [e0] at lp
    have nd : ¬ (48 ≤ b a0 ∧ b a0 ≤ 57) → AT G m_X12_whole 91 [(0, rv 85), (2, iv lo), (3, iv hi), (4, iv a0), (5, iv 0), (6, iv a0), (7, iv 0)] [] (sM h (a0, a0)) Φ := fun y => by
      refine lp a0 0 (by omega) (by omega) s1 (Or.inr s0) (by omega) (by decide) ?_
      rw [dgs_z (fun t => y t.2)]
      have e : num b lo hi (a0, -1) = rng lo hi a0 (a0, a0, 0) := by unfold num; rw [dig_n (s := (a0, -1)) rfl y]
      rw [e] at K; exact K
    refine m_here T C s0 ⟨fun y => ⟨fun u => ?_, fun _ => ?_⟩, fun y => ⟨fun x => ⟨fun u => ?_, fun _ => ?_⟩, fun x => ?_⟩⟩
    · rw [sM_w] at u; exact absurd u (by simp)
    · rw [sM_a, sM_2]; exact nd (fun t => by have y : b a0 < 48 := y; omega)
    · rw [sM_w] at u; exact absurd u (by simp)
    · rw [sM_a, sM_2]; exact nd (fun t => by have x : 57 < b a0 := x; omega)
    · refine lp (-1) 0 (by omega) (by omega) s1 (Or.inl rfl) (by omega) (by decide) ?_
      have e : num b lo hi (a0, -1) = rng lo hi a0 (dgs b a0 10 a0 (-1) 0) := by unfold num; rw [dig_d (s := (a0, -1)) rfl ⟨y, x⟩]
      rw [e] at K; exact K
  · rw [sM_w] at z
    have z : w0 ≠ -1 := by have z : 0 ≤ w0 := z; omega
    rw [num_w (s := (a0, w0)) z] at K
    exact K
theorem m_whole1 (T : TX b n) (C : TXm h b n) (S : SV n s) (K : Φ (itg b lo hi s).2 (sM h (itg b lo hi s).1)) : Call G m_X12_whole [rv 85, iv 1, iv lo, iv hi] (sM h s) Φ := by
  obtain ⟨a0, w0⟩ := s
  obtain ⟨⟨s0, s1⟩, s2⟩ := id S
  dsimp only at s0 s1 s2
  have t1 := T.1
  refine Call.of rfl (Nat.le_of_ble_eq_true rfl) rfl (U_X12_whole_85_0 ⟨fun z => ⟨fun y => absurd y (by decide), fun _ => ?_⟩, fun z => ?_⟩)
  · rw [sM_w] at z
    have z : w0 = -1 := by have z : w0 < 0 := z; omega
    subst z
    rw [sM_a]
    refine m_here T C s0 ⟨fun m => ?_, fun m => ?_⟩
    · have m : b a0 ≠ 45 := m
      have ei : itg b lo hi (a0, -1) = num b lo hi (a0, -1) := if_neg (fun t => m t.2)
      rw [ei] at K
      rw [sM_a]
      have lp := m_wloop (G := G) (Φ := Φ) (h := h) (b := b) (n := n) (lo := lo) (hi := hi) (fr := a0) (bg := a0) (mi := 0) T C s0 id (fun _ _ => rfl) (fun z => absurd rfl z) 10 0
      have e0 : a0 + ((0 : Nat) : Int) = a0 := by omega
      rw [e0] at lp
      have nd : ¬ (48 ≤ b a0 ∧ b a0 ≤ 57) → AT G m_X12_whole 91 [(0, rv 85), (2, iv lo), (3, iv hi), (4, iv a0), (5, iv 0), (6, iv a0), (7, iv 0)] [] (sM h (a0, a0)) Φ := fun y => by
        refine lp a0 0 (by omega) (by omega) s1 (Or.inr s0) (by omega) (by decide) ?_
        rw [dgs_z (fun t => y t.2)]
        have e : num b lo hi (a0, -1) = rng lo hi a0 (a0, a0, 0) := by unfold num; rw [dig_n (s := (a0, -1)) rfl y]
        rw [e] at K; exact K
      refine m_here T C s0 ⟨fun y => ⟨fun u => ?_, fun _ => ?_⟩, fun y => ⟨fun x => ⟨fun u => ?_, fun _ => ?_⟩, fun x => ?_⟩⟩
      · rw [sM_w] at u; exact absurd u (by simp)
      · rw [sM_a, sM_2]; exact nd (fun t => by have y : b a0 < 48 := y; omega)
      · rw [sM_w] at u; exact absurd u (by simp)
      · rw [sM_a, sM_2]; exact nd (fun t => by have x : 57 < b a0 := x; omega)
      · refine lp (-1) 0 (by omega) (by omega) s1 (Or.inl rfl) (by omega) (by decide) ?_
        have e : num b lo hi (a0, -1) = rng lo hi a0 (dgs b a0 10 a0 (-1) 0) := by unfold num; rw [dig_d (s := (a0, -1)) rfl ⟨y, x⟩]
        rw [e] at K; exact K
    · have m : b a0 = 45 := m
      have ei : itg b lo hi (a0, -1) = rng lo hi a0 (ngt (dig b (a0 + 1, if b (a0 + 1) = 48 then a0 + 1 else -1))) := if_pos ⟨rfl, m⟩
      rw [ei] at K
      have q := T.lt (x := a0) (by omega)
      rw [sM_a, sM_1]
      dsimp only
      rw [w32_of (z := a0 + 1) (by omega) (by omega)]
      have lp := m_wloop (G := G) (Φ := Φ) (h := h) (b := b) (n := n) (lo := lo) (hi := hi) (fr := a0 + 1) (bg := a0) (mi := 1) T C (by omega) ngt (fun z => absurd z (by decide)) (fun _ _ => rfl) 10 0
      have e0 : a0 + 1 + ((0 : Nat) : Int) = a0 + 1 := by omega
      rw [e0] at lp
      have p0 : 0 ≤ ((a0 + 1, -1) : PS).1 := by show 0 ≤ a0 + 1; omega
      have nd : ¬ (48 ≤ b (a0 + 1) ∧ b (a0 + 1) ≤ 57) ∨ b (a0 + 1) = 48 → AT G m_X12_whole 91 [(0, rv 85), (2, iv lo), (3, iv hi), (4, iv a0), (5, iv 1), (6, iv (a0 + 1)), (7, iv 0)] [] (sM h (a0 + 1, a0 + 1)) Φ := fun y => by
        refine lp (a0 + 1) 0 (by omega) (by omega) (by omega) (Or.inr (by omega)) (by omega) (by decide) ?_
        rw [dgs_z (fun t => by omega)]
        have e : dig b (a0 + 1, if b (a0 + 1) = 48 then a0 + 1 else -1) = (a0 + 1, a0 + 1, 0) := by
          by_cases e8 : b (a0 + 1) = 48
          · rw [if_pos e8]; exact dig_w (s := (a0 + 1, a0 + 1)) (by show ¬ a0 + 1 = -1; omega)
          · rw [if_neg e8]; exact dig_n (s := (a0 + 1, -1)) rfl (by rcases y with y | y; exact y; exact absurd y e8)
        rw [e] at K; exact K
      refine m_here T C p0 ⟨fun y => ⟨fun u => ?_, fun _ => ?_⟩, fun y => ⟨fun x => ⟨fun u => ?_, fun _ => ?_⟩, fun x => m_here T C p0 ⟨fun t => ?_, fun t => ⟨fun u => ?_, fun _ => ?_⟩⟩⟩⟩
      · rw [sM_w] at u; exact absurd u (by simp)
      · rw [sM_a, sM_2]; exact nd (Or.inl (fun t => by have y : b (a0 + 1) < 48 := y; omega))
      · rw [sM_w] at u; exact absurd u (by simp)
      · rw [sM_a, sM_2]; exact nd (Or.inl (fun t => by have x : 57 < b (a0 + 1) := x; omega))
      · have t : b (a0 + 1) ≠ 48 := t
        refine lp (-1) 0 (by omega) (by omega) (by omega) (Or.inl rfl) (by omega) (by decide) ?_
        have e : dig b (a0 + 1, if b (a0 + 1) = 48 then a0 + 1 else -1) = dgs b (a0 + 1) 10 (a0 + 1) (-1) 0 := by
          rw [if_neg t]; exact dig_d (s := (a0 + 1, -1)) rfl ⟨y, x⟩
        rw [e] at K; exact K
      · rw [sM_w] at u; exact absurd u (by simp)
      · rw [sM_a, sM_2]; exact nd (Or.inr t)
  · rw [sM_w] at z
    have z : w0 ≠ -1 := by have z : 0 ≤ w0 := z; omega
    rw [itg_w (s := (a0, w0)) z] at K
    exact K
theorem m_behind (T : TX b n) (C : TXm h b n) (S : SV n s) (K : Φ (num b lo hi (skp b 32 s)).2 (sM h (num b lo hi (skp b 32 s)).1)) : Call G m_X12_behind [rv 85, iv lo, iv hi] (sM h s) Φ :=
  Call.of rfl (Nat.le_of_ble_eq_true rfl) rfl (U_X12_behind_85_0 (m_need T C S (m_whole0 T C (skp_v T (by decide) S) K)))
theorem m_done (S : SV n s) (C : TXm h b n) (K1 : s.2 = -1 → n ≤ s.1 → Φ 0 (sM h s)) (K0 : s.2 ≠ -1 → Φ 0 (sM h s)) (K2 : s.2 = -1 → s.1 < n → Φ 0 (sM h (s.1, s.1))) : Call G m_X12_done [rv 85] (sM h s) Φ := by
  obtain ⟨⟨s0, s1⟩, s2⟩ := id S
  refine Call.of rfl (Nat.le_of_ble_eq_true rfl) rfl (U_X12_done_85_0 ?_)
  simp only [sM_w, sM_a, sM_n, C.1, sM_2]
  exact ⟨fun z => ⟨fun y => K1 (by omega) y, fun y => ⟨fun x => absurd x (by omega), fun _ => K2 (by omega) y⟩⟩, fun z => K0 (by omega)⟩
end
/-- where a word ends -/
def wnd (b : Int → Int) : Nat → Int → Int
  | 0, e => e
  | k + 1, e => if (97 ≤ b e ∧ b e ≤ 122) ∨ (48 ≤ b e ∧ b e ≤ 57) then wnd b k (e + 1) else e
def wen (b : Int → Int) (a : Int) : Int := if 97 ≤ b a ∧ b a ≤ 122 then wnd b 1600 a else a
section
variable {G : GG} {b : Int → Int} {n e : Int} {h : Hp} {s : PS} {Φ : Int → Hp → Prop} {k : Nat}
theorem wnd_n (z : ¬ ((97 ≤ b e ∧ b e ≤ 122) ∨ (48 ≤ b e ∧ b e ≤ 57))) : wnd b k e = e := by
  cases k with
  | zero => rfl
  | succ k => simp only [wnd, if_neg z]
theorem wnd_y (z : (97 ≤ b e ∧ b e ≤ 122) ∨ (48 ≤ b e ∧ b e ≤ 57)) : wnd b (k + 1) e = wnd b k (e + 1) := by simp only [wnd, if_pos z]
theorem wnd_v (T : TX b n) : ∀ (k : Nat) (e : Int), 0 ≤ e → e ≤ n → e ≤ wnd b k e ∧ wnd b k e ≤ n
  | 0, e, e0, e1 => ⟨Int.le_refl e, e1⟩
  | k + 1, e, e0, e1 => by
    by_cases z : (97 ≤ b e ∧ b e ≤ 122) ∨ (48 ≤ b e ∧ b e ≤ 57)
    · rw [wnd_y z]
      have q := T.lt (x := e) (by omega)
      have := wnd_v T k (e + 1) (by omega) (by omega)
      omega
    · rw [wnd_n z]; omega
theorem wen_v (T : TX b n) (e0 : 0 ≤ e) (e1 : e ≤ n) : e ≤ wen b e ∧ wen b e ≤ n := by
  unfold wen
  split
  · exact wnd_v T 1600 e e0 e1
  · omega
theorem c_wordEnd (T : TX b n) (C : TXc h b n) (S : SV n s) (K : Φ (wen b s.1) (sT h s)) : Call G m_X10_wordEnd [rv 2] (sT h s) Φ := by
  obtain ⟨⟨s0, s1⟩, s2⟩ := id S
  have t1 := T.1
  have go : ∀ (k : Nat) (e : Int), 0 ≤ e → e ≤ n → n ≤ e + k → Φ (wnd b k e) (sT h s) → AT G m_X10_wordEnd 16 [(0, rv 2), (1, iv e)] [] (sT h s) Φ := by
    intro k
    induction k with
    | zero =>
      intro e e0 e1 e2 K
      refine U_X10_wordEnd_2_16 ?_
      rw [sT_n, C.1]
      exact ⟨fun _ => K, fun z => absurd z (by omega)⟩
    | succ k ih =>
      intro e e0 e1 e2 K
      refine U_X10_wordEnd_2_16 ?_
      rw [sT_n, C.1]
      have st : ¬ ((97 ≤ b e ∧ b e ≤ 122) ∨ (48 ≤ b e ∧ b e ≤ 57)) → Φ e (sT h s) := fun z => by rw [wnd_n z] at K; exact K
      have nx : e < n → ((97 ≤ b e ∧ b e ≤ 122) ∨ (48 ≤ b e ∧ b e ≤ 57)) → AT G m_X10_wordEnd 16 [(0, rv 2), (1, iv (w32 (e + 1)))] [] (sT h s) Φ := fun q z => by
        rw [wnd_y z] at K
        rw [w32_of (by omega) (by omega)]
        exact ih (e + 1) (by omega) (by omega) (by omega) K
      refine ⟨fun z => st (by rw [T.2.2 e (by omega)]; omega), fun z => c_byteAt T C.q ⟨fun y => c_byteAt T C.q ⟨fun x => st (by omega), fun x => ⟨fun u => st (by omega), fun u => nx z (by omega)⟩⟩, fun y => ⟨fun x => c_byteAt T C.q ⟨fun u => st (by omega), fun u => ⟨fun t => st (by omega), fun t => nx z (by omega)⟩⟩, fun x => nx z (by omega)⟩⟩⟩
  refine Call.of rfl (Nat.le_of_ble_eq_true rfl) rfl (U_X10_wordEnd_2_0 ?_)
  rw [sT_a]
  unfold wen at K
  refine c_byteAt T C.q ⟨fun y => ?_, fun y => ⟨fun x => ?_, fun x => ?_⟩⟩
  · rw [if_neg (by omega)] at K; exact K
  · rw [if_neg (by omega)] at K; exact K
  · rw [if_pos ⟨y, x⟩] at K
    exact go 1600 s.1 s0 s1 (by omega) K
theorem m_wordEnd (T : TX b n) (C : TXm h b n) (S : SV n s) (K : Φ (wen b s.1) (sM h s)) : Call G m_X12_wordEnd [rv 85] (sM h s) Φ := by
  obtain ⟨⟨s0, s1⟩, s2⟩ := id S
  have t1 := T.1
  have go : ∀ (k : Nat) (e : Int), 0 ≤ e → e ≤ n → n ≤ e + k → Φ (wnd b k e) (sM h s) → AT G m_X12_wordEnd 25 [(0, rv 85), (1, iv e)] [] (sM h s) Φ := by
    intro k
    induction k with
    | zero =>
      intro e e0 e1 e2 K
      refine U_X12_wordEnd_85_25 ?_
      rw [sM_n, C.1]
      exact ⟨fun _ => K, fun z => absurd z (by omega)⟩
    | succ k ih =>
      intro e e0 e1 e2 K
      refine U_X12_wordEnd_85_25 ?_
      have e87 : sM h s 87 e = h 87 e := sM_o (by decide)
      rw [sM_n, C.1, e87]
      have st : ¬ ((97 ≤ b e ∧ b e ≤ 122) ∨ (48 ≤ b e ∧ b e ≤ 57)) → Φ e (sM h s) := fun z => by rw [wnd_n z] at K; exact K
      have nx : e < n → ((97 ≤ b e ∧ b e ≤ 122) ∨ (48 ≤ b e ∧ b e ≤ 57)) → AT G m_X12_wordEnd 25 [(0, rv 85), (1, iv (w32 (e + 1)))] [] (sM h s) Φ := fun q z => by
        rw [wnd_y z] at K
        rw [w32_of (by omega) (by omega)]
        exact ih (e + 1) (by omega) (by omega) (by omega) K
      refine ⟨fun z => st (by rw [T.2.2 e (by omega)]; omega), fun z => ?_⟩
      rw [C.2 e e0 z]
      exact ⟨by omega, fun y => ⟨by omega, fun x => st (by omega), fun x => ⟨fun u => st (by omega), fun u => nx z (by omega)⟩⟩, fun y => ⟨fun x => ⟨by omega, fun u => st (by omega), fun u => ⟨fun t => st (by omega), fun t => nx z (by omega)⟩⟩, fun x => nx z (by omega)⟩⟩
  refine Call.of rfl (Nat.le_of_ble_eq_true rfl) rfl (U_X12_wordEnd_85_0 ?_)
  have e87 : sM h s 87 s.1 = h 87 s.1 := sM_o (by decide)
  rw [sM_a, sM_n, C.1, e87]
  unfold wen at K
  refine ⟨fun z => ?_, fun z => ⟨by omega, ?_⟩⟩
  · rw [if_neg (by rw [T.2.2 s.1 (by omega)]; omega)] at K; exact K
  · rw [C.2 s.1 s0 z]
    refine ⟨fun y => ?_, fun y => ⟨fun x => ?_, fun x => ?_⟩⟩
    · rw [if_neg (by omega)] at K; exact K
    · rw [if_neg (by omega)] at K; exact K
    · rw [if_pos ⟨y, x⟩] at K
      exact go 1600 s.1 s0 s1 (by omega) K
end
