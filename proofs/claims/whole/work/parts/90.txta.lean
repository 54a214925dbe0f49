/-! TEXTS: the reading of the tape, as a pure machine over (place, fault) -/
abbrev PS : Type := Int × Int
def TX (b : Int → Int) (n : Int) : Prop := (0 ≤ n ∧ n ≤ 1600) ∧ (∀ x, 0 ≤ x → x < n → 0 ≤ b x ∧ b x ≤ 255) ∧ ∀ x, ¬ (0 ≤ x ∧ x < n) → b x = -1
def TXc (h : Hp) (b : Int → Int) (n : Int) : Prop := h 2 1 = n ∧ ∀ x, 0 ≤ x → x < n → h 3 x = b x
def TXm (h : Hp) (b : Int → Int) (n : Int) : Prop := h 85 4 = n ∧ ∀ x, 0 ≤ x → x < n → h 87 x = b x
def SV (n : Int) (s : PS) : Prop := (0 ≤ s.1 ∧ s.1 ≤ n) ∧ (s.2 = -1 ∨ 0 ≤ s.2 ∧ s.2 ≤ n)
def sT (h : Hp) (s : PS) : Hp := up (up h 2 2 s.1) 2 3 s.2
def sM (h : Hp) (s : PS) : Hp := up (up h 85 5 s.1) 85 6 s.2
section
variable {b : Int → Int} {n x i v : Int} {h g : Hp} {s : PS} {k : Nat}
theorem TX.r (T : TX b n) : -1 ≤ b x ∧ b x ≤ 255 := by
  by_cases c : 0 ≤ x ∧ x < n
  · have := T.2.1 x c.1 c.2; omega
  · have := T.2.2 x c; omega
theorem TX.lt (T : TX b n) (c : 0 ≤ b x) : 0 ≤ x ∧ x < n := by
  false_or_by_contra
  rename_i z
  have := T.2.2 x z
  omega
theorem sT_a : sT h s 2 2 = s.1 := by unfold sT; rw [up_ni (by decide), up_at]
theorem sT_w : sT h s 2 3 = s.2 := by unfold sT; rw [up_at]
theorem sT_n : sT h s 2 1 = h 2 1 := by unfold sT; rw [up_ni (by decide), up_ni (by decide)]
theorem sT_o (e : k ≠ 2) : sT h s k i = h k i := by unfold sT; rw [up_nk e, up_nk e]
theorem sT_1 : up (sT h s) 2 2 v = sT h (v, s.2) := by
  funext k i; unfold sT up
  by_cases c : k = 2 ∧ i = 2
  · have d : ¬ (k = 2 ∧ i = 3) := by omega
    simp only [if_pos c, if_neg d]
  · by_cases d : k = 2 ∧ i = 3
    · simp only [if_neg c, if_pos d]
    · simp only [if_neg c, if_neg d]
theorem sT_2 : up (sT h s) 2 3 v = sT h (s.1, v) := by
  funext k i; unfold sT up
  by_cases d : k = 2 ∧ i = 3
  · simp only [if_pos d]
  · simp only [if_neg d]
theorem sT_u (e : k ≠ 2) : up (sT h s) k i v = sT (up h k i v) s := by
  funext k' i'; unfold sT up
  by_cases c : k' = k ∧ i' = i
  · have c1 : ¬ (k' = 2 ∧ i' = 3) := fun z => e (c.1.symm.trans z.1)
    have c2 : ¬ (k' = 2 ∧ i' = 2) := fun z => e (c.1.symm.trans z.1)
    simp only [if_pos c, if_neg c1, if_neg c2]
  · simp only [if_neg c]
theorem TXc.q (C : TXc h b n) : TXc (sT h s) b n := ⟨by rw [sT_n]; exact C.1, fun x x0 x1 => by rw [sT_o (by decide)]; exact C.2 x x0 x1⟩
theorem TXc.u (C : TXc h b n) (e : k ≠ 2 ∧ k ≠ 3) : TXc (up h k i v) b n := ⟨by rw [up_nk (fun z => e.1 z.symm)]; exact C.1, fun x x0 x1 => by rw [up_nk (fun z => e.2 z.symm)]; exact C.2 x x0 x1⟩
theorem sM_a : sM h s 85 5 = s.1 := by unfold sM; rw [up_ni (by decide), up_at]
theorem sM_w : sM h s 85 6 = s.2 := by unfold sM; rw [up_at]
theorem sM_n : sM h s 85 4 = h 85 4 := by unfold sM; rw [up_ni (by decide), up_ni (by decide)]
theorem sM_o (e : k ≠ 85) : sM h s k i = h k i := by unfold sM; rw [up_nk e, up_nk e]
theorem sM_oi (e : i ≠ 5 ∧ i ≠ 6) : sM h s k i = h k i := by unfold sM; rw [up_ni e.2, up_ni e.1]
theorem sM_1 : up (sM h s) 85 5 v = sM h (v, s.2) := by
  funext k i; unfold sM up
  by_cases c : k = 85 ∧ i = 5
  · have d : ¬ (k = 85 ∧ i = 6) := by omega
    simp only [if_pos c, if_neg d]
  · by_cases d : k = 85 ∧ i = 6
    · simp only [if_neg c, if_pos d]
    · simp only [if_neg c, if_neg d]
theorem sM_2 : up (sM h s) 85 6 v = sM h (s.1, v) := by
  funext k i; unfold sM up
  by_cases d : k = 85 ∧ i = 6
  · simp only [if_pos d]
  · simp only [if_neg d]
theorem sM_u (e : k ≠ 85) : up (sM h s) k i v = sM (up h k i v) s := by
  funext k' i'; unfold sM up
  by_cases c : k' = k ∧ i' = i
  · have c1 : ¬ (k' = 85 ∧ i' = 6) := fun z => e (c.1.symm.trans z.1)
    have c2 : ¬ (k' = 85 ∧ i' = 5) := fun z => e (c.1.symm.trans z.1)
    simp only [if_pos c, if_neg c1, if_neg c2]
  · simp only [if_neg c]
theorem TXm.q (C : TXm h b n) : TXm (sM h s) b n := ⟨by rw [sM_n]; exact C.1, fun x x0 x1 => by rw [sM_o (by decide)]; exact C.2 x x0 x1⟩
theorem TXm.u (C : TXm h b n) (e : k ≠ 85 ∧ k ≠ 87) : TXm (up h k i v) b n := ⟨by rw [up_nk (fun z => e.1 z.symm)]; exact C.1, fun x x0 x1 => by rw [up_nk (fun z => e.2 z.symm)]; exact C.2 x x0 x1⟩
theorem cb_sT : cb (sT h s) g = sT (cb h g) s := by unfold sT; rw [cb_uc (by decide), cb_uc (by decide)]
theorem cb_sM : cb g (sM h s) = sM (cb g h) s := by unfold sM; rw [cb_um (by decide), cb_um (by decide)]
end
/-- a sign that must stand there -/
def skp (b : Int → Int) (c : Int) (s : PS) : PS := if s.2 = -1 then (if b s.1 = c then (s.1 + 1, -1) else (s.1, s.1)) else s
def rng (lo hi fr : Int) (r : Int × Int × Int) : PS × Int := if r.2.1 = -1 ∧ ¬ (lo ≤ r.2.2 ∧ r.2.2 ≤ hi) then ((r.1, fr), r.2.2) else ((r.1, r.2.1), r.2.2)
def cvl (lo : Int) (q : PS × Int) : Int := if q.1.2 = -1 then q.2 else lo
def ten : Nat → Int
  | 0 => 1
  | k + 1 => ten k * 10
theorem ten_3 : ∀ k : Nat, k < 4 → ten k ≤ 1000 := by decide
theorem ten_8 : ∀ k : Nat, k < 9 → ten k ≤ 100000000 := by decide
/-- so many digits -/
def fxd (b : Int → Int) : Nat → Int → Int → Int → Int × Int × Int
  | 0, a, w, v => (a, w, v)
  | k + 1, a, w, v => if w = -1 then (if 48 ≤ b a ∧ b a ≤ 57 then fxd b k (a + 1) w (v * 10 + b a - 48) else (a, a, v)) else (a, w, v)
def fix (b : Int → Int) (d : Nat) (lo hi : Int) (s : PS) : PS × Int := if s.2 = -1 then rng lo hi s.1 (fxd b d s.1 (-1) 0) else (s, 0)
/-- digits of a number -/
def dgs (b : Int → Int) (fr : Int) : Nat → Int → Int → Int → Int × Int × Int
  | 0, a, w, v => (a, w, v)
  | k + 1, a, w, v => if w = -1 ∧ 48 ≤ b a ∧ b a ≤ 57 then (if a - fr = 9 ∨ (fr < a ∧ b fr = 48) then (a, a, v) else dgs b fr k (a + 1) w (v * 10 + b a - 48)) else (a, w, v)
def dg1 (fr : Int) (r : Int × Int × Int) : Int × Int × Int := if r.2.1 = -1 ∧ r.1 = fr then (fr, fr, r.2.2) else r
def dig (b : Int → Int) (s : PS) : Int × Int × Int := dg1 s.1 (dgs b s.1 10 s.1 s.2 0)
def num (b : Int → Int) (lo hi : Int) (s : PS) : PS × Int := rng lo hi s.1 (dig b s)
def ngt (r : Int × Int × Int) : Int × Int × Int := (r.1, r.2.1, -r.2.2)
def itg (b : Int → Int) (lo hi : Int) (s : PS) : PS × Int := if s.2 = -1 ∧ b s.1 = 45 then rng lo hi s.1 (ngt (dig b (s.1 + 1, if b (s.1 + 1) = 48 then s.1 + 1 else -1))) else num b lo hi s
def cmp (b : Int → Int) (s : PS) : PS := if s.2 = -1 then (if b s.1 = 61 ∨ b s.1 = 60 ∨ b s.1 = 62 then (s.1 + 1, -1) else (s.1, s.1)) else s
section
variable {b : Int → Int} {n lo hi fr a w v c : Int} {s : PS} {k d : Nat}
theorem rng_w (z : w ≠ -1) : rng lo hi fr (a, w, v) = ((a, w), v) := if_neg (fun t => z t.1)
theorem rng_y (z : lo ≤ v ∧ v ≤ hi) : rng lo hi fr (a, w, v) = ((a, w), v) := if_neg (fun t => t.2 z)
theorem rng_n (z : ¬ (lo ≤ v ∧ v ≤ hi)) : rng lo hi fr (a, -1, v) = ((a, fr), v) := if_pos ⟨rfl, z⟩
theorem fxd_w (z : w ≠ -1) : fxd b k a w v = (a, w, v) := by
  cases k with
  | zero => rfl
  | succ k => simp only [fxd, if_neg z]
theorem fxd_n (z : w = -1) (y : ¬ (48 ≤ b a ∧ b a ≤ 57)) : fxd b (k + 1) a w v = (a, a, v) := by simp only [fxd, if_pos z, if_neg y]
theorem fxd_y (z : w = -1) (y : 48 ≤ b a ∧ b a ≤ 57) : fxd b (k + 1) a w v = fxd b k (a + 1) w (v * 10 + b a - 48) := by simp only [fxd, if_pos z, if_pos y]
theorem dgs_z (z : ¬ (w = -1 ∧ 48 ≤ b a ∧ b a ≤ 57)) : dgs b fr k a w v = (a, w, v) := by
  cases k with
  | zero => rfl
  | succ k => simp only [dgs, if_neg z]
theorem dgs_f (z : w = -1 ∧ 48 ≤ b a ∧ b a ≤ 57) (y : a - fr = 9 ∨ (fr < a ∧ b fr = 48)) : dgs b fr (k + 1) a w v = (a, a, v) := by simp only [dgs, if_pos z, if_pos y]
theorem dgs_s (z : w = -1 ∧ 48 ≤ b a ∧ b a ≤ 57) (y : ¬ (a - fr = 9 ∨ (fr < a ∧ b fr = 48))) : dgs b fr (k + 1) a w v = dgs b fr k (a + 1) w (v * 10 + b a - 48) := by simp only [dgs, if_pos z, if_neg y]
/-- where digits end -/
def RV (n : Int) (r : Int × Int × Int) : Prop := (0 ≤ r.1 ∧ r.1 ≤ n) ∧ (r.2.1 = -1 ∨ 0 ≤ r.2.1 ∧ r.2.1 ≤ n)
theorem skp_v (T : TX b n) (hc : 0 ≤ c) (S : SV n s) : SV n (skp b c s) := by
  unfold skp
  split
  · split
    · rename_i z y
      have q := T.lt (x := s.1) (by omega)
      exact ⟨⟨by show 0 ≤ s.1 + 1; omega, by show s.1 + 1 ≤ n; omega⟩, Or.inl rfl⟩
    · exact ⟨S.1, Or.inr S.1⟩
  · exact S
theorem rng_v (f : 0 ≤ fr ∧ fr ≤ n) {r : Int × Int × Int} (R : RV n r) : SV n (rng lo hi fr r).1 := by
  unfold rng
  split
  · exact ⟨R.1, Or.inr f⟩
  · exact R
theorem fxd_v (T : TX b n) : ∀ (k : Nat) (a w v : Int), RV n (a, w, v) → RV n (fxd b k a w v)
  | 0, _, _, _, R => R
  | k + 1, a, w, v, R => by
    by_cases z : w = -1
    · by_cases y : 48 ≤ b a ∧ b a ≤ 57
      · rw [fxd_y z y]
        have q := T.lt (x := a) (by omega)
        exact fxd_v T k _ _ _ ⟨⟨by show 0 ≤ a + 1; omega, by show a + 1 ≤ n; omega⟩, Or.inl z⟩
      · rw [fxd_n z y]; exact ⟨R.1, Or.inr R.1⟩
    · rw [fxd_w z]; exact R
theorem fix_v (T : TX b n) (S : SV n s) : SV n (fix b d lo hi s).1 := by
  unfold fix
  split
  · exact rng_v S.1 (fxd_v T _ _ _ _ ⟨S.1, Or.inl rfl⟩)
  · exact S
theorem dgs_v (T : TX b n) : ∀ (k : Nat) (a w v : Int), RV n (a, w, v) → RV n (dgs b fr k a w v)
  | 0, _, _, _, R => R
  | k + 1, a, w, v, R => by
    by_cases z : w = -1 ∧ 48 ≤ b a ∧ b a ≤ 57
    · by_cases y : a - fr = 9 ∨ (fr < a ∧ b fr = 48)
      · rw [dgs_f z y]; exact ⟨R.1, Or.inr R.1⟩
      · rw [dgs_s z y]
        have q := T.lt (x := a) (by omega)
        exact dgs_v T k _ _ _ ⟨⟨by show 0 ≤ a + 1; omega, by show a + 1 ≤ n; omega⟩, Or.inl z.1⟩
    · rw [dgs_z z]; exact R
theorem dgs_ge : ∀ (k : Nat) (a w v : Int), a ≤ (dgs b fr k a w v).1
  | 0, a, _, _ => Int.le_refl a
  | k + 1, a, w, v => by
    by_cases z : w = -1 ∧ 48 ≤ b a ∧ b a ≤ 57
    · by_cases y : a - fr = 9 ∨ (fr < a ∧ b fr = 48)
      · rw [dgs_f z y]; exact Int.le_refl a
      · rw [dgs_s z y]
        have := dgs_ge k (a + 1) w (v * 10 + b a - 48)
        omega
    · rw [dgs_z z]; exact Int.le_refl a
theorem dig_v (T : TX b n) (S : SV n s) : RV n (dig b s) := by
  have R := dgs_v (fr := s.1) T 10 s.1 s.2 0 S
  unfold dig dg1
  split
  · exact ⟨S.1, Or.inr S.1⟩
  · exact R
theorem num_v (T : TX b n) (S : SV n s) : SV n (num b lo hi s).1 := rng_v S.1 (dig_v T S)
theorem itg_v (T : TX b n) (S : SV n s) : SV n (itg b lo hi s).1 := by
  unfold itg
  split
  · rename_i z
    have q := T.lt (x := s.1) (by omega)
    have S' : SV n (s.1 + 1, if b (s.1 + 1) = 48 then s.1 + 1 else -1) := by
      refine ⟨⟨by show 0 ≤ s.1 + 1; omega, by show s.1 + 1 ≤ n; omega⟩, ?_⟩
      show (if b (s.1 + 1) = 48 then s.1 + 1 else -1) = -1 ∨ 0 ≤ (if b (s.1 + 1) = 48 then s.1 + 1 else -1) ∧ (if b (s.1 + 1) = 48 then s.1 + 1 else -1) ≤ n
      split
      · right; omega
      · left; rfl
    exact rng_v S.1 (dig_v T S')
  · exact num_v T S
theorem cmp_v (T : TX b n) (S : SV n s) : SV n (cmp b s) := by
  unfold cmp
  split
  · split
    · rename_i z y
      have q := T.lt (x := s.1) (by omega)
      exact ⟨⟨by show 0 ≤ s.1 + 1; omega, by show s.1 + 1 ≤ n; omega⟩, Or.inl rfl⟩
    · exact ⟨S.1, Or.inr S.1⟩
  · exact S
/-- behind a fault nothing moves -/
theorem skp_w (z : s.2 ≠ -1) : skp b c s = s := if_neg z
theorem dig_w (z : s.2 ≠ -1) : dig b s = (s.1, s.2, 0) := by
  unfold dig
  rw [dgs_z (fun t => z t.1)]
  exact if_neg (fun t => z t.1)
theorem num_w (z : s.2 ≠ -1) : num b lo hi s = (s, 0) := by
  unfold num
  rw [dig_w z]
  exact rng_w z
theorem itg_w (z : s.2 ≠ -1) : itg b lo hi s = (s, 0) := by
  unfold itg
  rw [if_neg (fun t => z t.1), num_w z]
theorem cmp_w (z : s.2 ≠ -1) : cmp b s = s := if_neg z
theorem fix_w (z : s.2 ≠ -1) : fix b d lo hi s = (s, 0) := if_neg z
/-- a right end: the value lies between -/
theorem rng_r {r : Int × Int × Int} (f : 0 ≤ fr) (z : (rng lo hi fr r).1.2 = -1) : lo ≤ (rng lo hi fr r).2 ∧ (rng lo hi fr r).2 ≤ hi := by
  unfold rng at z ⊢
  split at z
  · exact absurd z (by show ¬ fr = -1; omega)
  · rename_i y
    rw [if_neg y]
    have z : r.2.1 = -1 := z
    show lo ≤ r.2.2 ∧ r.2.2 ≤ hi
    false_or_by_contra
    rename_i t
    exact y ⟨z, t⟩
theorem num_r (S : SV n s) (z : (num b lo hi s).1.2 = -1) : lo ≤ (num b lo hi s).2 ∧ (num b lo hi s).2 ≤ hi := rng_r S.1.1 z
theorem fix_r (S : SV n s) (z : (fix b d lo hi s).1.2 = -1) : lo ≤ (fix b d lo hi s).2 ∧ (fix b d lo hi s).2 ≤ hi := by
  by_cases e : s.2 = -1
  · have q : fix b d lo hi s = rng lo hi s.1 (fxd b d s.1 (-1) 0) := if_pos e
    rw [q] at z ⊢
    exact rng_r S.1.1 z
  · rw [fix_w e] at z; exact absurd z e
theorem cvl_r {q : PS × Int} (z : q.1.2 = -1) : cvl lo q = q.2 := if_pos z
theorem cvl_w {q : PS × Int} (z : q.1.2 ≠ -1) : cvl lo q = lo := if_neg z
end
