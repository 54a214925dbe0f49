/-! TEXTS: the words of class and model, and lines -/
theorem tld_none {u : List Int} : ∀ (d : Nat) (x : Int), (∀ i : Nat, i < d → u ≠ wd (tx (x + (i : Int)))) → tld u d x = none
  | 0, _, _ => rfl
  | d + 1, x, z => by
    have z0 := z 0 (by omega)
    have e0 : x + ((0 : Nat) : Int) = x := by omega
    rw [e0] at z0
    have e : tld u (d + 1) x = tld u d (x + 1) := by simp only [tld, if_neg z0]
    rw [e]
    refine tld_none d (x + 1) (fun i hi => ?_)
    have := z (i + 1) (by omega)
    have e1 : x + ((i + 1 : Nat) : Int) = x + 1 + (i : Int) := by omega
    rw [e1] at this
    exact this
theorem mfd_none {u : List Int} {k : Nat} : ∀ (d w : Nat), (∀ i : Nat, i < d → u ≠ wd (rf k (w + i))) → mfd u k d w = none
  | 0, _, _ => rfl
  | d + 1, w, z => by
    have z0 := z 0 (by omega)
    rw [Nat.add_zero] at z0
    have e : mfd u k (d + 1) w = mfd u k d (w + 1) := by simp only [mfd, if_neg z0]
    rw [e]
    refine mfd_none d (w + 1) (fun i hi => ?_)
    have := z (i + 1) (by omega)
    rw [show w + (i + 1) = w + 1 + i by omega] at this
    exact this
theorem tld_some {u : List Int} {c : Int} : ∀ (d : Nat) (x : Int), tld u d x = some c → x ≤ c ∧ c < x + d
  | 0, _, z => by cases z
  | d + 1, x, z => by
    by_cases m : u = wd (tx x)
    · have e : tld u (d + 1) x = some x := by simp only [tld, if_pos m]
      rw [e] at z
      have := Option.some.inj z
      omega
    · have e : tld u (d + 1) x = tld u d (x + 1) := by simp only [tld, if_neg m]
      rw [e] at z
      have := tld_some d (x + 1) z
      omega
theorem wd_in (u : List Int) (m : u ∉ strB) {d : Nat} {x : Int} (z : ∀ i : Nat, i < d → wd (tx (x + (i : Int))) ∈ strB) : tld u d x = none :=
  tld_none d x (fun i hi e => m (e ▸ z i hi))
theorem wf_in (u : List Int) (m : u ∉ strB) {k d : Nat} (z : ∀ i : Nat, i < d → wd (rf k (0 + i)) ∈ strB) : mfd u k d 0 = none :=
  mfd_none d 0 (fun i hi e => m (e ▸ z i hi))
/-- the class's number of a verb, as the model's -/
def mvb (c : Int) : Int := if c ≤ 4 then c + 1 else if c = 5 then 12 else if c ≤ 7 then c - 6 else if c ≤ 13 then c - 2 else c - 1
theorem wr_99 (u : List Int) : mfd u 99 13 0 = (tld u 13 1).map mvb := by
  by_cases m : u ∈ strB
  · exact (by decide +kernel : ∀ u ∈ strB, mfd u 99 13 0 = (tld u 13 1).map mvb) u m
  · rw [wd_in u m (by decide +kernel), wf_in u m (by decide +kernel)]; rfl
theorem wr_100 (u : List Int) : mfd u 100 17 0 = (tld u 17 16).map (fun c => c - 16) := by
  by_cases m : u ∈ strB
  · exact (by decide +kernel : ∀ u ∈ strB, mfd u 100 17 0 = (tld u 17 16).map (fun c => c - 16)) u m
  · rw [wd_in u m (by decide +kernel), wf_in u m (by decide +kernel)]; rfl
theorem wr_101 (u : List Int) : mfd u 101 8 0 = (tld u 8 25).map (fun c => c - 25) := by
  by_cases m : u ∈ strB
  · exact (by decide +kernel : ∀ u ∈ strB, mfd u 101 8 0 = (tld u 8 25).map (fun c => c - 25)) u m
  · rw [wd_in u m (by decide +kernel), wf_in u m (by decide +kernel)]; rfl
theorem wr_102 (u : List Int) : mfd u 102 1 0 = (tld u 1 4).map (fun c => c - 4) := by
  by_cases m : u ∈ strB
  · exact (by decide +kernel : ∀ u ∈ strB, mfd u 102 1 0 = (tld u 1 4).map (fun c => c - 4)) u m
  · rw [wd_in u m (by decide +kernel), wf_in u m (by decide +kernel)]; rfl
def chk98 (u : List Int) : Bool := match tld u 10 6, mfd u 98 15 0 with
  | none, none => true
  | none, some m => decide (m = 2 ∨ m = 3 ∨ m = 4 ∨ m = 5 ∨ m = 12)
  | some c, some m => decide (m = mvb c ∧ (c ≤ 13 → mfd u 99 13 0 = some m))
  | some _, none => false
theorem wr_98 (u : List Int) : chk98 u = true := by
  by_cases m : u ∈ strB
  · exact (by decide +kernel : ∀ u ∈ strB, chk98 u = true) u m
  · unfold chk98
    rw [wd_in u m (by decide +kernel), wf_in u m (by decide +kernel)]
section
variable {G : GG} {b : Int → Int} {n x : Int} {h : Hp} {s : PS} {Φ : Int → Hp → Prop}
theorem rel_w {k cnt d : Nat} {x1 : Int} {f : Int → Int} (hf : ∀ u, mfd u k cnt 0 = (tld u d x1).map f) (S : SV n s) : (mwo b k cnt s).1 = (tol b x1 d s).1 ∧ ((tol b x1 d s).1.2 = -1 → (x1 ≤ (tol b x1 d s).2 ∧ (tol b x1 d s).2 < x1 + d) ∧ (mwo b k cnt s).2 = f (tol b x1 d s).2) ∧ ((tol b x1 d s).1.2 ≠ -1 → (tol b x1 d s).2 = x1 ∧ (mwo b k cnt s).2 = -1) := by
  by_cases z : s.2 = -1
  · unfold tol mwo
    rw [if_pos z, if_pos z, hf]
    cases e : tld (wl b s.1 (wen b s.1)) d x1 with
    | none => exact ⟨rfl, fun y => by have y : s.1 = -1 := y; have := S.1; omega, fun _ => ⟨rfl, rfl⟩⟩
    | some c => exact ⟨rfl, fun _ => ⟨tld_some d x1 e, rfl⟩, fun y => absurd rfl y⟩
  · rw [tol_w z, mwo_w z]
    exact ⟨rfl, fun y => absurd y z, fun _ => ⟨rfl, rfl⟩⟩
end
/-- a row of a line: class's cells 5 .. 9, model's 103 .. 108 -/
abbrev T5 : Type := Int × Int × Int × Int × Int
abbrev T6 : Type := Int × Int × Int × Int × Int × Int
def ln5 (h : Hp) (x : Int) (F : T5) : Hp := fun k i => if i = x then (if k = 5 then F.1 else (if k = 6 then F.2.1 else (if k = 7 then F.2.2.1 else (if k = 8 then F.2.2.2.1 else (if k = 9 then F.2.2.2.2 else h k i))))) else h k i
section
variable {h g : Hp} {x v i : Int} {F : T5} {k : Nat} {b : Int → Int} {n : Int}
theorem ln5_5 : up (ln5 h x F) 5 x v = ln5 h x (v, F.2.1, F.2.2.1, F.2.2.2.1, F.2.2.2.2) := by
  funext k i
  unfold ln5 up
  by_cases e : i = x
  · by_cases c : k = 5
    · subst c; subst e; simp
    · have t : ¬ (k = 5 ∧ i = x) := fun t => c t.1
      simp only [if_neg t, if_pos e, if_neg c]
  · have t : ¬ (k = 5 ∧ i = x) := fun t => e t.2
    simp only [if_neg t, if_neg e]
theorem ln5_r5 : ln5 h x F 5 x = F.1 := by unfold ln5; simp
theorem ln5_6 : up (ln5 h x F) 6 x v = ln5 h x (F.1, v, F.2.2.1, F.2.2.2.1, F.2.2.2.2) := by
  funext k i
  unfold ln5 up
  by_cases e : i = x
  · by_cases c : k = 6
    · subst c; subst e; simp
    · have t : ¬ (k = 6 ∧ i = x) := fun t => c t.1
      simp only [if_neg t, if_pos e, if_neg c]
  · have t : ¬ (k = 6 ∧ i = x) := fun t => e t.2
    simp only [if_neg t, if_neg e]
theorem ln5_r6 : ln5 h x F 6 x = F.2.1 := by unfold ln5; simp
theorem ln5_7 : up (ln5 h x F) 7 x v = ln5 h x (F.1, F.2.1, v, F.2.2.2.1, F.2.2.2.2) := by
  funext k i
  unfold ln5 up
  by_cases e : i = x
  · by_cases c : k = 7
    · subst c; subst e; simp
    · have t : ¬ (k = 7 ∧ i = x) := fun t => c t.1
      simp only [if_neg t, if_pos e, if_neg c]
  · have t : ¬ (k = 7 ∧ i = x) := fun t => e t.2
    simp only [if_neg t, if_neg e]
theorem ln5_r7 : ln5 h x F 7 x = F.2.2.1 := by unfold ln5; simp
theorem ln5_8 : up (ln5 h x F) 8 x v = ln5 h x (F.1, F.2.1, F.2.2.1, v, F.2.2.2.2) := by
  funext k i
  unfold ln5 up
  by_cases e : i = x
  · by_cases c : k = 8
    · subst c; subst e; simp
    · have t : ¬ (k = 8 ∧ i = x) := fun t => c t.1
      simp only [if_neg t, if_pos e, if_neg c]
  · have t : ¬ (k = 8 ∧ i = x) := fun t => e t.2
    simp only [if_neg t, if_neg e]
theorem ln5_r8 : ln5 h x F 8 x = F.2.2.2.1 := by unfold ln5; simp
theorem ln5_9 : up (ln5 h x F) 9 x v = ln5 h x (F.1, F.2.1, F.2.2.1, F.2.2.2.1, v) := by
  funext k i
  unfold ln5 up
  by_cases e : i = x
  · by_cases c : k = 9
    · subst c; subst e; simp
    · have t : ¬ (k = 9 ∧ i = x) := fun t => c t.1
      simp only [if_neg t, if_pos e, if_neg c]
  · have t : ¬ (k = 9 ∧ i = x) := fun t => e t.2
    simp only [if_neg t, if_neg e]
theorem ln5_r9 : ln5 h x F 9 x = F.2.2.2.2 := by unfold ln5; simp
theorem ln5_o (z : ¬ (i = x ∧ 5 ≤ k ∧ k ≤ 9)) : ln5 h x F k i = h k i := by
  unfold ln5
  by_cases e : i = x
  · rw [if_pos e]
    rw [if_neg (by omega), if_neg (by omega), if_neg (by omega), if_neg (by omega), if_neg (by omega)]
  · rw [if_neg e]
theorem ln5_id : ln5 h x (h 5 x, h 6 x, h 7 x, h 8 x, h 9 x) = h := by
  funext k i
  by_cases z : i = x ∧ 5 ≤ k ∧ k ≤ 9
  · obtain ⟨rfl, z⟩ := z
    have t : k = 5 ∨ k = 6 ∨ k = 7 ∨ k = 8 ∨ k = 9 := by omega
    rcases t with rfl | rfl | rfl | rfl | rfl <;> simp [ln5]
  · exact ln5_o z
theorem ln5_u {i : Int} {k : Nat} (e : ¬ (5 ≤ k ∧ k ≤ 9)) : up (ln5 h x F) k i v = ln5 (up h k i v) x F := by
  funext k' i'
  by_cases z : i' = x ∧ 5 ≤ k' ∧ k' ≤ 9
  · rw [up_ap, if_neg (by omega)]
    unfold ln5
    rw [if_pos z.1, if_pos z.1]
    have t : k' = 5 ∨ k' = 6 ∨ k' = 7 ∨ k' = 8 ∨ k' = 9 := by omega
    rcases t with rfl | rfl | rfl | rfl | rfl <;> simp
  · rw [ln5_o z]
    unfold up
    rw [ln5_o z]
theorem TXc.l (C : TXc h b n) : TXc (ln5 h x F) b n := ⟨by rw [ln5_o (by omega)]; exact C.1, fun y y0 y1 => by rw [ln5_o (by omega)]; exact C.2 y y0 y1⟩
theorem cb_ln5 : cb (ln5 h x F) g = ln5 (cb h g) x F := by
  funext k i
  by_cases z : i = x ∧ 5 ≤ k ∧ k ≤ 9
  · rw [cb_c (by omega)]
    unfold ln5
    rw [if_pos z.1, if_pos z.1]
    have t : k = 5 ∨ k = 6 ∨ k = 7 ∨ k = 8 ∨ k = 9 := by omega
    rcases t with rfl | rfl | rfl | rfl | rfl <;> simp
  · rw [ln5_o z]
    unfold cb
    rw [ln5_o z]
end
def ln6 (h : Hp) (x : Int) (M : T6) : Hp := fun k i => if i = x then (if k = 103 then M.1 else (if k = 104 then M.2.1 else (if k = 105 then M.2.2.1 else (if k = 106 then M.2.2.2.1 else (if k = 107 then M.2.2.2.2.1 else (if k = 108 then M.2.2.2.2.2 else h k i)))))) else h k i
section
variable {h g : Hp} {x v i : Int} {M : T6} {k : Nat} {b : Int → Int} {n : Int}
theorem ln6_103 : up (ln6 h x M) 103 x v = ln6 h x (v, M.2.1, M.2.2.1, M.2.2.2.1, M.2.2.2.2.1, M.2.2.2.2.2) := by
  funext k i
  unfold ln6 up
  by_cases e : i = x
  · by_cases c : k = 103
    · subst c; subst e; simp
    · have t : ¬ (k = 103 ∧ i = x) := fun t => c t.1
      simp only [if_neg t, if_pos e, if_neg c]
  · have t : ¬ (k = 103 ∧ i = x) := fun t => e t.2
    simp only [if_neg t, if_neg e]
theorem ln6_r103 : ln6 h x M 103 x = M.1 := by unfold ln6; simp
theorem ln6_104 : up (ln6 h x M) 104 x v = ln6 h x (M.1, v, M.2.2.1, M.2.2.2.1, M.2.2.2.2.1, M.2.2.2.2.2) := by
  funext k i
  unfold ln6 up
  by_cases e : i = x
  · by_cases c : k = 104
    · subst c; subst e; simp
    · have t : ¬ (k = 104 ∧ i = x) := fun t => c t.1
      simp only [if_neg t, if_pos e, if_neg c]
  · have t : ¬ (k = 104 ∧ i = x) := fun t => e t.2
    simp only [if_neg t, if_neg e]
theorem ln6_r104 : ln6 h x M 104 x = M.2.1 := by unfold ln6; simp
theorem ln6_105 : up (ln6 h x M) 105 x v = ln6 h x (M.1, M.2.1, v, M.2.2.2.1, M.2.2.2.2.1, M.2.2.2.2.2) := by
  funext k i
  unfold ln6 up
  by_cases e : i = x
  · by_cases c : k = 105
    · subst c; subst e; simp
    · have t : ¬ (k = 105 ∧ i = x) := fun t => c t.1
      simp only [if_neg t, if_pos e, if_neg c]
  · have t : ¬ (k = 105 ∧ i = x) := fun t => e t.2
    simp only [if_neg t, if_neg e]
theorem ln6_r105 : ln6 h x M 105 x = M.2.2.1 := by unfold ln6; simp
theorem ln6_106 : up (ln6 h x M) 106 x v = ln6 h x (M.1, M.2.1, M.2.2.1, v, M.2.2.2.2.1, M.2.2.2.2.2) := by
  funext k i
  unfold ln6 up
  by_cases e : i = x
  · by_cases c : k = 106
    · subst c; subst e; simp
    · have t : ¬ (k = 106 ∧ i = x) := fun t => c t.1
      simp only [if_neg t, if_pos e, if_neg c]
  · have t : ¬ (k = 106 ∧ i = x) := fun t => e t.2
    simp only [if_neg t, if_neg e]
theorem ln6_r106 : ln6 h x M 106 x = M.2.2.2.1 := by unfold ln6; simp
theorem ln6_107 : up (ln6 h x M) 107 x v = ln6 h x (M.1, M.2.1, M.2.2.1, M.2.2.2.1, v, M.2.2.2.2.2) := by
  funext k i
  unfold ln6 up
  by_cases e : i = x
  · by_cases c : k = 107
    · subst c; subst e; simp
    · have t : ¬ (k = 107 ∧ i = x) := fun t => c t.1
      simp only [if_neg t, if_pos e, if_neg c]
  · have t : ¬ (k = 107 ∧ i = x) := fun t => e t.2
    simp only [if_neg t, if_neg e]
theorem ln6_r107 : ln6 h x M 107 x = M.2.2.2.2.1 := by unfold ln6; simp
theorem ln6_108 : up (ln6 h x M) 108 x v = ln6 h x (M.1, M.2.1, M.2.2.1, M.2.2.2.1, M.2.2.2.2.1, v) := by
  funext k i
  unfold ln6 up
  by_cases e : i = x
  · by_cases c : k = 108
    · subst c; subst e; simp
    · have t : ¬ (k = 108 ∧ i = x) := fun t => c t.1
      simp only [if_neg t, if_pos e, if_neg c]
  · have t : ¬ (k = 108 ∧ i = x) := fun t => e t.2
    simp only [if_neg t, if_neg e]
theorem ln6_r108 : ln6 h x M 108 x = M.2.2.2.2.2 := by unfold ln6; simp
theorem ln6_o (z : ¬ (i = x ∧ 103 ≤ k ∧ k ≤ 108)) : ln6 h x M k i = h k i := by
  unfold ln6
  by_cases e : i = x
  · rw [if_pos e]
    rw [if_neg (by omega), if_neg (by omega), if_neg (by omega), if_neg (by omega), if_neg (by omega), if_neg (by omega)]
  · rw [if_neg e]
theorem ln6_id : ln6 h x (h 103 x, h 104 x, h 105 x, h 106 x, h 107 x, h 108 x) = h := by
  funext k i
  by_cases z : i = x ∧ 103 ≤ k ∧ k ≤ 108
  · obtain ⟨rfl, z⟩ := z
    have t : k = 103 ∨ k = 104 ∨ k = 105 ∨ k = 106 ∨ k = 107 ∨ k = 108 := by omega
    rcases t with rfl | rfl | rfl | rfl | rfl | rfl <;> simp [ln6]
  · exact ln6_o z
theorem TXm.l (C : TXm h b n) : TXm (ln6 h x M) b n := ⟨by rw [ln6_o (by omega)]; exact C.1, fun y y0 y1 => by rw [ln6_o (by omega)]; exact C.2 y y0 y1⟩
theorem cb_ln6 : cb g (ln6 h x M) = ln6 (cb g h) x M := by
  funext k i
  by_cases z : i = x ∧ 103 ≤ k ∧ k ≤ 108
  · rw [cb_m (by omega)]
    unfold ln6
    rw [if_pos z.1, if_pos z.1]
    have t : k = 103 ∨ k = 104 ∨ k = 105 ∨ k = 106 ∨ k = 107 ∨ k = 108 := by omega
    rcases t with rfl | rfl | rfl | rfl | rfl | rfl <;> simp
  · rw [ln6_o z]
    unfold cb
    rw [ln6_o z]
end
