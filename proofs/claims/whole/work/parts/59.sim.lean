/-! TWO HALVES OF A HEAP: the class moves cells below 85, the model the others -/
def cb (c m : Hp) : Hp := fun k i => if k < 85 then c k i else m k i
theorem cb_c {c m : Hp} {k : Nat} {i : Int} (h : k < 85) : cb c m k i = c k i := if_pos h
theorem cb_m {c m : Hp} {k : Nat} {i : Int} (h : 85 ≤ k) : cb c m k i = m k i := if_neg (by omega)
theorem cb_cr {c m : Hp} {k : Nat} (h : k < 85) : cb c m k = c k := by funext i; exact cb_c h
theorem cb_mr {c m : Hp} {k : Nat} (h : 85 ≤ k) : cb c m k = m k := by funext i; exact cb_m h
theorem cb_id {h : Hp} : cb h h = h := by funext k i; unfold cb; split <;> rfl
theorem cb_upc {c m : Hp} {k : Nat} {i v : Int} (h : k < 85) : up (cb c m) k i v = cb (up c k i v) m := by
  funext k' i'; unfold cb up
  by_cases e : k' = k ∧ i' = i
  · rw [if_pos e, if_pos (show k' < 85 by omega), if_pos e]
  · rw [if_neg e, if_neg e]
theorem cb_upm {c m : Hp} {k : Nat} {i v : Int} (h : 85 ≤ k) : up (cb c m) k i v = cb c (up m k i v) := by
  funext k' i'; unfold cb up
  by_cases e : k' = k ∧ i' = i
  · rw [if_pos e, if_neg (show ¬ k' < 85 by omega), if_pos e]
  · rw [if_neg e, if_neg e]
theorem cb_rowc {c m : Hp} {k : Nat} {f : Int → Int} (h : k < 85) : row (cb c m) k f = cb (row c k f) m := by
  funext k' i'; unfold cb row
  by_cases e : k' = k
  · rw [if_pos e, if_pos (show k' < 85 by omega), if_pos e]
  · rw [if_neg e, if_neg e]
theorem cb_rowm {c m : Hp} {k : Nat} {f : Int → Int} (h : 85 ≤ k) : row (cb c m) k f = cb c (row m k f) := by
  funext k' i'; unfold cb row
  by_cases e : k' = k
  · rw [if_pos e, if_neg (show ¬ k' < 85 by omega), if_pos e]
  · rw [if_neg e, if_neg e]
theorem cb_cpyc {c m : Hp} {k0 k1 : Nat} {sp dp n : Int} (h0 : k0 < 85) (h1 : k1 < 85) : cpy (cb c m) k0 sp k1 dp n = cb (cpy c k0 sp k1 dp n) m := by
  funext k' i'; unfold cpy
  by_cases e : k' = k1 ∧ dp ≤ i' ∧ i' < dp + n
  · rw [if_pos e, cb_c h0, cb_c (by omega), if_pos e]
  · rw [if_neg e]; unfold cb; split
    · exact (if_neg e).symm
    · rfl
theorem cb_l {a b m : Hp} : cb (cb a b) m = cb a m := by funext k i; unfold cb; split <;> rfl
theorem cb_r {c a b : Hp} : cb c (cb a b) = cb c b := by funext k i; unfold cb; split <;> rfl
theorem cb_uc {c m : Hp} {k : Nat} {i v : Int} (h : k < 85) : cb (up c k i v) m = up (cb c m) k i v := (cb_upc h).symm
theorem cb_um {c m : Hp} {k : Nat} {i v : Int} (h : 85 ≤ k) : cb c (up m k i v) = up (cb c m) k i v := (cb_upm h).symm
theorem cb_uc' {c m : Hp} {k : Nat} {i v : Int} (h : 85 ≤ k) : cb (up c k i v) m = cb c m := by
  funext k' i'; unfold cb up
  by_cases e : k' < 85
  · rw [if_pos e, if_pos e, if_neg (by omega)]
  · rw [if_neg e, if_neg e]
theorem cb_um' {c m : Hp} {k : Nat} {i v : Int} (h : k < 85) : cb c (up m k i v) = cb c m := by
  funext k' i'; unfold cb up
  by_cases e : k' < 85
  · rw [if_pos e, if_pos e]
  · rw [if_neg e, if_neg e, if_neg (by omega)]
theorem cb_rc {c m : Hp} {k : Nat} {f : Int → Int} (h : k < 85) : cb (row c k f) m = row (cb c m) k f := (cb_rowc h).symm
theorem cb_rm {c m : Hp} {k : Nat} {f : Int → Int} (h : 85 ≤ k) : cb c (row m k f) = row (cb c m) k f := (cb_rowm h).symm
theorem cb_rc' {c m : Hp} {k : Nat} {f : Int → Int} (h : 85 ≤ k) : cb (row c k f) m = cb c m := by
  funext k' i'; unfold cb row
  by_cases e : k' < 85
  · rw [if_pos e, if_pos e, if_neg (by omega)]
  · rw [if_neg e, if_neg e]
theorem cb_rm' {c m : Hp} {k : Nat} {f : Int → Int} (h : k < 85) : cb c (row m k f) = cb c m := by
  funext k' i'; unfold cb row
  by_cases e : k' < 85
  · rw [if_pos e, if_pos e]
  · rw [if_neg e, if_neg e, if_neg (by omega)]
theorem cb_ap {c m : Hp} {k : Nat} {i : Int} : cb c m k i = if k < 85 then c k i else m k i := rfl
theorem up_ap {h : Hp} {k k' : Nat} {i i' v : Int} : up h k i v k' i' = if k' = k ∧ i' = i then v else h k' i' := rfl
theorem up_at {h : Hp} {k : Nat} {i v : Int} : up h k i v k i = v := if_pos ⟨rfl, rfl⟩
theorem up_nk {h : Hp} {k k' : Nat} {i i' v : Int} (e : k' ≠ k) : up h k i v k' i' = h k' i' := if_neg (fun z => e z.1)
theorem up_ni {h : Hp} {k k' : Nat} {i i' v : Int} (e : i' ≠ i) : up h k i v k' i' = h k' i' := if_neg (fun z => e z.2)
theorem up_same {h : Hp} {k : Nat} {i i' v : Int} : up h k i v k i' = if i' = i then v else h k i' := by
  unfold up; by_cases e : i' = i <;> simp [e]
/-- the class's call: from the class's half of h to that of h' -/
def CE (G : GG) (M : MD) (as : List AV) (h : Hp) (r : Int) (h' : Hp) : Prop := ∀ (g : Hp) (Φ : Int → Hp → Prop), Φ r (cb h' g) → Call G M as (cb h g) Φ
/-- the model's -/
def ME (G : GG) (M : MD) (as : List AV) (h : Hp) (r : Int) (h' : Hp) : Prop := ∀ (g : Hp) (Φ : Int → Hp → Prop), Φ r (cb g h') → Call G M as (cb g h) Φ
/-- from one loop's head to another -/
def CR (G : GG) (M : MD) (pc : Nat) (L : List (Nat × AV)) (h : Hp) (pc' : Nat) (L' : List (Nat × AV)) (h' : Hp) : Prop := ∀ (g : Hp) (Φ : Int → Hp → Prop), AT G M pc' L' [] (cb h' g) Φ → AT G M pc L [] (cb h g) Φ
def MR (G : GG) (M : MD) (pc : Nat) (L : List (Nat × AV)) (h : Hp) (pc' : Nat) (L' : List (Nat × AV)) (h' : Hp) : Prop := ∀ (g : Hp) (Φ : Int → Hp → Prop), AT G M pc' L' [] (cb g h') Φ → AT G M pc L [] (cb g h) Φ
/-- from a loop's head to the end -/
def CZ (G : GG) (M : MD) (pc : Nat) (L : List (Nat × AV)) (h : Hp) (r : Int) (h' : Hp) : Prop := ∀ (g : Hp) (Φ : Int → Hp → Prop), Φ r (cb h' g) → AT G M pc L [] (cb h g) Φ
def MZ (G : GG) (M : MD) (pc : Nat) (L : List (Nat × AV)) (h : Hp) (r : Int) (h' : Hp) : Prop := ∀ (g : Hp) (Φ : Int → Hp → Prop), Φ r (cb g h') → AT G M pc L [] (cb g h) Φ
section
variable {G : GG} {M : MD} {as : List AV} {pc pc' pc'' : Nat} {L L' L'' : List (Nat × AV)} {h h' h'' : Hp} {r : Int}
theorem CR.rf : CR G M pc L h pc L h := fun _ _ k => k
theorem MR.rf : MR G M pc L h pc L h := fun _ _ k => k
theorem CR.tr (a : CR G M pc L h pc' L' h') (b : CR G M pc' L' h' pc'' L'' h'') : CR G M pc L h pc'' L'' h'' := fun g Φ k => a g Φ (b g Φ k)
theorem MR.tr (a : MR G M pc L h pc' L' h') (b : MR G M pc' L' h' pc'' L'' h'') : MR G M pc L h pc'' L'' h'' := fun g Φ k => a g Φ (b g Φ k)
theorem CR.z (a : CR G M pc L h pc' L' h') (b : CZ G M pc' L' h' r h'') : CZ G M pc L h r h'' := fun g Φ k => a g Φ (b g Φ k)
theorem MR.z (a : MR G M pc L h pc' L' h') (b : MZ G M pc' L' h' r h'') : MZ G M pc L h r h'' := fun g Φ k => a g Φ (b g Φ k)
/-- only the halves count -/
theorem CE.cg {k k' : Hp} (a : CE G M as h r h') (e : ∀ j, j < 85 → k j = h j) (e' : ∀ j, j < 85 → k' j = h' j) : CE G M as k r k' := fun g Φ q => by
  have z : ∀ {a b : Hp}, (∀ j, j < 85 → a j = b j) → cb a g = cb b g := fun w => by
    funext j i; unfold cb; split
    · rename_i hj; rw [w j hj]
    · rfl
  rw [z e]; rw [z e'] at q; exact a g Φ q
theorem ME.cg {k k' : Hp} (a : ME G M as h r h') (e : ∀ j, 85 ≤ j → k j = h j) (e' : ∀ j, 85 ≤ j → k' j = h' j) : ME G M as k r k' := fun g Φ q => by
  have z : ∀ {a b : Hp}, (∀ j, 85 ≤ j → a j = b j) → cb g a = cb g b := fun w => by
    funext j i; unfold cb; split
    · rfl
    · rename_i hj; rw [w j (by omega)]
  rw [z e]; rw [z e'] at q; exact a g Φ q
theorem CE.mk {m : Hp} (a : CE G M as h r h') : CE G M as h r (cb h' m) := a.cg (fun _ _ => rfl) (fun _ hj => cb_cr hj)
theorem ME.mk {c : Hp} (a : ME G M as h r h') : ME G M as h r (cb c h') := a.cg (fun _ _ => rfl) (fun _ hj => cb_mr hj)
theorem CE.st {m : Hp} (a : CE G M as h r h') : CE G M as (cb h m) r h' := a.cg (fun _ hj => cb_cr hj) (fun _ _ => rfl)
theorem ME.st {c : Hp} (a : ME G M as h r h') : ME G M as (cb c h) r h' := a.cg (fun _ hj => cb_mr hj) (fun _ _ => rfl)
theorem CR.mk {m : Hp} (a : CR G M pc L h pc' L' h') : CR G M pc L h pc' L' (cb h' m) := fun g Φ q => a g Φ (by rw [cb_l] at q; exact q)
theorem MR.mk {c : Hp} (a : MR G M pc L h pc' L' h') : MR G M pc L h pc' L' (cb c h') := fun g Φ q => a g Φ (by rw [cb_r] at q; exact q)
theorem CZ.mk {m : Hp} (a : CZ G M pc L h r h') : CZ G M pc L h r (cb h' m) := fun g Φ q => a g Φ (by rw [cb_l] at q; exact q)
theorem MZ.mk {c : Hp} (a : MZ G M pc L h r h') : MZ G M pc L h r (cb c h') := fun g Φ q => a g Φ (by rw [cb_r] at q; exact q)
end
/-- both, behind each other, out of both apart -/
theorem BOTH.of {G : GG} {M1 M2 : MD} {as : List AV} {h h' : Hp} {r : Int} {Ψ : Hp → Prop} (a : CE G M1 (rv 1 :: as) h r h') (b : ME G M2 (rv 85 :: as) h r h') (k : Ψ h') : BOTH G M1 M2 as h Ψ := by
  have a' := a h (fun r h1 => Call G M2 (rv 85 :: as) h1 (fun r2 h2 => r = r2 ∧ Ψ h2)) (b h' _ ⟨rfl, by rw [cb_id]; exact k⟩)
  rw [cb_id] at a'; exact a'
