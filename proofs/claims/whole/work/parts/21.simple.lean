/-! operations that only look and set: orbit, station, power, mode, gap, clear, pass, bar, served, ground, due, flip -/
def IB (h : Hp) : Prop := (60 ≤ h 14 0 ∧ h 14 0 ≤ 20000 ∧ h 85 11 = h 14 0) ∧ (0 ≤ h 14 1 ∧ h 14 1 ≤ 3599 ∧ h 85 12 = h 14 1) ∧ (0 ≤ h 14 2 ∧ h 14 2 ≤ 3599 ∧ h 85 13 = h 14 2) ∧ (0 ≤ h 14 3 ∧ h 14 3 ≤ 3600 ∧ h 85 14 = h 14 3) ∧
  ∀ i, 0 ≤ i → i < 4 → (0 ≤ h 15 i ∧ h 15 i ≤ 3599 ∧ h 90 i = h 15 i) ∧ (0 ≤ h 16 i ∧ h 16 i ≤ 3600 ∧ h 91 i = h 16 i) ∧ (0 ≤ h 17 i ∧ h 17 i ≤ 3599 ∧ h 92 i = h 17 i)
def PB (k : Nat) (i : Int) : Prop := k = 14 ∧ (i = 0 ∨ i = 1 ∨ i = 2 ∨ i = 3) ∨ k = 15 ∨ k = 16 ∨ k = 17 ∨ k = 85 ∧ (i = 11 ∨ i = 12 ∨ i = 13 ∨ i = 14) ∨ k = 90 ∨ k = 91 ∨ k = 92
theorem FR.up {P : Nat → Int → Prop} {h h' : Hp} {k : Nat} {i v : Int} (f : FR P h h') (p : P k i) : FR P h (up h' k i v) := fun k' i' q => by
  unfold Jvm.Pilot.CMissionHouseLaw_law_r4178_01fd52.up
  rw [if_neg (fun z => q (by rw [z.1, z.2]; exact p))]
  exact f k' i' q
theorem op_orbit {G : GG} {h : Hp} {a b c d : Int} (hI : IB h) : BOTH G m_X11_orbit m_X12_orbit [iv a, iv b, iv c, iv d] h (fun h' => IB h' ∧ FR PB h h') := by
  have hN : IB h ∧ FR PB h h := ⟨hI, FR.rf⟩
  unfold BOTH
  refine Call.of rfl (Nat.le_of_ble_eq_true rfl) rfl (U_X11_orbit_1_0 ?_)
  repeat' (first | apply And.intro | with_reducible intro _)
  all_goals refine Call.of rfl (Nat.le_of_ble_eq_true rfl) rfl (U_X12_orbit_85_0 ?_)
  all_goals repeat' (first | apply And.intro | with_reducible intro _)
  all_goals try first | rfl | (exfalso; omega) | exact hN.1 | exact hN.2
  all_goals sorry
