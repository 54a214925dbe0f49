/-! A SECOND, both ways -/
def DUw (k : Nat) (i : Int) : Prop := k = 26 ∧ (i = 7 ∨ i = 8) ∨ k = 32 ∨ k = 85 ∧ (i = 73 ∨ i = 74) ∨ k = 136
def DFr (k : Nat) (i : Int) : Prop := k = 26 ∧ (i = 10 ∨ i = 11) ∨ k = 33 ∨ k = 85 ∧ i = 78 ∨ k = 138
def DLk (k : Nat) (i : Int) : Prop := k = 26 ∧ (i = 12 ∨ i = 13 ∨ i = 14) ∨ k = 85 ∧ (i = 79 ∨ i = 80 ∨ i = 81)
theorem IFr_cg {h h' : Hp} (e : ∀ k i, DFr k i → h' k i = h k i) (I : IFr h) : IFr h' := by
  obtain ⟨a, b, c⟩ := I
  unfold IFr
  rw [e 26 10 (by unfold DFr; omega), e 26 11 (by unfold DFr; omega), e 85 78 (by unfold DFr; omega)]
  exact ⟨a, b, fun j j0 j1 x x0 x1 => by rw [e 138 _ (by unfold DFr; omega), e 33 _ (by unfold DFr; omega)]; exact c j j0 j1 x x0 x1⟩
theorem ILk_cg {h h' : Hp} (e : ∀ k i, DLk k i → h' k i = h k i) (I : ILk h) : ILk h' := by
  unfold ILk
  rw [e 26 12 (by unfold DLk; omega), e 26 13 (by unfold DLk; omega), e 26 14 (by unfold DLk; omega), e 85 79 (by unfold DLk; omega), e 85 80 (by unfold DLk; omega), e 85 81 (by unfold DLk; omega)]; exact I
theorem IUw_cg' {h h' : Hp} (e : ∀ k i, DUw k i → h' k i = h k i) (I : IUw h) : IUw h' := IUw_cg (fun k i z => e k i z) I
theorem IMn_ck {h h' : Hp} (e : ∀ k i, DMn k i → ¬ (k = 34 ∧ i = 4) → h' k i = h k i) (c : h 34 4 ≤ h' 34 4) (I : IMn h) : IMn h' := fun k k0 k1 => by
  obtain ⟨a, b, d, f⟩ := I k k0 k1
  unfold MNk
  rw [e 61 k (by simp [DMn]) (by omega), e 132 k (by simp [DMn]) (by omega), e 128 k (by simp [DMn]) (by omega), e 56 k (by simp [DMn]) (by omega), e 57 k (by simp [DMn]) (by omega), e 58 k (by simp [DMn]) (by omega),
    e 106 _ (by simp [DMn]; omega) (by omega), e 107 _ (by simp [DMn]; omega) (by omega), e 108 _ (by simp [DMn]; omega) (by omega), e 129 k (by simp [DMn]) (by omega), e 62 k (by simp [DMn]) (by omega), e 63 k (by simp [DMn]) (by omega), e 64 k (by simp [DMn]) (by omega), e 130 k (by simp [DMn]) (by omega), e 131 k (by simp [DMn]) (by omega)]
  exact ⟨a, b, d, by omega⟩
/-- what stays by, in the lines' part of a second -/
def RE (h : Hp) : Prop := IOr h ∧ ID h ∧ IUw h ∧ IFr h ∧ ILk h
theorem RE_cg {h h' : Hp} {P : Nat → Int → Prop} (f : FR P h h') (d1 : ∀ k i, DOr k i → ¬ P k i) (d2 : ∀ k i, DD k i → ¬ P k i) (d3 : ∀ k i, DUw k i → ¬ P k i) (d4 : ∀ k i, DFr k i → ¬ P k i) (d5 : ∀ k i, DLk k i → ¬ P k i) (R : RE h) : RE h' :=
  ⟨IOr_cg (dj f d1) R.1, ID_cg (dj f d2) R.2.1, IUw_cg' (dj f d3) R.2.2.1, IFr_cg (dj f d4) R.2.2.2.1, ILk_cg (dj f d5) R.2.2.2.2⟩
theorem RE_w {h h' : Hp} (f : FR PWa h h') (R : RE h) : RE h' := by
  refine RE_cg f ?_ ?_ ?_ ?_ ?_ R
  · intro k i a b; unfold PWa PPf at b; unfold DOr at a; rcases a with rfl | rfl <;> simp at b
  · intro k i a b; unfold PWa PPf at b; unfold DD at a; rcases a with ⟨rfl, rfl⟩ | rfl | rfl | ⟨rfl, rfl⟩ | rfl | rfl <;> simp at b
  · intro k i a b; unfold PWa PPf at b; unfold DUw at a; rcases a with ⟨rfl, rfl | rfl⟩ | rfl | ⟨rfl, rfl | rfl⟩ | rfl <;> simp at b
  · intro k i a b; unfold PWa PPf at b; unfold DFr at a; rcases a with ⟨rfl, rfl | rfl⟩ | rfl | ⟨rfl, rfl⟩ | rfl <;> simp at b
  · intro k i a b; unfold PWa PPf at b; unfold DLk at a; rcases a with ⟨rfl, rfl | rfl | rfl⟩ | ⟨rfl, rfl | rfl | rfl⟩ <;> simp at b
def TS (h : Hp) : Prop := MW h ∧ IEv h ∧ ILn h ∧ IB h ∧ IMn h ∧ RE h
theorem sim_goes8 {G : GG} {x1 x2 : Int} : ∀ (d k : Nat), k + d = 8 → ∀ h : Hp, TL h → IMn h → h 34 5 + 24 * d ≤ 999990000 →
    ∃ h', CR G m_X0_doSecond 77 [(0, rv 34), (1, iv (k : Int))] h 77 [(0, rv 34), (1, iv 8)] h' ∧ MR G m_X12_tick 44 [(0, rv 85), (1, iv x1), (2, iv x2), (3, iv (k : Int))] h 44 [(0, rv 85), (1, iv x1), (2, iv x2), (3, iv 8)] h' ∧ TL h' ∧ IMn h' ∧ FR PPf h h' ∧ (h 34 5 ≤ h' 34 5 ∧ h' 34 5 ≤ h 34 5 + 24 * d)
  | 0, k, hk, h, T, I, he => by
    have e : k = 8 := by omega
    subst e
    exact ⟨h, CR.rf, MR.rf, T, I, FR.rf, by omega⟩
  | d + 1, k, hk, h, T, I, he => by
    obtain ⟨h1, ce, me, T1, f1, e1⟩ := sim_goOn (G := G) (k := k) (by omega) T (by omega)
    obtain ⟨h2, cr, mr, T2, I2, f2, e2⟩ := sim_goes8 (G := G) (x1 := x1) (x2 := x2) d (k + 1) (by omega) h1 T1 (IMn_cg (dj f1 dj_w5) I) (by omega)
    refine ⟨h2, fun g Φ K => ?_, fun g Φ K => ?_, T2, I2, f1.trans f2, by omega⟩
    · refine U_X0_doSecond_34_77 ⟨fun z => absurd z (by omega), fun _ => ce g _ ?_⟩
      rw [w32_of (z := (k : Int) + 1) (by omega) (by omega)]
      have t := cr g Φ K
      rw [Int.natCast_add] at t; exact t
    · refine U_X12_tick_85_44 ⟨fun z => absurd z (by omega), fun _ => me g _ ?_⟩
      rw [w32_of (z := (k : Int) + 1) (by omega) (by omega)]
      have t := mr g Φ K
      rw [Int.natCast_add] at t; exact t
theorem sim_watch8 {G : GG} : ∀ (d k : Nat), k + d = 8 → ∀ h : Hp, TL h → IMn h → h 34 5 + d ≤ 999990000 →
    ∃ h', CR G m_X0_doSecond 96 [(0, rv 34), (1, iv (k : Int))] h 96 [(0, rv 34), (1, iv 8)] h' ∧ MR G m_X12_watch 2 [(0, rv 85), (1, iv (k : Int))] h 2 [(0, rv 85), (1, iv 8)] h' ∧ TL h' ∧ IMn h' ∧ FR PWa h h' ∧ (h 34 5 ≤ h' 34 5 ∧ h' 34 5 ≤ h 34 5 + d)
  | 0, k, hk, h, T, I, he => by
    have e : k = 8 := by omega
    subst e
    exact ⟨h, CR.rf, MR.rf, T, I, FR.rf, by omega⟩
  | d + 1, k, hk, h, T, I, he => by
    obtain ⟨h1, ce, me, T1, I1, f1, e1⟩ := sim_watch1 (G := G) (k := k) (by omega) T I (by omega)
    obtain ⟨h2, cr, mr, T2, I2, f2, e2⟩ := sim_watch8 (G := G) d (k + 1) (by omega) h1 T1 I1 (by omega)
    refine ⟨h2, fun g Φ K => ?_, fun g Φ K => ?_, T2, I2, f1.trans f2, by omega⟩
    · refine U_X0_doSecond_34_96 ⟨fun z => absurd z (by omega), fun _ => ce g _ ?_⟩
      rw [w32_of (z := (k : Int) + 1) (by omega) (by omega)]
      have t := cr g Φ K
      rw [Int.natCast_add] at t; exact t
    · have t := mr g Φ K
      rw [Int.natCast_add] at t
      exact me g Φ t
def PTk (k : Nat) (i : Int) : Prop := k = 14 ∧ (i = 4 ∨ i = 5) ∨ k = 18 ∧ (i = 1 ∨ i = 3 ∨ i = 4) ∨ k = 21 ∨ k = 22 ∨ k = 24 ∧ (i = 1 ∨ i = 2) ∨ k = 25 ∨ k = 26 ∧ (i = 3 ∨ i = 7 ∨ i = 8 ∨ i = 11 ∨ i = 12) ∨ k = 27 ∨ k = 28 ∨ k = 29 ∨ k = 30 ∨ k = 31 ∨ k = 32 ∨ k = 33 ∨ k = 34 ∧ (i = 4 ∨ i = 5 ∨ i = 6 ∨ i = 14) ∨ k = 50 ∨ k = 51 ∨ k = 52 ∨ k = 53 ∨ k = 63 ∨ k = 64 ∨
  k = 85 ∧ (i = 10 ∨ i = 19 ∨ i = 21 ∨ i = 22 ∨ i = 23 ∨ i = 29 ∨ i = 30 ∨ i = 57 ∨ i = 62 ∨ i = 72 ∨ i = 73 ∨ i = 74 ∨ i = 78 ∨ i = 79) ∨ k = 95 ∨ k = 96 ∨ k = 97 ∨ k = 116 ∨ k = 117 ∨ k = 126 ∨ k = 127 ∨ k = 130 ∨ k = 131 ∨ k = 133 ∨ k = 134 ∨ k = 135 ∨ k = 136 ∨ k = 137 ∨ k = 138 ∨ k = 139
section
variable {k : Nat} {i : Int}
theorem ptk_w (z : PWa k i) : PTk k i := by
  unfold PWa PPf at z; unfold PTk
  rcases z with (rfl | rfl | ⟨rfl, rfl⟩ | rfl | rfl | rfl | rfl | rfl | ⟨rfl, rfl | rfl⟩ | rfl | rfl | ⟨rfl, rfl | rfl | rfl | rfl⟩ | rfl | rfl | rfl | rfl | rfl | rfl | rfl | rfl) | rfl | rfl | rfl | rfl <;> simp
theorem ptk_v (z : PSv k i) : PTk k i := by
  unfold PSv at z; unfold PTk
  rcases z with ⟨rfl, rfl | rfl | rfl⟩ | rfl | rfl | ⟨rfl, rfl | rfl | rfl⟩ | rfl | rfl <;> simp
theorem ptk_m (z : PMe k i) : PTk k i := by
  unfold PMe at z; unfold PTk
  rcases z with ⟨rfl, rfl | rfl⟩ | rfl | rfl | ⟨rfl, rfl | rfl | rfl⟩ <;> simp
theorem ptk_s (z : PSt k i) : PTk k i := by
  unfold PSt at z; unfold PTk
  rcases z with ⟨rfl, rfl⟩ | rfl | rfl | rfl | rfl | ⟨rfl, rfl⟩ | rfl | rfl | rfl | rfl <;> simp
theorem ptk_f (z : PSf k i) : PTk k i := by
  unfold PSf at z; unfold PTk
  rcases z with ⟨rfl, rfl | rfl | rfl | rfl | rfl⟩ | rfl | rfl | rfl | rfl | ⟨rfl, rfl | rfl | rfl | rfl | rfl⟩ | rfl | rfl | rfl | rfl | rfl <;> simp
end
