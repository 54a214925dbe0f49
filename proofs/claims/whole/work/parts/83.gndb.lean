/-! packets pieced together on the ground -/
def IPi (h : Hp) : Prop := (h 85 85 = h 65 5 ∧ 0 ≤ h 65 5 ∧ h 65 5 ≤ 8) ∧ (∀ j, 0 ≤ j → j < h 65 5 → h 140 j = h 66 j) ∧ (5 ≤ h 65 5 → (1 ≤ h 66 4 ∧ h 66 4 ≤ 4) ∧ h 85 86 = 5 + h 66 4 ∧ h 65 5 < 5 + h 66 4) ∧
  (h 85 87 = h 65 7 ∧ 0 ≤ h 65 7 ∧ h 65 7 ≤ 60) ∧ ∀ i, 0 ≤ i → i < h 65 7 → (1 ≤ h 67 (9 * i + 4) ∧ h 67 (9 * i + 4) ≤ 4) ∧ h 142 i = 5 + h 67 (9 * i + 4) ∧ ∀ j, 0 ≤ j → j < 5 + h 67 (9 * i + 4) → h 141 (9 * i + j) = h 67 (9 * i + j)
def PPi (k : Nat) (i : Int) : Prop := k = 65 ∧ (i = 5 ∨ i = 7) ∨ k = 66 ∨ k = 67 ∨ k = 85 ∧ (i = 85 ∨ i = 86 ∨ i = 87) ∨ k = 140 ∨ k = 141 ∨ k = 142
theorem mr_arch {G : GG} {h : Hp} {w n s a : Int} (hs : h 85 85 = s) (sb : 6 ≤ s ∧ s ≤ 9) (ha : h 85 87 = a) (ab : 0 ≤ a ∧ a < 60) : ∃ f, (∀ j, 0 ≤ j → j < s → f (9 * a + j) = h 140 j) ∧ (∀ j, (j < 9 * a ∨ 9 * a + 9 ≤ j) → f j = h 141 j) ∧ MR G m_X12_pieces 168 [(0, rv 85), (2, iv w), (3, iv n), (5, iv 0)] h 4 [(0, rv 85), (2, iv w), (3, iv n)] (up (up (row h 141 f) 85 87 (a + 1)) 85 85 0) := by
  have go : ∀ (d j : Nat) (f : Int → Int), (j : Int) + d = s → (∀ i : Int, 0 ≤ i → i < j → f (9 * a + i) = h 140 i) → (∀ i, (i < 9 * a ∨ 9 * a + 9 ≤ i) → f i = h 141 i) → ∃ f', (∀ i : Int, 0 ≤ i → i < s → f' (9 * a + i) = h 140 i) ∧ (∀ i, (i < 9 * a ∨ 9 * a + 9 ≤ i) → f' i = h 141 i) ∧ MR G m_X12_pieces 168 [(0, rv 85), (2, iv w), (3, iv n), (5, iv (j : Int))] (row h 141 f) 4 [(0, rv 85), (2, iv w), (3, iv n)] (up (up (row h 141 f') 85 87 (a + 1)) 85 85 0) := by
    intro d
    induction d with
    | zero =>
      intro j f hj x y
      refine ⟨f, fun i i0 i1 => x i i0 (by omega), y, fun g Φ K => U_X12_pieces_85_168 ⟨fun _ => ?_, fun z => ?_⟩⟩
      · have e87 : cb g (row h 141 f) 85 87 = a := ha
        rw [e87, w32_of (z := a + 1) (by omega) (by omega)]
        rw [cb_um (by decide), cb_um (by decide)] at K; exact K
      · have e85 : cb g (row h 141 f) 85 85 = s := hs
        rw [e85] at z; omega
    | succ d ih =>
      intro j f hj x y
      obtain ⟨f', p, q, r⟩ := ih (j + 1) (put f (9 * a + j) (h 140 j)) (by omega) (fun i i0 i1 => by
        unfold put
        by_cases z : i = j
        · subst z; rw [if_pos rfl]
        · rw [if_neg (by omega)]; exact x i i0 (by omega)) (fun i z => by unfold put; rw [if_neg (by omega)]; exact y i z)
      refine ⟨f', p, q, fun g Φ K => U_X12_pieces_85_168 ⟨fun z => ?_, fun _ => ?_⟩⟩
      · have e85 : cb g (row h 141 f) 85 85 = s := hs
        rw [e85] at z; omega
      · have e87 : cb g (row h 141 f) 85 87 = a := ha
        have e140 : cb g (row h 141 f) 140 j = h 140 j := rfl
        rw [e87, e140, w32_of (z := 9 * a) (by omega) (by omega), w32_of (z := 9 * a + (j : Int)) (by omega) (by omega), w32_of (z := (j : Int) + 1) (by omega) (by omega)]
        have t := r g Φ K
        rw [Int.natCast_add, ← up_row, cb_um (by decide)] at t
        exact ⟨by omega, by omega, t⟩
  obtain ⟨f', p, q, r⟩ := go s.toNat 0 (h 141) (by omega) (fun i a b => by omega) (fun _ _ => rfl)
  rw [row_id] at r
  exact ⟨f', p, q, r⟩
theorem sim_pieces {G : GG} {D : Int} (hD : 0 ≤ D ∧ D + 18 ≤ 744) :
    ∀ (d i : Nat), i + d = 18 → ∀ (h : Hp) (w : Int), IPi h → (∀ b, 0 ≤ b → b < 18 → h 33 (D + b) = h 139 (4 + b)) → (0 ≤ w ∧ w ≤ i) →
    ∃ h' r, CZ G m_X2_pieceTogether 6 [(0, rv 65), (1, rv 33), (2, iv D), (4, iv w), (5, iv (i : Int))] h r h' ∧ MZ G m_X12_pieces 4 [(0, rv 85), (2, iv w), (3, iv (i : Int))] h r h' ∧ IPi h' ∧ FR PPi h h' := by
  intro d
  induction d with
  | zero =>
    intro i hi h w I hb hw
    have e : i = 18 := by omega
    subst e
    exact ⟨h, w, fun g Φ K => U_X2_pieceTogether_65_33_6 ⟨fun _ => K, fun z => absurd z (by omega)⟩, fun g Φ K => U_X12_pieces_85_4 ⟨fun _ => K, fun z => absurd z (by omega)⟩, I, FR.rf⟩
  | succ d ih =>
    intro i hi h w I hb hw
    obtain ⟨i1, i2, i3, i4, i5⟩ := id I
    obtain ⟨p, hp⟩ : ∃ p, p = h 65 5 := ⟨_, rfl⟩
    obtain ⟨b, hbb⟩ : ∃ b, b = h 139 (4 + i) := ⟨_, rfl⟩
    obtain ⟨v, hv⟩ : ∃ v, v = if p = 4 then b else h 66 4 := ⟨_, rfl⟩
    obtain ⟨wt, hwt⟩ : ∃ wt, wt = if p = 4 then 5 + b else if p < 4 then 9 else h 85 86 := ⟨_, rfl⟩
    rw [← hp] at i1 i2 i3
    have b33 : h 33 (D + i) = b := by rw [hb i (by omega) (by omega), hbb]
    have c5 : ∀ g, cb h g 65 5 = p := fun g => hp.symm
    have c33 : ∀ g, cb h g 33 (D + i) = b := fun g => b33
    have m85 : ∀ g, cb g h 85 85 = p := fun g => i1.1
    have m139 : ∀ g, cb g h 139 (4 + i) = b := fun g => hbb.symm
    have m86 : ∀ g, cb g h 85 86 = h 85 86 := fun g => rfl
    have m87 : ∀ g, cb g h 85 87 = h 65 7 := fun g => i4.1
    -- a wrong byte ends it
    have bad : (p = 0 ∧ (b < 10 ∨ 25 < b) ∨ p = 4 ∧ (b < 1 ∨ 4 < b)) → ∃ h' r, CZ G m_X2_pieceTogether 6 [(0, rv 65), (1, rv 33), (2, iv D), (4, iv w), (5, iv (i : Int))] h r h' ∧ MZ G m_X12_pieces 4 [(0, rv 85), (2, iv w), (3, iv (i : Int))] h r h' ∧ IPi h' ∧ FR PPi h h' := fun c => by
      refine ⟨up (up h 65 5 0) 85 85 0, w, fun g Φ K => ?_, fun g Φ K => ?_, ⟨⟨rfl, by show (0 : Int) ≤ 0; omega, by show (0 : Int) ≤ 8; omega⟩, fun j j0 j1 => ?_, fun z => ?_, i4, i5⟩, (FR.rf.up (by unfold PPi; omega)).up (by unfold PPi; omega)⟩
      · rw [cb_uc' (by decide), cb_uc (by decide)] at K
        refine U_X2_pieceTogether_65_33_6 ⟨fun z => absurd z (by omega), fun _ => ?_⟩
        rw [w32_of (z := D + (i : Int)) (by omega) (by omega), c5, c33]
        refine ⟨by omega, fun z0 => ⟨fun z4 => by omega, fun z4 => ⟨fun _ => K, fun z => ⟨fun _ => K, fun y => by omega⟩⟩⟩, fun z0 => ⟨fun _ => K, fun z => ⟨fun _ => K, fun y => by omega⟩⟩⟩
      · rw [cb_um (by decide), cb_um' (by decide)] at K
        refine U_X12_pieces_85_4 ⟨fun z => absurd z (by omega), fun _ => ?_⟩
        rw [w32_of (z := 4 + (i : Int)) (by omega) (by omega), m85, m139]
        have k0 : p = 0 → up (cb g h) 85 85 0 = cb g h := fun z => up_id (by rw [m85, z])
        refine ⟨by omega, fun z0 => ⟨fun z4 => by omega, fun z4 => ⟨fun _ => K, fun z => ⟨fun _ => K, fun y => by omega⟩⟩⟩, fun z0 => ⟨fun _ => ?_, fun z => ⟨fun _ => ?_, fun y => by omega⟩⟩⟩
        · rw [k0 z0] at K; exact K
        · rw [k0 z0] at K; exact K
      · have : j < 0 := j1
        omega
      · have : (5 : Int) ≤ 0 := z
        omega
    by_cases c0 : p = 0 ∧ (b < 10 ∨ 25 < b) ∨ p = 4 ∧ (b < 1 ∨ 4 < b)
    · exact bad c0
    clear bad
    -- it is stored
    obtain ⟨h1, eh1⟩ : ∃ h1, h1 = up (up (up (up (up h 66 p b) 65 5 (p + 1)) 85 86 wt) 140 p b) 85 85 (p + 1) := ⟨_, rfl⟩
    have cc1 : ∀ g, cb h1 g = up (up (cb h g) 66 p b) 65 5 (p + 1) := fun g => by
      rw [eh1, cb_uc' (by decide), cb_uc' (by decide), cb_uc' (by decide), cb_uc (by decide), cb_uc (by decide)]
    have mm1 : ∀ g, cb g h1 = up (up (up (cb g h) 85 86 wt) 140 p b) 85 85 (p + 1) := fun g => by
      rw [eh1, cb_um (by decide), cb_um (by decide), cb_um (by decide), cb_um' (by decide), cb_um' (by decide)]
    have f1 : FR PPi h h1 := by
      rw [eh1]
      exact ((((FR.rf.up (by unfold PPi; omega)).up (by unfold PPi; omega)).up (by unfold PPi; omega)).up (by unfold PPi; omega)).up (by unfold PPi; omega)
    have v66 : ∀ j, h1 66 j = if j = p then b else h 66 j := fun j => by rw [eh1]; simp [up_ap]
    have v140 : ∀ j, h1 140 j = if j = p then b else h 140 j := fun j => by rw [eh1]; simp [up_ap]
    have v5 : h1 65 5 = p + 1 := by rw [eh1]; rfl
    have v85 : h1 85 85 = p + 1 := by rw [eh1]; rfl
    have v86 : h1 85 86 = wt := by rw [eh1]; rfl
    have v7 : h1 65 7 = h 65 7 := by rw [eh1]; rfl
    have v87 : h1 85 87 = h 65 7 := by rw [eh1]; exact i4.1
    have v664 : h1 66 4 = v := by
      rw [v66, hv]
      by_cases z : p = 4
      · rw [if_pos z.symm, if_pos z]
      · rw [if_neg (fun q => z q.symm), if_neg z]
    have v4c : ∀ g, up (cb h g) 66 p b 66 4 = v := fun g => by
      rw [up_same, hv]
      by_cases z : p = 4
      · rw [if_pos z.symm, if_pos z]
      · rw [if_neg (fun q => z q.symm), if_neg z]; rfl
    have vb : 4 ≤ p → 1 ≤ v ∧ v ≤ 4 ∧ wt = 5 + v ∧ p + 1 ≤ 5 + v := fun z => by
      by_cases z4 : p = 4
      · rw [if_pos z4] at hv hwt; omega
      · rw [if_neg z4] at hv; rw [if_neg z4, if_neg (by omega)] at hwt
        have := i3 (by omega)
        omega
    have wlo : p < 4 → wt = 9 := fun z => by rw [if_neg (by omega), if_pos z] at hwt; exact hwt
    clear hwt
    have same : ∀ j, 0 ≤ j → j < p + 1 → h1 140 j = h1 66 j := fun j j0 j1 => by
      rw [v66, v140]
      by_cases z : j = p
      · rw [if_pos z, if_pos z]
      · rw [if_neg z, if_neg z]; exact i2 j j0 (by omega)
    have hb1 : ∀ b, 0 ≤ b → b < 18 → h1 33 (D + b) = h1 139 (4 + b) := fun b b0 b1 => by
      rw [f1 33 _ (by unfold PPi; omega), f1 139 _ (by unfold PPi; omega)]; exact hb b b0 b1
    have ar : ∀ j, 0 ≤ j → j < h 65 7 → (1 ≤ h1 67 (9 * j + 4) ∧ h1 67 (9 * j + 4) ≤ 4) ∧ h1 142 j = 5 + h1 67 (9 * j + 4) ∧ ∀ k, 0 ≤ k → k < 5 + h1 67 (9 * j + 4) → h1 141 (9 * j + k) = h1 67 (9 * j + k) := by
      have e67 : ∀ j, h1 67 j = h 67 j := fun j => by rw [eh1]; rfl
      have e141 : ∀ j, h1 141 j = h 141 j := fun j => by rw [eh1]; rfl
      have e142 : ∀ j, h1 142 j = h 142 j := fun j => by rw [eh1]; rfl
      intro j j0 j1
      rw [e67, e142]
      have q := i5 j j0 j1
      exact ⟨q.1, q.2.1, fun k k0 k1 => by rw [e141, e67]; exact q.2.2 k k0 k1⟩
    -- the class and the model behind it
    have cs : ∀ (g : Hp) (Φ : Int → Hp → Prop), (((p + 1 < 5 ∨ p + 1 ≠ 5 + v) → AT G m_X2_pieceTogether 6 [(0, rv 65), (1, rv 33), (2, iv D), (4, iv w), (5, iv ((i : Int) + 1))] [] (cb h1 g) Φ) ∧ ((5 ≤ p + 1 ∧ p + 1 = 5 + v) → Call G m_X2_putInArchive [rv 65] (cb h1 g) (fun _ h2 => AT G m_X2_pieceTogether 6 [(0, rv 65), (1, rv 33), (2, iv D), (4, iv (w + 1)), (5, iv ((i : Int) + 1))] [] h2 Φ))) → AT G m_X2_pieceTogether 6 [(0, rv 65), (1, rv 33), (2, iv D), (4, iv w), (5, iv (i : Int))] [] (cb h g) Φ := fun g Φ Q => by
      refine U_X2_pieceTogether_65_33_6 ⟨fun z => absurd z (by omega), fun _ => ?_⟩
      rw [w32_of (z := D + (i : Int)) (by omega) (by omega), c5, c33, v4c, w32_of (z := p + 1) (by omega) (by omega), w32_of (z := (i : Int) + 1) (by omega) (by omega), w32_of (z := w + 1) (by omega) (by omega), ← cc1]
      by_cases z4 : 4 ≤ p
      · have vv := vb z4
        rw [w32_of (z := 5 + v) (by omega) (by omega)]
        refine ⟨by omega, fun _ => ⟨fun _ => ⟨by omega, fun z => absurd z (by omega), fun _ => ⟨fun z => Q.1 (Or.inr z), fun z => Q.2 ⟨by omega, z⟩⟩⟩, fun _ => ⟨fun z => absurd z (by omega), fun _ => ⟨fun z => absurd z (by omega), fun _ => ⟨by omega, fun z => absurd z (by omega), fun _ => ⟨fun z => Q.1 (Or.inr z), fun z => Q.2 ⟨by omega, z⟩⟩⟩⟩⟩⟩, fun z => absurd z (by omega)⟩
      · have lt5 : p + 1 < 5 := by omega
        refine ⟨by omega, fun _ => ⟨fun _ => ⟨by omega, fun _ => Q.1 (Or.inl lt5), fun z => absurd z (by omega)⟩, fun z => absurd z (by omega)⟩, fun _ => ⟨fun z => absurd z (by omega), fun _ => ⟨fun z => absurd z (by omega), fun _ => ⟨fun _ => ⟨by omega, fun _ => Q.1 (Or.inl lt5), fun z => absurd z (by omega)⟩, fun z => absurd z (by omega)⟩⟩⟩⟩
    have ms : ∀ (g : Hp) (Φ : Int → Hp → Prop), ((p + 1 < wt → AT G m_X12_pieces 4 [(0, rv 85), (2, iv w), (3, iv ((i : Int) + 1))] [] (cb g h1) Φ) ∧ (wt ≤ p + 1 → ((60 ≤ h 65 7 → AT G m_X12_pieces 4 [(0, rv 85), (2, iv (w + 1)), (3, iv ((i : Int) + 1))] [] (up (cb g h1) 85 85 0) Φ) ∧ (h 65 7 < 60 → AT G m_X12_pieces 168 [(0, rv 85), (2, iv (w + 1)), (3, iv ((i : Int) + 1)), (5, iv 0)] [] (up (cb g h1) 142 (h 65 7) (p + 1)) Φ)))) → AT G m_X12_pieces 4 [(0, rv 85), (2, iv w), (3, iv (i : Int))] [] (cb g h) Φ := fun g Φ Q => by
      refine U_X12_pieces_85_4 ⟨fun z => absurd z (by omega), fun _ => ?_⟩
      rw [w32_of (z := 4 + (i : Int)) (by omega) (by omega), m85, m139, m86, m87, w32_of (z := p + 1) (by omega) (by omega), w32_of (z := (i : Int) + 1) (by omega) (by omega), w32_of (z := w + 1) (by omega) (by omega)]
      rw [mm1] at Q
      have aix : h 65 7 < 60 → 0 ≤ h 65 7 ∧ h 65 7 < 60 := fun z => by omega
      by_cases z4 : p = 4
      · have e1 : wt = 5 + b := by have := vb (by omega); rw [if_pos z4] at hv; omega
        rw [w32_of (z := 5 + b) (by omega) (by omega), ← e1]
        refine ⟨by omega, fun _ => ⟨fun z => absurd z4 z, fun _ => ⟨fun z => absurd z (by omega), fun _ => ⟨fun z => absurd z (by omega), fun _ => ⟨fun z => absurd z4 z, fun _ => ⟨by omega, fun z => ⟨fun y => (Q.2 z).1 y, fun y => ⟨aix y, (Q.2 z).2 y⟩⟩, fun z => Q.1 z⟩⟩⟩⟩⟩, fun z => absurd z (by omega)⟩
      · by_cases zl : p < 4
        · have e1 := wlo zl
          rw [e1] at Q
          refine ⟨by omega, fun _ => ⟨fun _ => ⟨fun _ => ⟨fun z => absurd z (by omega), fun _ => ⟨by omega, fun z => ⟨fun y => (Q.2 z).1 y, fun y => ⟨aix y, (Q.2 z).2 y⟩⟩, fun z => Q.1 z⟩⟩, fun z => absurd z z4⟩, fun z => absurd z z4⟩, fun _ => ⟨fun z => absurd z (by omega), fun _ => ⟨fun z => absurd z (by omega), fun _ => ⟨fun _ => ⟨fun _ => ⟨fun z => absurd z (by omega), fun _ => ⟨by omega, fun z => ⟨fun y => (Q.2 z).1 y, fun y => ⟨aix y, (Q.2 z).2 y⟩⟩, fun z => Q.1 z⟩⟩, fun z => absurd z z4⟩, fun z => absurd z z4⟩⟩⟩⟩
        · have e1 : h 85 86 = wt := by
            have a := vb (by omega)
            have c := i3 (by omega)
            rw [if_neg z4] at hv; omega
          rw [e1]
          refine ⟨by omega, fun _ => ⟨fun _ => ⟨fun _ => ⟨fun _ => ⟨by omega, fun z => ⟨fun y => (Q.2 z).1 y, fun y => ⟨aix y, (Q.2 z).2 y⟩⟩, fun z => Q.1 z⟩, fun z => absurd z zl⟩, fun z => absurd z z4⟩, fun z => absurd z z4⟩, fun z => absurd z (by omega)⟩
    by_cases cw : 5 ≤ p + 1 ∧ p + 1 = 5 + v
    · -- whole
      have vv := vb (by omega)
      have ew : wt ≤ p + 1 := by omega
      by_cases ca : h 65 7 < 60
      · obtain ⟨f, vf1, vf2, mr⟩ := mr_arch (G := G) (h := up h1 142 (h 65 7) (p + 1)) (w := w + 1) (n := (i : Int) + 1) (s := p + 1) (a := h 65 7) v85 (by omega) v87 (by omega)
        obtain ⟨h2, eh2⟩ : ∃ h2, h2 = cb (up (up (cpy h1 66 0 67 (h 65 7 * 9) (p + 1)) 65 7 (h 65 7 + 1)) 65 5 0) (up (up (row (up h1 142 (h 65 7) (p + 1)) 141 f) 85 87 (h 65 7 + 1)) 85 85 0) := ⟨_, rfl⟩
        have g67 : ∀ j, h2 67 j = if h 65 7 * 9 ≤ j ∧ j < h 65 7 * 9 + (p + 1) then h1 66 (0 + (j - h 65 7 * 9)) else h1 67 j := fun j => by
          rw [eh2, cb_c (by decide), up_nk (by decide), up_nk (by decide)]
          unfold cpy
          by_cases z : h 65 7 * 9 ≤ j ∧ j < h 65 7 * 9 + (p + 1)
          · rw [if_pos ⟨rfl, z⟩, if_pos z]
          · rw [if_neg (fun q => z q.2), if_neg z]
        have g141 : ∀ j, h2 141 j = f j := fun j => by
          rw [eh2, cb_m (by decide), up_nk (by decide), up_nk (by decide), row_eq]
        have g142 : ∀ j, h2 142 j = if j = h 65 7 then p + 1 else h1 142 j := fun j => by
          rw [eh2, cb_m (by decide), up_nk (by decide), up_nk (by decide), row_ne (by decide), up_same]
        have I2 : IPi h2 := by
          refine ⟨⟨by rw [eh2]; rfl, ?_⟩, fun j j0 j1 => ?_, fun z => ?_, ⟨by rw [eh2]; rfl, ?_⟩, fun j j0 j1 => ?_⟩
          · have : h2 65 5 = 0 := by rw [eh2]; rfl
            rw [this]; omega
          · have : h2 65 5 = 0 := by rw [eh2]; rfl
            rw [this] at j1; omega
          · have : h2 65 5 = 0 := by rw [eh2]; rfl
            rw [this] at z; omega
          · have : h2 65 7 = h 65 7 + 1 := by rw [eh2]; rfl
            rw [this]; omega
          · have e7 : h2 65 7 = h 65 7 + 1 := by rw [eh2]; rfl
            rw [e7] at j1
            by_cases zj : j = h 65 7
            · subst zj
              have q4 : h2 67 (9 * h 65 7 + 4) = v := by
                rw [g67, if_pos (by omega)]
                have : 0 + (9 * h 65 7 + 4 - h 65 7 * 9) = 4 := by omega
                rw [this, v664]
              rw [q4, g142, if_pos rfl]
              refine ⟨by omega, by omega, fun k k0 k1 => ?_⟩
              rw [g141, vf1 k k0 (by omega), g67, if_pos (by omega)]
              have : 0 + (9 * h 65 7 + k - h 65 7 * 9) = k := by omega
              rw [this]
              exact same k k0 (by omega)
            · have q := ar j j0 (by omega)
              have n67 : ∀ k, 0 ≤ k → k < 9 → h2 67 (9 * j + k) = h1 67 (9 * j + k) := fun k k0 k1 => by rw [g67, if_neg (by omega)]
              rw [n67 4 (by omega) (by omega), g142, if_neg zj]
              refine ⟨q.1, q.2.1, fun k k0 k1 => ?_⟩
              have k9 : k < 9 := by have := q.1; omega
              rw [g141, vf2 _ (by omega), n67 k k0 k9]
              exact q.2.2 k k0 k1
        have f2 : FR PPi h1 h2 := by
          rw [eh2]
          refine FR_cb ?_ ?_
          · exact ((FR.rf.cpy (fun i => by unfold PPi; omega)).up (by unfold PPi; omega)).up (by unfold PPi; omega)
          · exact (((FR.rf.up (by unfold PPi; omega)).row (fun i => by unfold PPi; omega)).up (by unfold PPi; omega)).up (by unfold PPi; omega)
        obtain ⟨h', r, cz, mz, I', f'⟩ := ih (i + 1) (by omega) h2 (w + 1) I2 (fun b b0 b1 => by
          rw [f2 33 _ (by unfold PPi; omega), f2 139 _ (by unfold PPi; omega)]; exact hb1 b b0 b1) (by omega)
        refine ⟨h', r, fun g Φ K => cs g Φ ⟨fun z => absurd z (by omega), fun _ => ?_⟩, fun g Φ K => ms g Φ ⟨fun z => absurd z (by omega), fun _ => ⟨fun z => absurd z (by omega), fun _ => ?_⟩⟩, I', (f1.trans f2).trans f'⟩
        · refine Call.of rfl (Nat.le_of_ble_eq_true rfl) rfl (U_X2_putInArchive_65_0 ?_)
          have r7 : cb h1 g 65 7 = h 65 7 := v7
          have r5 : cb h1 g 65 5 = p + 1 := v5
          rw [r7, r5, w32_of (z := h 65 7 * 9) (by omega) (by omega), w32_of (z := h 65 7 + 1) (by omega) (by omega)]
          refine ⟨fun z => absurd z (by omega), fun _ => ⟨by omega, ?_⟩⟩
          have t := cz g Φ K
          rw [Int.natCast_add, eh2, cb_l, cb_uc (by decide), cb_uc (by decide), ← cb_cpyc (by decide) (by decide)] at t
          exact t
        · have t := mz g Φ K
          rw [Int.natCast_add, eh2, cb_r] at t
          have q := mr g Φ t
          rw [cb_um (by decide)] at q; exact q
      · obtain ⟨h2, eh2⟩ : ∃ h2, h2 = up (up h1 65 5 0) 85 85 0 := ⟨_, rfl⟩
        have I2 : IPi h2 := by
          have e5 : h2 65 5 = 0 := by rw [eh2]; rfl
          have e7 : h2 65 7 = h 65 7 := by rw [eh2]; exact v7
          refine ⟨⟨by rw [eh2]; rfl, by rw [e5]; omega, by rw [e5]; omega⟩, fun j j0 j1 => by rw [e5] at j1; omega, fun z => by rw [e5] at z; omega, ⟨by rw [e7, eh2]; exact v87, by rw [e7]; exact i4.2⟩, fun j j0 j1 => ?_⟩
          rw [e7] at j1
          rw [eh2]; exact ar j j0 j1
        have f2 : FR PPi h1 h2 := by rw [eh2]; exact (FR.rf.up (by unfold PPi; omega)).up (by unfold PPi; omega)
        obtain ⟨h', r, cz, mz, I', f'⟩ := ih (i + 1) (by omega) h2 (w + 1) I2 (fun b b0 b1 => by
          rw [f2 33 _ (by unfold PPi; omega), f2 139 _ (by unfold PPi; omega)]; exact hb1 b b0 b1) (by omega)
        refine ⟨h', r, fun g Φ K => cs g Φ ⟨fun z => absurd z (by omega), fun _ => ?_⟩, fun g Φ K => ms g Φ ⟨fun z => absurd z (by omega), fun _ => ⟨fun _ => ?_, fun z => absurd z ca⟩⟩, I', (f1.trans f2).trans f'⟩
        · refine Call.of rfl (Nat.le_of_ble_eq_true rfl) rfl (U_X2_putInArchive_65_0 ?_)
          have r7 : cb h1 g 65 7 = h 65 7 := v7
          rw [r7]
          refine ⟨fun _ => ?_, fun z => absurd z ca⟩
          have t := cz g Φ K
          rw [Int.natCast_add, eh2, cb_uc' (by decide), cb_uc (by decide)] at t
          exact t
        · have t := mz g Φ K
          rw [Int.natCast_add, eh2, cb_um (by decide), cb_um' (by decide)] at t
          exact t
    · -- not yet
      have nw : p + 1 < wt := by
        by_cases z4 : 4 ≤ p
        · have := vb z4; omega
        · have := wlo (by omega); omega
      have I1 : IPi h1 := by
        refine ⟨⟨by rw [v85, v5], by rw [v5]; omega, ?_⟩, fun j j0 j1 => same j j0 (by rw [v5] at j1; exact j1), fun z => ?_, ⟨by rw [v87, v7], by rw [v7]; exact i4.2⟩, fun j j0 j1 => ar j j0 (by rw [v7] at j1; exact j1)⟩
        · rw [v5]
          by_cases z4 : 4 ≤ p
          · have := vb z4; omega
          · omega
        · rw [v5] at z
          have := vb (by omega)
          rw [v664, v86, v5]; omega
      obtain ⟨h', r, cz, mz, I', f'⟩ := ih (i + 1) (by omega) h1 w I1 hb1 (by omega)
      refine ⟨h', r, fun g Φ K => cs g Φ ⟨fun _ => ?_, fun z => absurd z cw⟩, fun g Φ K => ms g Φ ⟨fun _ => ?_, fun z => absurd z (by omega)⟩, I', f1.trans f'⟩
      · have t := cz g Φ K
        rw [Int.natCast_add] at t; exact t
      · have t := mz g Φ K
        rw [Int.natCast_add] at t; exact t
