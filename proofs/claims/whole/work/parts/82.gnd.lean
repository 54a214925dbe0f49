/-! frames that wait: noise, lose -/
theorem bxor_b {a x : Int} (ha : 0 ≤ a ∧ a ≤ 255) : 0 ≤ bxor a (band x 255) ∧ bxor a (band x 255) ≤ 255 := by
  have e : band x 255 = ((x % 256).toNat : Int) := by rw [band_255x, Int.toNat_of_nonneg (by omega)]
  have e2 : a = (a.toNat : Int) := (Int.toNat_of_nonneg ha.1).symm
  rw [e, e2, bxor_nat (by omega) (by omega)]
  have := Nat.xor_lt_two_pow (x := a.toNat) (y := (x % 256).toNat) (n := 8) (by omega) (by omega)
  omega
def PNo (k : Nat) (_ : Int) : Prop := k = 33 ∨ k = 138
theorem op_noise {G : GG} {h : Hp} {a b : Int} (hF : IFr h) : BOTH G m_X11_noise m_X12_noise [iv a, iv b] h (fun h' => IFr h' ∧ FR PNo h h') := by
  obtain ⟨f1, f2, f3⟩ := id hF
  have q78 : ∀ g, cb g h 85 78 = h 26 11 := fun g => f1.1
  by_cases c : h 26 11 ≠ 0 ∧ 0 ≤ a ∧ a ≤ 23
  · have old := f3 0 (by omega) (by omega) a c.2.1 (by omega)
    have e1 : 24 * (0 : Int) + a = a := by omega
    have e2 : 24 * ((h 26 10 + 0) % 30) + a = h 26 10 * 24 + a := by omega
    rw [e1, e2] at old
    have vb := bxor_b (x := b) old.2
    refine BOTH.of (r := bxor (h 138 a) (band b 255)) (h' := up (up h 33 (h 26 10 * 24 + a) (bxor (h 138 a) (band b 255))) 138 a (bxor (h 138 a) (band b 255))) (fun g Φ K => ?_) (fun g Φ K => ?_) ⟨⟨f1, f2, fun j j0 j1 x x0 x1 => ?_⟩, (FR.rf.up (by unfold PNo; omega)).up (by unfold PNo; omega)⟩
    · rw [cb_uc' (by decide), cb_uc (by decide)] at K
      refine Call.of rfl (Nat.le_of_ble_eq_true rfl) rfl (U_X11_noise_1_0 ⟨fun z => absurd z c.1, fun _ => ⟨fun z => absurd z (by omega), fun _ => ⟨fun z => absurd z (by omega), fun _ => ?_⟩⟩⟩)
      have q10 : cb h g 26 10 = h 26 10 := rfl
      have q33 : cb h g 33 (h 26 10 * 24 + a) = h 138 a := old.1.symm
      rw [q10, w32_of (z := h 26 10 * 24) (by omega) (by omega), w32_of (z := h 26 10 * 24 + a) (by omega) (by omega), q33]
      exact ⟨by omega, by omega, by omega, K⟩
    · rw [cb_um (by decide), cb_um' (by decide)] at K
      refine Call.of rfl (Nat.le_of_ble_eq_true rfl) rfl (U_X12_noise_85_0 ?_)
      rw [q78]
      exact ⟨fun z => absurd z c.1, fun _ => ⟨fun z => absurd z (by omega), fun _ => ⟨fun z => absurd z (by omega), fun _ => ⟨by omega, by omega, by omega, K⟩⟩⟩⟩
    · have j1' : j < h 26 11 := j1
      have o2 := f3 j j0 j1' x x0 x1
      have g10 : up (up h 33 (h 26 10 * 24 + a) (bxor (h 138 a) (band b 255))) 138 a (bxor (h 138 a) (band b 255)) 26 10 = h 26 10 := rfl
      rw [g10, up_same, up_nk (k := 33) (k' := 138) (by decide), up_nk (k := 138) (k' := 33) (by decide), up_same]
      by_cases z : 24 * j + x = a
      · rw [if_pos z, if_pos (by omega)]; exact ⟨rfl, vb⟩
      · rw [if_neg z, if_neg (by omega)]; exact o2
  · refine BOTH.of (r := -1) (h' := h) (fun g Φ K => ?_) (fun g Φ K => ?_) ⟨hF, FR.rf⟩
    · refine Call.of rfl (Nat.le_of_ble_eq_true rfl) rfl (U_X11_noise_1_0 ⟨fun _ => K, fun z => ⟨fun _ => K, fun _ => ⟨fun _ => K, fun w => ?_⟩⟩⟩)
      have z' : h 26 11 ≠ 0 := z
      omega
    · refine Call.of rfl (Nat.le_of_ble_eq_true rfl) rfl (U_X12_noise_85_0 ?_)
      rw [q78]
      exact ⟨fun _ => K, fun z => ⟨fun _ => K, fun _ => ⟨fun _ => K, fun w => by omega⟩⟩⟩
/-- the model's frames move up -/
theorem me_shift {G : GG} {h : Hp} {w : Int} (hw : h 85 78 = w) (wb : 1 ≤ w ∧ w ≤ 30) : ∃ f, (∀ j, 0 ≤ j → j < 24 * (w - 1) → f j = h 138 (j + 24)) ∧ ME G m_X12_shift [rv 85] h 0 (row (up h 85 78 (w - 1)) 138 f) := by
  have go : ∀ (d n : Nat) (f : Int → Int), (n : Int) + d = 24 * (w - 1) → (∀ j : Int, 0 ≤ j → j < n → f j = h 138 (j + 24)) → (∀ j : Int, n ≤ j → f j = h 138 j) → ∃ f', (∀ j : Int, 0 ≤ j → j < 24 * (w - 1) → f' j = h 138 (j + 24)) ∧ MZ G m_X12_shift 12 [(0, rv 85), (1, iv (n : Int))] (row (up h 85 78 (w - 1)) 138 f) 0 (row (up h 85 78 (w - 1)) 138 f') := by
    intro d
    induction d with
    | zero =>
      intro n f hn a b
      refine ⟨f, fun j j0 j1 => a j j0 (by omega), fun g Φ K => U_X12_shift_85_12 ⟨fun _ => K, fun z => ?_⟩⟩
      have e : cb g (row (up h 85 78 (w - 1)) 138 f) 85 78 = w - 1 := rfl
      rw [e, w32_of (z := 24 * (w - 1)) (by omega) (by omega)] at z; omega
    | succ d ih =>
      intro n f hn a b
      obtain ⟨f', x, y⟩ := ih (n + 1) (put f n (h 138 ((n : Int) + 24))) (by omega) (fun j j0 j1 => by
        unfold put
        by_cases z : j = n
        · subst z; rw [if_pos rfl]
        · rw [if_neg z]; exact a j j0 (by omega)) (fun j j0 => by
        unfold put; rw [if_neg (by omega)]; exact b j (by omega))
      refine ⟨f', x, fun g Φ K => U_X12_shift_85_12 ⟨fun z => ?_, fun _ => ?_⟩⟩
      · have e : cb g (row (up h 85 78 (w - 1)) 138 f) 85 78 = w - 1 := rfl
        rw [e, w32_of (z := 24 * (w - 1)) (by omega) (by omega)] at z; omega
      · rw [w32_of (z := (n : Int) + 24) (by omega) (by omega), w32_of (z := (n : Int) + 1) (by omega) (by omega)]
        have e : cb g (row (up h 85 78 (w - 1)) 138 f) 138 ((n : Int) + 24) = h 138 ((n : Int) + 24) := by
          have : cb g (row (up h 85 78 (w - 1)) 138 f) 138 ((n : Int) + 24) = f ((n : Int) + 24) := by rw [cb_m (by decide), row_eq]
          rw [this]; exact b _ (by omega)
        rw [e]
        have t := y g Φ K
        rw [Int.natCast_add, ← up_row, cb_um (by decide)] at t
        exact ⟨by omega, by omega, t⟩
  obtain ⟨f, x, y⟩ := go (24 * (w - 1)).toNat 0 (h 138) (by omega) (fun j a b => by omega) (fun _ _ => rfl)
  refine ⟨f, x, fun g Φ K => ?_⟩
  refine Call.of rfl (Nat.le_of_ble_eq_true rfl) rfl (U_X12_shift_85_0 ?_)
  have e : cb g h 85 78 = w := hw
  rw [e, w32_of (z := w - 1) (by omega) (by omega)]
  have t := y g Φ K
  have e138 : h 138 = (up h 85 78 (w - 1)) 138 := rfl
  rw [e138, row_id, cb_um (by decide)] at t
  exact t
def drp (h : Hp) : Hp := up (up h 26 10 ((h 26 10 + 1) % 30)) 26 11 (h 26 11 - 1)
theorem sp_dropFrame {G : GG} {h : Hp} {Φ : Int → Hp → Prop} (h1 : 0 ≤ h 26 10 ∧ h 26 10 < 30) (h2 : 1 ≤ h 26 11 ∧ h 26 11 ≤ 30) (K : Φ 0 (drp h)) : Call G m_X4_dropFrame [rv 26] h Φ := by
  refine Call.of rfl (Nat.le_of_ble_eq_true rfl) rfl (U_X4_dropFrame_26_0 ?_)
  rw [w32_of (z := h 26 10 + 1) (by omega) (by omega), Int.tmod_eq_emod_of_nonneg (by omega), w32_of (z := h 26 11 - 1) (by omega) (by omega)]
  exact K
def PLo (k : Nat) (i : Int) : Prop := k = 26 ∧ (i = 10 ∨ i = 11) ∨ k = 85 ∧ i = 78 ∨ k = 138
theorem drop_fr {h : Hp} {f : Int → Int} (hF : IFr h) (hw : 1 ≤ h 26 11) (vf : ∀ j, 0 ≤ j → j < 24 * (h 26 11 - 1) → f j = h 138 (j + 24)) : IFr (row (up (drp h) 85 78 (h 26 11 - 1)) 138 f) := by
  obtain ⟨f1, f2, f3⟩ := hF
  have e11 : row (up (drp h) 85 78 (h 26 11 - 1)) 138 f 26 11 = h 26 11 - 1 := rfl
  have e10 : row (up (drp h) 85 78 (h 26 11 - 1)) 138 f 26 10 = (h 26 10 + 1) % 30 := rfl
  have e78 : row (up (drp h) 85 78 (h 26 11 - 1)) 138 f 85 78 = h 26 11 - 1 := rfl
  have e33 : ∀ i, row (up (drp h) 85 78 (h 26 11 - 1)) 138 f 33 i = h 33 i := fun i => rfl
  have e138 : ∀ i, row (up (drp h) 85 78 (h 26 11 - 1)) 138 f 138 i = f i := fun i => by rw [row_eq]
  unfold IFr
  rw [e11, e10, e78]
  refine ⟨by omega, by omega, fun j j0 j1 b b0 b1 => ?_⟩
  rw [e33, e138, vf _ (by omega) (by omega)]
  have o := f3 (j + 1) (by omega) (by omega) b b0 b1
  have a1 : 24 * (j + 1) + b = 24 * j + b + 24 := by omega
  have a2 : (h 26 10 + (j + 1)) % 30 = ((h 26 10 + 1) % 30 + j) % 30 := by omega
  rw [a1, a2] at o; exact o
theorem op_lose {G : GG} {h : Hp} (hF : IFr h) : BOTH G m_X11_lose m_X12_lose [] h (fun h' => IFr h' ∧ FR PLo h h') := by
  obtain ⟨f1, f2, f3⟩ := id hF
  have q78 : ∀ g, cb g h 85 78 = h 26 11 := fun g => f1.1
  by_cases c : h 26 11 = 0
  · refine BOTH.of (r := -1) (h' := h) (fun g Φ K => ?_) (fun g Φ K => ?_) ⟨hF, FR.rf⟩
    · exact Call.of rfl (Nat.le_of_ble_eq_true rfl) rfl (U_X11_lose_1_0 ⟨fun z => absurd c z, fun _ => K⟩)
    · refine Call.of rfl (Nat.le_of_ble_eq_true rfl) rfl (U_X12_lose_85_0 ?_)
      rw [q78]
      exact ⟨fun z => absurd c z, fun _ => K⟩
  · obtain ⟨f, vf, me⟩ := me_shift (G := G) (h := h) f1.1 (by omega)
    refine BOTH.of (r := h 26 11 - 1) (h' := row (up (drp h) 85 78 (h 26 11 - 1)) 138 f) (fun g Φ K => ?_) (fun g Φ K => ?_) ⟨drop_fr hF (by omega) vf, ?_⟩
    · rw [cb_rc' (by decide), cb_uc' (by decide)] at K
      refine Call.of rfl (Nat.le_of_ble_eq_true rfl) rfl (U_X11_lose_1_0 ⟨fun _ => sp_dropFrame (h := cb h g) f2 (show 1 ≤ h 26 11 ∧ h 26 11 ≤ 30 by omega) ?_, fun z => absurd z c⟩)
      have e : cb (drp h) g = drp (cb h g) := by unfold drp; rw [cb_uc (by decide), cb_uc (by decide)]; rfl
      rw [e] at K
      exact K
    · refine Call.of rfl (Nat.le_of_ble_eq_true rfl) rfl (U_X12_lose_85_0 ?_)
      rw [q78]
      refine ⟨fun _ => me g _ ?_, fun z => absurd z c⟩
      have e : cb g (row (up (drp h) 85 78 (h 26 11 - 1)) 138 f) = cb g (row (up h 85 78 (h 26 11 - 1)) 138 f) := by
        rw [cb_rm (by decide), cb_um (by decide)]; unfold drp; rw [cb_um' (by decide), cb_um' (by decide), cb_rm (by decide), cb_um (by decide)]
      rw [e] at K; exact K
    · exact (((FR.rf.up (by unfold PLo; omega)).up (by unfold PLo; omega)).up (by unfold PLo; omega)).row (fun i => by unfold PLo; omega)
