/-! mending; due starts -/
def PMe (k : Nat) (i : Int) : Prop := k = 24 ∧ (i = 1 ∨ i = 2) ∨ k = 25 ∨ k = 97 ∨ k = 85 ∧ (i = 22 ∨ i = 29 ∨ i = 30)
theorem sim_mend {G : GG} {h : Hp} (hW : IW h) (hK : h 85 10 = h 34 4) (hc : 0 ≤ h 34 4) (he : 0 ≤ h 85 22 ∧ h 85 22 ≤ 1000000000) :
    ∃ h' r, CE G m_X5_mend [rv 24, iv (band (h 34 4) 63)] h r h' ∧ ME G m_X12_mend [rv 85] h 0 h' ∧ IW h' ∧ FR PMe h h' ∧ (r = 0 ∨ r = 1) ∧ h' 85 22 = h 85 22 + r ∧ (h' 24 1 = h 24 1 ∨ h' 24 1 = w32 (h 24 1 + 1)) := by
  obtain ⟨⟨m1, m2⟩, hw⟩ := id hW
  rw [band_63x]
  have pm : (h 34 4).tmod 64 = h 34 4 % 64 := Int.tmod_eq_emod_of_nonneg hc
  obtain ⟨p, hp⟩ : ∃ p, p = h 34 4 % 64 := ⟨_, rfl⟩
  rw [← hp]
  have pb : 0 ≤ p ∧ p < 64 := by omega
  obtain ⟨wz, e97⟩ := hw p pb.1 pb.2
  have ez : ((h 25 p).toNat : Int) = h 25 p := toN wz.1
  have zl : (h 25 p).toNat < 8192 := by have := wz.2; omega
  rcases rd_cases wz with ⟨b1, r1, c1⟩ | ⟨r0, r2, b1, c1, cw, en⟩
  · refine ⟨up (up (up (up (up h 25 p 0) 24 2 (w32 (h 24 2 + 1))) 97 p 0) 85 30 (w32 (h 24 2 + 1))) 85 22 (h 85 22 + 1), 1, ?_, ?_, ?_, ?_, Or.inr rfl, rfl, Or.inl rfl⟩
    · intro g Φ K
      rw [cb_uc' (by omega), cb_uc' (by omega), cb_uc' (by omega), cb_uc (by omega), cb_uc (by omega)] at K
      refine Call.of rfl (Nat.le_of_ble_eq_true rfl) rfl (U_X5_mend_24_0 ⟨pb, ?_⟩)
      have e : cb h g 25 p = ((h 25 p).toNat : Int) := ez.symm
      rw [e]
      refine sp_corrected zl ⟨fun z => absurd c1 z, fun _ => ⟨pb, K⟩⟩
    · intro g Φ K
      rw [cb_um (by omega), cb_um (by omega), cb_um (by omega), cb_um' (by omega), cb_um' (by omega)] at K
      refine Call.of rfl (Nat.le_of_ble_eq_true rfl) rfl (U_X12_mend_85_0 ?_)
      have e10 : cb g h 85 10 = h 34 4 := hK
      rw [e10, pm, ← hp]
      have e : cb g h 97 p = h 25 p := e97
      refine sp_read pb (by rw [e]; exact wz) ?_
      rw [e]
      refine ⟨fun z => absurd r1 z, fun _ => sp_encM (by omega) ⟨pb, ?_⟩⟩
      have e0 : encI 0 = 0 := by unfold encI; rw [show (0 : Int).toNat = 0 from rfl, enc_0]; rfl
      have e30 : cb g h 85 30 = h 24 2 := m2
      have e22 : cb g h 85 22 = h 85 22 := rfl
      rw [e0, e30, e22, w32_of (z := h 85 22 + 1) (by omega) (by omega)]
      exact K
    · refine ⟨⟨m1, rfl⟩, fun i a b => ?_⟩
      by_cases z : i = p
      · subst z
        have e1 : up (up (up (up (up h 25 i 0) 24 2 (w32 (h 24 2 + 1))) 97 i 0) 85 30 (w32 (h 24 2 + 1))) 85 22 (h 85 22 + 1) 25 i = 0 := by simp [up]
        have e2 : up (up (up (up (up h 25 i 0) 24 2 (w32 (h 24 2 + 1))) 97 i 0) 85 30 (w32 (h 24 2 + 1))) 85 22 (h 85 22 + 1) 97 i = 0 := by simp [up]
        rw [e1, e2]; exact ⟨⟨by omega, by omega⟩, rfl⟩
      · have := hw i a b
        simp only [up_ap, Nat.reduceEqDiff, false_and, if_false, z, and_false]; exact this
    · exact ((((FR.rf.up (by unfold PMe; omega)).up (by unfold PMe; omega)).up (by unfold PMe; omega)).up (by unfold PMe; omega)).up (by unfold PMe; omega)
  · by_cases s : corI (h 25 p) = h 25 p
    · refine ⟨h, 0, ?_, ?_, hW, FR.rf, Or.inl rfl, by omega, Or.inl rfl⟩
      · intro g Φ K
        refine Call.of rfl (Nat.le_of_ble_eq_true rfl) rfl (U_X5_mend_24_0 ⟨pb, ?_⟩)
        have e : cb h g 25 p = ((h 25 p).toNat : Int) := ez.symm
        rw [e]
        refine sp_corrected zl ⟨fun _ => ⟨pb, fun _ => K, fun z => absurd s (by rw [e, ez] at z; exact z)⟩, fun z => absurd z c1⟩
      · intro g Φ K
        refine Call.of rfl (Nat.le_of_ble_eq_true rfl) rfl (U_X12_mend_85_0 ?_)
        have e10 : cb g h 85 10 = h 34 4 := hK
        rw [e10, pm, ← hp]
        have e : cb g h 97 p = h 25 p := e97
        refine sp_read pb (by rw [e]; exact wz) ?_
        rw [e]
        refine ⟨fun _ => ⟨pb, sp_encM ⟨r0, r2⟩ ?_⟩, fun z => absurd z (by omega)⟩
        rw [en, s]
        exact ⟨fun _ => K, fun z => absurd rfl z⟩
    · refine ⟨up (up (up (up h 25 p (corI (h 25 p))) 24 1 (w32 (h 24 1 + 1))) 97 p (corI (h 25 p))) 85 29 (w32 (h 24 1 + 1)), 0, ?_, ?_, ?_, ?_, Or.inl rfl, ?_, Or.inr rfl⟩
      · intro g Φ K
        rw [cb_uc' (by omega), cb_uc' (by omega), cb_uc (by omega), cb_uc (by omega)] at K
        refine Call.of rfl (Nat.le_of_ble_eq_true rfl) rfl (U_X5_mend_24_0 ⟨pb, ?_⟩)
        have e : cb h g 25 p = ((h 25 p).toNat : Int) := ez.symm
        rw [e]
        refine sp_corrected zl ⟨fun _ => ⟨pb, fun z => absurd (by rw [e, ez] at z; exact z) s, fun _ => ⟨pb, K⟩⟩, fun z => absurd z c1⟩
      · intro g Φ K
        rw [cb_um (by omega), cb_um (by omega), cb_um' (by omega), cb_um' (by omega)] at K
        refine Call.of rfl (Nat.le_of_ble_eq_true rfl) rfl (U_X12_mend_85_0 ?_)
        have e10 : cb g h 85 10 = h 34 4 := hK
        rw [e10, pm, ← hp]
        have e : cb g h 97 p = h 25 p := e97
        refine sp_read pb (by rw [e]; exact wz) ?_
        rw [e]
        refine ⟨fun _ => ⟨pb, sp_encM ⟨r0, r2⟩ ⟨fun z => absurd (z.trans en).symm s, fun _ => sp_encM ⟨r0, r2⟩ ⟨pb, ?_⟩⟩⟩, fun z => absurd z (by omega)⟩
        have e29 : cb g h 85 29 = h 24 1 := m1
        rw [en, e29]
        exact K
      · refine ⟨⟨rfl, m2⟩, fun i a b => ?_⟩
        by_cases z : i = p
        · subst z
          have e1 : up (up (up (up h 25 i (corI (h 25 i))) 24 1 (w32 (h 24 1 + 1))) 97 i (corI (h 25 i))) 85 29 (w32 (h 24 1 + 1)) 25 i = corI (h 25 i) := by simp [up]
          have e2 : up (up (up (up h 25 i (corI (h 25 i))) 24 1 (w32 (h 24 1 + 1))) 97 i (corI (h 25 i))) 85 29 (w32 (h 24 1 + 1)) 97 i = corI (h 25 i) := by simp [up]
          rw [e1, e2]; exact ⟨cw, rfl⟩
        · have := hw i a b
          simp only [up_ap, Nat.reduceEqDiff, false_and, if_false, z, and_false]; exact this
      · exact (((FR.rf.up (by unfold PMe; omega)).up (by unfold PMe; omega)).up (by unfold PMe; omega)).up (by unfold PMe; omega)
      · have e1 : up (up (up (up h 25 p (corI (h 25 p))) 24 1 (w32 (h 24 1 + 1))) 97 p (corI (h 25 p))) 85 29 (w32 (h 24 1 + 1)) 85 22 = h 85 22 := rfl
        rw [e1]; omega
/-- which programs run, and where -/
def RUk (h : Hp) (k : Int) : Prop := h 116 k = h 50 k ∧ -1 ≤ h 50 k ∧ h 50 k ≤ 30 ∧ 0 ≤ h 51 k ∧ h 51 k ≤ 9999 ∧ (h 50 k = -1 → h 51 k = 0) ∧ (h 50 k ≠ -1 → h 117 k = h 51 k)
def IRu (h : Hp) : Prop := ∀ k, 0 ≤ k → k < 8 → RUk h k
theorem IRu_set {h h' : Hp} {p : Int} (hI : IRu h) (e : ∀ k, k ≠ p → h' 50 k = h 50 k ∧ h' 51 k = h 51 k ∧ h' 116 k = h 116 k ∧ h' 117 k = h 117 k) (q : RUk h' p) : IRu h' := fun k a b => by
  by_cases z : k = p
  · subst z; exact q
  · have w := e k z
    have := hI k a b
    unfold RUk at *
    rw [w.1, w.2.1, w.2.2.1, w.2.2.2]; exact this
theorem IRu_begin {h : Hp} {p : Int} (hI : IRu h) : IRu (up (up (up (up h 50 p 0) 51 p 0) 116 p 0) 117 p 0) := by
  refine IRu_set (p := p) hI (fun k z => ?_) ?_
  · simp only [up_ap, z, and_false, if_false, and_self]
  · unfold RUk; simp [up_ap]
theorem IRu_stop {h : Hp} {p : Int} (hI : IRu h) : IRu (up (up (up h 50 p (-1)) 51 p 0) 116 p (-1)) := by
  refine IRu_set (p := p) hI (fun k z => ?_) ?_
  · simp only [up_ap, z, and_false, if_false, and_self]
  · unfold RUk; simp [up_ap]
def PSt (k : Nat) (i : Int) : Prop := k = 34 ∧ i = 14 ∨ k = 50 ∨ k = 51 ∨ k = 52 ∨ k = 53 ∨ k = 85 ∧ i = 62 ∨ k = 116 ∨ k = 117 ∨ k = 126 ∨ k = 127
def PSr (k : Nat) (i : Int) : Prop := k = 50 ∨ k = 51 ∨ k = 52 ∨ k = 53 ∨ k = 116 ∨ k = 117 ∨ k = 126 ∨ k = 127
def DUk (h : Hp) (j : Int) : Prop := h 126 j = h 52 j ∧ 0 ≤ h 53 j ∧ h 53 j ≤ 7 ∧ h 127 j = h 53 j
theorem sim_starts {G : GG} {h : Hp} (hD : ID h) (hR : IRu h) (hK : h 85 10 = h 34 4) :
    ∃ h', CE G m_X0_beginDue [rv 34] h 0 h' ∧ ME G m_X12_starts [rv 85] h 0 h' ∧ ID h' ∧ IRu h' ∧ FR PSt h h' := by
  obtain ⟨⟨n0, n1, n2⟩, hd⟩ := id hD
  have go : ∀ (d i : Nat) (l : Int) (h1 : Hp), (i : Int) + d = h 34 14 → 0 ≤ l → l ≤ i → FR PSr h h1 → IRu h1 → (∀ j, 0 ≤ j → j < l → DUk h1 j) → (∀ j, (i : Int) ≤ j → j < h 34 14 → DUk h1 j) →
      ∃ h2 m, CR G m_X0_beginDue 4 [(0, rv 34), (1, iv l), (2, iv (i : Int))] h1 4 [(0, rv 34), (1, iv m), (2, iv (h 34 14))] h2 ∧ MR G m_X12_starts 4 [(0, rv 85), (1, iv l), (2, iv (i : Int))] h1 4 [(0, rv 85), (1, iv m), (2, iv (h 34 14))] h2 ∧ (0 ≤ m ∧ m ≤ h 34 14) ∧ FR PSr h h2 ∧ IRu h2 ∧ (∀ j, 0 ≤ j → j < m → DUk h2 j) := by
    intro d
    induction d with
    | zero =>
      intro i l h1 hi l0 l1 fr ru lo hi2
      have e : (i : Int) = h 34 14 := by omega
      rw [e]
      exact ⟨h1, l, CR.rf, MR.rf, by omega, fr, ru, lo⟩
    | succ d ih =>
      intro i l h1 hi l0 l1 fr ru lo up_
      have e14 : h1 34 14 = h 34 14 := fr 34 14 (by unfold PSr; omega)
      have e62 : h1 85 62 = h 34 14 := by rw [fr 85 62 (by unfold PSr; omega), n2]
      have e4 : h1 34 4 = h 34 4 := fr 34 4 (by unfold PSr; omega)
      have e10 : h1 85 10 = h 34 4 := by rw [fr 85 10 (by unfold PSr; omega), hK]
      obtain ⟨u1, u2, u3, u4⟩ := up_ i (by omega) (by omega)
      by_cases c : h1 52 i = h 34 4
      · have b := ih (i + 1) l (up (up (up (up h1 50 (h1 53 i) 0) 51 (h1 53 i) 0) 116 (h1 53 i) 0) 117 (h1 53 i) 0) (by omega) l0 (by omega)
          ((((fr.up (by unfold PSr; omega)).up (by unfold PSr; omega)).up (by unfold PSr; omega)).up (by unfold PSr; omega)) (IRu_begin ru)
          (fun j a b => lo j a b) (fun j a b => up_ j (by omega) b)
        obtain ⟨h2, m, x, y, z⟩ := b
        refine ⟨h2, m, CR.tr ?_ x, MR.tr ?_ y, z⟩
        · intro g Φ K
          rw [cb_uc' (by omega), cb_uc' (by omega), cb_uc (by omega), cb_uc (by omega)] at K
          refine U_X0_beginDue_34_4 ?_
          simp only [cb_ap, Nat.reduceLT, if_true, e14, e4, c]
          rw [w32_of (z := (i : Int) + 1) (by omega) (by omega)]
          rw [Int.natCast_add] at K
          exact ⟨fun z => absurd z (by omega), fun _ => ⟨by omega, fun z => absurd rfl z, fun _ => ⟨by omega, by omega, by omega, K⟩⟩⟩
        · intro g Φ K
          rw [cb_um (by omega), cb_um (by omega), cb_um' (by omega), cb_um' (by omega)] at K
          refine U_X12_starts_85_4 ?_
          simp only [cb_ap, Nat.reduceLT, if_false, e62, e10, u1, c, u4]
          rw [w32_of (z := (i : Int) + 1) (by omega) (by omega)]
          rw [Int.natCast_add] at K
          exact ⟨fun z => absurd z (by omega), fun _ => ⟨by omega, fun z => absurd rfl z, fun _ => ⟨by omega, by omega, by omega, K⟩⟩⟩
      · have b := ih (i + 1) (l + 1) (up (up (up (up h1 52 l (h1 52 i)) 53 l (h1 53 i)) 126 l (h1 52 i)) 127 l (h1 53 i)) (by omega) (by omega) (by omega)
          ((((fr.up (by unfold PSr; omega)).up (by unfold PSr; omega)).up (by unfold PSr; omega)).up (by unfold PSr; omega)) (fun k a b => ru k a b)
          (fun j a b => by
            unfold DUk
            by_cases z : j = l
            · subst z; simp [up_ap]; exact ⟨u2, u3⟩
            · simp only [up_ap, z, and_false, if_false]; exact lo j a (by omega))
          (fun j a b => by
            have z : j ≠ l := by omega
            unfold DUk
            simp only [up_ap, z, and_false, if_false]; exact up_ j (by omega) b)
        obtain ⟨h2, m, x, y, z⟩ := b
        refine ⟨h2, m, CR.tr ?_ x, MR.tr ?_ y, z⟩
        · intro g Φ K
          rw [cb_uc' (by omega), cb_uc' (by omega), cb_uc (by omega), cb_uc (by omega)] at K
          refine U_X0_beginDue_34_4 ?_
          simp only [cb_ap, Nat.reduceLT, if_true, e14, e4]
          rw [w32_of (z := (i : Int) + 1) (by omega) (by omega)]
          rw [w32_of (z := l + 1) (by omega) (by omega)]
          rw [Int.natCast_add] at K
          exact ⟨fun z => absurd z (by omega), fun _ => ⟨by omega, fun _ => ⟨by omega, by omega, by omega, by omega, K⟩, fun z => absurd z c⟩⟩
        · intro g Φ K
          rw [cb_um (by omega), cb_um (by omega), cb_um' (by omega), cb_um' (by omega)] at K
          refine U_X12_starts_85_4 ?_
          simp only [cb_ap, Nat.reduceLT, if_false, e62, e10, u1, u4]
          rw [w32_of (z := (i : Int) + 1) (by omega) (by omega)]
          rw [w32_of (z := l + 1) (by omega) (by omega)]
          rw [Int.natCast_add] at K
          exact ⟨fun z => absurd z (by omega), fun _ => ⟨by omega, fun _ => ⟨by omega, by omega, by omega, by omega, K⟩, fun z => absurd z c⟩⟩
  obtain ⟨N, hN⟩ := Int.eq_ofNat_of_zero_le n0
  obtain ⟨h2, m, x, y, mb, fr, ru, lo⟩ := go N 0 0 h (by omega) (by omega) (by omega) FR.rf hR (fun j a b => by omega) (fun j a b => hd j (by omega) b)
  refine ⟨up (up h2 34 14 m) 85 62 m, ?_, ?_, ⟨⟨mb.1, by show m ≤ 10; omega, rfl⟩, fun j a b => lo j a b⟩, fun k a b => ru k a b, ?_⟩
  · intro g Φ K
    rw [cb_uc' (by omega), cb_uc (by omega)] at K
    refine Call.of rfl (Nat.le_of_ble_eq_true rfl) rfl (U_X0_beginDue_34_0 (x g Φ (U_X0_beginDue_34_4 ?_)))
    have e14 : cb h2 g 34 14 = h 34 14 := fr 34 14 (by unfold PSr; omega)
    rw [e14]
    exact ⟨fun _ => K, fun z => absurd z (by omega)⟩
  · intro g Φ K
    rw [cb_um (by omega), cb_um' (by omega)] at K
    refine Call.of rfl (Nat.le_of_ble_eq_true rfl) rfl (U_X12_starts_85_0 (y g Φ (U_X12_starts_85_4 ?_)))
    have e62 : cb g h2 85 62 = h 34 14 := (fr 85 62 (by unfold PSr; omega)).trans n2
    rw [e62]
    exact ⟨fun _ => K, fun z => absurd z (by omega)⟩
  · intro k i z
    unfold PSt at z
    unfold up
    rw [if_neg (by omega), if_neg (by omega)]
    exact fr k i (by unfold PSr; omega)
