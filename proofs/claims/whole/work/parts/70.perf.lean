/-! a line that may be a command, too: the class's perform, the model's act -/
def ACR (v t x mv mw mx : Int) : Prop :=
  (v = 6 ∧ mv = 0 ∧ mw = x ∧ 0 ≤ x ∧ x ≤ 7) ∨ (v = 7 ∧ mv = 1 ∧ mw = x ∧ 0 ≤ x ∧ x ≤ 7) ∨
  (v = 8 ∧ mv = 6 ∧ t = 25 + mw ∧ (0 ≤ mw ∧ mw ≤ 7) ∧ mx = x ∧ 0 ≤ x ∧ x ≤ 255) ∨ (v = 9 ∧ mv = 7 ∧ t = 25 + mw ∧ (0 ≤ mw ∧ mw ≤ 7) ∧ mx = x ∧ 0 ≤ x ∧ x ≤ 255) ∨
  (v = 10 ∧ mv = 8 ∧ mx = x ∧ 0 ≤ x ∧ x ≤ 15) ∨ (v = 11 ∧ mv = 9 ∧ mx = x ∧ 0 ≤ x ∧ x ≤ 3) ∨
  (v = 12 ∧ mv = 10 ∧ mw = x ∧ 0 ≤ x ∧ x ≤ 7) ∨ (v = 13 ∧ mv = 11 ∧ mw = x ∧ 0 ≤ x ∧ x ≤ 7)
def MW (h : Hp) : Prop := IP h ∧ IW h ∧ IMo h ∧ IRu h ∧ IRe h ∧ IKi h ∧ ICl h
def PPf (k : Nat) (i : Int) : Prop := k = 21 ∨ k = 25 ∨ k = 26 ∧ i = 3 ∨ k = 27 ∨ k = 28 ∨ k = 29 ∨ k = 30 ∨ k = 31 ∨ k = 34 ∧ (i = 5 ∨ i = 6) ∨ k = 50 ∨ k = 51 ∨ k = 85 ∧ (i = 22 ∨ i = 23 ∨ i = 57 ∨ i = 72) ∨ k = 95 ∨ k = 97 ∨ k = 116 ∨ k = 117 ∨ k = 133 ∨ k = 134 ∨ k = 135 ∨ k = 137
section
variable {k : Nat} {i : Int}
theorem ppf_on (z : k = 21 ∨ k = 95 ∨ k = 85 ∧ i = 57) : PPf k i := by unfold PPf; rcases z with rfl | rfl | ⟨rfl, rfl⟩ <;> simp
theorem ppf_w (z : k = 25 ∨ k = 97 ∨ k = 85 ∧ i = 57) : PPf k i := by unfold PPf; rcases z with rfl | rfl | ⟨rfl, rfl⟩ <;> simp
theorem ppf_l (z : k = 85 ∧ (i = 22 ∨ i = 57)) : PPf k i := by unfold PPf; rcases z with ⟨rfl, rfl | rfl⟩ <;> simp
theorem ppf_r (z : k = 50 ∨ k = 51 ∨ k = 116 ∨ k = 117 ∨ k = 85 ∧ i = 57) : PPf k i := by unfold PPf; rcases z with rfl | rfl | rfl | rfl | ⟨rfl, rfl⟩ <;> simp
theorem ppf_k (z : k = 50 ∨ k = 51 ∨ k = 116 ∨ k = 85 ∧ i = 57) : PPf k i := by unfold PPf; rcases z with rfl | rfl | rfl | ⟨rfl, rfl⟩ <;> simp
theorem ppf_e (z : PEm k i) : PPf k i := by unfold PEm at z; unfold PPf; rcases z with ⟨rfl, rfl⟩ | rfl | rfl | rfl | rfl | rfl | ⟨rfl, rfl⟩ | ⟨rfl, rfl | rfl | rfl⟩ | rfl | rfl | rfl | rfl <;> simp
theorem ppf_g (z : PGt k i ∨ k = 85 ∧ i = 57) : PPf k i := by unfold PGt at z; unfold PPf; rcases z with (⟨rfl, rfl⟩ | rfl | rfl | rfl | ⟨rfl, rfl⟩ | rfl | rfl) | ⟨rfl, rfl⟩ <;> simp
end
def PTr (G : GG) (v t x : Int) (h : Hp) (Φ : Int → Hp → Prop) : Prop :=
  ((v = 6 ∨ v = 7) → ((v ≠ 6 → (0 ≤ x ∧ x < 8) ∧ Φ 1 (up h 21 x 0)) ∧ (v = 6 → (0 ≤ x ∧ x < 8) ∧ Φ 1 (up h 21 x 1)))) ∧
  (v = 8 → Call G m_X5_write [rv 24, iv (w32 (t - 25)), iv x] h (fun _ h2 => Φ 1 h2)) ∧
  (v = 9 → Call G m_X0_add [rv 34, iv (w32 (t - 25)), iv x] h (fun r3 h4 => (r3 = 0 ∨ r3 = 1) ∧ Φ r3 h4)) ∧
  (v = 10 → Call G m_X0_record [rv 34, iv x] h (fun r5 h6 => (r5 = 0 ∨ r5 = 1) ∧ Φ r5 h6)) ∧
  (v = 11 → Call G m_X0_goTo [rv 34, iv x] h (fun _ h8 => Φ 1 h8)) ∧
  (v = 12 → (0 ≤ x ∧ x < 8) ∧ Φ 1 (up (up h 50 x 0) 51 x 0)) ∧
  (v = 13 → (0 ≤ x ∧ x < 8) ∧ Φ 1 (up (up h 50 x (-1)) 51 x 0))
theorem IP_on {h h' : Hp} (I : IP h) (e : ∀ k i, ¬ (k = 21 ∨ k = 95) → DP k i → h' k i = h k i) (o : ∀ j, 0 ≤ j → j < 8 → (h' 21 j = 0 ∨ h' 21 j = 1) ∧ h' 95 j = h' 21 j) : IP h' := by
  obtain ⟨a, b, c, d, f⟩ := I
  refine ⟨?_, ?_, ?_, ?_, fun i i0 i1 => ?_⟩
  · rw [e 18 0 (by omega) (by unfold DP; omega), e 85 18 (by omega) (by unfold DP; omega)]; exact a
  · rw [e 18 1 (by omega) (by unfold DP; omega), e 85 19 (by omega) (by unfold DP; omega)]; exact b
  · rw [e 18 2 (by omega) (by unfold DP; omega), e 85 20 (by omega) (by unfold DP; omega)]; exact c
  · rw [e 18 4 (by omega) (by unfold DP; omega), e 85 21 (by omega) (by unfold DP; omega)]; exact d
  · rw [e 19 i (by omega) (by unfold DP; omega), e 20 i (by omega) (by unfold DP; omega), e 22 i (by omega) (by unfold DP; omega), e 93 i (by omega) (by unfold DP; omega), e 94 i (by omega) (by unfold DP; omega), e 96 i (by omega) (by unfold DP; omega)]
    have := f i i0 i1
    exact ⟨this.1, this.2.1, o i i0 i1, this.2.2.2⟩
/-- the parts that a frame leaves alone -/
theorem MW_cg {h h' : Hp} {P : Nat → Int → Prop} (f : FR P h h') (M : MW h) (d : ∀ k i, (DP k i ∨ DW k i ∨ DMo k i ∨ DRu k i ∨ DRe k i ∨ DKi k i ∨ DCl k i) → ¬ P k i) : MW h' := by
  obtain ⟨a, b, c, e, g, i, j⟩ := M
  exact ⟨IP_cg (fun k i q => f k i (d k i (Or.inl q))) a, IW_cg (fun k i q => f k i (d k i (Or.inr (Or.inl q)))) b, IMo_cg (fun k i q => f k i (d k i (Or.inr (Or.inr (Or.inl q))))) c, IRu_cg (fun k i q => f k i (d k i (Or.inr (Or.inr (Or.inr (Or.inl q)))))) e, IRe_cg (fun k i q => f k i (d k i (Or.inr (Or.inr (Or.inr (Or.inr (Or.inl q))))))) g, IKi_cg (fun k i q => f k i (d k i (Or.inr (Or.inr (Or.inr (Or.inr (Or.inr (Or.inl q)))))))) i, ICl_cg (fun k i q => f k i (d k i (Or.inr (Or.inr (Or.inr (Or.inr (Or.inr (Or.inr q)))))))) j⟩
theorem IW_set {h : Hp} {x v b : Int} (I : IW h) (w : isW v) : IW (up (up (up h 25 x v) 85 57 b) 97 x v) := by
  obtain ⟨a, c⟩ := I
  refine ⟨a, fun i i0 i1 => ?_⟩
  by_cases z : i = x
  · subst z
    have e1 : up (up (up h 25 i v) 85 57 b) 97 i v 25 i = v := by rw [up_nk (by omega), up_nk (by omega), up_at]
    rw [e1, up_at]; exact ⟨w, rfl⟩
  · have e1 : up (up (up h 25 x v) 85 57 b) 97 x v 25 i = h 25 i := by rw [up_nk (by omega), up_nk (by omega), up_ni z]
    have e2 : up (up (up h 25 x v) 85 57 b) 97 x v 97 i = h 97 i := by rw [up_ni z, up_nk (by omega), up_nk (by omega)]
    rw [e1, e2]; exact c i i0 i1
theorem sim_perf {G : GG} {h : Hp} {a v t x : Int} (ha : 0 ≤ a ∧ a < 260) (lr : ACR v t x (h 103 a) (h 104 a) (h 105 a)) (M : MW h) (hE : IEv h) (he : h 34 5 ≤ 999999990) :
    ∃ h' r e, (∀ (g : Hp) (Φ : Int → Hp → Prop), Φ r (cb h' g) → PTr G v t x (cb h g) Φ) ∧ ME G m_X12_act [rv 85, iv a] h r h' ∧ MW h' ∧ FR PPf h h' ∧ (r = 0 ∨ r = 1) ∧ (0 ≤ e ∧ e ≤ 2) ∧ h' 34 5 = h 34 5 + e ∧ h' 85 22 = h 34 5 + e + (1 - r) ∧ ∀ j, h' 51 j = h 51 j ∨ h' 51 j = 0 := by
  obtain ⟨hP, hW, hMo, hR, hRe, hKi, hCl⟩ := id M
  obtain ⟨⟨w1, w2⟩, hw⟩ := id hW
  obtain ⟨e1, e2⟩ := hE
  rcases lr with ⟨c, c1, c2, c3⟩ | ⟨c, c1, c2, c3⟩ | ⟨c, c1, c2, c3, c4, c5⟩ | ⟨c, c1, c2, c3, c4, c5⟩ | ⟨c, c1, c2, c3⟩ | ⟨c, c1, c2, c3⟩ | ⟨c, c1, c2, c3⟩ | ⟨c, c1, c2, c3⟩
  · -- on
    subst c
    have fr : FR (fun k i => k = 21 ∨ k = 95 ∨ k = 85 ∧ i = 57) h (up (up (up h 21 x 1) 85 57 0) 95 x 1) := ((FR.rf.up (by omega)).up (by omega)).up (by omega)
    refine ⟨up (up (up h 21 x 1) 85 57 0) 95 x 1, 1, 0, fun g Φ K => ?_, fun g Φ K => ?_, ⟨IP_on hP (fun k i q _ => fr k i ?_) (fun j j0 j1 => ?_), IW_cg (dj fr (by unfold DW; omega)) hW, IMo_cg (dj fr (by unfold DMo; omega)) hMo, IRu_cg (dj fr (by unfold DRu; omega)) hR, IRe_cg (dj fr (by unfold DRe; omega)) hRe, IKi_cg (dj fr (by unfold DKi; omega)) hKi, ICl_cg (dj fr (by unfold DCl; omega)) hCl⟩, fr.mono (fun _ _ z => ppf_on z), Or.inr rfl, by omega, ?_, ?_, fun j => ?_⟩
    · rw [cb_uc' (by omega), cb_uc' (by omega), cb_uc (by omega)] at K
      exact ⟨fun _ => ⟨fun z => absurd rfl z, fun _ => ⟨by omega, K⟩⟩, fun z => absurd z (by omega), fun z => absurd z (by omega), fun z => absurd z (by omega), fun z => absurd z (by omega), fun z => absurd z (by omega), fun z => absurd z (by omega)⟩
    · rw [cb_um (by omega), cb_um (by omega), cb_um' (by omega)] at K
      refine Call.of rfl (Nat.le_of_ble_eq_true rfl) rfl (U_X12_act_85_0 ⟨ha, ?_⟩)
      have q1 : cb g h 103 a = 0 := c1
      have q2 : cb g h 104 a = x := c2
      rw [q1, q2]
      exact ⟨fun _ => ⟨ha, by omega, K⟩, fun z => absurd z (by omega), fun z => absurd z (by omega), fun z => absurd z (by omega), fun z => absurd z (by omega), fun z => absurd z (by omega), fun z => absurd z (by omega), fun z => absurd z (by omega), fun z => absurd z (by omega)⟩
    · rename_i h85; unfold DP at h85; omega
    · have q := (hP.2.2.2.2 j j0 j1).2.2.1
      by_cases z : j = x
      · subst z
        rw [up_nk (by omega), up_nk (by omega), up_at, up_at]; exact ⟨Or.inr rfl, rfl⟩
      · rw [up_nk (by omega), up_nk (by omega), up_ni z, up_ni z, up_nk (by omega), up_nk (by omega)]; exact q
    · show h 34 5 = _; omega
    · show h 85 22 = _; omega
    · exact Or.inl rfl
  · -- off
    subst c
    have fr : FR (fun k i => k = 21 ∨ k = 95 ∨ k = 85 ∧ i = 57) h (up (up (up h 21 x 0) 85 57 0) 95 x 0) := ((FR.rf.up (by omega)).up (by omega)).up (by omega)
    refine ⟨up (up (up h 21 x 0) 85 57 0) 95 x 0, 1, 0, fun g Φ K => ?_, fun g Φ K => ?_, ⟨IP_on hP (fun k i q _ => fr k i ?_) (fun j j0 j1 => ?_), IW_cg (dj fr (by unfold DW; omega)) hW, IMo_cg (dj fr (by unfold DMo; omega)) hMo, IRu_cg (dj fr (by unfold DRu; omega)) hR, IRe_cg (dj fr (by unfold DRe; omega)) hRe, IKi_cg (dj fr (by unfold DKi; omega)) hKi, ICl_cg (dj fr (by unfold DCl; omega)) hCl⟩, fr.mono (fun _ _ z => ppf_on z), Or.inr rfl, by omega, ?_, ?_, fun j => ?_⟩
    · rw [cb_uc' (by omega), cb_uc' (by omega), cb_uc (by omega)] at K
      exact ⟨fun _ => ⟨fun _ => ⟨by omega, K⟩, fun z => absurd z (by omega)⟩, fun z => absurd z (by omega), fun z => absurd z (by omega), fun z => absurd z (by omega), fun z => absurd z (by omega), fun z => absurd z (by omega), fun z => absurd z (by omega)⟩
    · rw [cb_um (by omega), cb_um (by omega), cb_um' (by omega)] at K
      refine Call.of rfl (Nat.le_of_ble_eq_true rfl) rfl (U_X12_act_85_0 ⟨ha, ?_⟩)
      have q1 : cb g h 103 a = 1 := c1
      have q2 : cb g h 104 a = x := c2
      rw [q1, q2]
      exact ⟨fun z => absurd z (by omega), fun _ => ⟨ha, by omega, K⟩, fun z => absurd z (by omega), fun z => absurd z (by omega), fun z => absurd z (by omega), fun z => absurd z (by omega), fun z => absurd z (by omega), fun z => absurd z (by omega), fun z => absurd z (by omega)⟩
    · rename_i h85; unfold DP at h85; omega
    · have q := (hP.2.2.2.2 j j0 j1).2.2.1
      by_cases z : j = x
      · subst z
        rw [up_nk (by omega), up_nk (by omega), up_at, up_at]; exact ⟨Or.inl rfl, rfl⟩
      · rw [up_nk (by omega), up_nk (by omega), up_ni z, up_ni z, up_nk (by omega), up_nk (by omega)]; exact q
    · show h 34 5 = _; omega
    · show h 85 22 = _; omega
    · exact Or.inl rfl
  · -- set
    subst c
    have fr : FR (fun k i => k = 25 ∨ k = 97 ∨ k = 85 ∧ i = 57) h (up (up (up h 25 (h 104 a) (encI x)) 85 57 0) 97 (h 104 a) (encI x)) := ((FR.rf.up (by omega)).up (by omega)).up (by omega)
    refine ⟨_, 1, 0, fun g Φ K => ?_, fun g Φ K => ?_, ⟨IP_cg (dj fr (by unfold DP; omega)) hP, IW_set hW (encI_w (by omega)), IMo_cg (dj fr (by unfold DMo; omega)) hMo, IRu_cg (dj fr (by unfold DRu; omega)) hR, IRe_cg (dj fr (by unfold DRe; omega)) hRe, IKi_cg (dj fr (by unfold DKi; omega)) hKi, ICl_cg (dj fr (by unfold DCl; omega)) hCl⟩, fr.mono (fun _ _ z => ppf_w z), Or.inr rfl, by omega, ?_, ?_, fun j => ?_⟩
    · rw [cb_uc' (by omega), cb_uc' (by omega), cb_uc (by omega)] at K
      refine ⟨fun z => absurd z (by omega), fun _ => ?_, fun z => absurd z (by omega), fun z => absurd z (by omega), fun z => absurd z (by omega), fun z => absurd z (by omega), fun z => absurd z (by omega)⟩
      have et : t - 25 = h 104 a := by omega
      rw [w32_of (z := t - 25) (by omega) (by omega), et]
      exact sp_write (by omega) (by omega) K
    · rw [cb_um (by omega), cb_um (by omega), cb_um' (by omega)] at K
      refine Call.of rfl (Nat.le_of_ble_eq_true rfl) rfl (U_X12_act_85_0 ⟨ha, ?_⟩)
      have q1 : cb g h 103 a = 6 := c1
      have q2 : cb g h 104 a = h 104 a := rfl
      have q3 : cb g h 105 a = x := c4
      rw [q1, q2, q3]
      refine ⟨fun z => absurd z (by omega), fun z => absurd z (by omega), fun _ => ⟨ha, ha, sp_encM (by omega) ⟨by omega, fun _ => ⟨fun z => absurd rfl z, fun _ => K⟩, fun z => absurd rfl z⟩⟩, fun z => absurd z (by omega), fun z => absurd z (by omega), fun z => absurd z (by omega), fun z => absurd z (by omega), fun z => absurd z (by omega), fun z => absurd z (by omega)⟩
    · show h 34 5 = _; omega
    · show h 85 22 = _; omega
    · exact Or.inl rfl
  · -- add
    subst c
    obtain ⟨wz, e97⟩ := hw (h 104 a) (by omega) (by omega)
    have et : t - 25 = h 104 a := by omega
    rcases rd_cases wz with ⟨b1, r1, _⟩ | ⟨r0, r2, b1, _⟩
    · have fr : FR (fun k i => k = 85 ∧ (i = 22 ∨ i = 57)) h (up (up h 85 57 1) 85 22 (h 85 22 + 1)) := (FR.rf.up (by omega)).up (by omega)
      refine ⟨up (up h 85 57 1) 85 22 (h 85 22 + 1), 0, 0, fun g Φ K => ?_, fun g Φ K => ?_, MW_cg fr M (by unfold DP DW DMo DRu DRe DKi DCl; omega), fr.mono (fun _ _ z => ppf_l z), Or.inl rfl, by omega, ?_, ?_, fun j => ?_⟩
      · rw [cb_uc' (by omega), cb_uc' (by omega)] at K
        refine ⟨fun z => absurd z (by omega), fun z => absurd z (by omega), fun _ => ?_, fun z => absurd z (by omega), fun z => absurd z (by omega), fun z => absurd z (by omega), fun z => absurd z (by omega)⟩
        rw [w32_of (z := t - 25) (by omega) (by omega), et]
        exact Call.of rfl (Nat.le_of_ble_eq_true rfl) rfl (U_X0_add_34_0 (sp_byteOf (h := cb h g) (by omega) wz ⟨fun z => absurd b1 z, fun _ => ⟨Or.inl rfl, K⟩⟩))
      · rw [cb_um (by omega), cb_um (by omega)] at K
        refine Call.of rfl (Nat.le_of_ble_eq_true rfl) rfl (U_X12_act_85_0 ⟨ha, ?_⟩)
        have q1 : cb g h 103 a = 7 := c1
        have q2 : cb g h 104 a = h 104 a := rfl
        rw [q1, q2]
        refine ⟨fun z => absurd z (by omega), fun z => absurd z (by omega), fun z => absurd z (by omega), fun _ => ⟨ha, ?_⟩, fun z => absurd z (by omega), fun z => absurd z (by omega), fun z => absurd z (by omega), fun z => absurd z (by omega), fun z => absurd z (by omega)⟩
        rw [w32_of (z := 9 + h 104 a) (by omega) (by omega)]
        have q3 : up (cb g h) 85 57 0 97 (h 104 a) = h 25 (h 104 a) := e97
        refine sp_valueV (by omega) (by rw [q3]; exact wz) ?_
        rw [q3, if_pos (Or.inr r1), up_up]
        have q4 : up (cb g h) 85 57 1 85 57 = 1 := rfl
        have q5 : up (cb g h) 85 57 1 85 22 = h 85 22 := rfl
        rw [q4, q5, w32_of (z := h 85 22 + 1) (by omega) (by omega)]
        exact ⟨fun _ => ⟨fun z => absurd z (by omega), fun _ => ⟨fun _ => K, fun z => absurd z (by omega)⟩⟩, fun z => absurd z (by omega)⟩
      · show h 34 5 = _; omega
      · show h 85 22 + 1 = _; omega
      · exact Or.inl rfl
    · have fr : FR (fun k i => k = 25 ∨ k = 97 ∨ k = 85 ∧ i = 57) h (up (up (up h 25 (h 104 a) (encI ((readI (h 25 (h 104 a)) + x) % 256))) 85 57 0) 97 (h 104 a) (encI ((readI (h 25 (h 104 a)) + x) % 256))) := ((FR.rf.up (by omega)).up (by omega)).up (by omega)
      refine ⟨_, 1, 0, fun g Φ K => ?_, fun g Φ K => ?_, ⟨IP_cg (dj fr (by unfold DP; omega)) hP, IW_set hW (encI_w (by omega)), IMo_cg (dj fr (by unfold DMo; omega)) hMo, IRu_cg (dj fr (by unfold DRu; omega)) hR, IRe_cg (dj fr (by unfold DRe; omega)) hRe, IKi_cg (dj fr (by unfold DKi; omega)) hKi, ICl_cg (dj fr (by unfold DCl; omega)) hCl⟩, fr.mono (fun _ _ z => ppf_w z), Or.inr rfl, by omega, ?_, ?_, fun j => ?_⟩
      · rw [cb_uc' (by omega), cb_uc' (by omega), cb_uc (by omega)] at K
        refine ⟨fun z => absurd z (by omega), fun z => absurd z (by omega), fun _ => ?_, fun z => absurd z (by omega), fun z => absurd z (by omega), fun z => absurd z (by omega), fun z => absurd z (by omega)⟩
        rw [w32_of (z := t - 25) (by omega) (by omega), et]
        refine Call.of rfl (Nat.le_of_ble_eq_true rfl) rfl (U_X0_add_34_0 (sp_byteOf (h := cb h g) (by omega) wz ?_))
        have q0 : cb h g 25 (h 104 a) = h 25 (h 104 a) := rfl
        rw [q0, b1, band_255x, w32_of (z := readI (h 25 (h 104 a)) + x) (by omega) (by omega)]
        exact ⟨fun _ => sp_write (by omega) (by omega) ⟨Or.inr rfl, K⟩, fun z => absurd z (by omega)⟩
      · rw [cb_um (by omega), cb_um (by omega), cb_um' (by omega)] at K
        refine Call.of rfl (Nat.le_of_ble_eq_true rfl) rfl (U_X12_act_85_0 ⟨ha, ?_⟩)
        have q1 : cb g h 103 a = 7 := c1
        have q2 : cb g h 104 a = h 104 a := rfl
        rw [q1, q2]
        refine ⟨fun z => absurd z (by omega), fun z => absurd z (by omega), fun z => absurd z (by omega), fun _ => ⟨ha, ?_⟩, fun z => absurd z (by omega), fun z => absurd z (by omega), fun z => absurd z (by omega), fun z => absurd z (by omega), fun z => absurd z (by omega)⟩
        rw [w32_of (z := 9 + h 104 a) (by omega) (by omega)]
        have q3 : up (cb g h) 85 57 0 97 (h 104 a) = h 25 (h 104 a) := e97
        refine sp_valueV (by omega) (by rw [q3]; exact wz) ?_
        have q6 : up (cb g h) 85 57 0 85 57 = 0 := rfl
        rw [q3, q6, if_neg (by omega), up_up]
        have q5 : up (cb g h) 85 57 0 105 a = x := c4
        have q7 : up (cb g h) 85 57 0 104 a = h 104 a := rfl
        rw [q5, q6, q7, band_255x, w32_of (z := readI (h 25 (h 104 a)) + x) (by omega) (by omega)]
        exact ⟨fun z => absurd rfl z, fun _ => ⟨ha, ha, sp_encM (by omega) ⟨by omega, fun _ => ⟨fun z => absurd rfl z, fun _ => K⟩, fun z => absurd rfl z⟩⟩⟩
      · show h 34 5 = _; omega
      · show h 85 22 = _; omega
      · exact Or.inl rfl
  · -- emit
    subst c
    have fr0 : FR (fun k i => k = 85 ∧ i = 57) h (up h 85 57 0) := FR.rf.up (by omega)
    obtain ⟨h', r, e, ce, me, re, ki, fr, oc, eb, ev1, ev2⟩ := sim_emit (G := G) (h := up h 85 57 0) (n := x) (by omega) (IW_cg (dj fr0 (by unfold DW; omega)) hW) (IRe_cg (dj fr0 (by unfold DRe; omega)) hRe) (IKi_cg (dj fr0 (by unfold DKi; omega)) hKi) hCl.1 hCl.2.1 e1 (show 0 ≤ h 34 5 ∧ h 34 5 ≤ 1000000000 by omega) up_at
    have v5 : up h 85 57 0 34 5 = h 34 5 := rfl
    have v22 : up h 85 57 0 85 22 = h 85 22 := rfl
    rw [v5] at ev1
    rw [v22] at ev2
    have frT : FR PEm h h' := fun k i q => by rw [fr k i q]; exact fr0 k i (by unfold PEm at q; omega)
    have mw : MW h' := ⟨IP_cg (dj frT (by unfold DP PEm; omega)) hP, IW_cg (dj frT (by unfold DW PEm; omega)) hW, IMo_cg (dj frT (by unfold DMo PEm; omega)) hMo, IRu_cg (dj frT (by unfold DRu PEm; omega)) hR, re, ki, ICl_cg (dj frT (by unfold DCl PEm; omega)) hCl⟩
    have clc : ∀ (g : Hp) (Φ : Int → Hp → Prop), Φ r (cb h' g) → Call G m_X0_record [rv 34, iv x] (cb h g) Φ := fun g Φ K => by
      have q := ce g Φ K
      rw [cb_uc' (by omega)] at q; exact q
    have mo : ∀ (g : Hp) (Φ : Int → Hp → Prop), Φ 0 (cb g h') → Call G m_X12_emit [rv 85, iv x] (up (cb g h) 85 57 0) Φ := fun g Φ K => by
      have q := me g Φ K
      rw [cb_um (by omega)] at q; exact q
    rcases oc with ⟨o1, o2⟩ | ⟨o1, o2, o3⟩
    · subst o1
      refine ⟨h', 1, e, fun g Φ K => ?_, fun g Φ K => ?_, mw, frT.mono (fun _ _ z => ppf_e z), Or.inr rfl, eb, ev1, by omega, fun j => Or.inl (frT 51 j (by unfold PEm; omega))⟩
      · exact ⟨fun z => absurd z (by omega), fun z => absurd z (by omega), fun z => absurd z (by omega), fun _ => clc g _ ⟨Or.inr rfl, K⟩, fun z => absurd z (by omega), fun z => absurd z (by omega), fun z => absurd z (by omega)⟩
      · refine Call.of rfl (Nat.le_of_ble_eq_true rfl) rfl (U_X12_act_85_0 ⟨ha, ?_⟩)
        have q1 : cb g h 103 a = 8 := c1
        have q3 : cb g h 105 a = x := c2
        rw [q1, q3]
        refine ⟨fun z => absurd z (by omega), fun z => absurd z (by omega), fun z => absurd z (by omega), fun z => absurd z (by omega), fun _ => ⟨ha, mo g _ ?_⟩, fun z => absurd z (by omega), fun z => absurd z (by omega), fun z => absurd z (by omega), fun z => absurd z (by omega)⟩
        have q4 : cb g h' 85 57 = 0 := o2
        rw [q4]
        exact ⟨fun _ => ⟨fun z => absurd rfl z, fun _ => K⟩, fun z => absurd rfl z⟩
    · subst o1
      have fr2 : FR (fun k i => k = 85 ∧ i = 22) h' (up h' 85 22 (h' 85 22 + 1)) := FR.rf.up (by omega)
      refine ⟨up h' 85 22 (h' 85 22 + 1), 0, e, fun g Φ K => ?_, fun g Φ K => ?_, MW_cg fr2 mw (by unfold DP DW DMo DRu DRe DKi DCl; omega), fun k i q => ?_, Or.inl rfl, eb, ev1, ?_, fun j => Or.inl ((up_nk (by omega)).trans (frT 51 j (by unfold PEm; omega)))⟩
      · rw [cb_uc' (by omega)] at K
        exact ⟨fun z => absurd z (by omega), fun z => absurd z (by omega), fun z => absurd z (by omega), fun _ => clc g _ ⟨Or.inl rfl, K⟩, fun z => absurd z (by omega), fun z => absurd z (by omega), fun z => absurd z (by omega)⟩
      · rw [cb_um (by omega)] at K
        refine Call.of rfl (Nat.le_of_ble_eq_true rfl) rfl (U_X12_act_85_0 ⟨ha, ?_⟩)
        have q1 : cb g h 103 a = 8 := c1
        have q3 : cb g h 105 a = x := c2
        rw [q1, q3]
        refine ⟨fun z => absurd z (by omega), fun z => absurd z (by omega), fun z => absurd z (by omega), fun z => absurd z (by omega), fun _ => ⟨ha, mo g _ ?_⟩, fun z => absurd z (by omega), fun z => absurd z (by omega), fun z => absurd z (by omega), fun z => absurd z (by omega)⟩
        have q4 : cb g h' 85 57 = 1 := o2
        have q5 : cb g h' 85 22 = h' 85 22 := rfl
        rw [q4, q5, w32_of (z := h' 85 22 + 1) (by omega) (by omega)]
        exact ⟨fun z => absurd z (by omega), fun _ => ⟨fun _ => K, fun z => absurd z (by omega)⟩⟩
      · rw [up_ap, if_neg (fun z => q (ppf_l (by omega)))]; exact frT k i (fun z => q (ppf_e z))
      · rw [up_at, ev2]; omega
  · -- mode
    subst c
    have fr0 : FR (fun k i => k = 85 ∧ i = 57) h (up h 85 57 0) := FR.rf.up (by omega)
    obtain ⟨h', ce, me, mo, ru, fr, on, w51⟩ := sim_goTo (G := G) (h := up h 85 57 0) (m := x) (by omega) (IMo_cg (dj fr0 (by unfold DMo; omega)) hMo) (IRu_cg (dj fr0 (by unfold DRu; omega)) hR)
    have frT : FR (fun k i => PGt k i ∨ k = 85 ∧ i = 57) h h' := fun k i q => by rw [fr k i (fun z => q (Or.inl z))]; exact fr0 k i (fun z => q (Or.inr z))
    refine ⟨h', 1, 0, fun g Φ K => ?_, fun g Φ K => ?_, ⟨IP_on hP (fun k i q d => frT k i ?_) on, IW_cg (dj frT (by unfold DW PGt; omega)) hW, mo, ru, IRe_cg (dj frT (by unfold DRe PGt; omega)) hRe, IKi_cg (dj frT (by unfold DKi PGt; omega)) hKi, ICl_cg (dj frT (by unfold DCl PGt; omega)) hCl⟩, frT.mono (fun _ _ z => ppf_g z), Or.inr rfl, by omega, ?_, ?_, fun j => ?_⟩
    · have q := ce g (fun _ h8 => Φ 1 h8) K
      rw [cb_uc' (by omega)] at q
      exact ⟨fun z => absurd z (by omega), fun z => absurd z (by omega), fun z => absurd z (by omega), fun z => absurd z (by omega), fun _ => q, fun z => absurd z (by omega), fun z => absurd z (by omega)⟩
    · refine Call.of rfl (Nat.le_of_ble_eq_true rfl) rfl (U_X12_act_85_0 ⟨ha, ?_⟩)
      have q1 : cb g h 103 a = 9 := c1
      have q3 : cb g h 105 a = x := c2
      rw [q1, q3]
      refine ⟨fun z => absurd z (by omega), fun z => absurd z (by omega), fun z => absurd z (by omega), fun z => absurd z (by omega), fun z => absurd z (by omega), fun _ => ⟨ha, ?_⟩, fun z => absurd z (by omega), fun z => absurd z (by omega), fun z => absurd z (by omega)⟩
      have q := me g (fun _ h10 => (((h10 85 57) = 0 → (((h10 85 57) ≠ 0 → Φ 0 h10) ∧ ((h10 85 57) = 0 → Φ 1 h10))) ∧ ((h10 85 57) ≠ 0 → (((h10 85 57) ≠ 0 → Φ 0 (up h10 85 22 (w32 ((h10 85 22) + 1)))) ∧ ((h10 85 57) = 0 → Φ 1 (up h10 85 22 (w32 ((h10 85 22) + 1)))))))) (by
        have q4 : cb g h' 85 57 = 0 := (fr 85 57 (by unfold PGt; omega)).trans up_at
        simp only [q4]
        exact ⟨fun _ => ⟨fun z => absurd rfl z, fun _ => K⟩, fun z => absurd rfl z⟩)
      rw [cb_um (by omega)] at q
      exact q
    · unfold DP at d; unfold PGt; omega
    · rw [frT 34 5 (by unfold PGt; omega)]; omega
    · rw [frT 85 22 (by unfold PGt; omega)]; omega
    · exact w51 j
  · -- run
    subst c
    have fr : FR (fun k i => k = 50 ∨ k = 51 ∨ k = 116 ∨ k = 117 ∨ k = 85 ∧ i = 57) h (up (up (up (up (up h 85 57 0) 50 x 0) 51 x 0) 116 x 0) 117 x 0) := ((((FR.rf.up (by omega)).up (by omega)).up (by omega)).up (by omega)).up (by omega)
    refine ⟨up (up (up (up (up h 85 57 0) 50 x 0) 51 x 0) 116 x 0) 117 x 0, 1, 0, fun g Φ K => ?_, fun g Φ K => ?_, ⟨IP_cg (dj fr (by unfold DP; omega)) hP, IW_cg (dj fr (by unfold DW; omega)) hW, IMo_cg (dj fr (by unfold DMo; omega)) hMo, IRu_begin (fun k a b => hR k a b), IRe_cg (dj fr (by unfold DRe; omega)) hRe, IKi_cg (dj fr (by unfold DKi; omega)) hKi, ICl_cg (dj fr (by unfold DCl; omega)) hCl⟩, fr.mono (fun _ _ z => ppf_r z), Or.inr rfl, by omega, ?_, ?_, fun j => ?_⟩
    · rw [cb_uc' (by omega), cb_uc' (by omega), cb_uc (by omega), cb_uc (by omega), cb_uc' (by omega)] at K
      exact ⟨fun z => absurd z (by omega), fun z => absurd z (by omega), fun z => absurd z (by omega), fun z => absurd z (by omega), fun z => absurd z (by omega), fun _ => ⟨by omega, K⟩, fun z => absurd z (by omega)⟩
    · rw [cb_um (by omega), cb_um (by omega), cb_um' (by omega), cb_um' (by omega), cb_um (by omega)] at K
      refine Call.of rfl (Nat.le_of_ble_eq_true rfl) rfl (U_X12_act_85_0 ⟨ha, ?_⟩)
      have q1 : cb g h 103 a = 10 := c1
      have q2 : cb g h 104 a = x := c2
      rw [q1, q2]
      exact ⟨fun z => absurd z (by omega), fun z => absurd z (by omega), fun z => absurd z (by omega), fun z => absurd z (by omega), fun z => absurd z (by omega), fun z => absurd z (by omega), fun _ => ⟨ha, by omega, by omega, K⟩, fun z => absurd z (by omega), fun z => absurd z (by omega)⟩
    · show h 34 5 = _; omega
    · show h 85 22 = _; omega
    · by_cases z : j = x
      · rw [z]; right; simp [up]
      · left; simp [up, z]
  · -- kill
    subst c
    have fr : FR (fun k i => k = 50 ∨ k = 51 ∨ k = 116 ∨ k = 85 ∧ i = 57) h (up (up (up (up h 85 57 0) 50 x (-1)) 51 x 0) 116 x (-1)) := (((FR.rf.up (by omega)).up (by omega)).up (by omega)).up (by omega)
    refine ⟨up (up (up (up h 85 57 0) 50 x (-1)) 51 x 0) 116 x (-1), 1, 0, fun g Φ K => ?_, fun g Φ K => ?_, ⟨IP_cg (dj fr (by unfold DP; omega)) hP, IW_cg (dj fr (by unfold DW; omega)) hW, IMo_cg (dj fr (by unfold DMo; omega)) hMo, IRu_stop (fun k a b => hR k a b), IRe_cg (dj fr (by unfold DRe; omega)) hRe, IKi_cg (dj fr (by unfold DKi; omega)) hKi, ICl_cg (dj fr (by unfold DCl; omega)) hCl⟩, fr.mono (fun _ _ z => ppf_k z), Or.inr rfl, by omega, ?_, ?_, fun j => ?_⟩
    · rw [cb_uc' (by omega), cb_uc (by omega), cb_uc (by omega), cb_uc' (by omega)] at K
      exact ⟨fun z => absurd z (by omega), fun z => absurd z (by omega), fun z => absurd z (by omega), fun z => absurd z (by omega), fun z => absurd z (by omega), fun z => absurd z (by omega), fun _ => ⟨by omega, K⟩⟩
    · rw [cb_um (by omega), cb_um' (by omega), cb_um' (by omega), cb_um (by omega)] at K
      refine Call.of rfl (Nat.le_of_ble_eq_true rfl) rfl (U_X12_act_85_0 ⟨ha, ?_⟩)
      have q1 : cb g h 103 a = 11 := c1
      have q2 : cb g h 104 a = x := c2
      rw [q1, q2]
      exact ⟨fun z => absurd z (by omega), fun z => absurd z (by omega), fun z => absurd z (by omega), fun z => absurd z (by omega), fun z => absurd z (by omega), fun z => absurd z (by omega), fun z => absurd z (by omega), fun _ => ⟨ha, by omega, K⟩, fun z => absurd z (by omega)⟩
    · show h 34 5 = _; omega
    · show h 85 22 = _; omega
    · by_cases z : j = x
      · rw [z]; right; simp [up]
      · left; simp [up, z]
theorem ACR_v {v t x mv mw mx : Int} (a : ACR v t x mv mw mx) : 6 ≤ v ∧ v ≤ 13 ∧ mv ≠ 12 ∧ (mv < 2 ∨ 5 < mv) := by unfold ACR at a; omega
theorem ce_perf_36 {G : GG} {h h' : Hp} {i r : Int} (hi : 0 ≤ i ∧ i < 240) (hv : 6 ≤ h 37 i ∧ h 37 i ≤ 13) (p : ∀ (g : Hp) (Φ : Int → Hp → Prop), Φ r (cb h' g) → PTr G (h 37 i) (h 38 i) (h 40 i) (cb h g) Φ) : CE G m_X0_perform [rv 34, rv 36, iv i] h r h' := fun g Φ K => by
  obtain ⟨a, b, c, d, e, f, w⟩ := p g Φ K
  exact Call.of rfl (Nat.le_of_ble_eq_true rfl) rfl (U_X0_perform_34_36_0 ⟨hi, hi, fun z => ⟨hi, a z⟩, fun z => ⟨hi, b z⟩, fun z => ⟨hi, c z⟩, d, e, fun z => ⟨(f z).1, f z⟩, fun z => ⟨(w z).1, w z⟩, fun z => by
    have q : cb h g 37 i = h 37 i := rfl
    rw [q] at z; omega⟩)
theorem ce_perf_68 {G : GG} {h h' : Hp} {i r : Int} (hi : 0 ≤ i ∧ i < 8) (hv : 6 ≤ h 69 i ∧ h 69 i ≤ 13) (p : ∀ (g : Hp) (Φ : Int → Hp → Prop), Φ r (cb h' g) → PTr G (h 69 i) (h 70 i) (h 72 i) (cb h g) Φ) : CE G m_X0_perform [rv 34, rv 68, iv i] h r h' := fun g Φ K => by
  obtain ⟨a, b, c, d, e, f, w⟩ := p g Φ K
  exact Call.of rfl (Nat.le_of_ble_eq_true rfl) rfl (U_X0_perform_34_68_0 ⟨hi, hi, fun z => ⟨hi, a z⟩, fun z => ⟨hi, b z⟩, fun z => ⟨hi, c z⟩, d, e, fun z => ⟨(f z).1, f z⟩, fun z => ⟨(w z).1, w z⟩, fun z => by
    have q : cb h g 69 i = h 69 i := rfl
    rw [q] at z; omega⟩)
