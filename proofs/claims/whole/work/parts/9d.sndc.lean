/-! send -/
def DDr (k : Nat) (i : Int) : Prop := k = 43 ∧ i = 0 ∨ (44 ≤ k ∧ k ≤ 48) ∨ (109 ≤ k ∧ k ≤ 114)
theorem IDr_cg {h h' : Hp} (e : ∀ k i, DDr k i → h' k i = h k i) (I : IDr h) : IDr h' := by
  refine ⟨by rw [e 43 0 (by simp [DDr])]; exact I.1, fun i i0 i1 => ?_⟩
  have q := I.2 i i0 i1
  unfold LRc at q ⊢
  rw [e 44 i (by simp [DDr]), e (44 + 1) i (by simp [DDr]), e (44 + 2) i (by simp [DDr]), e (44 + 3) i (by simp [DDr]), e (44 + 4) i (by simp [DDr]), e 109 i (by simp [DDr]), e (109 + 1) i (by simp [DDr]), e (109 + 2) i (by simp [DDr]), e (109 + 3) i (by simp [DDr]), e (109 + 4) i (by simp [DDr]), e (109 + 5) i (by simp [DDr])]
  exact q
def PSn (k : Nat) (i : Int) : Prop := PPf k i ∨ k = 26 ∧ (i = 13 ∨ i = 14) ∨ (37 ≤ k ∧ k ≤ 42) ∨ (44 ≤ k ∧ k ≤ 49) ∨ k = 65 ∧ i = 10 ∨ k = 85 ∧ (i = 80 ∨ i = 81 ∨ i = 89) ∨ (103 ≤ k ∧ k ≤ 108) ∧ (0 ≤ i ∧ i < 240) ∨ (109 ≤ k ∧ k ≤ 115)
theorem psn_y {k : Nat} {i : Int} (z : PRy k i) : PSn k i := by
  unfold PRy at z
  by_cases c : k = 50 ∨ k = 51 ∨ k = 116
  · left; unfold PPf; rcases c with rfl | rfl | rfl <;> simp
  · right; omega
def SI (h : Hp) : Prop := MW h ∧ IEv h ∧ ILn h ∧ IDr h ∧ IKp h ∧ ILk h
theorem op_send {G : GG} {h : Hp} {x : Int} (S : SI h) (hB : IB h) (he : h 34 5 ≤ 900000000) : BOTH G m_X11_send m_X12_send [iv x] h (fun h' => SI h' ∧ FR PSn h h' ∧ (h 34 5 ≤ h' 34 5 ∧ h' 34 5 ≤ h 34 5 + 3)) := by
  obtain ⟨M, hE, hL, hD, hK, hLk⟩ := id S
  obtain ⟨hP, hW, hMo, hR, hRe, hKi, hCl⟩ := id M
  obtain ⟨e1, e2⟩ := id hE
  obtain ⟨⟨a1, a2, a3⟩, ⟨b1, b2, b3⟩, ⟨n1, n2, n3⟩, kd⟩ := id hK
  obtain ⟨l1, l2, l3, l4⟩ := id hLk
  have none : (∀ (g : Hp) (Φ : Int → Hp → Prop), Φ (-1) (cb h g) → Call G m_X11_send [rv 1, iv x] (cb h g) Φ) → (∀ (g : Hp) (Φ : Int → Hp → Prop), Φ (-1) (cb g h) → Call G m_X12_send [rv 85, iv x] (cb g h) Φ) → BOTH G m_X11_send m_X12_send [iv x] h (fun h' => SI h' ∧ FR PSn h h' ∧ (h 34 5 ≤ h' 34 5 ∧ h' 34 5 ≤ h 34 5 + 3)) := fun a b => BOTH.of (r := -1) (h' := h) a b ⟨S, FR.rf, by omega, by omega⟩
  have q9 : ∀ g, cb h g 65 9 = h 65 9 := fun g => rfl
  have q10 : ∀ g, cb h g 65 10 = h 65 10 := fun g => rfl
  have q11 : ∀ g, cb h g 65 11 = h 65 11 := fun g => rfl
  have q88 : ∀ g, cb g h 85 88 = h 65 9 := fun g => a1
  have q89 : ∀ g, cb g h 85 89 = h 65 10 := fun g => b1
  by_cases cx : 0 ≤ x ∧ x ≤ 2
  rotate_left
  · refine none (fun g Φ K => ?_) (fun g Φ K => ?_)
    · exact Call.of rfl (Nat.le_of_ble_eq_true rfl) rfl (U_X11_send_1_0 ⟨fun _ => K, fun _ => ⟨fun _ => K, fun z => absurd z (by omega)⟩⟩)
    · exact Call.of rfl (Nat.le_of_ble_eq_true rfl) rfl (U_X12_send_85_0 ⟨fun _ => K, fun _ => ⟨fun _ => K, fun z => absurd z (by omega)⟩⟩)
  by_cases cs : h 65 10 = h 65 9
  · refine none (fun g Φ K => ?_) (fun g Φ K => ?_)
    · refine Call.of rfl (Nat.le_of_ble_eq_true rfl) rfl (U_X11_send_1_0 ?_)
      rw [q9, q10, w32_of (z := h 65 9 - h 65 10) (by omega) (by omega)]
      exact ⟨fun z => absurd z (by omega), fun _ => ⟨fun z => absurd z (by omega), fun _ => ⟨fun _ => K, fun z => absurd z (by omega)⟩⟩⟩
    · refine Call.of rfl (Nat.le_of_ble_eq_true rfl) rfl (U_X12_send_85_0 ?_)
      rw [q88, q89]
      exact ⟨fun z => absurd z (by omega), fun _ => ⟨fun z => absurd z (by omega), fun _ => ⟨fun _ => K, fun z => absurd cs z⟩⟩⟩
  -- who is seen
  have seenM' : ∀ g, (seenM (cb g h) (h 34 4) ↔ seenI h (h 34 4)) := fun g => seen_eq hB
  by_cases sn : seenI h (h 34 4)
  rotate_left
  · refine none (fun g Φ K => ?_) (fun g Φ K => ?_)
    · refine Call.of rfl (Nat.le_of_ble_eq_true rfl) rfl (U_X11_send_1_0 ?_)
      rw [q9, q10, w32_of (z := h 65 9 - h 65 10) (by omega) (by omega)]
      refine ⟨fun z => absurd z (by omega), fun _ => ⟨fun z => absurd z (by omega), fun _ => ⟨fun z => absurd z (by omega), fun _ => sp_isSeen (h := cb h g) (t := h 34 4) (IBc_cb hB.c) hCl.2.1 ?_⟩⟩⟩
      rw [if_neg (show ¬ seenI (cb h g) (h 34 4) from sn)]
      exact ⟨fun z => absurd rfl z, fun _ => K⟩
    · refine Call.of rfl (Nat.le_of_ble_eq_true rfl) rfl (U_X12_send_85_0 ?_)
      rw [q88, q89]
      refine ⟨fun z => absurd z (by omega), fun _ => ⟨fun z => absurd z (by omega), fun _ => ⟨fun z => absurd z cs, fun _ => sp_isSeenM (h := cb g h) (t := h 34 4) (IBm_cb hB.m) hCl.1 hCl.2.1 ?_⟩⟩⟩
      rw [if_neg (fun z => sn ((seenM' g).mp z))]
      exact ⟨fun z => absurd rfl z, fun _ => K⟩
  obtain ⟨s, hs⟩ : ∃ s, s = h 65 10 := ⟨_, rfl⟩
  have sb : 0 ≤ s ∧ s < 8 := by omega
  obtain ⟨nr, kr⟩ := kd s sb.1 (by omega)
  obtain ⟨num, hnum⟩ : ∃ num, num = (h 65 11 - h 65 9 + s) % 256 := ⟨_, rfl⟩
  rw [← hnum] at nr
  have numb : 0 ≤ num ∧ num < 256 := by omega
  -- both with the place moved
  obtain ⟨h1, eh1⟩ : ∃ h1, h1 = up (up h 65 10 (s + 1)) 85 89 (s + 1) := ⟨_, rfl⟩
  have c1 : ∀ g, cb h1 g = up (cb h g) 65 10 (s + 1) := fun g => by rw [eh1, cb_uc' (by decide), cb_uc (by decide)]
  have m1 : ∀ g, cb g h1 = up (cb g h) 85 89 (s + 1) := fun g => by rw [eh1, cb_um (by decide), cb_um' (by decide)]
  have f1 : FR (fun k i => k = 65 ∧ i = 10 ∨ k = 85 ∧ i = 89) h h1 := by rw [eh1]; exact (FR.rf.up (by omega)).up (by omega)
  have K1 : IKp h1 := by
    rw [eh1]
    exact ⟨⟨a1, a2, a3⟩, ⟨rfl, by show 0 ≤ s + 1; omega, by show s + 1 ≤ h 65 9; omega⟩, ⟨n1, n2, n3⟩, fun i i0 i1 => kd i i0 i1⟩
  have CL : ∀ (g : Hp) (Φ : Int → Hp → Prop), ((x = 1 → Φ 0 (cb h1 g)) ∧ (x ≠ 1 → Call G m_X0_takeCommand [rv 34, iv num, rv 68, iv s] (cb h1 g) (fun r7 h8 => ((r7 = 0 → ((x ≠ 2 → Φ 0 h8) ∧ (x = 2 → Call G m_X0_takeCommand [rv 34, iv num, rv 68, iv s] h8 (fun r9 h10 => Φ 0 h10)))) ∧ (r7 ≠ 0 → ((x ≠ 2 → Φ 1 h8) ∧ (x = 2 → Call G m_X0_takeCommand [rv 34, iv num, rv 68, iv s] h8 (fun r11 h12 => Φ 1 h12)))))))) → Call G m_X11_send [rv 1, iv x] (cb h g) Φ := fun g Φ Q => by
    refine Call.of rfl (Nat.le_of_ble_eq_true rfl) rfl (U_X11_send_1_0 ?_)
    rw [q9, q10, w32_of (z := h 65 9 - h 65 10) (by omega) (by omega)]
    refine ⟨fun z => absurd z (by omega), fun _ => ⟨fun z => absurd z (by omega), fun _ => ⟨fun z => absurd z (by omega), fun _ => sp_isSeen (h := cb h g) (t := h 34 4) (IBc_cb hB.c) hCl.2.1 ?_⟩⟩⟩
    rw [if_pos (show seenI (cb h g) (h 34 4) from sn)]
    refine ⟨fun _ => Call.of rfl (Nat.le_of_ble_eq_true rfl) rfl (U_X2_nextToSend_65_0 ?_), fun z => absurd z (by omega)⟩
    rw [q9, q10, q11, band_255x, w32_of (z := h 65 9 - h 65 10) (by omega) (by omega), w32_of (z := h 65 11 - (h 65 9 - h 65 10)) (by omega) (by omega), w32_of (z := h 65 10 + 1) (by omega) (by omega)]
    have en : (h 65 11 - (h 65 9 - h 65 10)) % 256 = num := by omega
    rw [en, ← hs, ← c1]
    exact ⟨fun z => ⟨fun _ => Q.1 z, fun y => absurd y (by omega)⟩, fun z => Q.2 z⟩
  have q143 : ∀ g, cb g h 143 s = num := fun g => nr
  have q81 : ∀ g, cb g h 85 81 = h 26 13 := fun g => l2.1
  have mseen : ∀ (g : Hp) (Φ : Int → Hp → Prop), Φ 1 (cb g h) → Call G m_X12_isSeen [rv 85] (cb g h) Φ := fun g Φ K => by
    refine sp_isSeenM (h := cb g h) (t := h 34 4) (IBm_cb hB.m) hCl.1 hCl.2.1 ?_
    rw [if_pos ((seenM' g).mpr sn)]; exact K
  have s9 : 0 ≤ s ∧ s < 9 := by omega
  by_cases x1 : x = 1
  · -- it gets lost
    refine BOTH.of (r := 0) (h' := h1) (fun g Φ K => CL g Φ ⟨fun _ => K, fun z => absurd x1 z⟩) (fun g Φ K => ?_) ⟨⟨MW_cg f1 M (by unfold DP DW DMo DRu DRe DKi DCl; omega), IEv_cg (dj f1 (by unfold DEv; omega)) hE, ILn_cg (dj f1 (by unfold DLn; omega)) hL, IDr_cg (dj f1 (by unfold DDr; omega)) hD, K1, ILk_cg (dj f1 (by unfold DLk; omega)) hLk⟩, f1.mono (fun k i z => by right; omega), by rw [f1 34 5 (by omega)]; omega⟩
    refine Call.of rfl (Nat.le_of_ble_eq_true rfl) rfl (U_X12_send_85_0 ?_)
    rw [q88, q89]
    refine ⟨fun z => absurd z (by omega), fun _ => ⟨fun z => absurd z (by omega), fun _ => ⟨fun z => absurd z cs, fun _ => mseen g _ ⟨fun _ => ⟨fun z => absurd x1 z, fun _ => ?_⟩, fun z => absurd z (by omega)⟩⟩⟩⟩
    rw [q89, ← hs, w32_of (z := s + 1) (by omega) (by omega), ← m1]; exact K
  by_cases aw : num = h 26 13
  rotate_left
  · -- not the one awaited
    obtain ⟨h2, eh2⟩ : ∃ h2, h2 = up (up h1 26 14 1) 85 80 1 := ⟨_, rfl⟩
    have f2 : FR (fun k i => k = 65 ∧ i = 10 ∨ k = 85 ∧ (i = 89 ∨ i = 80) ∨ k = 26 ∧ i = 14) h h2 := by rw [eh2, eh1]; exact (((FR.rf.up (by omega)).up (by omega)).up (by omega)).up (by omega)
    have c2 : ∀ g, cb h2 g = up (cb h1 g) 26 14 1 := fun g => by rw [eh2, cb_uc' (by decide), cb_uc (by decide)]
    have K2 : IKp h2 := IKp_cg (fun k i d => by rw [eh2, up_ap, if_neg (by unfold DKp at d; omega), up_ap, if_neg (by unfold DKp at d; omega)]) K1
    have L2 : ILk h2 := by rw [eh2, eh1]; exact ⟨l1, l2, rfl, Or.inr rfl⟩
    have tk0 : ∀ (g : Hp) (Φ : Int → Hp → Prop) (v : Int), Φ 0 (cb h2 g) → Call G m_X0_takeCommand [rv 34, iv num, rv 68, iv s] (up (cb h1 g) 26 14 v) Φ := fun g Φ v K => by
      refine Call.of rfl (Nat.le_of_ble_eq_true rfl) rfl (U_X0_takeCommand_34_68_0 ?_)
      have q13 : up (cb h1 g) 26 14 v 26 13 = h 26 13 := by rw [up_ni (by omega), c1]; rfl
      rw [q13]
      refine ⟨fun z => absurd z aw, fun _ => ?_⟩
      rw [up_up, ← c2]; exact K
    refine BOTH.of (r := 0) (h' := h2) (fun g Φ K => CL g Φ ⟨fun z => absurd z x1, fun _ => ?_⟩) (fun g Φ K => ?_) ⟨⟨MW_cg f2 M (by unfold DP DW DMo DRu DRe DKi DCl; omega), IEv_cg (dj f2 (by unfold DEv; omega)) hE, ILn_cg (dj f2 (by unfold DLn; omega)) hL, IDr_cg (dj f2 (by unfold DDr; omega)) hD, K2, L2⟩, f2.mono (fun k i z => by right; omega), by rw [f2 34 5 (by omega)]; omega⟩
    · have t := tk0 g (fun r7 h8 => ((r7 = 0 → ((x ≠ 2 → Φ 0 h8) ∧ (x = 2 → Call G m_X0_takeCommand [rv 34, iv num, rv 68, iv s] h8 (fun r9 h10 => Φ 0 h10)))) ∧ (r7 ≠ 0 → ((x ≠ 2 → Φ 1 h8) ∧ (x = 2 → Call G m_X0_takeCommand [rv 34, iv num, rv 68, iv s] h8 (fun r11 h12 => Φ 1 h12)))))) (cb h1 g 26 14) ⟨fun _ => ⟨fun _ => K, fun _ => by rw [c2]; exact tk0 g _ 1 K⟩, fun z => absurd rfl z⟩
      rw [up_id rfl] at t
      exact t
    · rw [eh2, cb_um (by decide), cb_um' (by decide), m1] at K
      refine Call.of rfl (Nat.le_of_ble_eq_true rfl) rfl (U_X12_send_85_0 ?_)
      rw [q88, q89]
      refine ⟨fun z => absurd z (by omega), fun _ => ⟨fun z => absurd z (by omega), fun _ => ⟨fun z => absurd z cs, fun _ => mseen g _ ⟨fun _ => ⟨fun _ => ?_, fun z => absurd z x1⟩, fun z => absurd z (by omega)⟩⟩⟩⟩
      rw [q89, ← hs, q143, q81, w32_of (z := s + 1) (by omega) (by omega)]
      exact ⟨s9, fun z => absurd z aw, fun _ => K⟩
  -- accepted
  obtain ⟨fl, hfl⟩ : ∃ fl : Int, fl = if x = 2 then 1 else 0 := ⟨_, rfl⟩
  obtain ⟨aw', haw⟩ : ∃ aw', aw' = (num + 1) % 256 := ⟨_, rfl⟩
  have awb : 0 ≤ aw' ∧ aw' ≤ 255 := by omega
  have ewa : band (w32 (num + 1)) 255 = aw' := by rw [band_255x, w32_of (z := num + 1) (by omega) (by omega), haw]
  obtain ⟨h2, eh2⟩ : ∃ h2, h2 = up (up (up (up h1 26 13 aw') 26 14 0) 85 81 aw') 85 80 fl := ⟨_, rfl⟩
  have c2 : ∀ g, cb h2 g = up (up (cb h1 g) 26 13 aw') 26 14 0 := fun g => by rw [eh2, cb_uc' (by decide), cb_uc' (by decide), cb_uc (by decide), cb_uc (by decide)]
  have m2 : ∀ g, cb g h2 = up (up (up (cb g h) 85 89 (s + 1)) 85 81 aw') 85 80 fl := fun g => by rw [eh2, cb_um (by decide), cb_um (by decide), cb_um' (by decide), cb_um' (by decide), m1]
  have f2 : FR (fun k i => k = 65 ∧ i = 10 ∨ k = 85 ∧ (i = 89 ∨ i = 80 ∨ i = 81) ∨ k = 26 ∧ (i = 13 ∨ i = 14)) h h2 := by rw [eh2, eh1]; exact (((((FR.rf.up (by omega)).up (by omega)).up (by omega)).up (by omega)).up (by omega)).up (by omega)
  have M2 : MW h2 := MW_cg f2 M (by unfold DP DW DMo DRu DRe DKi DCl; omega)
  have E2 : IEv h2 := IEv_cg (dj f2 (by unfold DEv; omega)) hE
  have Ln2 : ILn h2 := ILn_cg (dj f2 (by unfold DLn; omega)) hL
  have D2 : IDr h2 := IDr_cg (dj f2 (by unfold DDr; omega)) hD
  have K2 : IKp h2 := IKp_cg (fun k i d => by rw [eh2, up_ap, if_neg (by unfold DKp at d; omega), up_ap, if_neg (by unfold DKp at d; omega), up_ap, if_neg (by unfold DKp at d; omega), up_ap, if_neg (by unfold DKp at d; omega)]) K1
  have v5 : h2 34 5 = h 34 5 := f2 34 5 (by omega)
  -- whatever was done with it
  have core : ∀ h3 : Hp, MW h3 → IEv h3 → ILn h3 → IDr h3 → FR (fun k i => PPf k i ∨ PRy k i ∨ (44 ≤ k ∧ k ≤ 49) ∨ (109 ≤ k ∧ k ≤ 114)) h2 h3 → (h 34 5 ≤ h3 34 5 ∧ h3 34 5 ≤ h 34 5 + 3) →
      (∀ (g : Hp) (Φ : Int → Hp → Prop), Φ 1 (cb h3 g) → ((h 74 s = (-1) → (0 ≤ s ∧ s < 8) ∧ (((h 69 s) ≠ 15 → Call G m_X0_perform [rv 34, rv 68, iv s] (cb h2 g) (fun r1 h2 => ((r1 ≠ 0 → Φ 1 h2) ∧ (r1 = 0 → Φ 1 (up h2 34 5 (w32 ((h2 34 5) + 1))))))) ∧ ((h 69 s) = 15 → (0 ≤ s ∧ s < 8) ∧ Call G m_X0_ready [rv 34, iv (h 72 s)] (cb h2 g) (fun _ h4 => Φ 1 h4)))) ∧ (h 74 s ≠ (-1) → (0 ≤ s ∧ s < 8) ∧ Call G m_X3_copy [rv 43, iv (h 74 s), rv 68, iv s] (cb h2 g) (fun _ h6 => Φ 1 h6)))) →
      (∀ (g : Hp) (Φ : Int → Hp → Prop), Φ 1 (cb g h3) → Call G m_X12_send [rv 85, iv x] (cb g h) Φ) → BOTH G m_X11_send m_X12_send [iv x] h (fun h' => SI h' ∧ FR PSn h h' ∧ (h 34 5 ≤ h' 34 5 ∧ h' 34 5 ≤ h 34 5 + 3)) := fun h3 M3 E3 L3 D3 f3 ev3 cl ml => by
    have u13 : h3 26 13 = aw' := by rw [f3 26 13 (by simp [PPf, PRy]), eh2]; rfl
    have u14 : h3 26 14 = 0 := by rw [f3 26 14 (by simp [PPf, PRy]), eh2]; rfl
    have u80 : h3 85 80 = fl := by rw [f3 85 80 (by simp [PPf, PRy]), eh2]; rfl
    have u81 : h3 85 81 = aw' := by rw [f3 85 81 (by simp [PPf, PRy]), eh2]; rfl
    have u12 : h3 26 12 = h 26 12 := by rw [f3 26 12 (by simp [PPf, PRy]), f2 26 12 (by omega)]
    have u79 : h3 85 79 = h 26 12 := by rw [f3 85 79 (by simp [PPf, PRy]), f2 85 79 (by omega)]; exact l1.1
    have tk1 : ∀ (g : Hp) (Φ : Int → Hp → Prop), Φ 1 (cb h3 g) → Call G m_X0_takeCommand [rv 34, iv num, rv 68, iv s] (cb h1 g) Φ := fun g Φ K => by
      refine Call.of rfl (Nat.le_of_ble_eq_true rfl) rfl (U_X0_takeCommand_34_68_0 ?_)
      have p13 : cb h1 g 26 13 = h 26 13 := by rw [c1]; rfl
      have p74 : cb h1 g 74 s = h 74 s := by rw [c1]; rfl
      have p69 : cb h1 g 69 s = h 69 s := by rw [c1]; rfl
      have p72 : cb h1 g 72 s = h 72 s := by rw [c1]; rfl
      rw [p13, p74, p69, p72, ewa, ← c2]
      exact ⟨fun _ => ⟨sb, cl g Φ K⟩, fun z => absurd aw z⟩
    -- and the second time
    obtain ⟨h4, eh4⟩ : ∃ h4, h4 = up h3 26 14 fl := ⟨_, rfl⟩
    have f4 : FR (fun k i => k = 26 ∧ i = 14) h3 h4 := by rw [eh4]; exact FR.rf.up (by omega)
    have F : FR PSn h h4 := fun k i z => by
      rw [f4 k i (fun w => z (by right; omega)), f3 k i (fun w => z (by
        rcases w with w | w | w
        · exact Or.inl w
        · exact psn_y w
        · right; omega)), f2 k i (fun w => z (by right; omega))]
    have K4 : IKp h4 := IKp_cg (fun k i d => by
      rw [f4 k i (by unfold DKp at d; omega), f3 k i (fun w => ?_)]
      rcases w with w | w | w
      · unfold PPf at w; unfold DKp at d; omega
      · unfold PRy at w; unfold DKp at d; omega
      · unfold DKp at d; omega) K2
    have fb : fl = 0 ∨ fl = 1 := by rw [hfl]; split <;> simp
    have L4 : ILk h4 := by
      refine ⟨?_, ?_, ?_, ?_⟩
      · rw [f4 85 79 (by omega), f4 26 12 (by omega), u79, u12]; exact ⟨rfl, l1.2⟩
      · rw [f4 85 81 (by omega), f4 26 13 (by omega), u81, u13]; exact ⟨rfl, awb⟩
      · rw [f4 85 80 (by omega), u80, eh4, up_at]
      · rw [eh4, up_at]; exact fb
    refine BOTH.of (r := 1) (h' := h4) (fun g Φ K => CL g Φ ⟨fun z => absurd z x1, fun _ => ?_⟩) (fun g Φ K => ml g Φ ?_) ⟨⟨MW_cg f4 M3 (by unfold DP DW DMo DRu DRe DKi DCl; omega), IEv_cg (dj f4 (by unfold DEv; omega)) E3, ILn_cg (dj f4 (by unfold DLn; omega)) L3, IDr_cg (dj f4 (by unfold DDr; omega)) D3, K4, L4⟩, F, by rw [f4 34 5 (by omega)]; exact ev3⟩
    · rw [eh4, cb_uc (by decide)] at K
      refine tk1 g _ ⟨fun z => absurd z (by omega), fun _ => ⟨fun z => ?_, fun z => ?_⟩⟩
      · have e : fl = 0 := by rw [hfl, if_neg z]
        rw [e, up_id (show cb h3 g 26 14 = 0 from u14)] at K; exact K
      · have e : fl = 1 := by rw [hfl, if_pos z]
        rw [e] at K
        refine Call.of rfl (Nat.le_of_ble_eq_true rfl) rfl (U_X0_takeCommand_34_68_0 ?_)
        have p13 : cb h3 g 26 13 = aw' := u13
        rw [p13]
        exact ⟨fun y => by omega, fun _ => K⟩
    · rw [eh4, cb_um' (by decide)] at K; exact K
  -- the model accepted it, too
  have ML : ∀ (g : Hp) (Φ : Int → Hp → Prop), (((h 146 s) ≠ 0 → (((h 146 s) ≠ 1 → Call G m_X12_ready [rv 85, iv (h 144 s)] (cb g h2) (fun _ h4 => Φ 1 h4)) ∧ ((h 146 s) = 1 → (0 ≤ (w32 ((w32 (30 * (h 144 s))) + (h 145 s))) ∧ (w32 ((w32 (30 * (h 144 s))) + (h 145 s))) < 240) ∧ Φ 1 (up (up (up (up (up (up (cb g h2) 109 (w32 ((w32 (30 * (h 144 s))) + (h 145 s))) (h 103 (249 + s))) 110 (w32 ((w32 (30 * (h 144 s))) + (h 145 s))) (h 104 (249 + s))) 111 (w32 ((w32 (30 * (h 144 s))) + (h 145 s))) (h 105 (249 + s))) 112 (w32 ((w32 (30 * (h 144 s))) + (h 145 s))) (h 106 (249 + s))) 113 (w32 ((w32 (30 * (h 144 s))) + (h 145 s))) (h 107 (249 + s))) 114 (w32 ((w32 (30 * (h 144 s))) + (h 145 s))) (h 108 (249 + s)))))) ∧ ((h 146 s) = 0 → Call G m_X12_act [rv 85, iv (249 + s)] (cb g h2) (fun r5 h6 => Φ 1 h6))) → Call G m_X12_send [rv 85, iv x] (cb g h) Φ := fun g Φ Q => by
    refine Call.of rfl (Nat.le_of_ble_eq_true rfl) rfl (U_X12_send_85_0 ?_)
    rw [q88, q89]
    refine ⟨fun z => absurd z (by omega), fun _ => ⟨fun z => absurd z (by omega), fun _ => ⟨fun z => absurd z cs, fun _ => mseen g _ ⟨fun _ => ⟨fun _ => ?_, fun z => absurd z x1⟩, fun z => absurd z (by omega)⟩⟩⟩⟩
    have r146 : cb g h 146 s = h 146 s := rfl
    have r144 : cb g h 144 s = h 144 s := rfl
    have r145 : cb g h 145 s = h 145 s := rfl
    have r103 : ∀ i, cb g h 103 i = h 103 i := fun i => rfl
    have r104 : ∀ i, cb g h 104 i = h 104 i := fun i => rfl
    have r105 : ∀ i, cb g h 105 i = h 105 i := fun i => rfl
    have r106 : ∀ i, cb g h 106 i = h 106 i := fun i => rfl
    have r107 : ∀ i, cb g h 107 i = h 107 i := fun i => rfl
    have r108 : ∀ i, cb g h 108 i = h 108 i := fun i => rfl
    rw [q89, ← hs, q143, q81, r146, r144, r145, r103, r104, r105, r106, r107, r108, w32_of (z := 249 + s) (by omega) (by omega), w32_of (z := s + 1) (by omega) (by omega), ← aw, ewa]
    have b2 : 0 ≤ 249 + s ∧ 249 + s < 260 := by omega
    refine ⟨s9, fun _ => ⟨fun z => ⟨s9, ?_⟩, fun z => ⟨s9, ?_⟩⟩, fun z => absurd rfl z⟩
    · have e : fl = 0 := by rw [hfl, if_neg z]
      rw [m2, e] at Q
      exact ⟨fun y => ⟨s9, fun w => ⟨s9, (Q.1 y).1 w⟩, fun w => ⟨s9, s9, b2, ((Q.1 y).2 w).1, b2, ((Q.1 y).2 w).1, b2, ((Q.1 y).2 w).1, b2, ((Q.1 y).2 w).1, b2, ((Q.1 y).2 w).1, b2, (Q.1 y).2 w⟩⟩, fun y => Q.2 y⟩
    · have e : fl = 1 := by rw [hfl, if_pos z]
      rw [m2, e] at Q
      exact ⟨fun y => ⟨s9, fun w => ⟨s9, (Q.1 y).1 w⟩, fun w => ⟨s9, s9, b2, ((Q.1 y).2 w).1, b2, ((Q.1 y).2 w).1, b2, ((Q.1 y).2 w).1, b2, ((Q.1 y).2 w).1, b2, ((Q.1 y).2 w).1, b2, (Q.1 y).2 w⟩⟩, fun y => Q.2 y⟩
  clear CL
  rcases kr with ⟨k1, k2, k3⟩ | ⟨k1, k2, k3, k4, k5⟩ | ⟨k1, k2, k3, k4, k5⟩
  · -- done at once
    have av := ACR_v k3
    have ac2 : ACR (h2 69 s) (h2 70 s) (h2 72 s) (h2 103 (249 + s)) (h2 104 (249 + s)) (h2 105 (249 + s)) := by
      rw [f2 69 s (by omega), f2 70 s (by omega), f2 72 s (by omega), f2 103 _ (by omega), f2 104 _ (by omega), f2 105 _ (by omega)]; exact k3
    obtain ⟨h3, r, e, pt, me, mw, fr, rr, eb, ev1, ev2, w51⟩ := sim_perf (G := G) (h := h2) (a := 249 + s) (by omega) ac2 M2 E2 (by rw [v5]; omega)
    have p69 : h2 69 s = h 69 s := f2 69 s (by omega)
    have ce := ce_perf_68 (G := G) (h := h2) (h' := h3) (i := s) sb (by rw [p69]; omega) pt
    rw [v5] at ev1 ev2
    obtain ⟨h4, eh4⟩ : ∃ h4, h4 = up h3 34 5 (h3 34 5 + (1 - r)) := ⟨_, rfl⟩
    have f4 : FR (fun k i => k = 34 ∧ i = 5) h3 h4 := by rw [eh4]; exact FR.rf.up (by omega)
    have fT : FR PPf h2 h4 := fun k i z => by rw [f4 k i (fun w => z (by obtain ⟨rfl, rfl⟩ := w; simp [PPf])), fr k i z]
    have v45 : h4 34 5 = h 34 5 + e + (1 - r) := by rw [eh4, up_at, ev1]
    refine core h4 (MW_cg f4 mw (by unfold DP DW DMo DRu DRe DKi DCl; omega)) ⟨by rw [f4 85 22 (by omega), v45, ev2], by rw [v45]; omega⟩ (ILn_cg (dj fT dj_f1) Ln2) (IDr_cg (fun k i d => fT k i (by unfold DDr at d; unfold PPf; omega)) D2) (fT.mono (fun _ _ z => Or.inl z)) (by rw [v45]; omega) (fun g Φ K => ⟨fun _ => ⟨sb, fun _ => ce g _ ⟨fun z => ?_, fun z => ?_⟩, fun z => absurd z (by omega)⟩, fun z => absurd k1 z⟩) (fun g Φ K => ML g Φ ⟨fun z => absurd k2 z, fun _ => me g _ ?_⟩)
    · have e1 : h4 = h3 := by rw [eh4, up_id]; omega
      rw [e1] at K; exact K
    · have q : cb h3 g 34 5 = h3 34 5 := rfl
      rw [q, w32_of (z := h3 34 5 + 1) (by omega) (by omega)]
      rw [eh4, cb_uc (by decide), z] at K; exact K
    · rw [eh4, cb_um' (by decide)] at K; exact K
  · -- ready
    obtain ⟨h3, ce, me, L3, R3, D3, f3⟩ := sim_ready (G := G) (h := h2) (k := h 72 s) (by omega) Ln2 M2.2.2.2.1 D2
    have M3 : MW h3 := ⟨IP_cg (dj f3 (by unfold DP PRy; omega)) M2.1, IW_cg (dj f3 (by unfold DW PRy; omega)) M2.2.1, IMo_cg (dj f3 (by unfold DMo PRy; omega)) M2.2.2.1, R3, IRe_cg (dj f3 (by unfold DRe PRy; omega)) M2.2.2.2.2.1, IKi_cg (dj f3 (by unfold DKi PRy; omega)) M2.2.2.2.2.2.1, ICl_cg (dj f3 (by unfold DCl PRy; omega)) M2.2.2.2.2.2.2⟩
    refine core h3 M3 (IEv_cg (dj f3 (by unfold DEv PRy; omega)) E2) L3 D3 (f3.mono (fun _ _ z => Or.inr (Or.inl z))) (by rw [f3 34 5 (by unfold PRy; omega), v5]; omega) (fun g Φ K => ⟨fun _ => ⟨sb, fun z => absurd k2 z, fun _ => ⟨sb, ce g _ K⟩⟩, fun z => absurd k1 z⟩) (fun g Φ K => ML g Φ ⟨fun _ => ⟨fun _ => ?_, fun z => absurd z (by omega)⟩, fun z => absurd z (by omega)⟩)
    rw [k4]; exact me g _ K
  · -- a line of a draft
    obtain ⟨at_, hat⟩ : ∃ at_, at_ = 30 * h 144 s + h 145 s := ⟨_, rfl⟩
    rw [← hat] at k4
    have ab : 0 ≤ at_ ∧ at_ < 240 := by omega
    have ew : w32 (w32 (30 * h 144 s) + h 145 s) = at_ := by rw [w32_of (z := 30 * h 144 s) (by omega) (by omega), w32_of (z := 30 * h 144 s + h 145 s) (by omega) (by omega), hat]
    rw [ew] at ML
    clear ew
    have e2m : ∀ i, h2 103 i = h 103 i := fun i => f2 103 i (by omega)
    obtain ⟨h3, eh3⟩ : ∃ h3, h3 = cb (up (up (up (up (up (up h2 44 at_ (h2 69 s)) 45 at_ (h2 70 s)) 46 at_ (h2 71 s)) 47 at_ (h2 72 s)) 48 at_ (h2 73 s)) 49 at_ (h2 74 s)) (up (up (up (up (up (up h2 109 at_ (h2 103 (249 + s))) 110 at_ (h2 104 (249 + s))) 111 at_ (h2 105 (249 + s))) 112 at_ (h2 106 (249 + s))) 113 at_ (h2 107 (249 + s))) 114 at_ (h2 108 (249 + s))) := ⟨_, rfl⟩
    have f3 : FR (fun k i => (44 ≤ k ∧ k ≤ 49) ∨ (109 ≤ k ∧ k ≤ 114)) h2 h3 := by
      rw [eh3]
      refine FR_cb ?_ ?_
      · exact (((((FR.rf.up (by omega)).up (by omega)).up (by omega)).up (by omega)).up (by omega)).up (by omega)
      · exact (((((FR.rf.up (by omega)).up (by omega)).up (by omega)).up (by omega)).up (by omega)).up (by omega)
    have cc : ∀ (k : Nat) i, 44 ≤ k → k ≤ 49 → h3 k i = if i = at_ then h2 (k - 44 + 69) s else h2 k i := fun k i a b => by
      rw [eh3, cb_c (by omega), cp_44_69]; exact if_pos ⟨a, b⟩
    have mm : ∀ (k : Nat) i, 109 ≤ k → k ≤ 114 → h3 k i = if i = at_ then h2 (k - 109 + 103) (249 + s) else h2 k i := fun k i a b => by
      rw [eh3, cb_m (by omega), cp_109_103]; exact if_pos ⟨a, b⟩
    have D3 : IDr h3 := by
      refine ⟨by rw [f3 43 0 (by omega)]; exact D2.1, fun i i0 i1 => ?_⟩
      by_cases z : i = at_
      · right
        unfold LRc
        rw [cc 44 i (by omega) (by omega), cc (44 + 1) i (by omega) (by omega), cc (44 + 2) i (by omega) (by omega), cc (44 + 3) i (by omega) (by omega), cc (44 + 4) i (by omega) (by omega), mm 109 i (by omega) (by omega), mm (109 + 1) i (by omega) (by omega), mm (109 + 2) i (by omega) (by omega), mm (109 + 3) i (by omega) (by omega), mm (109 + 4) i (by omega) (by omega), mm (109 + 5) i (by omega) (by omega)]
        simp only [if_pos z, Nat.reduceAdd, Nat.reduceSub]
        rw [f2 69 s (by omega), f2 70 s (by omega), f2 71 s (by omega), f2 72 s (by omega), f2 73 s (by omega), f2 103 _ (by omega), f2 104 _ (by omega), f2 105 _ (by omega), f2 106 _ (by omega), f2 107 _ (by omega), f2 108 _ (by omega)]
        exact k5
      · have L := D2.2 i i0 i1
        unfold LRc at L ⊢
        rw [cc 44 i (by omega) (by omega), cc (44 + 1) i (by omega) (by omega), cc (44 + 2) i (by omega) (by omega), cc (44 + 3) i (by omega) (by omega), cc (44 + 4) i (by omega) (by omega), mm 109 i (by omega) (by omega), mm (109 + 1) i (by omega) (by omega), mm (109 + 2) i (by omega) (by omega), mm (109 + 3) i (by omega) (by omega), mm (109 + 4) i (by omega) (by omega), mm (109 + 5) i (by omega) (by omega)]
        simp only [if_neg z]
        exact L
    refine core h3 (MW_cg f3 M2 (by unfold DP DW DMo DRu DRe DKi DCl; omega)) (IEv_cg (dj f3 (by unfold DEv; omega)) E2) (ILn_cg (dj f3 (by unfold DLn; omega)) Ln2) D3 (f3.mono (fun _ _ z => Or.inr (Or.inr z))) (by rw [f3 34 5 (by omega), v5]; omega) (fun g Φ K => ⟨fun z => absurd z (by omega), fun _ => ⟨sb, ?_⟩⟩) (fun g Φ K => ML g Φ ⟨fun _ => ⟨fun z => absurd k1 z, fun _ => ⟨ab, ?_⟩⟩, fun z => absurd z (by omega)⟩)
    · rw [k4]
      refine Call.of rfl (Nat.le_of_ble_eq_true rfl) rfl (U_X3_copy_43_68_0 ⟨sb, ab, sb, ab, sb, ab, sb, ab, sb, ab, sb, ab, ?_⟩)
      rw [eh3, cb_l, cb_uc (by decide), cb_uc (by decide), cb_uc (by decide), cb_uc (by decide), cb_uc (by decide), cb_uc (by decide)] at K
      exact K
    · rw [eh3, cb_r, cb_um (by decide), cb_um (by decide), cb_um (by decide), cb_um (by decide), cb_um (by decide), cb_um (by decide), f2 103 _ (by omega), f2 104 _ (by omega), f2 105 _ (by omega), f2 106 _ (by omega), f2 107 _ (by omega), f2 108 _ (by omega)] at K
      exact K
