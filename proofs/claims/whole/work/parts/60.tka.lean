/-! A SECOND: the sky, the loads, the memory, the due starts -/
def IBc (h : Hp) : Prop := (60 ≤ h 14 0 ∧ h 14 0 ≤ 20000) ∧ (0 ≤ h 14 1 ∧ h 14 1 ≤ 3599) ∧ (0 ≤ h 14 2 ∧ h 14 2 ≤ 3599) ∧ (0 ≤ h 14 3 ∧ h 14 3 ≤ 3600) ∧
  ∀ i, 0 ≤ i → i < 4 → (0 ≤ h 15 i ∧ h 15 i ≤ 3599) ∧ (0 ≤ h 16 i ∧ h 16 i ≤ 3600) ∧ (0 ≤ h 17 i ∧ h 17 i ≤ 3599)
def IBm (h : Hp) : Prop := (60 ≤ h 85 11 ∧ h 85 11 ≤ 20000) ∧ (0 ≤ h 85 12 ∧ h 85 12 ≤ 3599) ∧ (0 ≤ h 85 13 ∧ h 85 13 ≤ 3599) ∧ (0 ≤ h 85 14 ∧ h 85 14 ≤ 3600) ∧
  ∀ i, 0 ≤ i → i < 4 → (0 ≤ h 90 i ∧ h 90 i ≤ 3599) ∧ (0 ≤ h 91 i ∧ h 91 i ≤ 3600) ∧ (0 ≤ h 92 i ∧ h 92 i ≤ 3599)
theorem IB.c {h : Hp} (hI : IB h) : IBc h := by
  obtain ⟨a, b, c, d, e⟩ := hI
  exact ⟨⟨a.1, a.2.1⟩, ⟨b.1, b.2.1⟩, ⟨c.1, c.2.1⟩, ⟨d.1, d.2.1⟩, fun i i0 i1 => by have := e i i0 i1; omega⟩
theorem IB.m {h : Hp} (hI : IB h) : IBm h := by
  obtain ⟨a, b, c, d, e⟩ := hI
  exact ⟨by omega, by omega, by omega, by omega, fun i i0 i1 => by have := e i i0 i1; omega⟩
theorem IBc_cb {h g : Hp} (hI : IBc h) : IBc (cb h g) := hI
theorem IBm_cb {h g : Hp} (hI : IBm h) : IBm (cb g h) := hI
abbrev sgtM (h : Hp) (s t : Int) : Prop := arcI (h 85 11) (h 85 12) (h 90 s) (h 92 s) t < h 91 s
theorem sgt_eq {h : Hp} (hI : IB h) {s t : Int} (hs : 0 ≤ s ∧ s < 4) : sgtM h s t ↔ sgt h s t := by
  obtain ⟨a, b, c, d, e⟩ := hI
  have z := e s hs.1 hs.2
  unfold sgtM sgt
  rw [a.2.2, b.2.2, z.1.2.2, z.2.1.2.2, z.2.2.2.2]
theorem sp_seesM {G : GG} {h : Hp} {Φ : Int → Hp → Prop} {s t : Int} (hI : IBm h) (hs : 0 ≤ s ∧ s < 4) (ht : 0 ≤ t ∧ t ≤ 1000000) (k : Φ (if sgtM h s t then 1 else 0) h) : Call G m_X12_sees [rv 85, iv s, iv t] h Φ := by
  obtain ⟨j0, j1, j2, j3, j4⟩ := id hI
  obtain ⟨f, w, d⟩ := j4 s hs.1 (by omega)
  have tb := turn_b j0.1 ht
  have mb := mul_bd tb.1 tb.2 d.1 d.2
  refine Call.of rfl (Nat.le_of_ble_eq_true rfl) rfl (U_X12_sees_85_0 (sp_angleM (by omega) (by omega) ht.1 ?_))
  have ab := ang_b (h 85 11) (h 85 12) t
  refine ⟨hs, by omega, hs, ?_⟩
  rw [Int.tdiv_eq_ediv_of_nonneg ht.1, w32_of (z := t / h 85 11) (by omega) (by omega)]
  have w1 : w64 (t / h 85 11 * h 92 s) = t / h 85 11 * h 92 s := by unfold w64; omega
  rw [w1, w32_of (z := angI (h 85 11) (h 85 12) t - h 90 s) (by omega) (by omega)]
  have w2 : w64 (angI (h 85 11) (h 85 12) t - h 90 s - t / h 85 11 * h 92 s) = angI (h 85 11) (h 85 12) t - h 90 s - t / h 85 11 * h 92 s := by unfold w64; omega
  rw [w2]
  refine sp_round (by omega) ⟨hs, ?_⟩
  refine ⟨fun c => ?_, fun c => ?_⟩
  · rw [if_neg (show ¬ sgtM h s t by unfold sgtM arcI; omega)] at k; exact k
  · rw [if_pos (show sgtM h s t from c)] at k; exact k
abbrev seenI (h : Hp) (t : Int) : Prop := sgt h 0 t ∨ sgt h 1 t ∨ sgt h 2 t ∨ sgt h 3 t
abbrev seenM (h : Hp) (t : Int) : Prop := sgtM h 0 t ∨ sgtM h 1 t ∨ sgtM h 2 t ∨ sgtM h 3 t
theorem seen_eq {h : Hp} (hI : IB h) {t : Int} : seenM h t ↔ seenI h t := by
  unfold seenM seenI
  rw [sgt_eq hI (by omega), sgt_eq hI (by omega), sgt_eq hI (by omega), sgt_eq hI (by omega)]
abbrev shdI (h : Hp) (t : Int) : Prop := (angI (h 14 0) (h 14 1) t - h 14 2) % 3600 < h 14 3
abbrev shdM (h : Hp) (t : Int) : Prop := (angI (h 85 11) (h 85 12) t - h 85 13) % 3600 < h 85 14
theorem shd_eq {h : Hp} (hI : IB h) {t : Int} : shdM h t ↔ shdI h t := by
  obtain ⟨a, b, c, d, e⟩ := hI
  unfold shdM shdI; rw [a.2.2, b.2.2, c.2.2, d.2.2]
theorem sp_isSeenM {G : GG} {h : Hp} {Φ : Int → Hp → Prop} {t : Int} (hI : IBm h) (e : h 85 10 = t) (ht : 0 ≤ t ∧ t ≤ 1000000) (k : Φ (if seenM h t then 1 else 0) h) : Call G m_X12_isSeen [rv 85] h Φ := by
  refine Call.of rfl (Nat.le_of_ble_eq_true rfl) rfl (U_X12_isSeen_85_0 ?_)
  rw [e]
  unfold seenM at k
  refine sp_seesM hI (by omega) ht ⟨fun c => ?_, fun c => ?_⟩
  · rw [if_pos (Or.inl (by false_or_by_contra; rename_i z; rw [if_neg z] at c; exact c rfl))] at k; exact k
  have n0 : ¬ sgtM h 0 t := fun z => by rw [if_pos z] at c; omega
  rw [e]
  refine sp_seesM hI (by omega) ht ⟨fun c => ?_, fun c => ?_⟩
  · rw [if_pos (Or.inr (Or.inl (by false_or_by_contra; rename_i z; rw [if_neg z] at c; exact c rfl)))] at k; exact k
  have n1 : ¬ sgtM h 1 t := fun z => by rw [if_pos z] at c; omega
  rw [e]
  refine sp_seesM hI (by omega) ht ⟨fun c => ?_, fun c => ?_⟩
  · rw [if_pos (Or.inr (Or.inr (Or.inl (by false_or_by_contra; rename_i z; rw [if_neg z] at c; exact c rfl))))] at k; exact k
  have n2 : ¬ sgtM h 2 t := fun z => by rw [if_pos z] at c; omega
  rw [e]
  refine sp_seesM hI (by omega) ht ⟨fun c => ?_, fun c => ?_⟩
  · have n3 : ¬ sgtM h 3 t := fun z => by rw [if_pos z] at c; omega
    rw [if_neg (by simp only [n0, n1, n2, n3, or_self, not_false_eq_true])] at k; exact k
  · rw [if_pos (Or.inr (Or.inr (Or.inr (by false_or_by_contra; rename_i z; rw [if_neg z] at c; exact c rfl))))] at k; exact k
theorem sp_isShadowM {G : GG} {h : Hp} {Φ : Int → Hp → Prop} {t : Int} (hI : IBm h) (e : h 85 10 = t) (ht : 0 ≤ t ∧ t ≤ 1000000) (k : Φ (if shdM h t then 1 else 0) h) : Call G m_X12_isShadow [rv 85] h Φ := by
  obtain ⟨j0, j1, j2, j3, j4⟩ := id hI
  have ab := ang_b (h 85 11) (h 85 12) t
  refine Call.of rfl (Nat.le_of_ble_eq_true rfl) rfl (U_X12_isShadow_85_0 ?_)
  rw [e]
  refine sp_angleM (by omega) (by omega) ht.1 ?_
  rw [w32_of (z := angI (h 85 11) (h 85 12) t - h 85 13) (by omega) (by omega)]
  refine sp_round (by omega) ⟨fun c => ?_, fun c => ?_⟩
  · rw [if_neg (show ¬ shdM h t by unfold shdM; omega)] at k; exact k
  · rw [if_pos (show shdM h t from c)] at k; exact k
theorem sp_sunNow {G : GG} {h : Hp} {Φ : Int → Hp → Prop} {t : Int} (hI : IBm h) (e : h 85 10 = t) (ht : 0 ≤ t ∧ t ≤ 1000000) (k : Φ (if shdM h t then 0 else h 85 20) h) : Call G m_X12_sunNow [rv 85] h Φ := by
  refine Call.of rfl (Nat.le_of_ble_eq_true rfl) rfl (U_X12_sunNow_85_0 (sp_isShadowM hI e ht ⟨fun c => ?_, fun c => ?_⟩))
  · have n : ¬ shdM h t := fun z => by rw [if_pos z] at c; omega
    rw [if_neg n] at k; exact k
  · have n : shdM h t := by false_or_by_contra; rename_i z; rw [if_neg z] at c; exact c rfl
    rw [if_pos n] at k; exact k
theorem sp_isInShadow {G : GG} {h : Hp} {Φ : Int → Hp → Prop} {t : Int} (hI : IBc h) (ht : 0 ≤ t ∧ t ≤ 1000000) (k : Φ (if shdI h t then 1 else 0) h) : Call G m_X6_isInShadow [rv 14, iv t] h Φ := by
  obtain ⟨j0, j1, j2, j3, j4⟩ := id hI
  have ab := ang_b (h 14 0) (h 14 1) t
  refine Call.of rfl (Nat.le_of_ble_eq_true rfl) rfl (U_X6_isInShadow_14_0 (sp_angleC (by omega) (by omega) ht.1 ?_))
  rw [w32_of (z := angI (h 14 0) (h 14 1) t - h 14 2) (by omega) (by omega), w32_of (z := angI (h 14 0) (h 14 1) t - h 14 2 + 3600) (by omega) (by omega), Int.tmod_eq_emod_of_nonneg (by omega)]
  refine ⟨fun c => ?_, fun c => ?_⟩
  · rw [if_neg (show ¬ shdI h t by unfold shdI; omega)] at k; exact k
  · rw [if_pos (show shdI h t by unfold shdI; omega)] at k; exact k
theorem sp_isSeen {G : GG} {h : Hp} {Φ : Int → Hp → Prop} {t : Int} (hI : IBc h) (ht : 0 ≤ t ∧ t ≤ 1000000) (k : Φ (if seenI h t then 1 else 0) h) : Call G m_X6_isSeen [rv 14, iv t] h Φ := by
  obtain ⟨j0, j1, j2, j3, j4⟩ := id hI
  have ab := ang_b (h 14 0) (h 14 1) t
  have tb := turn_b j0.1 ht
  refine Call.of rfl (Nat.le_of_ble_eq_true rfl) rfl (U_X6_isSeen_14_0 (sp_angleC (by omega) (by omega) ht.1 ⟨by omega, ?_⟩))
  rw [Int.tdiv_eq_ediv_of_nonneg ht.1, w32_of (z := t / h 14 0) (by omega) (by omega)]
  have go : ∀ d n : Nat, n + d = 4 → ∀ x : Int, (x = if ∃ s : Nat, s < n ∧ sgt h s t then 1 else 0) → AT G m_X6_isSeen 18 [(0, rv 14), (2, iv (angI (h 14 0) (h 14 1) t)), (3, iv (t / h 14 0)), (4, iv x), (5, iv (n : Int))] [] h Φ := by
    intro d
    induction d with
    | zero =>
      intro n hn x hx
      have en : n = 4 := by omega
      subst en
      have e4 : (∃ s : Nat, s < 4 ∧ sgt h s t) ↔ seenI h t := by
        constructor
        · rintro ⟨s, hs, z⟩
          have : s = 0 ∨ s = 1 ∨ s = 2 ∨ s = 3 := by omega
          rcases this with rfl | rfl | rfl | rfl
          · exact Or.inl z
          · exact Or.inr (Or.inl z)
          · exact Or.inr (Or.inr (Or.inl z))
          · exact Or.inr (Or.inr (Or.inr z))
        · rintro (z | z | z | z)
          · exact ⟨0, by omega, z⟩
          · exact ⟨1, by omega, z⟩
          · exact ⟨2, by omega, z⟩
          · exact ⟨3, by omega, z⟩
      refine U_X6_isSeen_14_18 ⟨fun _ => ?_, fun c => absurd c (by omega)⟩
      by_cases z : seenI h t
      · rw [if_pos (e4.mpr z)] at hx; rw [if_pos z] at k; subst hx; exact ⟨Or.inr rfl, k⟩
      · rw [if_neg (fun q => z (e4.mp q))] at hx; rw [if_neg z] at k; subst hx; exact ⟨Or.inl rfl, k⟩
    | succ d ih =>
      intro n hn x hx
      obtain ⟨f, w, dd⟩ := j4 n (by omega) (by omega)
      have t1 : ∀ y : Int, (y = if ∃ s : Nat, s < n + 1 ∧ sgt h s t then 1 else 0) → AT G m_X6_isSeen 18 [(0, rv 14), (2, iv (angI (h 14 0) (h 14 1) t)), (3, iv (t / h 14 0)), (4, iv y), (5, iv (w32 ((n : Int) + 1)))] [] h Φ := fun y hy => by
        rw [w32_of (z := (n : Int) + 1) (by omega) (by omega)]
        have t := ih (n + 1) (by omega) y hy
        rw [Int.natCast_add] at t; exact t
      refine U_X6_isSeen_14_18 ⟨fun c => absurd c (by omega), fun _ => ⟨fun c => ?_, fun c => ?_⟩⟩
      · have ex : ∃ s : Nat, s < n ∧ sgt h s t := by false_or_by_contra; rename_i z; rw [if_neg z] at hx; exact c hx
        obtain ⟨s, hs, z⟩ := ex
        exact t1 1 (by rw [if_pos ⟨s, by omega, z⟩])
      · have nx : ¬ ∃ s : Nat, s < n ∧ sgt h s t := fun z => by rw [if_pos z] at hx; omega
        refine sp_inArc (by omega) f dd ab tb ⟨by omega, fun c => ?_, fun c => ?_⟩
        · refine t1 0 ?_
          rw [if_neg]
          rintro ⟨s, hs, z⟩
          by_cases e : s = n
          · subst e; unfold sgt arcI at z; omega
          · exact nx ⟨s, by omega, z⟩
        · refine t1 1 ?_
          rw [if_pos ⟨n, by omega, c⟩]
  exact go 4 0 (by omega) 0 (by rw [if_neg]; rintro ⟨s, hs, _⟩; omega)
theorem if01 {P : Prop} [Decidable P] : (if P then (1 : Int) else 0) = 0 ∨ (if P then (1 : Int) else 0) = 1 := by split <;> simp
theorem ce_look {G : GG} {h : Hp} {t : Int} (hI : IBc h) (ht : 0 ≤ t ∧ t ≤ 1000000) : CE G m_X6_look [rv 14, iv t] h 0 (up (up h 14 4 (if shdI h t then 1 else 0)) 14 5 (if seenI h t then 1 else 0)) := by
  intro g Φ k
  refine Call.of rfl (Nat.le_of_ble_eq_true rfl) rfl (U_X6_look_14_0 (sp_isInShadow (h := cb h g) (IBc_cb (g := g) hI) ht ⟨?_, sp_isSeen (h := up (cb h g) 14 4 _) (show IBc (cb h g) from IBc_cb hI) ht ⟨?_, ?_⟩⟩))
  · exact if01
  · exact if01
  · rw [cb_uc (by omega), cb_uc (by omega)] at k; exact k
