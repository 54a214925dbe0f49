/-! conditions: the class's judge, the model's holds -/
/-- of the second that is done -/
def ISk (h : Hp) : Prop := (h 18 3 = if shdI h (h 34 4) then 0 else h 18 2) ∧ (h 14 5 = if seenI h (h 34 4) then 1 else 0) ∧ 0 ≤ h 18 4
def IEv (h : Hp) : Prop := h 85 22 = h 34 5 ∧ 0 ≤ h 34 5
def ICl (h : Hp) : Prop := h 85 10 = h 34 4 ∧ (0 ≤ h 34 4 ∧ h 34 4 ≤ 1000000) ∧ (0 ≤ h 24 1 ∧ h 24 1 ≤ h 34 4)
theorem sim_measure {G : GG} {h : Hp} {t : Int} (ht : 0 ≤ t ∧ t ≤ 16) (hB : IB h) (hP : IP h) (hW : IW h) (hMo : IMo h) (hR : IRe h) (hS : ISk h) (hE : IEv h) (hC : ICl h) :
    ∃ v v' l, CE G m_X0_measure [rv 34, iv (16 + t)] h v h ∧ ME G m_X12_valueOf [rv 85, iv t] (up h 85 57 0) v' (up h 85 57 l) ∧ (v = -3 ∧ l = 1 ∨ v ≠ -3 ∧ v' = v ∧ l = 0) := by
  obtain ⟨p0, p1, p2, p3, p4⟩ := id hP
  obtain ⟨⟨m1, m2⟩, hw⟩ := id hW
  obtain ⟨s1, s2, s3⟩ := hS
  obtain ⟨e1, e2⟩ := hE
  obtain ⟨k1, k2, k3⟩ := hC
  obtain ⟨mo, mr⟩ := hMo
  obtain ⟨l, rp, rt, rm, rc⟩ := hR
  obtain ⟨b0, b1, b2, b3, b4⟩ := id hB
  have m0 : (t = 0 ∨ t = 1 ∨ t = 2 ∨ t = 3 ∨ t = 4 ∨ t = 5 ∨ t = 6 ∨ t = 7 ∨ t = 8) ∨ 9 ≤ t := by omega
  rcases m0 with (c | c | c | c | c | c | c | c | c) | c
  · subst c
    refine ⟨h 18 1, h 18 1, 0, fun g Φ K => ?_, fun g Φ K => ?_, Or.inr ⟨by omega, rfl, rfl⟩⟩
    · exact Call.of rfl (Nat.le_of_ble_eq_true rfl) rfl (U_X0_measure_34_0 (by simp; exact K))
    · refine Call.of rfl (Nat.le_of_ble_eq_true rfl) rfl (U_X12_valueOf_85_0 ?_)
      have e : cb g (up h 85 57 0) 85 19 = h 18 1 := p1.2.2
      rw [e]; simp; exact K
  · subst c
    refine ⟨h 18 3, h 18 3, 0, fun g Φ K => ?_, fun g Φ K => ?_, Or.inr ⟨?_, rfl, rfl⟩⟩
    · exact Call.of rfl (Nat.le_of_ble_eq_true rfl) rfl (U_X0_measure_34_0 (by simp; exact K))
    · refine Call.of rfl (Nat.le_of_ble_eq_true rfl) rfl (U_X12_valueOf_85_0 ?_)
      simp only [Int.reduceEq, Int.reduceLT, or_self, false_implies, true_implies, forall_const, true_and, and_true]
      refine sp_sunNow (h := cb g (up h 85 57 0)) (t := h 34 4) hB.m k1 k2 ?_
      have z : shdM (cb g (up h 85 57 0)) (h 34 4) ↔ shdI h (h 34 4) := shd_eq hB
      have e : (if shdM (cb g (up h 85 57 0)) (h 34 4) then 0 else cb g (up h 85 57 0) 85 20) = h 18 3 := by
        have e2 : cb g (up h 85 57 0) 85 20 = h 18 2 := p2.2.2
        rw [e2, s1]
        by_cases q : shdI h (h 34 4)
        · rw [if_pos (z.mpr q), if_pos q]
        · rw [if_neg (fun w => q (z.mp w)), if_neg q]
      rw [e]; exact K
    · rw [s1]; split <;> omega
  · subst c
    refine ⟨h 18 4, h 18 4, 0, fun g Φ K => ?_, fun g Φ K => ?_, Or.inr ⟨by omega, rfl, rfl⟩⟩
    · exact Call.of rfl (Nat.le_of_ble_eq_true rfl) rfl (U_X0_measure_34_0 (by simp; exact K))
    · refine Call.of rfl (Nat.le_of_ble_eq_true rfl) rfl (U_X12_valueOf_85_0 ?_)
      have e : cb g (up h 85 57 0) 85 21 = h 18 4 := p3
      rw [e]; simp; exact K
  · subst c
    refine ⟨h 34 6, h 34 6, 0, fun g Φ K => ?_, fun g Φ K => ?_, Or.inr ⟨by omega, rfl, rfl⟩⟩
    · exact Call.of rfl (Nat.le_of_ble_eq_true rfl) rfl (U_X0_measure_34_0 (by simp; exact K))
    · refine Call.of rfl (Nat.le_of_ble_eq_true rfl) rfl (U_X12_valueOf_85_0 ?_)
      have e : cb g (up h 85 57 0) 85 23 = h 34 6 := mo.2.2
      rw [e]; simp; exact K
  · subst c
    have T := tot_len l rp
    refine ⟨tot l, tot l, 0, fun g Φ K => ?_, fun g Φ K => ?_, Or.inr ⟨by omega, rfl, rfl⟩⟩
    · refine Call.of rfl (Nat.le_of_ble_eq_true rfl) rfl (U_X0_measure_34_0 ?_)
      have e : cb h g 26 3 = tot l := rc.1
      rw [e]; simp; exact K
    · refine Call.of rfl (Nat.le_of_ble_eq_true rfl) rfl (U_X12_valueOf_85_0 ?_)
      simp only [Int.reduceEq, Int.reduceLT, or_self, false_implies, true_implies, forall_const, true_and, and_true]
      exact sp_recorded (h := cb g (up h 85 57 0)) rp rt rm K
  · subst c
    refine ⟨h 24 1, h 24 1, 0, fun g Φ K => ?_, fun g Φ K => ?_, Or.inr ⟨by omega, rfl, rfl⟩⟩
    · exact Call.of rfl (Nat.le_of_ble_eq_true rfl) rfl (U_X0_measure_34_0 (by simp; exact K))
    · refine Call.of rfl (Nat.le_of_ble_eq_true rfl) rfl (U_X12_valueOf_85_0 ?_)
      have e : cb g (up h 85 57 0) 85 29 = h 24 1 := m1
      rw [e]; simp; exact K
  · subst c
    refine ⟨h 34 5, h 34 5, 0, fun g Φ K => ?_, fun g Φ K => ?_, Or.inr ⟨by omega, rfl, rfl⟩⟩
    · exact Call.of rfl (Nat.le_of_ble_eq_true rfl) rfl (U_X0_measure_34_0 (by simp; exact K))
    · refine Call.of rfl (Nat.le_of_ble_eq_true rfl) rfl (U_X12_valueOf_85_0 ?_)
      have e : cb g (up h 85 57 0) 85 22 = h 34 5 := e1
      rw [e]; simp; exact K
  · subst c
    have tb := turn_b b0.1 k2
    refine ⟨h 34 4 / h 14 0, h 34 4 / h 14 0, 0, fun g Φ K => ?_, fun g Φ K => ?_, Or.inr ⟨by omega, rfl, rfl⟩⟩
    · refine Call.of rfl (Nat.le_of_ble_eq_true rfl) rfl (U_X0_measure_34_0 ?_)
      have e : cb h g 34 4 = h 34 4 := rfl
      have e' : cb h g 14 0 = h 14 0 := rfl
      rw [e, e', Int.tdiv_eq_ediv_of_nonneg k2.1, w32_of (z := h 34 4 / h 14 0) (by omega) (by omega)]
      simp; exact ⟨by omega, K⟩
    · refine Call.of rfl (Nat.le_of_ble_eq_true rfl) rfl (U_X12_valueOf_85_0 ?_)
      have e : cb g (up h 85 57 0) 85 10 = h 34 4 := k1
      have e' : cb g (up h 85 57 0) 85 11 = h 14 0 := b0.2.2
      rw [e, e', Int.tdiv_eq_ediv_of_nonneg k2.1, w32_of (z := h 34 4 / h 14 0) (by omega) (by omega)]
      simp; exact ⟨by omega, K⟩
  · subst c
    refine ⟨if seenI h (h 34 4) then 1 else 0, if seenI h (h 34 4) then 1 else 0, 0, fun g Φ K => ?_, fun g Φ K => ?_, Or.inr ⟨by split <;> omega, rfl, rfl⟩⟩
    · refine Call.of rfl (Nat.le_of_ble_eq_true rfl) rfl (U_X0_measure_34_0 ?_)
      have e : cb h g 14 5 = if seenI h (h 34 4) then 1 else 0 := s2
      rw [e]
      simp only [Int.reduceAdd, Int.reduceEq, Int.reduceLT, or_self, false_implies, true_implies, forall_const, true_and, and_true]
      by_cases q : seenI h (h 34 4)
      · rw [if_pos q] at K ⊢; exact ⟨fun z => absurd z (by omega), fun _ => K⟩
      · rw [if_neg q] at K ⊢; exact ⟨fun _ => K, fun z => absurd rfl z⟩
    · refine Call.of rfl (Nat.le_of_ble_eq_true rfl) rfl (U_X12_valueOf_85_0 ?_)
      simp only [Int.reduceEq, Int.reduceLT, or_self, false_implies, true_implies, forall_const, true_and, and_true]
      refine sp_isSeenM (h := cb g (up h 85 57 0)) (t := h 34 4) hB.m k1 k2 ?_
      have z : seenM (cb g (up h 85 57 0)) (h 34 4) ↔ seenI h (h 34 4) := seen_eq hB
      by_cases q : seenI h (h 34 4)
      · rw [if_pos q] at K; rw [if_pos (z.mpr q)]; exact ⟨fun z => absurd z (by omega), fun _ => K⟩
      · rw [if_neg q] at K; rw [if_neg (fun w => q (z.mp w))]; exact ⟨fun _ => K, fun z => absurd rfl z⟩
  · obtain ⟨wz, e97⟩ := hw (t - 9) (by omega) (by omega)
    have et : 9 + (t - 9) = t := by omega
    have cc : ∀ (g : Hp) (Φ : Int → Hp → Prop), Φ (byteI (h 25 (t - 9))) (cb h g) → Call G m_X0_measure [rv 34, iv (16 + t)] (cb h g) Φ := fun g Φ K => by
      refine Call.of rfl (Nat.le_of_ble_eq_true rfl) rfl (U_X0_measure_34_0 ?_)
      have e9 : 16 + t - 25 = t - 9 := by omega
      rw [w32_of (z := 16 + t - 25) (by omega) (by omega), e9]
      exact ⟨fun z => absurd z (by omega), fun z => absurd z (by omega), fun z => absurd z (by omega), fun z => absurd z (by omega), fun z => absurd z (by omega), fun z => absurd z (by omega), fun z => absurd z (by omega), fun z => absurd z (by omega), fun z => absurd z (by omega), fun _ => sp_byteOf (h := cb h g) (by omega) wz K⟩
    have mm : ∀ (l : Int), (l = if readI (h 25 (t - 9)) = -1 then 1 else 0) → ME G m_X12_valueOf [rv 85, iv t] (up h 85 57 0) (readI (h 25 (t - 9))) (up h 85 57 l) := fun l hl g Φ K => by
      have q := sp_valueV (G := G) (h := cb g (up h 85 57 0)) (Φ := Φ) (k := t - 9) (by omega) (show isW (h 97 (t - 9)) by rw [e97]; exact wz) (by
        have e2 : cb g (up h 85 57 0) 97 (t - 9) = h 25 (t - 9) := e97
        have e3 : cb g (up h 85 57 0) 85 57 = 0 := rfl
        rw [e2, e3]
        have e4 : (if (0 : Int) ≠ 0 ∨ readI (h 25 (t - 9)) = -1 then (1 : Int) else 0) = l := by rw [hl]; simp
        rw [e4, cb_um (by omega), up_up, ← cb_um (by omega)]; exact K)
      rw [et] at q; exact q
    rcases rd_cases wz with ⟨q1, q2, q3⟩ | ⟨q1, q2, q3, q4⟩
    · exact ⟨_, _, 1, cc, mm 1 (by rw [if_pos q2]), Or.inl ⟨q1, rfl⟩⟩
    · exact ⟨_, _, 0, cc, mm 0 (by rw [if_neg (by omega)]), Or.inr ⟨by omega, q3.symm, rfl⟩⟩
/-- a condition in a row of the class's, in a row of the model's -/
def CND (ct cs cv mt ms mv : Int) : Prop := ct = 16 + mt ∧ (0 ≤ mt ∧ mt ≤ 16) ∧ ms = cs ∧ (cs = 60 ∨ cs = 61 ∨ cs = 62) ∧ mv = cv
theorem me_holds {G : GG} {h : Hp} {a v' l cs cv : Int} (ha : 0 ≤ a ∧ a < 260) (hs : h 107 a = cs) (hv : h 108 a = cv) (hc : cs = 60 ∨ cs = 61 ∨ cs = 62) (m : ME G m_X12_valueOf [rv 85, iv (h 106 a)] (up h 85 57 0) v' (up h 85 57 l)) :
    ME G m_X12_holds [rv 85, iv a] (up h 85 57 0) (if cs = 61 then (if v' = cv then 1 else 0) else if cs = 60 then (if v' < cv then 1 else 0) else if cv < v' then 1 else 0) (up h 85 57 l) := fun g Φ K => by
  refine Call.of rfl (Nat.le_of_ble_eq_true rfl) rfl (U_X12_holds_85_0 ⟨ha, m g _ ?_⟩)
  have e1 : cb g (up h 85 57 l) 107 a = cs := hs
  have e2 : cb g (up h 85 57 l) 108 a = cv := hv
  rw [e1, e2]
  refine ⟨ha, ?_⟩
  rcases hc with c | c | c
  · subst c
    simp only [Int.reduceEq, if_false, if_true] at K
    refine ⟨fun _ => ⟨ha, fun z => absurd rfl z, fun _ => ⟨ha, fun z => ?_, fun z => ?_⟩⟩, fun z => absurd z (by omega)⟩
    · rw [if_neg (by omega)] at K; exact K
    · rw [if_pos z] at K; exact K
  · subst c
    simp only [if_true] at K
    refine ⟨fun z => absurd rfl z, fun _ => ⟨ha, fun z => ?_, fun z => ?_⟩⟩
    · rw [if_neg z] at K; exact K
    · rw [if_pos z] at K; exact K
  · subst c
    simp only [Int.reduceEq, if_false] at K
    refine ⟨fun _ => ⟨ha, fun _ => ⟨ha, fun z => ?_, fun z => ?_⟩, fun z => absurd z (by omega)⟩, fun z => absurd z (by omega)⟩
    · rw [if_neg (by omega)] at K; exact K
    · rw [if_pos z] at K; exact K
theorem sim_judge_36 {G : GG} {h : Hp} {i a : Int} (hi : 0 ≤ i ∧ i < 240) (ha : 0 ≤ a ∧ a < 260) (hc : CND (h 38 i) (h 39 i) (h 40 i) (h 106 a) (h 107 a) (h 108 a)) (hB : IB h) (hP : IP h) (hW : IW h) (hMo : IMo h) (hR : IRe h) (hS : ISk h) (hE : IEv h) (hC : ICl h) :
    ∃ r b l, CE G m_X0_judge [rv 34, rv 36, iv i] h r h ∧ ME G m_X12_holds [rv 85, iv a] (up h 85 57 0) b (up h 85 57 l) ∧ (r = -3 ∧ l = 1 ∨ (r = 0 ∨ r = 1) ∧ b = r ∧ l = 0) := by
  obtain ⟨c1, c2, c3, c4, c5⟩ := hc
  obtain ⟨v, v', l, x, y, z⟩ := sim_measure (G := G) c2 hB hP hW hMo hR hS hE hC
  have me := me_holds (G := G) ha c3 c5 c4 y
  rw [← c1] at x
  rcases z with ⟨z1, z2⟩ | ⟨z1, z2, z3⟩
  · refine ⟨-3, _, l, fun g Φ K => ?_, me, Or.inl ⟨rfl, z2⟩⟩
    refine Call.of rfl (Nat.le_of_ble_eq_true rfl) rfl (U_X0_judge_34_36_0 ⟨hi, x g _ ⟨hi, fun q => absurd z1 q, fun _ => K⟩⟩)
  · subst z2
    refine ⟨_, _, l, fun g Φ K => ?_, me, Or.inr ⟨?_, rfl, z3⟩⟩
    · refine Call.of rfl (Nat.le_of_ble_eq_true rfl) rfl (U_X0_judge_34_36_0 ⟨hi, x g _ ⟨hi, fun _ => ⟨hi, ?_⟩, fun q => absurd q z1⟩⟩)
      have e1 : cb h g 39 i = h 39 i := rfl
      have e2 : cb h g 40 i = h 40 i := rfl
      rw [e1, e2]
      rcases c4 with c | c | c
      · rw [c] at K ⊢
        simp only [Int.reduceEq, if_false, if_true] at K
        refine ⟨fun _ => ⟨fun z => ?_, fun z => ?_⟩, fun z => absurd rfl z⟩
        · rw [if_neg (by omega)] at K; exact K
        · rw [if_pos z] at K; exact K
      · rw [c] at K ⊢
        simp only [if_true] at K
        refine ⟨fun z => absurd z (by omega), fun _ => ⟨fun _ => ⟨fun z => ?_, fun z => ?_⟩, fun z => absurd rfl z⟩⟩
        · rw [if_neg z] at K; exact K
        · rw [if_pos z] at K; exact K
      · rw [c] at K ⊢
        simp only [Int.reduceEq, if_false] at K
        refine ⟨fun z => absurd z (by omega), fun _ => ⟨fun z => absurd z (by omega), fun _ => ⟨fun z => ?_, fun z => ?_⟩⟩⟩
        · rw [if_neg (by omega)] at K; exact K
        · rw [if_pos z] at K; exact K
    · split
      · exact if01
      · split
        · exact if01
        · exact if01
theorem sim_judge_54 {G : GG} {h : Hp} {i a : Int} (hi : 0 ≤ i ∧ i < 8) (ha : 0 ≤ a ∧ a < 260) (hc : CND (h 56 i) (h 57 i) (h 58 i) (h 106 a) (h 107 a) (h 108 a)) (hB : IB h) (hP : IP h) (hW : IW h) (hMo : IMo h) (hR : IRe h) (hS : ISk h) (hE : IEv h) (hC : ICl h) :
    ∃ r b l, CE G m_X0_judge [rv 34, rv 54, iv i] h r h ∧ ME G m_X12_holds [rv 85, iv a] (up h 85 57 0) b (up h 85 57 l) ∧ (r = -3 ∧ l = 1 ∨ (r = 0 ∨ r = 1) ∧ b = r ∧ l = 0) := by
  obtain ⟨c1, c2, c3, c4, c5⟩ := hc
  obtain ⟨v, v', l, x, y, z⟩ := sim_measure (G := G) c2 hB hP hW hMo hR hS hE hC
  have me := me_holds (G := G) ha c3 c5 c4 y
  rw [← c1] at x
  rcases z with ⟨z1, z2⟩ | ⟨z1, z2, z3⟩
  · refine ⟨-3, _, l, fun g Φ K => ?_, me, Or.inl ⟨rfl, z2⟩⟩
    refine Call.of rfl (Nat.le_of_ble_eq_true rfl) rfl (U_X0_judge_34_54_0 ⟨hi, x g _ ⟨hi, fun q => absurd z1 q, fun _ => K⟩⟩)
  · subst z2
    refine ⟨_, _, l, fun g Φ K => ?_, me, Or.inr ⟨?_, rfl, z3⟩⟩
    · refine Call.of rfl (Nat.le_of_ble_eq_true rfl) rfl (U_X0_judge_34_54_0 ⟨hi, x g _ ⟨hi, fun _ => ⟨hi, ?_⟩, fun q => absurd q z1⟩⟩)
      have e1 : cb h g 57 i = h 57 i := rfl
      have e2 : cb h g 58 i = h 58 i := rfl
      rw [e1, e2]
      rcases c4 with c | c | c
      · rw [c] at K ⊢
        simp only [Int.reduceEq, if_false, if_true] at K
        refine ⟨fun _ => ⟨fun z => ?_, fun z => ?_⟩, fun z => absurd rfl z⟩
        · rw [if_neg (by omega)] at K; exact K
        · rw [if_pos z] at K; exact K
      · rw [c] at K ⊢
        simp only [if_true] at K
        refine ⟨fun z => absurd z (by omega), fun _ => ⟨fun _ => ⟨fun z => ?_, fun z => ?_⟩, fun z => absurd rfl z⟩⟩
        · rw [if_neg z] at K; exact K
        · rw [if_pos z] at K; exact K
      · rw [c] at K ⊢
        simp only [Int.reduceEq, if_false] at K
        refine ⟨fun z => absurd z (by omega), fun _ => ⟨fun z => absurd z (by omega), fun _ => ⟨fun z => ?_, fun z => ?_⟩⟩⟩
        · rw [if_neg (by omega)] at K; exact K
        · rw [if_pos z] at K; exact K
    · split
      · exact if01
      · split
        · exact if01
        · exact if01
