theorem sum4 {l : List Pk} (h : ∀ p ∈ l, pok p) : ((fc 0 l).length + (fc 1 l).length + (fc 2 l).length + (fc 3 l).length : Nat) = l.length := by
  induction l with
  | nil => rfl
  | cons p l ih =>
    have := ih (fun q hq => h q (List.mem_cons_of_mem _ hq))
    have pc := pok_c (h p (List.mem_cons_self ..))
    have e : ∀ c, (fc c (p :: l)).length = (fc c l).length + if pcl p = c then 1 else 0 := fun c => by
      by_cases z : pcl p = c
      · subst z; rw [fc_cons, if_pos rfl]; rfl
      · rw [fc_cons_ne z, if_neg z]; rfl
    rw [e, e, e, e, List.length_cons]
    have : pcl p = 0 ∨ pcl p = 1 ∨ pcl p = 2 ∨ pcl p = 3 := by omega
    rcases this with z | z | z | z <;> rw [z] <;> simp <;> omega
theorem op_ship {G : GG} {h : Hp} {a : Int} (T : TS h) : BOTH G m_X11_ship m_X12_ship [iv a] h (fun h' => h' = h) := by
  obtain ⟨M, hE, hL, hB, hMn, hRE⟩ := id T
  obtain ⟨hP, hW, hMo, hR, hRe, hKi, hCl⟩ := id M
  obtain ⟨hOr, hD, hU, hF, hLk⟩ := id hRE
  obtain ⟨l, rp, rt, rm, rc⟩ := hRe
  have key : ∀ r, CE G m_X11_ship [rv 1, iv a] h r h → ME G m_X12_ship [rv 85, iv a] h r h → BOTH G m_X11_ship m_X12_ship [iv a] h (fun h' => h' = h) := fun r x y => BOTH.of x y rfl
  have L := len50 rp rt
  have m0 : (a = 0 ∨ a = 1 ∨ a = 2 ∨ a = 3 ∨ a = 4 ∨ a = 5 ∨ a = 6 ∨ a = 7 ∨ a = 8 ∨ a = 9 ∨ a = 10 ∨ a = 11 ∨ a = 12 ∨ a = 13 ∨ a = 14) ∨ (a < 0 ∨ 14 < a) := by omega
  rcases m0 with (c | c | c | c | c | c | c | c | c | c | c | c | c | c | c) | c
  · subst c
    refine key (h 34 4) (fun g Φ K => Call.of rfl (Nat.le_of_ble_eq_true rfl) rfl (U_X11_ship_1_0 (by simp; exact K))) (fun g Φ K => Call.of rfl (Nat.le_of_ble_eq_true rfl) rfl (U_X12_ship_85_0 ?_))
    have q : cb g h 85 10 = h 34 4 := hCl.1
    rw [q]; simp; exact K
  · subst c
    refine key (angI (h 14 0) (h 14 1) (h 34 4)) (fun g Φ K => Call.of rfl (Nat.le_of_ble_eq_true rfl) rfl (U_X11_ship_1_0 ?_)) (fun g Φ K => Call.of rfl (Nat.le_of_ble_eq_true rfl) rfl (U_X12_ship_85_0 ?_))
    · simp only [Int.reduceEq, Int.reduceLT, or_self, false_implies, true_implies, forall_const, true_and, and_true]
      exact sp_angleC (h := cb h g) hB.c.1 hB.c.2.1 hCl.2.1.1 K
    · simp only [Int.reduceEq, Int.reduceLT, or_self, false_implies, true_implies, forall_const, true_and, and_true]
      have q : cb g h 85 10 = h 34 4 := hCl.1
      rw [q]
      refine sp_angleM (h := cb g h) hB.m.1 hB.m.2.1 hCl.2.1.1 ?_
      have q1 : cb g h 85 11 = h 14 0 := hB.1.2.2
      have q2 : cb g h 85 12 = h 14 1 := hB.2.1.2.2
      rw [q1, q2]; exact K
  · subst c
    refine key (if shdI h (h 34 4) then 1 else 0) (fun g Φ K => Call.of rfl (Nat.le_of_ble_eq_true rfl) rfl (U_X11_ship_1_0 ?_)) (fun g Φ K => Call.of rfl (Nat.le_of_ble_eq_true rfl) rfl (U_X12_ship_85_0 ?_))
    · simp only [Int.reduceEq, Int.reduceLT, or_self, false_implies, true_implies, forall_const, true_and, and_true]
      refine sp_isInShadow (h := cb h g) (t := h 34 4) (IBc_cb hB.c) hCl.2.1 ?_
      have z : shdI (cb h g) (h 34 4) ↔ shdI h (h 34 4) := Iff.rfl
      by_cases q : shdI h (h 34 4)
      · rw [if_pos q] at K; rw [if_pos (z.mpr q)]; exact ⟨fun z => absurd z (by omega), fun _ => K⟩
      · rw [if_neg q] at K; rw [if_neg (fun w => q (z.mp w))]; exact ⟨fun _ => K, fun z => absurd rfl z⟩
    · simp only [Int.reduceEq, Int.reduceLT, or_self, false_implies, true_implies, forall_const, true_and, and_true]
      refine sp_isShadowM (h := cb g h) (t := h 34 4) (IBm_cb hB.m) hCl.1 hCl.2.1 ?_
      have z : shdM (cb g h) (h 34 4) ↔ shdI h (h 34 4) := shd_eq hB
      by_cases q : shdI h (h 34 4)
      · rw [if_pos q] at K; rw [if_pos (z.mpr q)]; exact ⟨fun z => absurd z (by omega), fun _ => K⟩
      · rw [if_neg q] at K; rw [if_neg (fun w => q (z.mp w))]; exact ⟨fun _ => K, fun z => absurd rfl z⟩
  · subst c
    refine key (h 18 1) (fun g Φ K => Call.of rfl (Nat.le_of_ble_eq_true rfl) rfl (U_X11_ship_1_0 (by simp; exact K))) (fun g Φ K => Call.of rfl (Nat.le_of_ble_eq_true rfl) rfl (U_X12_ship_85_0 ?_))
    have q : cb g h 85 19 = h 18 1 := hP.2.1.2.2
    rw [q]; simp; exact K
  · subst c
    refine key (h 18 4) (fun g Φ K => Call.of rfl (Nat.le_of_ble_eq_true rfl) rfl (U_X11_ship_1_0 (by simp; exact K))) (fun g Φ K => Call.of rfl (Nat.le_of_ble_eq_true rfl) rfl (U_X12_ship_85_0 ?_))
    have q : cb g h 85 21 = h 18 4 := hP.2.2.2.1
    rw [q]; simp; exact K
  · subst c
    refine key (h 34 6) (fun g Φ K => Call.of rfl (Nat.le_of_ble_eq_true rfl) rfl (U_X11_ship_1_0 (by simp; exact K))) (fun g Φ K => Call.of rfl (Nat.le_of_ble_eq_true rfl) rfl (U_X12_ship_85_0 ?_))
    have q : cb g h 85 23 = h 34 6 := hMo.1.2.2
    rw [q]; simp; exact K
  · subst c
    refine key (h 34 5) (fun g Φ K => Call.of rfl (Nat.le_of_ble_eq_true rfl) rfl (U_X11_ship_1_0 (by simp; exact K))) (fun g Φ K => Call.of rfl (Nat.le_of_ble_eq_true rfl) rfl (U_X12_ship_85_0 ?_))
    have q : cb g h 85 22 = h 34 5 := hE.1
    rw [q]; simp; exact K
  · subst c
    refine key (h 24 1) (fun g Φ K => Call.of rfl (Nat.le_of_ble_eq_true rfl) rfl (U_X11_ship_1_0 (by simp; exact K))) (fun g Φ K => Call.of rfl (Nat.le_of_ble_eq_true rfl) rfl (U_X12_ship_85_0 ?_))
    have q : cb g h 85 29 = h 24 1 := hW.1.1
    rw [q]; simp; exact K
  · subst c
    refine key (h 24 2) (fun g Φ K => Call.of rfl (Nat.le_of_ble_eq_true rfl) rfl (U_X11_ship_1_0 (by simp; exact K))) (fun g Φ K => Call.of rfl (Nat.le_of_ble_eq_true rfl) rfl (U_X12_ship_85_0 ?_))
    have q : cb g h 85 30 = h 24 2 := hW.1.2
    rw [q]; simp; exact K
  · subst c
    refine key (tot l) (fun g Φ K => Call.of rfl (Nat.le_of_ble_eq_true rfl) rfl (U_X11_ship_1_0 ?_)) (fun g Φ K => Call.of rfl (Nat.le_of_ble_eq_true rfl) rfl (U_X12_ship_85_0 ?_))
    · have q : cb h g 26 3 = tot l := rc.1
      rw [q]; simp; exact K
    · simp only [Int.reduceEq, Int.reduceLT, or_self, false_implies, true_implies, forall_const, true_and, and_true]
      exact sp_recorded (h := cb g h) rp rt rm K
  · subst c
    refine key (l.length : Int) (fun g Φ K => Call.of rfl (Nat.le_of_ble_eq_true rfl) rfl (U_X11_ship_1_0 ?_)) (fun g Φ K => Call.of rfl (Nat.le_of_ble_eq_true rfl) rfl (U_X12_ship_85_0 ?_))
    · simp only [Int.reduceEq, Int.reduceLT, or_self, false_implies, true_implies, forall_const, true_and, and_true]
      refine Call.of rfl (Nat.le_of_ble_eq_true rfl) rfl (U_X4_recordedPackets_26_0 ?_)
      have q0 : cb h g 29 0 = (fc 0 l).length := (rc.2 0 (by omega) (by omega)).1
      have q1 : cb h g 29 1 = (fc 1 l).length := (rc.2 1 (by omega) (by omega)).1
      have q2 : cb h g 29 2 = (fc 2 l).length := (rc.2 2 (by omega) (by omega)).1
      have q3 : cb h g 29 3 = (fc 3 l).length := (rc.2 3 (by omega) (by omega)).1
      have s := sum4 rp
      rw [q0, q1, q2, q3, w32_of (z := ((fc 0 l).length : Int) + (fc 1 l).length) (by omega) (by omega), w32_of (z := ((fc 0 l).length : Int) + (fc 1 l).length + (fc 2 l).length) (by omega) (by omega), w32_of (z := ((fc 0 l).length : Int) + (fc 1 l).length + (fc 2 l).length + (fc 3 l).length) (by omega) (by omega)]
      have e : ((fc 0 l).length : Int) + (fc 1 l).length + (fc 2 l).length + (fc 3 l).length = (l.length : Int) := by omega
      rw [e]; exact K
    · have q : cb g h 85 72 = (l.length : Int) := rm.1
      rw [q]; simp; exact K
  · subst c
    refine key (h 26 13) (fun g Φ K => Call.of rfl (Nat.le_of_ble_eq_true rfl) rfl (U_X11_ship_1_0 (by simp; exact K))) (fun g Φ K => Call.of rfl (Nat.le_of_ble_eq_true rfl) rfl (U_X12_ship_85_0 ?_))
    have q : cb g h 85 81 = h 26 13 := hLk.2.1.1
    rw [q]; simp; exact K
  · subst c
    refine key (h 26 14) (fun g Φ K => Call.of rfl (Nat.le_of_ble_eq_true rfl) rfl (U_X11_ship_1_0 (by simp; exact K))) (fun g Φ K => Call.of rfl (Nat.le_of_ble_eq_true rfl) rfl (U_X12_ship_85_0 ?_))
    have q : cb g h 85 80 = h 26 14 := hLk.2.2.1
    rw [q]; simp; exact K
  · subst c
    refine key (h 34 14) (fun g Φ K => Call.of rfl (Nat.le_of_ble_eq_true rfl) rfl (U_X11_ship_1_0 (by simp; exact K))) (fun g Φ K => Call.of rfl (Nat.le_of_ble_eq_true rfl) rfl (U_X12_ship_85_0 ?_))
    have q : cb g h 85 62 = h 34 14 := hD.1.2.2
    rw [q]; simp; exact K
  · subst c
    refine key (h 26 11) (fun g Φ K => Call.of rfl (Nat.le_of_ble_eq_true rfl) rfl (U_X11_ship_1_0 (by simp; exact K))) (fun g Φ K => Call.of rfl (Nat.le_of_ble_eq_true rfl) rfl (U_X12_ship_85_0 ?_))
    have q : cb g h 85 78 = h 26 11 := hF.1.1
    rw [q]; simp; exact K
  · refine key (-1) (fun g Φ K => Call.of rfl (Nat.le_of_ble_eq_true rfl) rfl (U_X11_ship_1_0 ?_)) (fun g Φ K => Call.of rfl (Nat.le_of_ble_eq_true rfl) rfl (U_X12_ship_85_0 ?_))
    · exact ⟨fun z => absurd z (by omega), fun z => absurd z (by omega), fun z => absurd z (by omega), fun z => absurd z (by omega), fun z => absurd z (by omega), fun z => absurd z (by omega), fun z => absurd z (by omega), fun z => absurd z (by omega), fun z => absurd z (by omega), fun z => absurd z (by omega), fun z => absurd z (by omega), fun z => absurd z (by omega), fun z => absurd z (by omega), fun z => absurd z (by omega), fun z => absurd z (by omega), fun _ => K⟩
    · exact ⟨fun z => absurd z (by omega), fun z => absurd z (by omega), fun z => absurd z (by omega), fun z => absurd z (by omega), fun z => absurd z (by omega), fun z => absurd z (by omega), fun z => absurd z (by omega), fun z => absurd z (by omega), fun z => absurd z (by omega), fun z => absurd z (by omega), fun z => absurd z (by omega), fun z => absurd z (by omega), fun z => absurd z (by omega), fun z => absurd z (by omega), fun z => absurd z (by omega), fun _ => K⟩
/-- how many lines from a row on, in the programs -/
theorem sp_count36 {G : GG} {h : Hp} {Φ : Int → Hp → Prop} {x n : Int} (hx : 0 ≤ x ∧ x ≤ 210) (hn : 0 ≤ n ∧ n ≤ 30) (h0 : h 36 0 = 240) (a : ∀ i, 0 ≤ i → i < n → h 37 (x + i) ≠ 0) (b : ∀ i, n ≤ i → i < 30 → h 37 (x + i) = 0) (K : Φ n h) : Call G m_X3_countFrom [rv 36, iv x] h Φ := by
  refine Call.of rfl (Nat.le_of_ble_eq_true rfl) rfl (U_X3_countFrom_36_0 ?_)
  have go : ∀ (d m : Nat), (m : Int) + d = n → AT G m_X3_countFrom 2 [(0, rv 36), (1, iv x), (2, iv (m : Int))] [] h Φ := by
    intro d
    induction d with
    | zero =>
      intro m hm
      have e : (m : Int) = n := by omega
      rw [e]
      refine U_X3_countFrom_36_2 ⟨fun _ => K, fun z => ?_⟩
      rw [w32_of (z := x + n) (by omega) (by omega)]
      refine Call.of rfl (Nat.le_of_ble_eq_true rfl) rfl (U_X3_isThere_36_0 ?_)
      rw [h0, w32_of (z := 240 - 1) (by omega) (by omega)]
      exact ⟨fun y => absurd y (by omega), fun _ => ⟨fun y => absurd y (by omega), fun _ => ⟨by omega, fun _ => ⟨fun _ => K, fun y => absurd rfl y⟩, fun y => absurd (b n (by omega) z) y⟩⟩⟩
    | succ d ih =>
      intro m hm
      refine U_X3_countFrom_36_2 ⟨fun z => absurd z (by omega), fun z => ?_⟩
      rw [w32_of (z := x + (m : Int)) (by omega) (by omega), w32_of (z := (m : Int) + 1) (by omega) (by omega)]
      refine Call.of rfl (Nat.le_of_ble_eq_true rfl) rfl (U_X3_isThere_36_0 ?_)
      rw [h0, w32_of (z := 240 - 1) (by omega) (by omega)]
      have t := ih (m + 1) (by omega)
      rw [Int.natCast_add] at t
      exact ⟨fun y => absurd y (by omega), fun _ => ⟨fun y => absurd y (by omega), fun _ => ⟨by omega, fun y => absurd y (a m (by omega) (by omega)), fun _ => ⟨fun y => absurd y (by omega), fun _ => t⟩⟩⟩⟩
  exact go n.toNat 0 (by omega)
theorem op_runs {G : GG} {h : Hp} {a b : Int} (hR : IRu h) (hL : ILn h) : BOTH G m_X11_runs m_X12_runs [iv a, iv b] h (fun h' => h' = h) := by
  have key : ∀ r, CE G m_X11_runs [rv 1, iv a, iv b] h r h → ME G m_X12_runs [rv 85, iv a, iv b] h r h → BOTH G m_X11_runs m_X12_runs [iv a, iv b] h (fun h' => h' = h) := fun r x y => BOTH.of x y rfl
  by_cases ha : 0 ≤ a ∧ a ≤ 7
  · obtain ⟨r1, r2, r3, r4, r5, r6, r7⟩ := hR a ha.1 (by omega)
    obtain ⟨l0, l1⟩ := hL
    obtain ⟨lb, lr⟩ := l1 a ha.1 (by omega)
    have hk : 0 ≤ a ∧ a < 8 := by omega
    have q116 : ∀ g, cb g h 116 a = h 50 a := fun g => r1
    have cl : ∀ (g : Hp) (Φ : Int → Hp → Prop), ((b = 0 → Φ (h 115 a) (cb h g)) ∧ (b = 1 → ((h 50 a = -1 → Φ 0 (cb h g)) ∧ (h 50 a ≠ -1 → Φ 1 (cb h g)))) ∧ (b = 2 → Φ (h 50 a) (cb h g)) ∧ (b = 3 → Φ (h 51 a) (cb h g)) ∧ ((b < 0 ∨ 3 < b) → Φ (-1) (cb h g))) → Call G m_X11_runs [rv 1, iv a, iv b] (cb h g) Φ := fun g Φ Q => by
      refine Call.of rfl (Nat.le_of_ble_eq_true rfl) rfl (U_X11_runs_1_0 ⟨fun z => absurd z (by omega), fun _ => ⟨fun z => absurd z (by omega), fun _ => ⟨fun z => ?_, fun z => ⟨hk, Q.2.1 z⟩, fun z => ⟨hk, Q.2.2.1 z⟩, fun z => ⟨hk, Q.2.2.2.1 z⟩, Q.2.2.2.2⟩⟩⟩)
      rw [w32_of (z := a * 30) (by omega) (by omega)]
      refine sp_count36 (h := cb h g) (n := h 115 a) (by omega) lb l0 (fun i i0 i1 => ?_) (fun i i0 i1 => ?_) (Q.1 z)
      · have q := LR_v ((lr i i0 (by omega)).1 i1)
        have e : a * 30 + i = 30 * a + i := by omega
        have e2 : cb h g 37 (a * 30 + i) = h 37 (30 * a + i) := by rw [e]; rfl
        rw [e2]; omega
      · have e : a * 30 + i = 30 * a + i := by omega
        have e2 : cb h g 37 (a * 30 + i) = h 37 (30 * a + i) := by rw [e]; rfl
        rw [e2]; exact (lr i (by omega) i1).2 i0
    have mo : ∀ (g : Hp) (Φ : Int → Hp → Prop), ((b = 0 → Φ (h 115 a) (cb g h)) ∧ (b = 1 → ((h 50 a ≠ -1 → Φ 1 (cb g h)) ∧ (h 50 a = -1 → Φ 0 (cb g h)))) ∧ (b = 2 → Φ (h 50 a) (cb g h)) ∧ (b = 3 → ((h 50 a ≠ -1 → Φ (h 117 a) (cb g h)) ∧ (h 50 a = -1 → Φ 0 (cb g h)))) ∧ ((b < 0 ∨ 3 < b) → Φ (-1) (cb g h))) → Call G m_X12_runs [rv 85, iv a, iv b] (cb g h) Φ := fun g Φ Q => by
      refine Call.of rfl (Nat.le_of_ble_eq_true rfl) rfl (U_X12_runs_85_0 ?_)
      rw [q116]
      exact ⟨fun z => absurd z (by omega), fun _ => ⟨fun z => absurd z (by omega), fun _ => ⟨fun z => ⟨hk, Q.1 z⟩, fun z => ⟨hk, Q.2.1 z⟩, fun z => ⟨hk, Q.2.2.1 z⟩, fun z => ⟨hk, fun y => ⟨hk, (Q.2.2.2.1 z).1 y⟩, (Q.2.2.2.1 z).2⟩, Q.2.2.2.2⟩⟩⟩
    by_cases b0 : b = 0
    · exact key (h 115 a) (fun g Φ K => cl g Φ ⟨fun _ => K, fun z => absurd z (by omega), fun z => absurd z (by omega), fun z => absurd z (by omega), fun z => absurd z (by omega)⟩) (fun g Φ K => mo g Φ ⟨fun _ => K, fun z => absurd z (by omega), fun z => absurd z (by omega), fun z => absurd z (by omega), fun z => absurd z (by omega)⟩)
    by_cases b1 : b = 1
    · by_cases c : h 50 a = -1
      · exact key 0 (fun g Φ K => cl g Φ ⟨fun z => absurd z b0, fun _ => ⟨fun _ => K, fun z => absurd c z⟩, fun z => absurd z (by omega), fun z => absurd z (by omega), fun z => absurd z (by omega)⟩) (fun g Φ K => mo g Φ ⟨fun z => absurd z b0, fun _ => ⟨fun z => absurd c z, fun _ => K⟩, fun z => absurd z (by omega), fun z => absurd z (by omega), fun z => absurd z (by omega)⟩)
      · exact key 1 (fun g Φ K => cl g Φ ⟨fun z => absurd z b0, fun _ => ⟨fun z => absurd z c, fun _ => K⟩, fun z => absurd z (by omega), fun z => absurd z (by omega), fun z => absurd z (by omega)⟩) (fun g Φ K => mo g Φ ⟨fun z => absurd z b0, fun _ => ⟨fun _ => K, fun z => absurd z c⟩, fun z => absurd z (by omega), fun z => absurd z (by omega), fun z => absurd z (by omega)⟩)
    by_cases b2 : b = 2
    · exact key (h 50 a) (fun g Φ K => cl g Φ ⟨fun z => absurd z b0, fun z => absurd z b1, fun _ => K, fun z => absurd z (by omega), fun z => absurd z (by omega)⟩) (fun g Φ K => mo g Φ ⟨fun z => absurd z b0, fun z => absurd z b1, fun _ => K, fun z => absurd z (by omega), fun z => absurd z (by omega)⟩)
    by_cases b3 : b = 3
    · refine key (h 51 a) (fun g Φ K => cl g Φ ⟨fun z => absurd z b0, fun z => absurd z b1, fun z => absurd z b2, fun _ => K, fun z => absurd z (by omega)⟩) (fun g Φ K => mo g Φ ⟨fun z => absurd z b0, fun z => absurd z b1, fun z => absurd z b2, fun _ => ⟨fun c => ?_, fun c => ?_⟩, fun z => absurd z (by omega)⟩)
      · rw [r7 c]; exact K
      · rw [r6 c] at K; exact K
    · exact key (-1) (fun g Φ K => cl g Φ ⟨fun z => absurd z b0, fun z => absurd z b1, fun z => absurd z b2, fun z => absurd z b3, fun _ => K⟩) (fun g Φ K => mo g Φ ⟨fun z => absurd z b0, fun z => absurd z b1, fun z => absurd z b2, fun z => absurd z b3, fun _ => K⟩)
  · exact key (-1) (fun g Φ K => Call.of rfl (Nat.le_of_ble_eq_true rfl) rfl (U_X11_runs_1_0 ⟨fun _ => K, fun _ => ⟨fun _ => K, fun z => absurd z (by omega)⟩⟩)) (fun g Φ K => Call.of rfl (Nat.le_of_ble_eq_true rfl) rfl (U_X12_runs_85_0 ⟨fun _ => K, fun _ => ⟨fun _ => K, fun z => absurd z (by omega)⟩⟩))
