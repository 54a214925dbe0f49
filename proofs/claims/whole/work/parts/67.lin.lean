/-! going to a mode; conditions -/
def PGt (k : Nat) (i : Int) : Prop := k = 34 ∧ i = 6 ∨ k = 21 ∨ k = 50 ∨ k = 51 ∨ k = 85 ∧ i = 23 ∨ k = 95 ∨ k = 116
theorem ce_switchTo {G : GG} {h : Hp} {x : Int} : ∃ f, (∀ j, 0 ≤ j → j < 8 → f j = if band (bshr x j) 1 = 1 then 1 else 0) ∧ CE G m_X8_switchTo [rv 18, iv x] h 0 (row h 21 f) := by
  have go : ∀ (d n : Nat) (f : Int → Int), n + d = 8 → (∀ j : Int, 0 ≤ j → j < n → f j = if band (bshr x j) 1 = 1 then 1 else 0) → ∃ f', (∀ j : Int, 0 ≤ j → j < 8 → f' j = if band (bshr x j) 1 = 1 then 1 else 0) ∧ CZ G m_X8_switchTo 2 [(0, rv 18), (1, iv x), (2, iv (n : Int))] (row h 21 f) 0 (row h 21 f') := by
    intro d
    induction d with
    | zero =>
      intro n f hn hf
      have e : n = 8 := by omega
      subst e
      exact ⟨f, hf, fun g Φ K => U_X8_switchTo_18_2 ⟨fun _ => K, fun z => absurd z (by omega)⟩⟩
    | succ d ih =>
      intro n f hn hf
      have st : ∀ v : Int, (v = if band (bshr x n) 1 = 1 then 1 else 0) → ∃ f', (∀ j : Int, 0 ≤ j → j < 8 → f' j = if band (bshr x j) 1 = 1 then 1 else 0) ∧ ∀ (g : Hp) (Φ : Int → Hp → Prop), Φ 0 (cb (row h 21 f') g) → AT G m_X8_switchTo 2 [(0, rv 18), (1, iv x), (2, iv (w32 ((n : Int) + 1)))] [] (up (cb (row h 21 f) g) 21 n v) Φ := fun v hv => by
        obtain ⟨f', a, b⟩ := ih (n + 1) (put f n v) (by omega) (fun j j0 j1 => by
          unfold put
          by_cases z : j = n
          · subst z; rw [if_pos rfl]; exact hv
          · rw [if_neg z]; exact hf j j0 (by omega))
        refine ⟨f', a, fun g Φ K => ?_⟩
        have t := b g Φ K
        rw [Int.natCast_add, ← up_row, cb_uc (by omega)] at t
        rw [w32_of (z := (n : Int) + 1) (by omega) (by omega)]; exact t
      by_cases c : band (bshr x n) 1 = 1
      · obtain ⟨f', a, b⟩ := st 1 (by rw [if_pos c])
        exact ⟨f', a, fun g Φ K => U_X8_switchTo_18_2 ⟨fun z => absurd z (by omega), fun _ => ⟨fun z => absurd c z, fun _ => ⟨by omega, b g Φ K⟩⟩⟩⟩
      · obtain ⟨f', a, b⟩ := st 0 (by rw [if_neg c])
        exact ⟨f', a, fun g Φ K => U_X8_switchTo_18_2 ⟨fun z => absurd z (by omega), fun _ => ⟨fun _ => ⟨by omega, b g Φ K⟩, fun z => absurd z c⟩⟩⟩
  obtain ⟨f', a, b⟩ := go 8 0 (h 21) (by omega) (fun j a b => by omega)
  rw [row_id] at b
  exact ⟨f', a, fun g Φ K => Call.of rfl (Nat.le_of_ble_eq_true rfl) rfl (U_X8_switchTo_18_0 (b g Φ K))⟩
def stp (x : Int) (f : Int → Int) (v j : Int) : Int := if band (bshr x j) 1 = 0 then v else f j
theorem sim_goTo {G : GG} {h : Hp} {m : Int} (hm : 0 ≤ m ∧ m < 4) (hMo : IMo h) (hR : IRu h) :
    ∃ h', CE G m_X0_goTo [rv 34, iv m] h 0 h' ∧ ME G m_X12_goTo [rv 85, iv m] h 0 h' ∧ IMo h' ∧ IRu h' ∧ FR PGt h h' ∧ (∀ j, 0 ≤ j → j < 8 → (h' 21 j = 0 ∨ h' 21 j = 1) ∧ h' 95 j = h' 21 j) ∧ ∀ j, h' 51 j = h 51 j ∨ h' 51 j = 0 := by
  obtain ⟨mo, mr⟩ := id hMo
  obtain ⟨q1, q2⟩ := mr m hm.1 hm.2
  obtain ⟨f21, v21, c21⟩ := ce_switchTo (G := G) (h := up h 34 6 m) (x := h 35 m)
  -- the class's stops
  have stops : ∀ (d n : Nat) (f1 f2 : Int → Int), n + d = 8 → (∀ j : Int, f1 j = if 0 ≤ j ∧ j < n then stp (h 35 (4 + m)) (h 50) (-1) j else h 50 j) → (∀ j : Int, f2 j = if 0 ≤ j ∧ j < n then stp (h 35 (4 + m)) (h 51) 0 j else h 51 j) →
      ∃ g1 g2 : Int → Int, (∀ j : Int, g1 j = if 0 ≤ j ∧ j < 8 then stp (h 35 (4 + m)) (h 50) (-1) j else h 50 j) ∧ (∀ j : Int, g2 j = if 0 ≤ j ∧ j < 8 then stp (h 35 (4 + m)) (h 51) 0 j else h 51 j) ∧
      CZ G m_X0_goTo 29 [(0, rv 34), (2, iv (h 35 (4 + m))), (3, iv (n : Int))] (row (row (row (up h 34 6 m) 21 f21) 50 f1) 51 f2) 0 (row (row (row (up h 34 6 m) 21 f21) 50 g1) 51 g2) := by
    intro d
    induction d with
    | zero =>
      intro n f1 f2 hn a b
      have e : n = 8 := by omega
      subst e
      exact ⟨f1, f2, a, b, fun g Φ K => U_X0_goTo_34_29 ⟨fun _ => K, fun z => absurd z (by omega)⟩⟩
    | succ d ih =>
      intro n f1 f2 hn a b
      by_cases c : band (bshr (h 35 (4 + m)) n) 1 = 0
      · obtain ⟨g1, g2, x, y, z⟩ := ih (n + 1) (put f1 n (-1)) (put f2 n 0) (by omega) (fun j => by
            unfold put
            by_cases z : j = n
            · subst z; rw [if_pos rfl, if_pos (by omega)]; unfold stp; rw [if_pos c]
            · rw [if_neg z, a j]
              by_cases w : 0 ≤ j ∧ j < n
              · rw [if_pos w, if_pos (by omega)]
              · rw [if_neg w, if_neg (by omega)]) (fun j => by
            unfold put
            by_cases z : j = n
            · subst z; rw [if_pos rfl, if_pos (by omega)]; unfold stp; rw [if_pos c]
            · rw [if_neg z, b j]
              by_cases w : 0 ≤ j ∧ j < n
              · rw [if_pos w, if_pos (by omega)]
              · rw [if_neg w, if_neg (by omega)])
        refine ⟨g1, g2, x, y, fun g Φ K => U_X0_goTo_34_29 ⟨fun z => absurd z (by omega), fun _ => ⟨fun z => absurd c z, fun _ => ⟨by omega, by omega, ?_⟩⟩⟩⟩
        rw [w32_of (z := (n : Int) + 1) (by omega) (by omega)]
        have t := z g Φ K
        rw [Int.natCast_add, ← up_row, cb_uc (by omega), cb_rc (by omega), ← up_row, cb_uc (by omega)] at t
        rw [cb_rc (by omega), up_row_ne (by omega)]
        exact t
      · obtain ⟨g1, g2, x, y, z⟩ := ih (n + 1) f1 f2 (by omega) (fun j => by
            rw [a j]
            by_cases z : j = n
            · subst z; rw [if_neg (by omega), if_pos (by omega)]; unfold stp; rw [if_neg c]
            · by_cases w : 0 ≤ j ∧ j < n
              · rw [if_pos w, if_pos (by omega)]
              · rw [if_neg w, if_neg (by omega)]) (fun j => by
            rw [b j]
            by_cases z : j = n
            · subst z; rw [if_neg (by omega), if_pos (by omega)]; unfold stp; rw [if_neg c]
            · by_cases w : 0 ≤ j ∧ j < n
              · rw [if_pos w, if_pos (by omega)]
              · rw [if_neg w, if_neg (by omega)])
        refine ⟨g1, g2, x, y, fun g Φ K => U_X0_goTo_34_29 ⟨fun z => absurd z (by omega), fun _ => ⟨fun _ => ?_, fun z => absurd z c⟩⟩⟩
        rw [w32_of (z := (n : Int) + 1) (by omega) (by omega)]
        have t := z g Φ K
        rw [Int.natCast_add] at t; exact t
  obtain ⟨g1, g2, vg1, vg2, cz⟩ := stops 8 0 (h 50) (h 51) (by omega) (fun j => by rw [if_neg (by omega)]) (fun j => by rw [if_neg (by omega)])
  -- the model's
  have mod : ∀ (d n : Nat) (f1 f2 : Int → Int), n + d = 8 → (∀ j : Int, 0 ≤ j → j < n → f1 j = if band (bshr (h 35 m) j) 1 = 1 then 1 else 0) → (∀ j : Int, f2 j = if 0 ≤ j ∧ j < n then stp (h 35 (4 + m)) (h 116) (-1) j else h 116 j) →
      ∃ g3 g4 : Int → Int, (∀ j : Int, 0 ≤ j → j < 8 → g3 j = if band (bshr (h 35 m) j) 1 = 1 then 1 else 0) ∧ (∀ j : Int, g4 j = if 0 ≤ j ∧ j < 8 then stp (h 35 (4 + m)) (h 116) (-1) j else h 116 j) ∧
      MZ G m_X12_goTo 7 [(0, rv 85), (1, iv m), (2, iv (n : Int))] (row (row (up h 85 23 m) 95 f1) 116 f2) 0 (row (row (up h 85 23 m) 95 g3) 116 g4) := by
    intro d
    induction d with
    | zero =>
      intro n f1 f2 hn a b
      have e : n = 8 := by omega
      subst e
      exact ⟨f1, f2, a, b, fun g Φ K => U_X12_goTo_85_7 ⟨fun _ => K, fun z => absurd z (by omega)⟩⟩
    | succ d ih =>
      intro n f1 f2 hn a b
      have st : ∀ v : Int, (v = if band (bshr (h 35 m) n) 1 = 1 then 1 else 0) → ∃ g3 g4 : Int → Int, (∀ j : Int, 0 ≤ j → j < 8 → g3 j = if band (bshr (h 35 m) j) 1 = 1 then 1 else 0) ∧ (∀ j : Int, g4 j = if 0 ≤ j ∧ j < 8 then stp (h 35 (4 + m)) (h 116) (-1) j else h 116 j) ∧
        ∀ (g : Hp) (Φ : Int → Hp → Prop), Φ 0 (cb g (row (row (up h 85 23 m) 95 g3) 116 g4)) → (((band (bshr (h 35 (4 + m)) n) 1) ≠ 0 → AT G m_X12_goTo 7 [(0, rv 85), (1, iv m), (2, iv (w32 ((n : Int) + 1)))] [] (up (cb g (row (row (up h 85 23 m) 95 f1) 116 f2)) 95 n v) Φ) ∧ ((band (bshr (h 35 (4 + m)) n) 1) = 0 → (0 ≤ (n : Int) ∧ (n : Int) < 8) ∧ AT G m_X12_goTo 7 [(0, rv 85), (1, iv m), (2, iv (w32 ((n : Int) + 1)))] [] (up (up (cb g (row (row (up h 85 23 m) 95 f1) 116 f2)) 95 n v) 116 n (-1)) Φ)) := fun v hv => by
        rw [w32_of (z := (n : Int) + 1) (by omega) (by omega)]
        have p1 : ∀ j : Int, 0 ≤ j → j < ((n + 1 : Nat) : Int) → put f1 n v j = if band (bshr (h 35 m) j) 1 = 1 then 1 else 0 := fun j j0 j1 => by
          unfold put
          by_cases z : j = n
          · subst z; rw [if_pos rfl]; exact hv
          · rw [if_neg z]; exact a j j0 (by omega)
        by_cases c : band (bshr (h 35 (4 + m)) n) 1 = 0
        · obtain ⟨g3, g4, x, y, z⟩ := ih (n + 1) (put f1 n v) (put f2 n (-1)) (by omega) p1 (fun j => by
              unfold put
              by_cases z : j = n
              · subst z; rw [if_pos rfl, if_pos (by omega)]; unfold stp; rw [if_pos c]
              · rw [if_neg z, b j]
                by_cases w : 0 ≤ j ∧ j < n
                · rw [if_pos w, if_pos (by omega)]
                · rw [if_neg w, if_neg (by omega)])
          refine ⟨g3, g4, x, y, fun g Φ K => ⟨fun q => absurd c q, fun _ => ⟨by omega, ?_⟩⟩⟩
          have t := z g Φ K
          rw [Int.natCast_add, ← up_row, cb_um (by omega), cb_rm (by omega), ← up_row, cb_um (by omega)] at t
          rw [cb_rm (by omega), up_row_ne (by omega)]
          exact t
        · obtain ⟨g3, g4, x, y, z⟩ := ih (n + 1) (put f1 n v) f2 (by omega) p1 (fun j => by
              rw [b j]
              by_cases z : j = n
              · subst z; rw [if_neg (by omega), if_pos (by omega)]; unfold stp; rw [if_neg c]
              · by_cases w : 0 ≤ j ∧ j < n
                · rw [if_pos w, if_pos (by omega)]
                · rw [if_neg w, if_neg (by omega)])
          refine ⟨g3, g4, x, y, fun g Φ K => ⟨fun _ => ?_, fun q => absurd q c⟩⟩
          have t := z g Φ K
          rw [Int.natCast_add, cb_rm (by omega), ← up_row, cb_um (by omega)] at t
          rw [cb_rm (by omega), up_row_ne (by omega)]
          exact t
      have e124 : ∀ g : Hp, cb g (row (row (up h 85 23 m) 95 f1) 116 f2) 124 m = h 35 m := fun g => q1.2.2
      have e125 : ∀ g : Hp, cb g (row (row (up h 85 23 m) 95 f1) 116 f2) 125 m = h 35 (4 + m) := fun g => q2.2.2
      by_cases c : band (bshr (h 35 m) n) 1 = 1
      · obtain ⟨g3, g4, x, y, z⟩ := st 1 (by rw [if_pos c])
        refine ⟨g3, g4, x, y, fun g Φ K => U_X12_goTo_85_7 ⟨fun q => absurd q (by omega), fun _ => ⟨hm, ?_⟩⟩⟩
        rw [e124, e125]
        exact ⟨fun q => absurd c q, fun _ => ⟨by omega, hm, z g Φ K⟩⟩
      · obtain ⟨g3, g4, x, y, z⟩ := st 0 (by rw [if_neg c])
        refine ⟨g3, g4, x, y, fun g Φ K => U_X12_goTo_85_7 ⟨fun q => absurd q (by omega), fun _ => ⟨hm, ?_⟩⟩⟩
        rw [e124, e125]
        exact ⟨fun _ => ⟨by omega, hm, z g Φ K⟩, fun q => absurd q c⟩
  obtain ⟨g3, g4, vg3, vg4, mz⟩ := mod 8 0 (h 95) (h 116) (by omega) (fun j a b => by omega) (fun j => by rw [if_neg (by omega)])
  refine ⟨cb (row (row (row (up h 34 6 m) 21 f21) 50 g1) 51 g2) (row (row (up h 85 23 m) 95 g3) 116 g4), CE.mk ?_, ME.mk ?_, ?_, ?_, ?_, ?_, ?_⟩
  · intro g Φ K
    refine Call.of rfl (Nat.le_of_ble_eq_true rfl) rfl (U_X0_goTo_34_0 ⟨by omega, ?_⟩)
    have t := c21 g (fun _ h2 => (0 ≤ (w32 (4 + m)) ∧ (w32 (4 + m)) < 8) ∧ AT G m_X0_goTo 29 [(0, rv 34), (2, iv (h2 35 (w32 (4 + m)))), (3, iv 0)] [] h2 Φ) (by
      rw [w32_of (z := 4 + m) (by omega) (by omega)]
      refine ⟨by omega, ?_⟩
      have e : cb (row (up h 34 6 m) 21 f21) g 35 (4 + m) = h 35 (4 + m) := rfl
      rw [e]
      have t := cz g Φ K
      have e50 : h 50 = (row (up h 34 6 m) 21 f21) 50 := rfl
      have e51 : h 51 = (row (up h 34 6 m) 21 f21) 51 := rfl
      rw [e50, row_id, e51, row_id] at t
      exact t)
    rw [cb_uc (by omega)] at t
    exact t
  · intro g Φ K
    refine Call.of rfl (Nat.le_of_ble_eq_true rfl) rfl (U_X12_goTo_85_0 ?_)
    have t := mz g Φ K
    have e95 : h 95 = (up h 85 23 m) 95 := rfl
    have e116 : h 116 = (up h 85 23 m) 116 := rfl
    rw [e95, row_id, e116, row_id, cb_um (by omega)] at t
    exact t
  · refine ⟨⟨?_, ?_, rfl⟩, fun i a b => mr i a b⟩
    · show 0 ≤ m; omega
    · show m ≤ 3; omega
  · intro k k0 k1
    obtain ⟨r1, r2, r3, r4, r5, r6, r7⟩ := hR k k0 k1
    have e50 : cb (row (row (row (up h 34 6 m) 21 f21) 50 g1) 51 g2) (row (row (up h 85 23 m) 95 g3) 116 g4) 50 k = g1 k := rfl
    have e51 : cb (row (row (row (up h 34 6 m) 21 f21) 50 g1) 51 g2) (row (row (up h 85 23 m) 95 g3) 116 g4) 51 k = g2 k := rfl
    have e116 : cb (row (row (row (up h 34 6 m) 21 f21) 50 g1) 51 g2) (row (row (up h 85 23 m) 95 g3) 116 g4) 116 k = g4 k := rfl
    have e117 : cb (row (row (row (up h 34 6 m) 21 f21) 50 g1) 51 g2) (row (row (up h 85 23 m) 95 g3) 116 g4) 117 k = h 117 k := rfl
    unfold RUk
    rw [e50, e51, e116, e117, vg1, vg2, vg4, if_pos ⟨k0, k1⟩, if_pos ⟨k0, k1⟩, if_pos ⟨k0, k1⟩]
    unfold stp
    by_cases c : band (bshr (h 35 (4 + m)) k) 1 = 0
    · rw [if_pos c, if_pos c, if_pos c]; refine ⟨rfl, by omega, by omega, by omega, by omega, fun _ => rfl, fun z => absurd rfl z⟩
    · rw [if_neg c, if_neg c, if_neg c]; exact ⟨r1, r2, r3, r4, r5, r6, r7⟩
  · refine FR_cb ?_ ?_
    · exact ((((FR.rf.up (by unfold PGt; omega)).row (fun i => by unfold PGt; omega)).row (fun i => by unfold PGt; omega)).row (fun i => by unfold PGt; omega))
    · exact (((FR.rf.up (by unfold PGt; omega)).row (fun i => by unfold PGt; omega)).row (fun i => by unfold PGt; omega))
  · intro j j0 j1
    have e21 : cb (row (row (row (up h 34 6 m) 21 f21) 50 g1) 51 g2) (row (row (up h 85 23 m) 95 g3) 116 g4) 21 j = f21 j := rfl
    have e95 : cb (row (row (row (up h 34 6 m) 21 f21) 50 g1) 51 g2) (row (row (up h 85 23 m) 95 g3) 116 g4) 95 j = g3 j := rfl
    rw [e21, e95, v21 j j0 j1, vg3 j j0 j1]
    exact ⟨if01, rfl⟩
  · intro j
    have e51 : cb (row (row (row (up h 34 6 m) 21 f21) 50 g1) 51 g2) (row (row (up h 85 23 m) 95 g3) 116 g4) 51 j = g2 j := rfl
    rw [e51, vg2]
    unfold stp
    by_cases a : 0 ≤ j ∧ j < 8
    · rw [if_pos a]
      by_cases c : band (bshr (h 35 (4 + m)) j) 1 = 0
      · rw [if_pos c]; exact Or.inr rfl
      · rw [if_neg c]; exact Or.inl rfl
    · rw [if_neg a]; exact Or.inl rfl
