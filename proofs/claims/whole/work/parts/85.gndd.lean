/-! receive, packet -/
def ICt (h : Hp) : Prop := (h 65 2 = 0 ∧ h 85 84 = -1 ∨ h 65 2 = 1 ∧ h 85 84 = h 65 3 ∧ 0 ≤ h 65 3 ∧ h 65 3 ≤ 255) ∧ h 85 82 = h 65 0 ∧ h 85 83 = h 65 1
def DPi (k : Nat) (i : Int) : Prop := k = 65 ∧ (i = 5 ∨ i = 7) ∨ k = 66 ∨ k = 67 ∨ k = 85 ∧ (i = 85 ∨ i = 86 ∨ i = 87) ∨ k = 140 ∨ k = 141 ∨ k = 142
def DCt (k : Nat) (i : Int) : Prop := k = 65 ∧ (i = 0 ∨ i = 1 ∨ i = 2 ∨ i = 3) ∨ k = 85 ∧ (i = 82 ∨ i = 83 ∨ i = 84)
theorem IPi_cg {h h' : Hp} (e : ∀ k i, DPi k i → h' k i = h k i) (I : IPi h) : IPi h' := by
  obtain ⟨a, b, c, d, f⟩ := I
  unfold IPi
  rw [e 85 85 (by unfold DPi; omega), e 65 5 (by unfold DPi; omega), e 85 86 (by unfold DPi; omega), e 85 87 (by unfold DPi; omega), e 65 7 (by unfold DPi; omega), e 66 4 (by unfold DPi; omega)]
  refine ⟨a, fun j j0 j1 => by rw [e 140 j (by unfold DPi; omega), e 66 j (by unfold DPi; omega)]; exact b j j0 j1, c, d, fun i i0 i1 => ?_⟩
  rw [e 67 _ (by unfold DPi; omega), e 142 i (by unfold DPi; omega)]
  have q := f i i0 i1
  exact ⟨q.1, q.2.1, fun j j0 j1 => by rw [e 141 _ (by unfold DPi; omega), e 67 _ (by unfold DPi; omega)]; exact q.2.2 j j0 j1⟩
theorem ICt_cg {h h' : Hp} (e : ∀ k i, DCt k i → h' k i = h k i) (I : ICt h) : ICt h' := by
  unfold ICt
  rw [e 65 2 (by unfold DCt; omega), e 65 3 (by unfold DCt; omega), e 65 0 (by unfold DCt; omega), e 65 1 (by unfold DCt; omega), e 85 82 (by unfold DCt; omega), e 85 83 (by unfold DCt; omega), e 85 84 (by unfold DCt; omega)]; exact I
theorem bor8 {x y : Int} (hx : 0 ≤ x ∧ x ≤ 255) (hy : 0 ≤ y ∧ y ≤ 255) : bor (bshl x 8) y = x * 256 + y := by
  have e1 : x = (x.toNat : Int) := (Int.toNat_of_nonneg hx.1).symm
  have e2 : y = (y.toNat : Int) := (Int.toNat_of_nonneg hy.1).symm
  have s := shl_nat (x := x.toNat) (k := 8) (by omega) (by omega)
  rw [show ((8 : Nat) : Int) = 8 from rfl] at s
  have b := bor_nat (a := x.toNat * 2 ^ 8) (b := y.toNat) (by omega) (by omega)
  have o := Nat.shiftLeft_add_eq_or_of_lt (b := y.toNat) (i := 8) (by omega) x.toNat
  rw [Nat.shiftLeft_eq] at o
  rw [← o] at b
  rw [e1, e2, s, b]; omega
/-- the model takes the first frame -/
theorem mr_take {G : GG} {h : Hp} : ∃ f, (∀ j, 0 ≤ j → j < 24 → f j = h 138 j) ∧ MR G m_X12_receive 11 [(0, rv 85), (1, iv 0)] h 11 [(0, rv 85), (1, iv 24)] (row h 139 f) := by
  have go : ∀ (d n : Nat) (f : Int → Int), n + d = 24 → (∀ j : Int, 0 ≤ j → j < n → f j = h 138 j) → ∃ f', (∀ j : Int, 0 ≤ j → j < 24 → f' j = h 138 j) ∧ MR G m_X12_receive 11 [(0, rv 85), (1, iv (n : Int))] (row h 139 f) 11 [(0, rv 85), (1, iv 24)] (row h 139 f') := by
    intro d
    induction d with
    | zero =>
      intro n f hn a
      have e : n = 24 := by omega
      subst e
      exact ⟨f, a, MR.rf⟩
    | succ d ih =>
      intro n f hn a
      obtain ⟨f', x, y⟩ := ih (n + 1) (put f n (h 138 n)) (by omega) (fun j j0 j1 => by
        unfold put
        by_cases z : j = n
        · subst z; rw [if_pos rfl]
        · rw [if_neg z]; exact a j j0 (by omega))
      refine ⟨f', x, fun g Φ K => U_X12_receive_85_11 ⟨fun z => absurd z (by omega), fun _ => ?_⟩⟩
      rw [w32_of (z := (n : Int) + 1) (by omega) (by omega)]
      have t := y g Φ K
      rw [Int.natCast_add, ← up_row, cb_um (by decide)] at t
      exact ⟨by omega, by omega, t⟩
  obtain ⟨f', x, y⟩ := go 24 0 (h 139) (by omega) (fun j a b => by omega)
  rw [row_id] at y
  exact ⟨f', x, y⟩
def PRv (k : Nat) (i : Int) : Prop := k = 26 ∧ (i = 10 ∨ i = 11) ∨ k = 65 ∧ (i = 0 ∨ i = 1 ∨ i = 2 ∨ i = 3 ∨ i = 5 ∨ i = 7 ∨ i = 9 ∨ i = 10) ∨ k = 66 ∨ k = 67 ∨ (69 ≤ k ∧ k ≤ 74) ∨ k = 85 ∧ (i = 78 ∨ 82 ≤ i ∧ i ≤ 89) ∨ (103 ≤ k ∧ k ≤ 108) ∧ (249 ≤ i ∧ i < 257) ∨ (138 ≤ k ∧ k ≤ 146)
theorem ackC_fr {h : Hp} {a fl : Int} : FR (fun k i => k = 65 ∧ (i = 9 ∨ i = 10) ∨ (69 ≤ k ∧ k ≤ 74)) h (ackC h a fl) := by
  unfold ackC
  split
  · refine (FR.up (FR.up ?_ (by omega)) (by omega))
    intro k i z; exact HC_o (by omega) i
  · split
    · exact FR.rf.up (by omega)
    · exact FR.rf
theorem ackM_fr {h : Hp} {a : Int} (h8 : h 85 88 ≤ 8) (a0 : 0 ≤ a) : FR (fun k i => k = 85 ∧ (i = 88 ∨ i = 89) ∨ (103 ≤ k ∧ k ≤ 108) ∧ (249 ≤ i ∧ i < 257) ∨ (143 ≤ k ∧ k ≤ 146)) h (ackM h a) := by
  unfold ackM
  split
  · refine (FR.up (FR.up ?_ (by omega)) (by omega))
    intro k i z
    unfold HM
    by_cases c : 103 ≤ k ∧ k ≤ 108
    · rw [if_pos c]; unfold shf; rw [if_neg (by omega)]
    · rw [if_neg c, if_neg (by omega)]
  · exact FR.rf
/-- ackM looks only at what is kept -/
theorem ackM_cg {h g : Hp} {a : Int} (e : ∀ k i, (k = 85 ∧ (i = 88 ∨ i = 89) ∨ (103 ≤ k ∧ k ≤ 108) ∨ (143 ≤ k ∧ k ≤ 146)) → g k i = h k i) (k : Nat) (i : Int) (q : k = 85 ∧ (i = 88 ∨ i = 89) ∨ (103 ≤ k ∧ k ≤ 108) ∨ (143 ≤ k ∧ k ≤ 146)) : ackM g a k i = ackM h a k i := by
  unfold ackM
  rw [e 85 88 (by omega), e 85 89 (by omega)]
  by_cases c : h 85 88 ≠ 0 ∧ a ≤ h 85 88
  · rw [if_pos c, if_pos c]
    unfold up
    split
    · rfl
    · split
      · rfl
      · unfold HM shf
        by_cases c1 : 103 ≤ k ∧ k ≤ 108
        · rw [if_pos c1, if_pos c1, e k _ (by omega), e k _ (by omega)]
        · rw [if_neg c1, if_neg c1]
          by_cases c2 : 143 ≤ k ∧ k ≤ 146
          · rw [if_pos c2, if_pos c2, e k _ (by omega), e k _ (by omega)]
          · rw [if_neg c2, if_neg c2]; exact e k i q
  · rw [if_neg c, if_neg c]; exact e k i q
def AKT (G : GG) (Φ : Int → Hp → Prop) (r x : Int) (h : Hp) : Prop := Call G m_X12_acknowledge [rv 85, iv x] h (fun _ h14 => (((h14 139 2) ≠ 1 → Φ r h14) ∧ ((h14 139 2) = 1 → Φ r (up h14 85 89 0))))
theorem op_receive {G : GG} {h : Hp} (hF : IFr h) (hPi : IPi h) (hCt : ICt h) (hKp : IKp h) : BOTH G m_X11_receive m_X12_receive [] h (fun h' => (IFr h' ∧ IPi h' ∧ ICt h' ∧ IKp h') ∧ FR PRv h h') := by
  obtain ⟨f1, f2, f3⟩ := id hF
  have q78 : ∀ g, cb g h 85 78 = h 26 11 := fun g => f1.1
  by_cases c : h 26 11 = 0
  · refine BOTH.of (r := -1) (h' := h) (fun g Φ K => ?_) (fun g Φ K => ?_) ⟨⟨hF, hPi, hCt, hKp⟩, FR.rf⟩
    · exact Call.of rfl (Nat.le_of_ble_eq_true rfl) rfl (U_X11_receive_1_0 ⟨fun z => absurd c z, fun _ => K⟩)
    · refine Call.of rfl (Nat.le_of_ble_eq_true rfl) rfl (U_X12_receive_85_0 ?_)
      rw [q78]
      exact ⟨fun z => absurd c z, fun _ => K⟩
  obtain ⟨A, hA⟩ : ∃ A, A = h 26 10 * 24 := ⟨_, rfl⟩
  have Ab : 0 ≤ A ∧ A ≤ 696 := by omega
  obtain ⟨F, vF, mrF⟩ := mr_take (G := G) (h := h)
  obtain ⟨S, vS, meS⟩ := me_shift (G := G) (h := row h 139 F) (w := h 26 11) f1.1 (by omega)
  have vS' : ∀ j, 0 ≤ j → j < 24 * (h 26 11 - 1) → S j = h 138 (j + 24) := vS
  -- both with the frame taken
  obtain ⟨h2, eh2⟩ : ∃ h2, h2 = row (up (row h 139 F) 85 78 (h 26 11 - 1)) 138 S := ⟨_, rfl⟩
  rw [← eh2] at meS
  have g2 : ∀ k i, ¬ (k = 139 ∨ k = 138 ∨ k = 85 ∧ i = 78) → h2 k i = h k i := fun k i z => by
    rw [eh2, row_ne (by omega), up_ap, if_neg (by omega), row_ne (by omega)]
  have c2 : ∀ g, cb h2 g = cb h g := fun g => by rw [eh2, cb_rc' (by decide), cb_uc' (by decide), cb_rc' (by decide)]
  have by1 : ∀ b, 0 ≤ b → b < 24 → h2 139 b = h 33 (A + b) ∧ 0 ≤ h 33 (A + b) ∧ h 33 (A + b) ≤ 255 := fun b b0 b1 => by
    have e : h2 139 b = F b := by rw [eh2, row_ne (by decide), up_nk (by decide), row_eq]
    rw [e, vF b b0 b1]
    have o := f3 0 (by omega) (by omega) b b0 b1
    have e1 : 24 * (0 : Int) + b = b := by omega
    have e2 : 24 * ((h 26 10 + 0) % 30) + b = A + b := by omega
    rw [e1, e2] at o
    rw [← o.1]; exact ⟨rfl, o.2⟩
  obtain ⟨cr, hcr⟩ : ∃ cr, cr = crcN (h2 139) 22 := ⟨_, rfl⟩
  have crl : cr < 65536 := by rw [hcr]; exact crc_lt 22 (fun i a b => by have := by1 i a (by omega); omega)
  have crc : crcN (fun i => h 33 (A + i)) 22 = cr := by rw [hcr]; exact crc_cg 22 (fun i a b => (by1 i a (by omega)).1.symm)
  have y22 := by1 22 (by omega) (by omega)
  have y23 := by1 23 (by omega) (by omega)
  have y0 := by1 0 (by omega) (by omega)
  have y1 := by1 1 (by omega) (by omega)
  have y2 := by1 2 (by omega) (by omega)
  have y3 := by1 3 (by omega) (by omega)
  rw [Int.add_zero] at y0
  -- the class up to the check
  have CL : ∀ (g : Hp) (Φ : Int → Hp → Prop), ((h 33 (A + 22) * 256 + h 33 (A + 23) = cr → Call G m_X2_begin [rv 65, iv (h 33 A), iv (h 33 (A + 3))] (cb h2 g) (fun r3 h4 => Call G m_X2_acknowledge [rv 65, iv (h4 33 (A + 1)), iv (h4 33 (A + 2))] h4 (fun _ h6 => Call G m_X2_pieceTogether [rv 65, rv 33, iv (A + 4), iv r3] h6 (fun r7 h8 => Call G m_X4_dropFrame [rv 26] h8 (fun _ h4 => Φ r7 h4))))) ∧ (h 33 (A + 22) * 256 + h 33 (A + 23) ≠ cr → Call G m_X4_dropFrame [rv 26] (up (cb h2 g) 65 1 (w32 (h 65 1 + 1))) (fun _ h4 => Φ (-2) h4))) → Call G m_X11_receive [rv 1] (cb h g) Φ := fun g Φ Q => by
    rw [← c2]
    have p10 : cb h2 g 26 10 = h 26 10 := g2 26 10 (by omega)
    have p33 : ∀ i, cb h2 g 33 i = h 33 i := fun i => g2 33 i (by omega)
    have p651 : cb h2 g 65 1 = h 65 1 := g2 65 1 (by omega)
    have p11 : cb h2 g 26 11 = h 26 11 := g2 26 11 (by omega)
    refine Call.of rfl (Nat.le_of_ble_eq_true rfl) rfl (U_X11_receive_1_0 ⟨fun _ => ?_, fun z => absurd (by rw [p11] at z; exact z) c⟩)
    rw [p10, w32_of (z := h 26 10 * 24) (by omega) (by omega), ← hA]
    refine Call.of rfl (Nat.le_of_ble_eq_true rfl) rfl (U_X2_takeFrame_65_33_0 ?_)
    have eA1 : A + 24 - 2 = A + 22 := by omega
    have eA2 : A + 24 - 1 = A + 23 := by omega
    rw [w32_of (z := A + 24) (by omega) (by omega), w32_of (z := A + 24 - 2) (by omega) (by omega), w32_of (z := A + 24 - 1) (by omega) (by omega), w32_of (z := A + 1) (by omega) (by omega), w32_of (z := A + 2) (by omega) (by omega), w32_of (z := A + 3) (by omega) (by omega), w32_of (z := A + 4) (by omega) (by omega), eA1, eA2]
    refine ⟨by omega, by omega, sp_checkOf (by omega) (fun i a b => by rw [p33]; exact (by1 i a (by omega)).2) ?_⟩
    have e33 : (fun i => cb h2 g 33 (A + i)) = (fun i => h 33 (A + i)) := by funext i; rw [p33]
    rw [e33, crc, p33, p33, p33, p33, p651, bor8 y22.2 y23.2]
    exact ⟨fun z => ⟨by omega, by omega, Call.mono (Q.1 z) (fun r3 h4 w => ⟨by omega, by omega, w⟩)⟩, fun z => Q.2 z⟩
  -- the model up to the check
  have MO : ∀ (g : Hp) (Φ : Int → Hp → Prop), ((h 33 (A + 22) * 256 + h 33 (A + 23) = cr → ((h2 85 84 = -1 → ((h 33 (A + 3) ≤ 17 → Call G m_X12_pieces [rv 85, iv (h 33 (A + 3))] (up (up (up (cb g h2) 85 82 (w32 (h2 85 82 + 0))) 85 85 0) 85 84 (h 33 A)) (fun r h12 => AKT G Φ r (h12 139 1) h12)) ∧ (17 < h 33 (A + 3) → AKT G Φ 0 (h 33 (A + 1)) (up (up (up (cb g h2) 85 82 (w32 (h2 85 82 + 0))) 85 85 0) 85 84 (h 33 A))))) ∧ (h2 85 84 ≠ -1 → ((h 33 A = band (w32 (h2 85 84 + 1)) 255 → Call G m_X12_pieces [rv 85, iv 0] (up (cb g h2) 85 84 (h 33 A)) (fun r h12 => AKT G Φ r (h12 139 1) h12)) ∧ (h 33 A ≠ band (w32 (h2 85 84 + 1)) 255 → ((h 33 (A + 3) ≤ 17 → Call G m_X12_pieces [rv 85, iv (h 33 (A + 3))] (up (up (up (cb g h2) 85 82 (w32 (h2 85 82 + 1))) 85 85 0) 85 84 (h 33 A)) (fun r h12 => AKT G Φ r (h12 139 1) h12)) ∧ (17 < h 33 (A + 3) → AKT G Φ 0 (h 33 (A + 1)) (up (up (up (cb g h2) 85 82 (w32 (h2 85 82 + 1))) 85 85 0) 85 84 (h 33 A))))))))) ∧ (h 33 (A + 22) * 256 + h 33 (A + 23) ≠ cr → Φ (-2) (up (cb g h2) 85 83 (w32 (h2 85 83 + 1))))) → Call G m_X12_receive [rv 85] (cb g h) Φ := fun g Φ Q => by
    refine Call.of rfl (Nat.le_of_ble_eq_true rfl) rfl (U_X12_receive_85_0 ?_)
    rw [q78]
    refine ⟨fun _ => mrF g Φ (U_X12_receive_85_11 ⟨fun _ => meS g _ ?_, fun z => absurd z (by omega)⟩), fun z => absurd z c⟩
    have p139 : (cb g h2) 139 = h2 139 := rfl
    refine sp_check (fun i a b => by rw [p139]; have := by1 i a (by omega); omega) ?_
    have p84 : cb g h2 85 84 = h2 85 84 := rfl
    have p82 : cb g h2 85 82 = h2 85 82 := rfl
    have p83 : cb g h2 85 83 = h2 85 83 := rfl
    rw [p139, ← hcr, y22.1, y23.1, y0.1, y1.1, y3.1, p84, p82, p83, w32_of (z := h 33 (A + 22) * 256) (by omega) (by omega), w32_of (z := h 33 (A + 22) * 256 + h 33 (A + 23)) (by omega) (by omega)]
    refine ⟨fun z => ⟨fun y => ⟨fun x => absurd y x, fun _ => (Q.1 z.symm).1 y⟩, fun y => ⟨fun x => ((Q.1 z.symm).2 y).1 x, fun x => ⟨fun _ => ((Q.1 z.symm).2 y).2 x, fun w => absurd w y⟩⟩⟩, fun z => Q.2 (fun y => z y.symm)⟩
  have fin_fr : ∀ h', (∀ k i, DFr k i → h' k i = row (up (drp h) 85 78 (h 26 11 - 1)) 138 S k i) → IFr h' := fun h' e => IFr_cg e (drop_fr hF (by omega) vS')
  by_cases ok : h 33 (A + 22) * 256 + h 33 (A + 23) = cr
  · -- a good frame
    have Ct2 : ICt h2 := ICt_cg (fun k i d => g2 k i (by unfold DCt at d; omega)) hCt
    have Pi2 : IPi h2 := IPi_cg (fun k i d => g2 k i (by unfold DPi at d; omega)) hPi
    have Kp2 : IKp h2 := IKp_cg (fun k i d => g2 k i (by unfold DKp at d; omega)) hKp
    -- behind the look at its count: hb, fr
    have core : ∀ (hb : Hp) (fr : Int), (0 ≤ fr ∧ fr ≤ 255) → IPi hb → ICt hb → (∀ k i, ¬ (k = 65 ∧ (i = 0 ∨ i = 2 ∨ i = 3 ∨ i = 5) ∨ k = 85 ∧ (i = 82 ∨ i = 84 ∨ i = 85)) → hb k i = h2 k i) → CE G m_X2_begin [rv 65, iv (h 33 A), iv (h 33 (A + 3))] h2 fr hb →
        (∀ (g : Hp) (Φ : Int → Hp → Prop), ((fr ≤ 17 → Call G m_X12_pieces [rv 85, iv fr] (cb g hb) (fun r h12 => AKT G Φ r (h12 139 1) h12)) ∧ (17 < fr → AKT G Φ 0 (h 33 (A + 1)) (cb g hb))) → Call G m_X12_receive [rv 85] (cb g h) Φ) →
        BOTH G m_X11_receive m_X12_receive [] h (fun h' => (IFr h' ∧ IPi h' ∧ ICt h' ∧ IKp h') ∧ FR PRv h h') := fun hb fr frb Pib Ctb gb ceb mb => by
      have Kpb : IKp hb := IKp_cg (fun k i d => gb k i (by unfold DKp at d; omega)) Kp2
      obtain ⟨⟨a1, a2, a3⟩, ⟨b1, b2, b3⟩, ⟨n1, n2, n3⟩, kd⟩ := id Kpb
      obtain ⟨a, ha⟩ : ∃ a, a = (h 33 (A + 1) - (hb 65 11 - hb 65 9)) % 256 := ⟨_, rfl⟩
      have a0 : 0 ≤ a := by omega
      have hb33 : ∀ i, hb 33 i = h 33 i := fun i => by rw [gb 33 i (by omega), g2 33 i (by omega)]
      have hb139 : ∀ i, hb 139 i = h2 139 i := fun i => gb 139 i (by omega)
      have cea := ce_ack (G := G) (h := hb) (rep := h 33 (A + 1)) (fl := h 33 (A + 2)) (a := a) (by omega) (by omega) ⟨n2, n3⟩ y1.2 ha
      -- the class acknowledges first
      obtain ⟨hX, ehX⟩ : ∃ hX, hX = cb (ackC hb a (h 33 (A + 2))) hb := ⟨_, rfl⟩
      have gX : ∀ k i, ¬ (k = 65 ∧ (i = 9 ∨ i = 10) ∨ (69 ≤ k ∧ k ≤ 74)) → hX k i = hb k i := fun k i z => by
        rw [ehX]; unfold cb
        split
        · exact ackC_fr k i z
        · rfl
      have PiX : IPi hX := IPi_cg (fun k i d => gX k i (by unfold DPi at d; omega)) Pib
      have byX : ∀ b, 0 ≤ b → b < 18 → hX 33 (A + 4 + b) = hX 139 (4 + b) := fun b b0 b1 => by
        rw [gX 33 _ (by omega), gX 139 _ (by omega), hb33, hb139, (by1 (4 + b) (by omega) (by omega)).1]
        congr 1; omega
      have pcs : ∃ h3 r, CE G m_X2_pieceTogether [rv 65, rv 33, iv (A + 4), iv fr] hX r h3 ∧ IPi h3 ∧ FR PPi hX h3 ∧ ∀ (g : Hp) (Φ : Int → Hp → Prop), AKT G Φ r (h 33 (A + 1)) (cb g h3) → Call G m_X12_receive [rv 85] (cb g h) Φ := by
        have emX : ∀ g, cb g hX = cb g hb := fun g => by rw [ehX, cb_r]
        by_cases c17 : fr ≤ 17
        · obtain ⟨h3, r, cz, mz, Pi3, f3'⟩ := sim_pieces (G := G) (D := A + 4) (by omega) (18 - fr.toNat) fr.toNat (by omega) hX 0 PiX byX (by omega)
          have efr : (fr.toNat : Int) = fr := Int.toNat_of_nonneg frb.1
          rw [efr] at cz mz
          refine ⟨h3, r, fun g Φ K => ?_, Pi3, f3', fun g Φ Q => mb g Φ ⟨fun _ => ?_, fun z => absurd z (by omega)⟩⟩
          · exact Call.of rfl (Nat.le_of_ble_eq_true rfl) rfl (U_X2_pieceTogether_65_33_0 (cz g Φ K))
          · refine Call.of rfl (Nat.le_of_ble_eq_true rfl) rfl (U_X12_pieces_85_0 ?_)
            rw [← emX]
            refine mz g _ ?_
            have e1 : cb g h3 139 1 = h 33 (A + 1) := by
              have : cb g h3 139 1 = h3 139 1 := rfl
              rw [this, f3' 139 1 (by unfold PPi; omega), gX 139 1 (by omega), hb139, y1.1]
            rw [e1]; exact Q
        · refine ⟨hX, 0, fun g Φ K => ?_, PiX, FR.rf, fun g Φ Q => mb g Φ ⟨fun z => absurd z c17, fun _ => ?_⟩⟩
          · exact Call.of rfl (Nat.le_of_ble_eq_true rfl) rfl (U_X2_pieceTogether_65_33_0 (U_X2_pieceTogether_65_33_6 ⟨fun _ => K, fun z => absurd z (by omega)⟩))
          · rw [← emX]; exact Q
      obtain ⟨h3, r, ce3, Pi3, f3', m3⟩ := pcs
      have g3 : ∀ k i, ¬ (PPi k i ∨ k = 65 ∧ (i = 9 ∨ i = 10) ∨ (69 ≤ k ∧ k ≤ 74)) → h3 k i = hb k i := fun k i z => by
        rw [f3' k i (fun w => z (Or.inl w)), gX k i (fun w => z (Or.inr w))]
      have m88 : h3 85 88 = hb 85 88 := g3 85 88 (by unfold PPi; omega)
      have m89 : h3 85 89 = hb 85 89 := g3 85 89 (by unfold PPi; omega)
      have m143 : h3 143 0 = hb 143 0 := g3 143 0 (by unfold PPi; omega)
      have mea := me_ack (G := G) (h := h3) (rep := h 33 (A + 1)) (a := a) (by rw [m88]; omega) (by rw [m89]; omega) (fun z => by
        rw [m88] at z
        have := (kd 0 (by omega) (by omega)).1
        rw [m143, this, ha]
        omega) y1.2
      obtain ⟨hM, ehM⟩ : ∃ hM, hM = if h 33 (A + 2) = 1 then up (ackM h3 a) 85 89 0 else ackM h3 a := ⟨_, rfl⟩
      have gM : ∀ k i, ¬ (k = 85 ∧ (i = 88 ∨ i = 89) ∨ (103 ≤ k ∧ k ≤ 108) ∧ (249 ≤ i ∧ i < 257) ∨ (143 ≤ k ∧ k ≤ 146)) → hM k i = h3 k i := fun k i z => by
        have q := ackM_fr (h := h3) (a := a) (by rw [m88]; omega) a0 k i z
        rw [ehM]; split
        · rw [up_ap, if_neg (by omega)]; exact q
        · exact q
      refine BOTH.of (r := r) (h' := cb (drp h3) hM) (CE.mk (fun g Φ K => ?_)) (ME.mk (fun g Φ K => ?_)) ⟨⟨?_, ?_, ?_, ?_⟩, fun k i z => ?_⟩
      · refine CL g Φ ⟨fun _ => ceb g _ ?_, fun z => absurd ok z⟩
        have p33 : ∀ i, cb hb g 33 i = h 33 i := fun i => hb33 i
        rw [p33, p33]
        refine cea g _ ?_
        have eX : cb (ackC hb a (h 33 (A + 2))) g = cb hX g := by rw [ehX, cb_l]
        rw [eX]
        refine ce3 g _ (sp_dropFrame (h := cb h3 g) ?_ ?_ ?_)
        · have e : cb h3 g 26 10 = h 26 10 := by
            show h3 26 10 = _
            rw [g3 26 10 (by unfold PPi; omega), gb 26 10 (by omega), g2 26 10 (by omega)]
          rw [e]; exact f2
        · have e : cb h3 g 26 11 = h 26 11 := by
            show h3 26 11 = _
            rw [g3 26 11 (by unfold PPi; omega), gb 26 11 (by omega), g2 26 11 (by omega)]
          rw [e]; omega
        · have e : cb (drp h3) g = drp (cb h3 g) := by unfold drp; rw [cb_uc (by decide), cb_uc (by decide)]; rfl
          rw [e] at K; exact K
      · refine m3 g Φ (mea g _ ?_)
        have e2 : cb g (ackM h3 a) 139 2 = h 33 (A + 2) := by
          show ackM h3 a 139 2 = _
          rw [ackM_fr (h := h3) (a := a) (by rw [m88]; omega) a0 139 2 (by omega), g3 139 2 (by unfold PPi; omega), hb139, y2.1]
        rw [e2]
        rw [ehM] at K
        refine ⟨fun z => ?_, fun z => ?_⟩
        · rw [if_neg z] at K; exact K
        · rw [if_pos z, cb_um (by decide)] at K; exact K
      · refine fin_fr _ (fun k i d => ?_)
        unfold DFr at d
        by_cases k85 : k < 85
        · rw [cb_c k85]
          have e : row (up (drp h) 85 78 (h 26 11 - 1)) 138 S k i = drp h k i := by rw [row_ne (by omega), up_nk (by omega)]
          rw [e]
          have z3 : ∀ j, h3 26 j = h 26 j := fun j => by rw [g3 26 j (by unfold PPi; omega), gb 26 j (by omega), g2 26 j (by omega)]
          unfold drp
          rw [z3, z3]
          unfold up
          split
          · rfl
          · split
            · rfl
            · rw [g3 k i (by unfold PPi; omega), gb k i (by omega), g2 k i (by omega)]
        · rw [cb_m (by omega), gM k i (by omega), g3 k i (by unfold PPi; omega), gb k i (by omega), eh2]
          unfold row up
          by_cases z138 : k = 138
          · rw [if_pos z138, if_pos z138]
          · rw [if_neg z138, if_neg z138]
            have z85 : k = 85 ∧ i = 78 := by omega
            rw [if_pos z85, if_pos z85]
      · refine IPi_cg (fun k i d => ?_) Pi3
        unfold DPi at d
        by_cases k85 : k < 85
        · rw [cb_c k85]; unfold drp; rw [up_nk (by omega), up_nk (by omega)]
        · rw [cb_m (by omega), gM k i (by omega)]
      · refine ICt_cg (fun k i d => ?_) Ctb
        unfold DCt at d
        by_cases k85 : k < 85
        · rw [cb_c k85]; unfold drp; rw [up_nk (by omega), up_nk (by omega)]; exact g3 k i (by unfold PPi; omega)
        · rw [cb_m (by omega), gM k i (by omega)]; exact g3 k i (by unfold PPi; omega)
      · refine IKp_cg (fun k i d => ?_) (ack_rel (a := a) (fl := h 33 (A + 2)) Kpb a0)
        unfold DKp at d
        by_cases k85 : k < 85
        · rw [cb_c k85, cb_c k85]; unfold drp; rw [up_nk (by omega), up_nk (by omega), f3' k i (by unfold PPi; omega), ehX, cb_c k85]
        · rw [cb_m (by omega), cb_m (by omega), ehM]
          have q : ∀ k i, (k = 85 ∧ (i = 88 ∨ i = 89) ∨ (103 ≤ k ∧ k ≤ 108) ∨ (143 ≤ k ∧ k ≤ 146)) → ackM h3 a k i = ackM hb a k i := ackM_cg (fun k i z => g3 k i (by unfold PPi; omega))
          have q2 : ackM h3 a k i = ackM hb a k i := by
            by_cases z90 : k = 85 ∧ i = 90
            · obtain ⟨rfl, rfl⟩ := z90
              rw [ackM_fr (h := h3) (a := a) (by rw [m88]; omega) a0 85 90 (by omega), ackM_fr (h := hb) (a := a) (by omega) a0 85 90 (by omega)]
              exact g3 85 90 (by unfold PPi; omega)
            · exact q k i (by omega)
          by_cases zf : h 33 (A + 2) = 1
          · rw [if_pos zf, if_pos zf, up_ap, up_ap, q2]
          · rw [if_neg zf, if_neg zf, q2]
      · unfold PRv at z
        by_cases k85 : k < 85
        · rw [cb_c k85]; unfold drp; rw [up_ap, if_neg (by omega), up_ap, if_neg (by omega), g3 k i (by unfold PPi; omega), gb k i (by omega), g2 k i (by omega)]
        · rw [cb_m (by omega), gM k i (by omega), g3 k i (by unfold PPi; omega), gb k i (by omega), g2 k i (by omega)]
    obtain ⟨lt, ct0, ct1⟩ := id Ct2
    have r2 : ∀ g, cb h2 g 65 2 = h2 65 2 := fun g => rfl
    have r3 : ∀ g, cb h2 g 65 3 = h2 65 3 := fun g => rfl
    have r0 : ∀ g, cb h2 g 65 0 = h2 65 0 := fun g => rfl
    obtain ⟨i1, i2, i3, i4, i5⟩ := id Pi2
    have pi0 : ∀ hb, hb 65 5 = 0 → hb 85 85 = 0 → (∀ k i, ¬ (k = 65 ∧ (i = 0 ∨ i = 2 ∨ i = 3 ∨ i = 5) ∨ k = 85 ∧ (i = 82 ∨ i = 84 ∨ i = 85)) → hb k i = h2 k i) → IPi hb := fun hb e5 e85 gg => by
      refine ⟨⟨by rw [e5, e85], by rw [e5]; omega, by rw [e5]; omega⟩, fun j j0 j1 => by rw [e5] at j1; omega, fun z => by rw [e5] at z; omega, ⟨by rw [gg 85 87 (by omega), gg 65 7 (by omega)]; exact i4.1, by rw [gg 65 7 (by omega)]; exact i4.2⟩, fun i i0 i1 => ?_⟩
      rw [gg 65 7 (by omega)] at i1
      rw [gg 67 _ (by omega), gg 142 i (by omega)]
      have q := i5 i i0 i1
      exact ⟨q.1, q.2.1, fun j j0 j1 => by rw [gg 141 _ (by omega), gg 67 _ (by omega)]; exact q.2.2 j j0 j1⟩
    rcases lt with ⟨l1, l2⟩ | ⟨l1, l2, l3⟩
    · -- the first that is heard
      obtain ⟨hb, ehb⟩ : ∃ hb, hb = up (up (up (up (up h2 65 2 1) 65 3 (h 33 A)) 65 5 0) 85 85 0) 85 84 (h 33 A) := ⟨_, rfl⟩
      have gb : ∀ k i, ¬ (k = 65 ∧ (i = 0 ∨ i = 2 ∨ i = 3 ∨ i = 5) ∨ k = 85 ∧ (i = 82 ∨ i = 84 ∨ i = 85)) → hb k i = h2 k i := fun k i z => by
        rw [ehb]; unfold up; rw [if_neg (by omega), if_neg (by omega), if_neg (by omega), if_neg (by omega), if_neg (by omega)]
      refine core hb (h 33 (A + 3)) y3.2 (pi0 hb (by rw [ehb]; rfl) (by rw [ehb]; rfl) gb) ?_ gb (fun g Φ K => ?_) (fun g Φ Q => Call.ok (fun o _ => by
        have o2 : i32 (h2 85 82) := by rw [g2 85 82 (by omega)]; exact (o 85 (by decide) 82 (by decide) (by decide)).1
        refine MO g Φ ⟨fun _ => ⟨fun _ => ?_, fun z => absurd l2 z⟩, fun z => absurd ok z⟩
        rw [Int.add_zero, w32_of (z := h2 85 82) o2.1 o2.2, up_id (h := cb g h2) (show cb g h2 85 82 = h2 85 82 from rfl)]
        rw [ehb, cb_um (by decide), cb_um (by decide), cb_um' (by decide), cb_um' (by decide), cb_um' (by decide)] at Q
        exact Q))
      · rw [ehb]; exact ⟨Or.inr ⟨rfl, rfl, y0.2⟩, ct0, ct1⟩
      · rw [ehb, cb_uc' (by decide), cb_uc' (by decide), cb_uc (by decide), cb_uc (by decide), cb_uc (by decide)] at K
        refine Call.of rfl (Nat.le_of_ble_eq_true rfl) rfl (U_X2_begin_65_0 ?_)
        rw [r2]
        exact ⟨fun _ => ⟨fun _ => K, fun z => absurd l1 z⟩, fun z => absurd l1 z⟩
    · have l2' : h2 85 84 ≠ -1 := by omega
      by_cases nx : h 33 A = (h2 65 3 + 1) % 256
      · -- the next
        obtain ⟨hb, ehb⟩ : ∃ hb, hb = up (up (up h2 65 2 1) 65 3 (h 33 A)) 85 84 (h 33 A) := ⟨_, rfl⟩
        have gb : ∀ k i, ¬ (k = 65 ∧ (i = 0 ∨ i = 2 ∨ i = 3 ∨ i = 5) ∨ k = 85 ∧ (i = 82 ∨ i = 84 ∨ i = 85)) → hb k i = h2 k i := fun k i z => by
          rw [ehb]; unfold up; rw [if_neg (by omega), if_neg (by omega), if_neg (by omega)]
        have nx1 : h 33 A = band (w32 (h2 65 3 + 1)) 255 := by rw [band_255x, w32_of (z := h2 65 3 + 1) (by omega) (by omega)]; exact nx
        refine core hb 0 (by omega) (by rw [ehb]; exact Pi2) ?_ gb (fun g Φ K => ?_) (fun g Φ Q => MO g Φ ⟨fun _ => ⟨fun z => absurd z l2', fun _ => ⟨fun _ => ?_, fun z => absurd (by rw [l2]; exact nx1) z⟩⟩, fun z => absurd ok z⟩)
        · rw [ehb]; exact ⟨Or.inr ⟨rfl, rfl, y0.2⟩, ct0, ct1⟩
        · rw [ehb, cb_uc' (by decide), cb_uc (by decide), cb_uc (by decide)] at K
          refine Call.of rfl (Nat.le_of_ble_eq_true rfl) rfl (U_X2_begin_65_0 ?_)
          rw [r2, r3]
          exact ⟨fun z => absurd z (by omega), fun _ => ⟨fun z => absurd nx1 z, fun _ => ⟨fun z => absurd z (by omega), fun _ => K⟩⟩⟩
        · have q := Q.1 (by omega)
          rw [ehb, cb_um (by decide), cb_um' (by decide), cb_um' (by decide)] at q
          exact q
      · -- a gap
        obtain ⟨hb, ehb⟩ : ∃ hb, hb = up (up (up (up (up (up (up h2 65 0 (w32 (h2 65 0 + 1))) 65 2 1) 65 3 (h 33 A)) 65 5 0) 85 82 (w32 (h2 65 0 + 1))) 85 85 0) 85 84 (h 33 A) := ⟨_, rfl⟩
        have gb : ∀ k i, ¬ (k = 65 ∧ (i = 0 ∨ i = 2 ∨ i = 3 ∨ i = 5) ∨ k = 85 ∧ (i = 82 ∨ i = 84 ∨ i = 85)) → hb k i = h2 k i := fun k i z => by
          rw [ehb]; unfold up; rw [if_neg (by omega), if_neg (by omega), if_neg (by omega), if_neg (by omega), if_neg (by omega), if_neg (by omega), if_neg (by omega)]
        have nx1 : h 33 A ≠ band (w32 (h2 65 3 + 1)) 255 := by rw [band_255x, w32_of (z := h2 65 3 + 1) (by omega) (by omega)]; exact nx
        refine core hb (h 33 (A + 3)) y3.2 (pi0 hb (by rw [ehb]; rfl) (by rw [ehb]; rfl) gb) ?_ gb (fun g Φ K => ?_) (fun g Φ Q => MO g Φ ⟨fun _ => ⟨fun z => absurd z l2', fun _ => ⟨fun z => absurd (by rw [l2] at z; exact z) nx1, fun _ => ?_⟩⟩, fun z => absurd ok z⟩)
        · rw [ehb]; exact ⟨Or.inr ⟨rfl, rfl, y0.2⟩, rfl, ct1⟩
        · rw [ehb, cb_uc' (by decide), cb_uc' (by decide), cb_uc' (by decide), cb_uc (by decide), cb_uc (by decide), cb_uc (by decide), cb_uc (by decide)] at K
          refine Call.of rfl (Nat.le_of_ble_eq_true rfl) rfl (U_X2_begin_65_0 ?_)
          rw [r2, r3, r0]
          exact ⟨fun z => absurd z (by omega), fun _ => ⟨fun _ => ⟨fun z => absurd z (by omega), fun _ => K⟩, fun z => absurd z nx1⟩⟩
        · rw [ehb, cb_um (by decide), cb_um (by decide), cb_um (by decide), cb_um' (by decide), cb_um' (by decide), cb_um' (by decide), cb_um' (by decide)] at Q
          rw [ct0]; exact Q
  · -- a bad one
    obtain ⟨h3, eh3⟩ : ∃ h3, h3 = up (up h2 65 1 (w32 (h 65 1 + 1))) 85 83 (w32 (h 65 1 + 1)) := ⟨_, rfl⟩
    have g3 : ∀ k i, ¬ (k = 65 ∧ i = 1 ∨ k = 85 ∧ i = 83) → h3 k i = h2 k i := fun k i z => by
      rw [eh3]; unfold up; rw [if_neg (by omega), if_neg (by omega)]
    have g32 : ∀ j, h3 26 j = h 26 j := fun j => by rw [g3 26 j (by omega), g2 26 j (by omega)]
    refine BOTH.of (r := -2) (h' := cb (drp h3) h3) (CE.mk (fun g Φ K => CL g Φ ⟨fun z => absurd z ok, fun _ => ?_⟩)) (ME.mk (fun g Φ K => MO g Φ ⟨fun z => absurd z ok, fun _ => ?_⟩)) ⟨⟨?_, ?_, ?_, ?_⟩, fun k i z => ?_⟩
    · have e : up (cb h2 g) 65 1 (w32 (h 65 1 + 1)) = cb h3 g := by rw [eh3, cb_uc' (by decide), cb_uc (by decide)]
      rw [e]
      refine sp_dropFrame (h := cb h3 g) (show 0 ≤ h3 26 10 ∧ h3 26 10 < 30 by rw [g32]; exact f2) (show 1 ≤ h3 26 11 ∧ h3 26 11 ≤ 30 by rw [g32]; omega) ?_
      have e : cb (drp h3) g = drp (cb h3 g) := by unfold drp; rw [cb_uc (by decide), cb_uc (by decide)]; rfl
      rw [e] at K; exact K
    · rw [eh3, cb_um (by decide), cb_um' (by decide)] at K
      have e : h2 85 83 = h 65 1 := by rw [g2 85 83 (by omega)]; exact hCt.2.2
      rw [e]; exact K
    · refine fin_fr _ (fun k i d => ?_)
      unfold DFr at d
      by_cases k85 : k < 85
      · rw [cb_c k85]
        have e : row (up (drp h) 85 78 (h 26 11 - 1)) 138 S k i = drp h k i := by rw [row_ne (by omega), up_nk (by omega)]
        rw [e]
        unfold drp
        rw [g32, g32]
        unfold up
        split
        · rfl
        · split
          · rfl
          · rw [g3 k i (by omega), g2 k i (by omega)]
      · rw [cb_m (by omega), g3 k i (by omega), eh2]
        unfold row up
        by_cases z138 : k = 138
        · rw [if_pos z138, if_pos z138]
        · rw [if_neg z138, if_neg z138]
          have z85 : k = 85 ∧ i = 78 := by omega
          rw [if_pos z85, if_pos z85]
    · refine IPi_cg (fun k i d => ?_) hPi
      unfold DPi at d
      by_cases k85 : k < 85
      · rw [cb_c k85]; unfold drp; rw [up_nk (by omega), up_nk (by omega), g3 k i (by omega), g2 k i (by omega)]
      · rw [cb_m (by omega), g3 k i (by omega), g2 k i (by omega)]
    · obtain ⟨a, b, d⟩ := hCt
      refine ⟨?_, ?_, ?_⟩
      · have e1 : cb (drp h3) h3 65 2 = h 65 2 := by rw [cb_c (by decide)]; unfold drp; rw [up_nk (by decide), up_nk (by decide), g3 65 2 (by omega), g2 65 2 (by omega)]
        have e2 : cb (drp h3) h3 65 3 = h 65 3 := by rw [cb_c (by decide)]; unfold drp; rw [up_nk (by decide), up_nk (by decide), g3 65 3 (by omega), g2 65 3 (by omega)]
        have e3 : cb (drp h3) h3 85 84 = h 85 84 := by rw [cb_m (by decide), g3 85 84 (by omega), g2 85 84 (by omega)]
        rw [e1, e2, e3]; exact a
      · have e1 : cb (drp h3) h3 65 0 = h 65 0 := by rw [cb_c (by decide)]; unfold drp; rw [up_nk (by decide), up_nk (by decide), g3 65 0 (by omega), g2 65 0 (by omega)]
        have e2 : cb (drp h3) h3 85 82 = h 85 82 := by rw [cb_m (by decide), g3 85 82 (by omega), g2 85 82 (by omega)]
        rw [e1, e2]; exact b
      · have e1 : cb (drp h3) h3 65 1 = w32 (h 65 1 + 1) := by rw [cb_c (by decide)]; unfold drp; rw [up_nk (by decide), up_nk (by decide), eh3]; rfl
        have e2 : cb (drp h3) h3 85 83 = w32 (h 65 1 + 1) := by rw [cb_m (by decide), eh3]; rfl
        rw [e1, e2]
    · refine IKp_cg (fun k i d => ?_) hKp
      unfold DKp at d
      by_cases k85 : k < 85
      · rw [cb_c k85]; unfold drp; rw [up_nk (by omega), up_nk (by omega), g3 k i (by omega), g2 k i (by omega)]
      · rw [cb_m (by omega), g3 k i (by omega), g2 k i (by omega)]
    · unfold PRv at z
      by_cases k85 : k < 85
      · rw [cb_c k85]; unfold drp; rw [up_ap, if_neg (by omega), up_ap, if_neg (by omega), g3 k i (by omega), g2 k i (by omega)]
      · rw [cb_m (by omega), g3 k i (by omega), g2 k i (by omega)]
