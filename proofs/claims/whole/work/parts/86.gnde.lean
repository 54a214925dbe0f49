def PPk (k : Nat) (i : Int) : Prop := k = 1 ∧ i = 3 ∨ k = 11 ∨ k = 85 ∧ i = 7 ∨ k = 88
theorem op_packet {G : GG} {h : Hp} {a : Int} (hPi : IPi h) (hO : IO h) : BOTH G m_X11_packet m_X12_packet [iv a] h (fun h' => IO h' ∧ FR PPk h h') := by
  obtain ⟨i1, i2, i3, i4, i5⟩ := id hPi
  have q7 : ∀ g, cb h g 65 7 = h 65 7 := fun g => rfl
  have q87 : ∀ g, cb g h 85 87 = h 65 7 := fun g => i4.1
  by_cases c : 0 ≤ a ∧ a < h 65 7
  · obtain ⟨s4, s142, sj⟩ := i5 a c.1 c.2
    obtain ⟨s, hs⟩ : ∃ s, s = 5 + h 67 (9 * a + 4) := ⟨_, rfl⟩
    rw [← hs] at s142 sj
    have go : ∀ (d n : Nat) (f : Int → Int), (n : Int) + d = s → (∀ j : Int, 0 ≤ j → j < n → f j = h 141 (9 * a + j)) → ∃ f', (∀ j : Int, 0 ≤ j → j < s → f' j = h 141 (9 * a + j)) ∧ MZ G m_X12_packet 23 [(0, rv 85), (1, iv a), (2, iv (n : Int))] (row (up h 85 7 n) 88 f) s (row (up h 85 7 s) 88 f') := by
      intro d
      induction d with
      | zero =>
        intro n f hn x
        have e : (n : Int) = s := by omega
        rw [e] at x ⊢
        refine ⟨f, x, fun g Φ K => U_X12_packet_85_23 ⟨by omega, fun _ => ?_, fun z => ?_⟩⟩
        · have e7 : cb g (row (up h 85 7 s) 88 f) 85 7 = s := rfl
          rw [e7]; exact K
        · have e142 : cb g (row (up h 85 7 s) 88 f) 142 a = s := s142
          rw [e142] at z; omega
      | succ d ih =>
        intro n f hn x
        obtain ⟨f', p, q⟩ := ih (n + 1) (put f n (h 141 (9 * a + n))) (by omega) (fun j j0 j1 => by
          unfold put
          by_cases z : j = n
          · subst z; rw [if_pos rfl]
          · rw [if_neg z]; exact x j j0 (by omega))
        refine ⟨f', p, fun g Φ K => U_X12_packet_85_23 ⟨by omega, fun z => ?_, fun _ => ?_⟩⟩
        · have e142 : cb g (row (up h 85 7 n) 88 f) 142 a = s := s142
          rw [e142] at z; omega
        · have e141 : cb g (row (up h 85 7 n) 88 f) 141 (9 * a + n) = h 141 (9 * a + n) := rfl
          have e7 : cb g (row (up h 85 7 n) 88 f) 85 7 = n := rfl
          rw [w32_of (z := 9 * a) (by omega) (by omega), w32_of (z := 9 * a + (n : Int)) (by omega) (by omega), w32_of (z := (n : Int) + 1) (by omega) (by omega), e141]
          refine ⟨by omega, Call.of rfl (Nat.le_of_ble_eq_true rfl) rfl (U_X12_add_85_0 ?_)⟩
          rw [e7, w32_of (z := (n : Int) + 1) (by omega) (by omega)]
          refine ⟨fun z => absurd z (by omega), fun _ => ⟨by omega, ?_⟩⟩
          have t := q g Φ K
          rw [Int.natCast_add, ← up_row, cb_um (by decide)] at t
          have eh : up (up (cb g (row (up h 85 7 n) 88 f)) 88 n (h 141 (9 * a + n))) 85 7 ((n : Int) + 1) = up (cb g (row (up h 85 7 ((n : Int) + ((1 : Nat) : Int))) 88 f)) 88 n (h 141 (9 * a + n)) := by
            rw [up_comm (by decide), cb_rm (by decide), cb_rm (by decide), cb_um (by decide), cb_um (by decide), up_row_ne (by decide), up_up]; rfl
          rw [eh]; exact t
    obtain ⟨f', p, q⟩ := go s.toNat 0 (h 88) (by omega) (fun j x y => by omega)
    obtain ⟨h', eh'⟩ : ∃ h', h' = cb (up (cpy h 67 (a * 9) 11 0 s) 1 3 s) (row (up h 85 7 s) 88 f') := ⟨_, rfl⟩
    refine BOTH.of (r := s) (h' := h') (fun g Φ K => ?_) (fun g Φ K => ?_) ⟨⟨?_, ?_, ?_, fun j j0 j1 => ?_⟩, ?_⟩
    · rw [eh', cb_l, cb_uc (by decide), ← cb_cpyc (by decide) (by decide)] at K
      refine Call.of rfl (Nat.le_of_ble_eq_true rfl) rfl (U_X11_packet_1_0 ?_)
      rw [q7, w32_of (z := h 65 7 - 1) (by omega) (by omega)]
      refine ⟨fun z => absurd z (by omega), fun _ => ⟨fun z => absurd z (by omega), fun _ => Call.of rfl (Nat.le_of_ble_eq_true rfl) rfl (U_X2_writePacket_65_11_0 ?_)⟩⟩
      have e4 : a * 9 + 5 - 1 = 9 * a + 4 := by omega
      have q67 : cb h g 67 (9 * a + 4) = h 67 (9 * a + 4) := rfl
      rw [w32_of (z := a * 9) (by omega) (by omega), w32_of (z := a * 9 + 5) (by omega) (by omega), w32_of (z := a * 9 + 5 - 1) (by omega) (by omega), e4, q67, ← hs, w32_of (z := s) (by omega) (by omega)]
      exact ⟨by omega, by omega, K⟩
    · rw [eh', cb_r] at K
      refine Call.of rfl (Nat.le_of_ble_eq_true rfl) rfl (U_X12_packet_85_0 ?_)
      rw [q87, w32_of (z := h 65 7 - 1) (by omega) (by omega)]
      refine ⟨fun z => absurd z (by omega), fun _ => ⟨fun z => absurd z (by omega), fun _ => ?_⟩⟩
      have t := q g Φ K
      have e88 : h 88 = (up h 85 7 ((0 : Nat) : Int)) 88 := rfl
      rw [e88, row_id, cb_um (by decide)] at t
      exact t
    · rw [eh']; show 0 ≤ s; omega
    · rw [eh']; show s ≤ 288; omega
    · rw [eh']; rfl
    · have e1 : h' 1 3 = s := by rw [eh']; rfl
      rw [e1] at j1
      have e2 : h' 88 j = f' j := by rw [eh', cb_m (by decide), row_eq]
      have e3 : h' 11 j = h 67 (a * 9 + (j - 0)) := by
        rw [eh', cb_c (by decide), up_nk (by decide)]; unfold cpy; rw [if_pos (by omega)]
      rw [e2, e3, p j j0 j1, sj j j0 j1]; congr 1; omega
    · rw [eh']
      refine FR_cb ?_ ?_
      · exact (FR.rf.cpy (fun i => by unfold PPk; omega)).up (by unfold PPk; omega)
      · exact (FR.rf.up (by unfold PPk; omega)).row (fun i => by unfold PPk; omega)
  · refine BOTH.of (r := -1) (h' := h) (fun g Φ K => ?_) (fun g Φ K => ?_) ⟨hO, FR.rf⟩
    · refine Call.of rfl (Nat.le_of_ble_eq_true rfl) rfl (U_X11_packet_1_0 ?_)
      rw [q7, w32_of (z := h 65 7 - 1) (by omega) (by omega)]
      exact ⟨fun _ => K, fun _ => ⟨fun _ => K, fun z => absurd z (by omega)⟩⟩
    · refine Call.of rfl (Nat.le_of_ble_eq_true rfl) rfl (U_X12_packet_85_0 ?_)
      rw [q87, w32_of (z := h 65 7 - 1) (by omega) (by omega)]
      exact ⟨fun _ => K, fun _ => ⟨fun _ => K, fun z => absurd z (by omega)⟩⟩
