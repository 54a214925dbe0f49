/-! READING, writing and mending a WORD; flip, word, ground -/
def byteI (z : Int) : Int := byteN z.toNat
def readI (z : Int) : Int := readN z.toNat
def corI (z : Int) : Int := corrN z.toNat
def encI (v : Int) : Int := (encM v.toNat : Int)
def isW (z : Int) : Prop := 0 ≤ z ∧ z < 8192
theorem encI_w {v : Int} (h : 0 ≤ v ∧ v < 256) : isW (encI v) := by
  have := (enc_all v.toNat (by omega)).2
  unfold isW encI; omega
theorem rd_cases {z : Int} (hz : isW z) : (byteI z = -3 ∧ readI z = -1 ∧ corI z = -3) ∨ (0 ≤ readI z ∧ readI z < 256 ∧ byteI z = readI z ∧ corI z ≠ -3 ∧ isW (corI z) ∧ encI (readI z) = corI z) := by
  have c := chk (w := z.toNat) (by unfold isW at hz; omega)
  unfold chkW at c
  unfold byteI readI corI encI isW
  split at c
  · rename_i q
    refine Or.inl ⟨?_, of_decide_eq_true c, q⟩
    unfold byteN
    rw [if_pos q]
  · rename_i q
    obtain ⟨c1, c2, c3, c4, c5, c6⟩ := of_decide_eq_true c
    exact Or.inr ⟨c3, c4, c5, q, ⟨c1, c2⟩, c6⟩
theorem toN {z : Int} (h : 0 ≤ z) : ((z.toNat : Nat) : Int) = z := Int.toNat_of_nonneg h
theorem sp_byteOf {G : GG} {h : Hp} {Φ : Int → Hp → Prop} {x : Int} (hx : 0 ≤ x ∧ x < 64) (hz : isW (h 25 x)) (k : Φ (byteI (h 25 x)) h) : Call G m_X5_byteOf [rv 24, iv x] h Φ := by
  have hz2 := id hz
  unfold isW at hz2
  refine Call.of rfl (Nat.le_of_ble_eq_true rfl) rfl (U_X5_byteOf_24_0 ⟨fun z => absurd z (by omega), fun _ => ⟨fun z => absurd z (by omega), fun _ => ⟨hx, ?_⟩⟩⟩)
  rw [← toN hz2.1]
  refine sp_corrected (by omega) ⟨fun c => ?_, fun c => ?_⟩
  · rcases rd_cases hz with q | ⟨q1, q2, q3, q4, q5, q6⟩
    · exact absurd q.2.2 c
    · unfold isW corI at q5
      rw [← toN q5.1]
      refine sp_decoded (by omega) ?_
      unfold byteI byteN at k
      rw [if_neg c] at k
      exact k
  · unfold byteI byteN at k
    rw [if_pos c] at k
    exact k
theorem sp_read {G : GG} {h : Hp} {Φ : Int → Hp → Prop} {x : Int} (hx : 0 ≤ x ∧ x < 64) (hz : isW (h 97 x)) (k : Φ (readI (h 97 x)) h) : Call G m_X12_read [rv 85, iv x] h Φ := by
  unfold isW at hz
  refine Call.of rfl (Nat.le_of_ble_eq_true rfl) rfl (U_X12_read_85_0 ⟨hx, ?_⟩)
  unfold readI readN at k
  generalize h 97 x = z at *
  obtain ⟨w, rfl⟩ : ∃ w : Nat, z = (w : Int) := ⟨z.toNat, (toN hz.1).symm⟩
  rw [Int.toNat_natCast] at k
  have hp := pM_lt w 12 (by omega)
  refine sp_places (by omega) (sp_odd (by omega) ⟨fun c => ?_, fun c => ?_⟩)
  · rw [if_pos (by omega)] at k
    refine ⟨fun c2 => ?_, fun c2 => ?_⟩
    · rw [if_pos (by omega)] at k
      have hq : 2 ^ pM w 12 ≤ 2 ^ 12 := Nat.pow_le_pow_right (by omega) (by omega)
      have := shl_nat (x := 1) (k := pM w 12) (by omega) (by omega)
      rw [Nat.one_mul] at this
      rw [show (1 : Int) = ((1 : Nat) : Int) from rfl, this, bxor_nat (by omega) (by omega)]
      exact sp_plain (Nat.xor_lt_two_pow (n := 13) (by omega) (by omega)) k
    · rw [if_neg (by omega)] at k
      exact k
  · rw [if_neg (by omega)] at k
    refine ⟨fun c2 => ?_, fun c2 => ?_⟩
    · rw [if_pos (by omega)] at k
      exact k
    · rw [if_neg (by omega)] at k
      exact sp_plain (by omega) k
theorem sp_encM {G : GG} {h : Hp} {Φ : Int → Hp → Prop} {v : Int} (hv : 0 ≤ v ∧ v < 256) (k : Φ (encI v) h) : Call G m_X12_encoded [iv v] h Φ := by
  obtain ⟨w, rfl⟩ : ∃ w : Nat, v = (w : Int) := ⟨v.toNat, (toN hv.1).symm⟩
  unfold encI at k
  rw [Int.toNat_natCast] at k
  exact sp_encodedM (by omega) k
theorem sp_encC {G : GG} {h : Hp} {Φ : Int → Hp → Prop} {v : Int} (hv : 0 ≤ v ∧ v < 256) (k : Φ (encI v) h) : Call G m_X5_encoded [iv v] h Φ := by
  obtain ⟨w, rfl⟩ : ∃ w : Nat, v = (w : Int) := ⟨v.toNat, (toN hv.1).symm⟩
  unfold encI at k
  rw [Int.toNat_natCast, ← (enc_all w (by omega)).1] at k
  exact sp_encodedC (by omega) k
theorem sp_write {G : GG} {h : Hp} {Φ : Int → Hp → Prop} {x v : Int} (hx : 0 ≤ x ∧ x < 64) (hv : 0 ≤ v ∧ v < 256) (k : Φ 0 (up h 25 x (encI v))) : Call G m_X5_write [rv 24, iv x, iv v] h Φ :=
  Call.of rfl (Nat.le_of_ble_eq_true rfl) rfl (U_X5_write_24_0 ⟨fun z => absurd z (by omega), fun _ => ⟨fun z => absurd z (by omega), fun _ => sp_encC hv ⟨hx, k⟩⟩⟩)
/-- words alike, counts alike -/
def IW (h : Hp) : Prop := (h 85 29 = h 24 1 ∧ h 85 30 = h 24 2) ∧ ∀ i, 0 ≤ i → i < 64 → isW (h 25 i) ∧ h 97 i = h 25 i
def PW (k : Nat) (i : Int) : Prop := k = 24 ∧ (i = 1 ∨ i = 2) ∨ k = 25 ∨ k = 97 ∨ k = 85 ∧ (i = 29 ∨ i = 30)
theorem op_flip {G : GG} {h : Hp} {a b : Int} (hI : IW h) : BOTH G m_X11_flip m_X12_flip [iv a, iv b] h (fun h' => IW h' ∧ FR PW h h') := by
  have hN : IW h ∧ FR PW h h := ⟨hI, FR.rf⟩
  obtain ⟨j0, j1⟩ := id hI
  unfold BOTH
  refine Call.of rfl (Nat.le_of_ble_eq_true rfl) rfl (U_X11_flip_1_0 ?_)
  refine ⟨fun c1 => ?_, fun c1 => ⟨fun c2 => ?_, fun c2 => ⟨fun c3 => ?_, fun c3 => ⟨fun c4 => ?_, fun c4 => ⟨by omega, by omega, by omega, ?_⟩⟩⟩⟩⟩
  any_goals (refine Call.of rfl (Nat.le_of_ble_eq_true rfl) rfl (U_X12_flip_85_0 ?_); (repeat' (first | with_reducible apply And.intro | with_reducible intro _)); all_goals first | rfl | (exfalso; omega) | exact hN.1 | exact hN.2; done)
  obtain ⟨j2, j3⟩ := j1 a (by omega) (by omega)
  have hw : isW (bxor (h 25 a) (bshl 1 b)) := by
    unfold isW at *
    obtain ⟨w, e⟩ : ∃ w : Nat, h 25 a = (w : Int) := ⟨(h 25 a).toNat, (toN j2.1).symm⟩
    obtain ⟨v, rfl⟩ : ∃ v : Nat, b = (v : Int) := ⟨b.toNat, (toN c3).symm⟩
    rw [e] at j2 ⊢
    have hq : 2 ^ v ≤ 2 ^ 12 := Nat.pow_le_pow_right (by omega) (by omega)
    have := shl_nat (x := 1) (k := v) (by omega) (by omega)
    rw [Nat.one_mul] at this
    rw [show (1 : Int) = ((1 : Nat) : Int) from rfl, this, bxor_nat (by omega) (by omega)]
    have := Nat.xor_lt_two_pow (n := 13) (x := w) (y := 2 ^ v) (by omega) (by omega)
    omega
  generalize hz : bxor (h 25 a) (bshl 1 b) = z at *
  refine Call.of rfl (Nat.le_of_ble_eq_true rfl) rfl (U_X12_flip_85_0 ?_)
  refine ⟨fun z => absurd z (by omega), fun _ => ⟨fun z => absurd z (by omega), fun _ => ⟨fun z => absurd z (by omega), fun _ => ⟨fun z => absurd z (by omega), fun _ => ⟨by omega, by omega, by omega, ?_⟩⟩⟩⟩⟩
  have e : up h 25 a z 97 a = h 25 a := by simp [up]; exact j3
  rw [e, hz]
  refine ⟨rfl, ⟨?_, fun i q0 q1 => ?_⟩, FR.up (FR.up FR.rf (by simp [PW])) (by simp [PW])⟩
  · simp [up]; exact j0
  · simp only [up]
    by_cases q : i = a
    · subst q; simp; exact hw
    · simp [q]; exact j1 i q0 q1
theorem op_word {G : GG} {h : Hp} {a b : Int} (hI : IW h) : BOTH G m_X11_word m_X12_word [iv a, iv b] h (fun h' => h' = h) := by
  obtain ⟨j0, j1⟩ := id hI
  unfold BOTH
  refine Call.of rfl (Nat.le_of_ble_eq_true rfl) rfl (U_X11_word_1_0 ?_)
  refine ⟨fun c1 => ?_, fun c1 => ⟨fun c2 => ?_, fun c2 => ⟨fun c3 => ?_, fun c3 => ⟨fun c4 => ?_, fun c4 => ⟨fun c5 => ?_, fun c5 => ⟨by omega, ?_⟩⟩⟩⟩⟩⟩
  any_goals (refine Call.of rfl (Nat.le_of_ble_eq_true rfl) rfl (U_X12_word_85_0 ?_); (repeat' (first | with_reducible apply And.intro | with_reducible intro _)); all_goals first | rfl | (exfalso; omega); done)
  all_goals obtain ⟨j2, j3⟩ := j1 a (by omega) (by omega)
  · refine sp_byteOf (by omega) j2 ?_
    refine Call.of rfl (Nat.le_of_ble_eq_true rfl) rfl (U_X12_word_85_0 ?_)
    refine ⟨fun z => absurd z (by omega), fun _ => ⟨fun z => absurd z (by omega), fun _ => ⟨fun z => absurd z (by omega), fun _ => ⟨fun z => absurd z (by omega), fun _ => ⟨fun _ => ?_, fun z => absurd z (by omega)⟩⟩⟩⟩⟩
    refine sp_read (by omega) (by rw [j3]; exact j2) ?_
    rw [j3]
    rcases rd_cases j2 with q | q
    · exact ⟨fun z => absurd q.2.1 z, fun _ => ⟨q.1, rfl⟩⟩
    · refine ⟨fun _ => sp_read (by omega) (by rw [j3]; exact j2) ⟨?_, rfl⟩, fun z => ?_⟩
      · rw [j3]; exact q.2.2.1
      · exact absurd z (by omega)
  · refine Call.of rfl (Nat.le_of_ble_eq_true rfl) rfl (U_X12_word_85_0 ?_)
    refine ⟨fun z => absurd z (by omega), fun _ => ⟨fun z => absurd z (by omega), fun _ => ⟨fun z => absurd z (by omega), fun _ => ⟨fun z => absurd z (by omega), fun _ => ⟨fun z => absurd c5 z, fun _ => ⟨by omega, j3.symm, rfl⟩⟩⟩⟩⟩⟩
def IGr (h : Hp) : Prop := h 85 82 = h 65 0 ∧ h 85 83 = h 65 1 ∧ h 85 87 = h 65 7 ∧ h 85 88 = h 65 9 ∧ h 85 89 = h 65 10 ∧ h 85 90 = h 65 11
theorem op_ground {G : GG} {h : Hp} {a : Int} (hI : IGr h) : BOTH G m_X11_ground m_X12_ground [iv a] h (fun h' => h' = h) := by
  obtain ⟨j0, j1, j2, j3, j4, j5⟩ := id hI
  unfold BOTH
  refine Call.of rfl (Nat.le_of_ble_eq_true rfl) rfl (U_X11_ground_1_0 ?_)
  repeat' (first | with_reducible apply And.intro | with_reducible intro _)
  all_goals refine Call.of rfl (Nat.le_of_ble_eq_true rfl) rfl (U_X12_ground_85_0 ?_)
  all_goals repeat' (first | with_reducible apply And.intro | with_reducible intro _)
  all_goals first | rfl | (exfalso; omega) | omega | (rw [j3, j4])
