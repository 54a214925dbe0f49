/-! emitting: the V's are read, the packet labelled and recorded -/
theorem up_id {h : Hp} {k : Nat} {i v : Int} (e : h k i = v) : up h k i v = h := by
  funext a b; unfold up; split
  · rename_i z; rw [z.1, z.2]; exact e.symm
  · rfl
theorem up_up {h : Hp} {k : Nat} {i v w : Int} : up (up h k i v) k i w = up h k i w := by
  funext a b; unfold up; split <;> rfl
theorem up_comm {h : Hp} {k k' : Nat} {i i' v w : Int} (e : k ≠ k') : up (up h k i v) k' i' w = up (up h k' i' w) k i v := by
  funext a b; unfold up
  by_cases q : a = k' ∧ b = i'
  · rw [if_pos q, if_neg (fun z => e (z.1.symm.trans q.1)), if_pos q]
  · rw [if_neg q, if_neg q]
theorem sp_valueV {G : GG} {h : Hp} {Φ : Int → Hp → Prop} {k : Int} (hk : 0 ≤ k ∧ k < 64) (hw : isW (h 97 k)) (K : Φ (readI (h 97 k)) (up h 85 57 (if h 85 57 ≠ 0 ∨ readI (h 97 k) = -1 then 1 else 0))) : Call G m_X12_valueOf [rv 85, iv (9 + k)] h Φ := by
  refine Call.of rfl (Nat.le_of_ble_eq_true rfl) rfl (U_X12_valueOf_85_0 ?_)
  refine ⟨fun z => absurd z (by omega), fun z => absurd z (by omega), fun z => absurd z (by omega), fun z => absurd z (by omega), fun z => absurd z (by omega), fun z => absurd z (by omega), fun z => absurd z (by omega), fun z => absurd z (by omega), fun z => absurd z (by omega), fun _ => ?_⟩
  have e : 9 + k - 9 = k := by omega
  rw [w32_of (z := 9 + k - 9) (by omega) (by omega), e]
  refine sp_read hk hw ⟨fun z => ?_, fun z => ⟨fun q => ?_, fun q => ?_⟩⟩
  · rw [if_pos (Or.inl z)] at K; exact K
  · rw [if_neg (by simp only [z, q, ne_eq, not_true_eq_false, or_self, not_false_eq_true])] at K; exact K
  · rw [if_pos (Or.inr q)] at K; exact K
theorem cr_read {G : GG} {h : Hp} {n : Int} (hn : 0 ≤ n ∧ n < 16) (hw : ∀ i, 0 ≤ i → i < 64 → isW (h 25 i)) :
    ∀ (d i : Nat) (f : Int → Int), (i : Int) + d = n % 4 + 1 → (∀ j : Int, 0 ≤ j → j < i → f (5 + j) = byteI (h 25 j)) →
      ((∀ j, 0 ≤ j → j < n % 4 + 1 → byteI (h 25 j) ≠ -3) → ∃ f', (∀ j : Int, 0 ≤ j → j < n % 4 + 1 → f' (5 + j) = byteI (h 25 j)) ∧ CR G m_X0_record 2 [(0, rv 34), (1, iv n), (2, iv (i : Int))] (row h 31 f) 2 [(0, rv 34), (1, iv n), (2, iv (n % 4 + 1))] (row h 31 f')) ∧
      ((∃ j, (i : Int) ≤ j ∧ j < n % 4 + 1 ∧ byteI (h 25 j) = -3) → ∃ f', CZ G m_X0_record 2 [(0, rv 34), (1, iv n), (2, iv (i : Int))] (row h 31 f) 0 (row h 31 f')) := by
  have em : n.tmod 4 = n % 4 := Int.tmod_eq_emod_of_nonneg hn.1
  intro d
  induction d with
  | zero =>
    intro i f hi hf
    have e : (i : Int) = n % 4 + 1 := by omega
    refine ⟨fun _ => ⟨f, fun j a b => hf j a (by omega), by rw [e]; exact CR.rf⟩, fun ⟨j, a, b, _⟩ => by omega⟩
  | succ d ih =>
    intro i f hi hf
    have rd : ∀ g, (cb (row h 31 f) g) 25 i = h 25 i := fun g => rfl
    by_cases c : byteI (h 25 i) = -3
    · refine ⟨fun q => absurd c (q i (by omega) (by omega)), fun _ => ⟨f, fun g Φ K => U_X0_record_34_2 ⟨fun z => absurd z (by rw [em]; omega), fun _ => ?_⟩⟩⟩
      refine sp_byteOf (h := cb (row h 31 f) g) (by omega) (hw i (by omega) (by omega)) ?_
      rw [rd]
      exact ⟨fun z => absurd c z, fun _ => K⟩
    · have st : CR G m_X0_record 2 [(0, rv 34), (1, iv n), (2, iv (i : Int))] (row h 31 f) 2 [(0, rv 34), (1, iv n), (2, iv ((i + 1 : Nat) : Int))] (row h 31 (put f (5 + i) (byteI (h 25 i)))) := fun g Φ K => by
        refine U_X0_record_34_2 ⟨fun z => absurd z (by rw [em]; omega), fun _ => ?_⟩
        refine sp_byteOf (h := cb (row h 31 f) g) (by omega) (hw i (by omega) (by omega)) ?_
        rw [rd]
        refine ⟨fun _ => ?_, fun z => absurd z c⟩
        rw [w32_of (z := 5 + (i : Int)) (by omega) (by omega), w32_of (z := (i : Int) + 1) (by omega) (by omega)]
        rw [← up_row, cb_uc (by omega), Int.natCast_add] at K
        exact ⟨by omega, K⟩
      obtain ⟨a, b⟩ := ih (i + 1) (put f (5 + i) (byteI (h 25 i))) (by omega) (fun j j0 j1 => by
        unfold put
        by_cases z : j = i
        · subst z; rw [if_pos rfl]
        · rw [if_neg (by omega)]; exact hf j j0 (by omega))
      refine ⟨fun q => ?_, fun ⟨j, j0, j1, j2⟩ => ?_⟩
      · obtain ⟨f', x, y⟩ := a q
        exact ⟨f', x, st.tr y⟩
      · obtain ⟨f', x⟩ := b ⟨j, by
          have : j ≠ i := fun z => c (by rw [← z]; exact j2)
          omega, j1, j2⟩
        exact ⟨f', st.z x⟩
theorem mr_read {G : GG} {h : Hp} {n : Int} (hn : 0 ≤ n ∧ n < 16) (hw : ∀ i, 0 ≤ i → i < 64 → isW (h 97 i)) :
    ∀ (d i : Nat) (f : Int → Int) (b : Int), (i : Int) + d = n % 4 + 1 → (∀ j : Int, 0 ≤ j → j < i → f (5 + j) = readI (h 97 j)) → (b = 0 ∨ b = 1) →
      ∃ f' b', (∀ j : Int, 0 ≤ j → j < n % 4 + 1 → f' (5 + j) = readI (h 97 j)) ∧ (b' = 0 ∨ b' = 1) ∧ (b' = 1 ↔ b = 1 ∨ ∃ j, (i : Int) ≤ j ∧ j < n % 4 + 1 ∧ readI (h 97 j) = -1) ∧ MR G m_X12_emit 8 [(0, rv 85), (1, iv n), (2, iv (n % 4 + 1)), (3, iv (i : Int))] (up (row h 137 f) 85 57 b) 8 [(0, rv 85), (1, iv n), (2, iv (n % 4 + 1)), (3, iv (n % 4 + 1))] (up (row h 137 f') 85 57 b') := by
  intro d
  induction d with
  | zero =>
    intro i f b hi hf hb
    have e : (i : Int) = n % 4 + 1 := by omega
    refine ⟨f, b, fun j j0 j1 => hf j j0 (by omega), hb, ⟨Or.inl, fun z => z.elim id (fun ⟨j, a, b, _⟩ => by omega)⟩, by rw [e]; exact MR.rf⟩
  | succ d ih =>
    intro i f b hi hf hb
    obtain ⟨f', b', x, y, z, w⟩ := ih (i + 1) (put f (5 + i) (readI (h 97 i))) (if b ≠ 0 ∨ readI (h 97 i) = -1 then 1 else 0) (by omega) (fun j j0 j1 => by
        unfold put
        by_cases z : j = i
        · subst z; rw [if_pos rfl]
        · rw [if_neg (by omega)]; exact hf j j0 (by omega)) (by split <;> simp)
    refine ⟨f', b', x, y, ?_, MR.tr ?_ w⟩
    · rw [z]
      constructor
      · rintro (q | ⟨j, j0, j1, j2⟩)
        · by_cases c : b ≠ 0 ∨ readI (h 97 i) = -1
          · rcases c with c | c
            · exact Or.inl (hb.resolve_left c)
            · exact Or.inr ⟨i, by omega, by omega, c⟩
          · rw [if_neg c] at q; omega
        · exact Or.inr ⟨j, by omega, j1, j2⟩
      · rintro (q | ⟨j, j0, j1, j2⟩)
        · left; rw [if_pos (Or.inl (by omega))]
        · by_cases c : j = i
          · left; rw [if_pos (Or.inr (by rw [← c]; exact j2))]
          · exact Or.inr ⟨j, by omega, j1, j2⟩
    · intro g Φ K
      refine U_X12_emit_85_8 ⟨fun z => absurd z (by omega), fun _ => ?_⟩
      rw [w32_of (z := 9 + (i : Int)) (by omega) (by omega)]
      refine sp_valueV (h := cb g (up (row h 137 f) 85 57 b)) (by omega) (hw i (by omega) (by omega)) ?_
      have e1 : cb g (up (row h 137 f) 85 57 b) 97 i = h 97 i := rfl
      have e2 : cb g (up (row h 137 f) 85 57 b) 85 57 = b := rfl
      rw [e1, e2, w32_of (z := 5 + (i : Int)) (by omega) (by omega), w32_of (z := (i : Int) + 1) (by omega) (by omega)]
      refine ⟨by omega, ?_⟩
      rw [← up_row, Int.natCast_add] at K
      have eh : cb g (up (up (row h 137 f) 137 (5 + i) (readI (h 97 i))) 85 57 (if b ≠ 0 ∨ readI (h 97 i) = -1 then 1 else 0)) = up (up (cb g (up (row h 137 f) 85 57 b)) 85 57 (if b ≠ 0 ∨ readI (h 97 i) = -1 then 1 else 0)) 137 (5 + i) (readI (h 97 i)) := by
        rw [cb_um (by omega), cb_um (by omega), cb_um (by omega), up_up, up_comm (by omega)]
      rw [eh] at K
      exact K
def IKi (h : Hp) : Prop := ∀ k, 0 ≤ k → k < 16 → h 135 k = h 30 k ∧ 0 ≤ h 30 k ∧ h 30 k ≤ 255
def IRe (h : Hp) : Prop := ∃ l, RC h l
def PEm (k : Nat) (i : Int) : Prop := k = 26 ∧ i = 3 ∨ k = 27 ∨ k = 28 ∨ k = 29 ∨ k = 30 ∨ k = 31 ∨ k = 34 ∧ i = 5 ∨ k = 85 ∧ (i = 22 ∨ i = 57 ∨ i = 72) ∨ k = 133 ∨ k = 134 ∨ k = 135 ∨ k = 137
theorem RC_cg {h h' : Hp} {l : List Pk} (e : ∀ k i, (k = 26 ∧ i = 3 ∨ k = 27 ∨ k = 28 ∨ k = 29 ∨ k = 85 ∧ i = 72 ∨ k = 133 ∨ k = 134) → h' k i = h k i) (R : RC h l) : RC h' l := by
  obtain ⟨hp, tb, hm, hC⟩ := R
  refine ⟨hp, tb, ⟨by rw [e 85 72 (by omega)]; exact hm.1, fun i hi => ⟨by rw [e 134 i (by omega)]; exact (hm.2 i hi).1, fun j a b => by rw [e 133 _ (by omega)]; exact (hm.2 i hi).2 j a b⟩⟩, by rw [e 26 3 (by omega)]; exact hC.1, fun c c0 c4 => ?_⟩
  obtain ⟨a, b, d⟩ := hC.2 c c0 c4
  exact ⟨by rw [e 29 c (by omega)]; exact a, by rw [e 28 c (by omega)]; exact b, fun t ht j j0 j1 => by rw [e 28 c (by omega), e 27 _ (by omega)]; exact d t ht j j0 j1⟩
theorem sim_emit {G : GG} {h : Hp} {n : Int} (hn : 0 ≤ n ∧ n < 16) (hW : IW h) (hR : IRe h) (hKi : IKi h) (hK : h 85 10 = h 34 4) (hc : 0 ≤ h 34 4 ∧ h 34 4 ≤ 1000000) (hE : h 85 22 = h 34 5) (he : 0 ≤ h 34 5 ∧ h 34 5 ≤ 1000000000) (hl : h 85 57 = 0) :
    ∃ h' r e, CE G m_X0_record [rv 34, iv n] h r h' ∧ ME G m_X12_emit [rv 85, iv n] h 0 h' ∧ IRe h' ∧ IKi h' ∧ FR PEm h h' ∧ (r = 1 ∧ h' 85 57 = 0 ∨ r = 0 ∧ h' 85 57 = 1 ∧ e = 0) ∧ (0 ≤ e ∧ e ≤ 2) ∧ h' 34 5 = h 34 5 + e ∧ h' 85 22 = h 85 22 + e := by
  obtain ⟨⟨m1, m2⟩, hw⟩ := id hW
  have em : n.tmod 4 = n % 4 := Int.tmod_eq_emod_of_nonneg hn.1
  have w1 : ∀ i, 0 ≤ i → i < 64 → isW (h 25 i) := fun i a b => (hw i a b).1
  have w2 : ∀ i, 0 ≤ i → i < 64 → isW (h 97 i) := fun i a b => by rw [(hw i a b).2]; exact (hw i a b).1
  have lostq : ∀ j, 0 ≤ j → j < 64 → (byteI (h 25 j) = -3 ↔ readI (h 97 j) = -1) ∧ (byteI (h 25 j) ≠ -3 → byteI (h 25 j) = readI (h 97 j) ∧ 0 ≤ byteI (h 25 j) ∧ byteI (h 25 j) ≤ 255) := fun j a b => by
    have := hw j a b
    rw [this.2]
    rcases rd_cases this.1 with ⟨q1, q2, q3⟩ | ⟨q1, q2, q3, q4⟩
    · rw [q1, q2]; simp
    · rw [q3]
      exact ⟨⟨fun z => by omega, fun z => by omega⟩, fun _ => ⟨rfl, q1, by omega⟩⟩
  obtain ⟨a, b⟩ := cr_read (G := G) hn w1 (n % 4 + 1).toNat 0 (h 31) (by omega) (fun j a b => by omega)
  obtain ⟨f2, b', x, y, z, w⟩ := mr_read (G := G) hn w2 (n % 4 + 1).toNat 0 (h 137) 0 (by omega) (fun j a b => by omega) (Or.inl rfl)
  have er : up (row h 137 (h 137)) 85 57 0 = h := by rw [row_id, up_id hl]
  rw [er] at w
  have me0 : ∀ (g : Hp) (Φ : Int → Hp → Prop), AT G m_X12_emit 8 [(0, rv 85), (1, iv n), (2, iv (n % 4 + 1)), (3, iv (n % 4 + 1))] [] (cb g (up (row h 137 f2) 85 57 b')) Φ → Call G m_X12_emit [rv 85, iv n] (cb g h) Φ := fun g Φ K => by
    refine Call.of rfl (Nat.le_of_ble_eq_true rfl) rfl (U_X12_emit_85_0 ?_)
    rw [em, w32_of (z := n % 4 + 1) (by omega) (by omega)]
    exact w g Φ K
  by_cases c : ∃ j, ((0 : Nat) : Int) ≤ j ∧ j < n % 4 + 1 ∧ readI (h 97 j) = -1
  · have e1 : b' = 1 := z.mpr (Or.inr c)
    obtain ⟨j, j0, j1, j2⟩ := c
    obtain ⟨f1, cz⟩ := b ⟨j, j0, j1, ((lostq j (by omega) (by omega)).1).mpr j2⟩
    rw [row_id] at cz
    refine ⟨up (row (row h 31 f1) 137 f2) 85 57 1, 0, 0, ?_, ?_, ?_, fun k a b => hKi k a b, ?_, Or.inr ⟨rfl, up_at, rfl⟩, by omega, ?_, ?_⟩
    · intro g Φ K
      rw [cb_uc' (by omega), cb_rc' (by omega)] at K
      exact Call.of rfl (Nat.le_of_ble_eq_true rfl) rfl (U_X0_record_34_0 (cz g Φ K))
    · intro g Φ K
      rw [cb_um (by omega), cb_rm (by omega), cb_rm' (by omega)] at K
      refine me0 g Φ (U_X12_emit_85_8 ⟨fun _ => ⟨fun q => ?_, fun _ => ?_⟩, fun q => absurd q (by omega)⟩)
      · have e : cb g (up (row h 137 f2) 85 57 b') 85 57 = b' := rfl
        rw [e] at q; omega
      · rw [e1, cb_um (by omega), cb_rm (by omega)]; exact K
    · obtain ⟨l, R⟩ := hR
      exact ⟨l, RC_cg (fun k i q => by
        unfold up row
        rw [if_neg (by omega), if_neg (by omega), if_neg (by omega)]) R⟩
    · intro k i q
      unfold PEm at q
      unfold up row
      rw [if_neg (by omega), if_neg (by omega), if_neg (by omega)]
    · show h 34 5 = _; omega
    · show h 85 22 = _; omega
  · have e0 : b' = 0 := by
      rcases y with y | y
      · exact y
      · rcases z.mp y with q | q
        · omega
        · exact absurd q c
    have good : ∀ j, 0 ≤ j → j < n % 4 + 1 → byteI (h 25 j) ≠ -3 := fun j j0 j1 q => c ⟨j, j0, j1, ((lostq j j0 (by omega)).1).mp q⟩
    obtain ⟨f1, xf, cr⟩ := a good
    rw [row_id] at cr
    obtain ⟨hkc1, hkc2, hkc3⟩ := hKi n hn.1 hn.2
    -- the packet
    obtain ⟨p, hp⟩ : ∃ p : Pk, p = fun j => if j = 0 then 10 + n else if j = 1 then h 30 n else if j = 2 then band (bshr (h 34 4) 8) 255 else if j = 3 then band (h 34 4) 255 else if j = 4 then n % 4 + 1 else f1 j := ⟨_, rfl⟩
    have p0 : p 0 = 10 + n := by rw [hp]; rfl
    have p4 : p 4 = n % 4 + 1 := by rw [hp]; rfl
    have psz_ : psz p = 5 + (n % 4 + 1) := by unfold psz; rw [p4]
    have f1b : ∀ j, 5 ≤ j → j < psz p → f1 j = byteI (h 25 (j - 5)) ∧ f2 j = f1 j ∧ 0 ≤ f1 j ∧ f1 j ≤ 255 := fun j j0 j1 => by
      have q := xf (j - 5) (by omega) (by omega)
      have q2 := x (j - 5) (by omega) (by omega)
      have e : 5 + (j - 5) = j := by omega
      rw [e] at q q2
      have s := (lostq (j - 5) (by omega) (by omega)).2 (good (j - 5) (by omega) (by omega))
      rw [q, q2, s.1]
      refine ⟨rfl, rfl, ?_, ?_⟩
      · rw [← s.1]; exact s.2.1
      · rw [← s.1]; exact s.2.2
    have po : pok p := by
      refine ⟨by rw [p0]; omega, by rw [p4]; omega, fun j j0 j1 => ?_⟩
      by_cases z5 : 5 ≤ j
      · have := f1b j z5 j1
        rw [hp]
        simp only [show ¬ j = 0 by omega, show ¬ j = 1 by omega, show ¬ j = 2 by omega, show ¬ j = 3 by omega, show ¬ j = 4 by omega, if_false]
        omega
      · rw [hp]; simp only
        rw [band_255x, band_255x]
        split
        · omega
        · split
          · omega
          · split
            · omega
            · split
              · omega
              · split
                · omega
                · omega
    have pcp : pcl p = n / 4 := by unfold pcl; rw [p0]; omega
    obtain ⟨v, hv⟩ : ∃ v, v = band (h 30 n + 1) 255 := ⟨_, rfl⟩
    have vb : 0 ≤ v ∧ v ≤ 255 := by rw [hv, band_255x]; omega
    -- behind the label
    obtain ⟨h1, eh1⟩ : ∃ h1, h1 = cb (up (row h 31 (put (put (put (put (put f1 0 (10 + n)) 1 (h 30 n)) 2 (band (bshr (h 34 4) 8) 255)) 3 (band (h 34 4) 255)) 4 (n % 4 + 1))) 30 n v) (up (row h 137 (put (put (put (put (put f2 0 (10 + n)) 1 (h 30 n)) 2 (band (bshr (h 34 4) 8) 255)) 3 (band (h 34 4) 255)) 4 (n % 4 + 1))) 135 n v) := ⟨_, rfl⟩
    have fr1 : ∀ k i, ¬ (k = 30 ∨ k = 31 ∨ k = 135 ∨ k = 137) → h1 k i = h k i := fun k i q => by
      rw [eh1]; unfold cb up row
      split
      · rw [if_neg (by omega), if_neg (by omega)]
      · rw [if_neg (by omega), if_neg (by omega)]
    have h31 : ∀ j, 0 ≤ j → j < psz p → h1 31 j = p j := fun j j0 j1 => by
      rw [eh1, cb_c (by omega), up_nk (by omega), row_eq, hp]
      unfold put
      by_cases z0 : j = 0
      · subst z0; rfl
      by_cases z1 : j = 1
      · subst z1; rfl
      by_cases z2 : j = 2
      · subst z2; rfl
      by_cases z3 : j = 3
      · subst z3; rfl
      by_cases z4 : j = 4
      · subst z4; rfl
      simp only [z0, z1, z2, z3, z4, if_false]
    have h137 : ∀ j, 0 ≤ j → j < psz p → h1 137 j = p j := fun j j0 j1 => by
      rw [eh1, cb_m (by omega), up_nk (by omega), row_eq, hp]
      unfold put
      by_cases z0 : j = 0
      · subst z0; rfl
      by_cases z1 : j = 1
      · subst z1; rfl
      by_cases z2 : j = 2
      · subst z2; rfl
      by_cases z3 : j = 3
      · subst z3; rfl
      by_cases z4 : j = 4
      · subst z4; rfl
      simp only [z0, z1, z2, z3, z4, if_false]
      exact (f1b j (by omega) j1).2.1
    obtain ⟨l, R⟩ := hR
    have R1 : RC h1 l := RC_cg (fun k i q => fr1 k i (by omega)) R
    obtain ⟨h', r, l', cz, mz, R', fr, ev, b1, b2⟩ := sim_rec (G := G) po hn pcp 2 0 (by omega) h1 l R1 (by have := R.2.1; omega) h31 h137 (by rw [fr1 85 22 (by omega)]; omega)
    have e45 : h' 34 5 = h 34 5 := by rw [fr 34 5 (by unfold PRc; omega), fr1 34 5 (by omega)]
    refine ⟨up h' 34 5 (h 34 5 + r), 1, r, ?_, ?_, ?_, ?_, ?_, Or.inl ⟨rfl, ?_⟩, by omega, up_at, ?_⟩
    · intro g Φ K
      rw [cb_uc (by omega)] at K
      refine Call.of rfl (Nat.le_of_ble_eq_true rfl) rfl (U_X0_record_34_0 (cr g Φ (U_X0_record_34_2 ⟨fun _ => ?_, fun q => absurd q (by rw [em]; omega)⟩)))
      refine Call.of rfl (Nat.le_of_ble_eq_true rfl) rfl (U_X4_label_26_0 ⟨hn, hn, hn, ?_⟩)
      have e4 : cb (row h 31 f1) g 34 4 = h 34 4 := rfl
      have e30 : cb (row h 31 f1) g 30 n = h 30 n := rfl
      rw [e4, e30, em, w32_of (z := 10 + n) (by omega) (by omega), w32_of (z := n % 4 + 1) (by omega) (by omega), w32_of (z := h 30 n + 1) (by omega) (by omega), ← hv]
      have q := cz g (fun r3 h4 => Φ 1 (up h4 34 5 (w32 (h 34 5 + r3)))) (by
        show Φ 1 (up (cb h' g) 34 5 (w32 (h 34 5 + r)))
        rw [w32_of (z := h 34 5 + r) (by omega) (by omega)]; exact K)
      rw [eh1, cb_l, cb_uc (by omega), ← up_row, ← up_row, ← up_row, ← up_row, ← up_row, cb_uc (by omega), cb_uc (by omega), cb_uc (by omega), cb_uc (by omega), cb_uc (by omega)] at q
      refine Call.of rfl (Nat.le_of_ble_eq_true rfl) rfl (U_X4_record_26_0 ?_)
      have s4 : up (up (up (up (up (up (cb (row h 31 f1) g) 31 0 (10 + n)) 31 1 (h 30 n)) 31 2 (band (bshr (h 34 4) 8) 255)) 31 3 (band (h 34 4) 255)) 31 4 (n % 4 + 1)) 30 n v 31 4 = n % 4 + 1 := by rw [up_nk (by omega), up_at]
      have s0 : up (up (up (up (up (up (cb (row h 31 f1) g) 31 0 (10 + n)) 31 1 (h 30 n)) 31 2 (band (bshr (h 34 4) 8) 255)) 31 3 (band (h 34 4) 255)) 31 4 (n % 4 + 1)) 30 n v 31 0 = 10 + n := by rw [up_nk (by omega), up_ni (by omega), up_ni (by omega), up_ni (by omega), up_ni (by omega), up_at]
      rw [s4, s0, w32_of (z := 5 + (n % 4 + 1)) (by omega) (by omega), w32_of (z := 10 + n - 10) (by omega) (by omega), Int.tdiv_eq_ediv_of_nonneg (by omega), w32_of (z := (10 + n - 10) / 4) (by omega) (by omega)]
      have s5 : (10 + n - 10) / 4 = pcl p := by rw [pcp]; omega
      rw [s5, ← psz_]
      exact q
    · intro g Φ K
      rw [cb_um' (by omega)] at K
      refine me0 g Φ (U_X12_emit_85_8 ⟨fun _ => ⟨fun _ => ⟨hn, hn, hn, ?_⟩, fun q => ?_⟩, fun q => absurd q (by omega)⟩)
      · have e10 : cb g (up (row h 137 f2) 85 57 b') 85 10 = h 34 4 := hK
        have e30 : cb g (up (row h 137 f2) 85 57 b') 135 n = h 30 n := hkc1
        rw [e10, e30, w32_of (z := 10 + n) (by omega) (by omega), w32_of (z := 5 + (n % 4 + 1)) (by omega) (by omega), w32_of (z := h 30 n + 1) (by omega) (by omega), ← hv, ← psz_]
        have q := mz g Φ K
        have hl2 : row h 137 f2 85 57 = 0 := hl
        rw [eh1, cb_r, cb_um (by omega), ← up_row, ← up_row, ← up_row, ← up_row, ← up_row, cb_um (by omega), cb_um (by omega), cb_um (by omega), cb_um (by omega), cb_um (by omega)] at q
        rw [e0, up_id hl2]
        exact q
      · have e : cb g (up (row h 137 f2) 85 57 b') 85 57 = b' := rfl
        exact absurd (by rw [e]; exact e0) q
    · exact ⟨l', RC_cg (fun k i q => up_ap.trans (if_neg (by omega))) R'⟩
    · intro k k0 k1
      have e1 : ∀ i, up h' 34 5 (h 34 5 + r) 30 i = h1 30 i := fun i => (up_nk (by omega)).trans (fr 30 i (by unfold PRc; omega))
      have e2 : ∀ i, up h' 34 5 (h 34 5 + r) 135 i = h1 135 i := fun i => (up_nk (by omega)).trans (fr 135 i (by unfold PRc; omega))
      rw [e1, e2, eh1, cb_c (k := 30) (by omega), cb_m (k := 135) (by omega)]
      have q := hKi k k0 k1
      by_cases zk : k = n
      · subst zk; rw [up_at, up_at]; exact ⟨rfl, vb⟩
      · rw [up_ni zk, up_ni zk, row_ne (by omega), row_ne (by omega)]; exact q
    · intro k i q
      unfold PEm at q
      rw [up_ap, if_neg (by omega), fr k i (by unfold PRc; omega), fr1 k i (by omega)]
    · rw [up_nk (by omega), fr 85 57 (by unfold PRc; omega), fr1 85 57 (by omega)]; exact hl
    · rw [up_nk (by omega), ev, fr1 85 22 (by omega)]; omega
