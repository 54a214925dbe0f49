/-! monitor -/
section
variable {G : GG} {b : Int → Int} {n x : Int} {s : PS} {hc hm : Hp}
theorem ce_cond (T : TX b n) (Cc : TXc hc b n) (S : SV n s) (hx : 0 ≤ x ∧ x < 30) : CE G m_X3_readCondition [rv 4, rv 2, iv x] (sT hc s) 0 (sT (ln5 hc x (fcC b s (hc 5 x, hc 6 x, hc 7 x, hc 8 x, hc 9 x))) (cnI b s).1) := fun g Φ K => by
  rw [cb_sT, cb_ln5] at K
  have C' : TXc (cb hc g) b n := Cc
  have t := c_cond (G := G) (h := cb hc g) (F := (hc 5 x, hc 6 x, hc 7 x, hc 8 x, hc 9 x)) T C' S hx K
  have e : ln5 (cb hc g) x (hc 5 x, hc 6 x, hc 7 x, hc 8 x, hc 9 x) = cb hc g := ln5_id (h := cb hc g) (x := x)
  rw [e] at t
  rw [cb_sT]; exact t
theorem me_cond (T : TX b n) (Cm : TXm hm b n) (S : SV n s) : ME G m_X12_condition [rv 85, iv 240] (sM hm s) 0 (sM (ln6 hm 240 (fcM b s (hm 103 240, hm 104 240, hm 105 240, hm 106 240, hm 107 240, hm 108 240))) (cnI b s).1) := fun g Φ K => by
  rw [cb_sM, cb_ln6] at K
  have C' : TXm (cb g hm) b n := Cm
  have t := m_cond (G := G) (h := cb g hm) (M := (hm 103 240, hm 104 240, hm 105 240, hm 106 240, hm 107 240, hm 108 240)) T C' S K
  have e : ln6 (cb g hm) 240 (hm 103 240, hm 104 240, hm 105 240, hm 106 240, hm 107 240, hm 108 240) = cb g hm := ln6_id (h := cb g hm) (x := 240)
  rw [e] at t
  rw [cb_sM]; exact t
end
/-- rows 103 .. 108 copied from place p to place j -/
def cpl (H : Hp) (p j : Int) : Hp := fun k i => if (103 ≤ k ∧ k ≤ 108) ∧ i = j then H k p else H k i
theorem cpl_o {H : Hp} {p j i : Int} {k : Nat} (z : ¬ ((103 ≤ k ∧ k ≤ 108) ∧ i = j)) : cpl H p j k i = H k i := if_neg z
theorem cpl_i {H : Hp} {p j : Int} {k : Nat} (z : 103 ≤ k ∧ k ≤ 108) : cpl H p j k j = H k p := if_pos ⟨z, rfl⟩
theorem m_copyLine {G : GG} {h : Hp} {p j : Int} {Φ : Int → Hp → Prop} (hp : 0 ≤ p ∧ p < 260) (hj : 0 ≤ j ∧ j < 260) (ne : p ≠ j) (K : Φ 0 (cpl h p j)) : Call G m_X12_copyLine [rv 85, iv p, iv j] h Φ := by
  refine Call.of rfl (Nat.le_of_ble_eq_true rfl) rfl (U_X12_copyLine_85_0 ⟨hp, hj, hp, hj, hp, hj, hp, hj, hp, hj, hp, hj, ?_⟩)
  have e : up (up (up (up (up (up h 103 j (h 103 p)) 104 j (h 104 p)) 105 j (h 105 p)) 106 j (h 106 p)) 107 j (h 107 p)) 108 j (h 108 p) = cpl h p j := by
    funext k i
    by_cases c : 103 ≤ k ∧ k ≤ 108
    · by_cases d : i = j
      · subst d
        rw [cpl_i c]
        have : k = 103 ∨ k = 104 ∨ k = 105 ∨ k = 106 ∨ k = 107 ∨ k = 108 := by omega
        rcases this with rfl | rfl | rfl | rfl | rfl | rfl <;> simp [up_ap]
      · rw [cpl_o (fun t => d t.2)]
        unfold up
        rw [if_neg (fun t => d t.2), if_neg (fun t => d t.2), if_neg (fun t => d t.2), if_neg (fun t => d t.2), if_neg (fun t => d t.2), if_neg (fun t => d t.2)]
    · rw [cpl_o (fun t => c t.1)]
      unfold up
      rw [if_neg (by omega), if_neg (by omega), if_neg (by omega), if_neg (by omega), if_neg (by omega), if_neg (by omega)]
  rw [e]; exact K
theorem cb_cpl {g H : Hp} {p j : Int} : cb g (cpl H p j) = cpl (cb g H) p j := by
  funext k i
  by_cases z : (103 ≤ k ∧ k ≤ 108) ∧ i = j
  · obtain ⟨z, rfl⟩ := z
    rw [cb_m (by omega), cpl_i z, cpl_i z, cb_m (by omega)]
  · rw [cpl_o z]
    unfold cb
    rw [cpl_o z]
/-- a row of Lines (from cell a on, place j) from the row 0 of the reading -/
def cpr (H : Hp) (a : Nat) (j : Int) : Hp := fun k i => if (a ≤ k ∧ k ≤ a + 5) ∧ i = j then H (k - a + 5) 0 else H k i
theorem cpr_o {H : Hp} {a : Nat} {j i : Int} {k : Nat} (z : ¬ ((a ≤ k ∧ k ≤ a + 5) ∧ i = j)) : cpr H a j k i = H k i := if_neg z
theorem cpr_i {H : Hp} {a : Nat} {j : Int} {k : Nat} (z : a ≤ k ∧ k ≤ a + 5) : cpr H a j k j = H (k - a + 5) 0 := if_pos ⟨z, rfl⟩
theorem cb_cpr {g H : Hp} {a : Nat} {j : Int} (ha : a + 5 < 85) : cb (cpr H a j) g = cpr (cb H g) a j := by
  funext k i
  by_cases z : (a ≤ k ∧ k ≤ a + 5) ∧ i = j
  · obtain ⟨z, rfl⟩ := z
    rw [cb_c (by omega), cpr_i z, cpr_i z, cb_c (by omega)]
  · rw [cpr_o z]
    unfold cb
    rw [cpr_o z]
theorem c_copy54 {G : GG} {h : Hp} {j : Int} {Φ : Int → Hp → Prop} (hj : 0 ≤ j ∧ j < 8) (K : Φ 0 (cpr h 55 j)) : Call G m_X3_copy [rv 54, iv j, rv 4, iv 0] h Φ := by
  have b1 : 0 ≤ (0 : Int) ∧ (0 : Int) < 30 := by omega
  refine Call.of rfl (Nat.le_of_ble_eq_true rfl) rfl (U_X3_copy_54_4_0 ⟨b1, hj, b1, hj, b1, hj, b1, hj, b1, hj, b1, hj, ?_⟩)
  rw [cp_55_5]
  have e : (fun (k : Nat) (i : Int) => if 55 ≤ k ∧ k ≤ 60 then (if i = j then h (k - 55 + 5) 0 else h k i) else h k i) = cpr h 55 j := by
    funext k i
    by_cases c : 55 ≤ k ∧ k ≤ 60
    · rw [if_pos c]
      by_cases d : i = j
      · subst d; rw [if_pos rfl, cpr_i c]
      · rw [if_neg d, cpr_o (fun t => d t.2)]
    · rw [if_neg c, cpr_o (fun t => c t.1)]
  rw [e]; exact K
theorem c_copy68 {G : GG} {h : Hp} {j : Int} {Φ : Int → Hp → Prop} (hj : 0 ≤ j ∧ j < 8) (K : Φ 0 (cpr h 69 j)) : Call G m_X3_copy [rv 68, iv j, rv 4, iv 0] h Φ := by
  have b1 : 0 ≤ (0 : Int) ∧ (0 : Int) < 30 := by omega
  refine Call.of rfl (Nat.le_of_ble_eq_true rfl) rfl (U_X3_copy_68_4_0 ⟨b1, hj, b1, hj, b1, hj, b1, hj, b1, hj, b1, hj, ?_⟩)
  rw [cp_69_5]
  have e : (fun (k : Nat) (i : Int) => if 69 ≤ k ∧ k ≤ 74 then (if i = j then h (k - 69 + 5) 0 else h k i) else h k i) = cpr h 69 j := by
    funext k i
    by_cases c : 69 ≤ k ∧ k ≤ 74
    · rw [if_pos c]
      by_cases d : i = j
      · subst d; rw [if_pos rfl, cpr_i c]
      · rw [if_neg d, cpr_o (fun t => d t.2)]
    · rw [if_neg c, cpr_o (fun t => c t.1)]
  rw [e]; exact K
def PMt (k : Nat) (i : Int) : Prop := PTx k i ∨ (5 ≤ k ∧ k ≤ 9) ∨ (55 ≤ k ∧ k ≤ 64) ∨ (103 ≤ k ∧ k ≤ 108) ∧ (240 ≤ i ∧ i < 249) ∨ (128 ≤ k ∧ k ≤ 132)
/-- one monitor set, the others as they were -/
theorem IMn_set {h h' : Hp} {p : Int} (I : IMn h) (e : ∀ a i, DMn a i → ¬ (((55 ≤ a ∧ a ≤ 64) ∨ (128 ≤ a ∧ a ≤ 132)) ∧ i = p) → ¬ ((103 ≤ a ∧ a ≤ 108) ∧ i = 241 + p) → h' a i = h a i) (q : MNk h' p) : IMn h' := fun k k0 k1 => by
  by_cases z : k = p
  · subst z; exact q
  · have w := I k k0 k1
    unfold MNk at w ⊢
    rw [e 61 k (by simp [DMn]) (by omega) (by omega), e 132 k (by simp [DMn]) (by omega) (by omega), e 128 k (by simp [DMn]) (by omega) (by omega), e 56 k (by simp [DMn]) (by omega) (by omega), e 57 k (by simp [DMn]) (by omega) (by omega), e 58 k (by simp [DMn]) (by omega) (by omega),
      e 106 _ (by simp [DMn]; omega) (by omega) (by omega), e 107 _ (by simp [DMn]; omega) (by omega) (by omega), e 108 _ (by simp [DMn]; omega) (by omega) (by omega), e 129 k (by simp [DMn]) (by omega) (by omega), e 62 k (by simp [DMn]) (by omega) (by omega), e 34 4 (by simp [DMn]) (by omega) (by omega), e 63 k (by simp [DMn]) (by omega) (by omega), e 64 k (by simp [DMn]) (by omega) (by omega), e 130 k (by simp [DMn]) (by omega) (by omega), e 131 k (by simp [DMn]) (by omega) (by omega)]
    exact w
/-- the class's monitor, the model's monitor -/
def mtC (H : Hp) (k v act : Int) : Hp := up (up (up (up H 61 k v) 62 k act) 63 k 0) 64 k (-60)
def mtM (H : Hp) (k st v act : Int) : Hp := up (up (up (up (up H 132 k st) 128 k v) 129 k act) 130 k 0) 131 k (-1)
theorem mtC_o {H : Hp} {k v act i : Int} {a : Nat} (z : ¬ ((61 ≤ a ∧ a ≤ 64) ∧ i = k)) : mtC H k v act a i = H a i := by
  unfold mtC; rw [up_ap, if_neg (by omega), up_ap, if_neg (by omega), up_ap, if_neg (by omega), up_ap, if_neg (by omega)]
theorem mtM_o {H : Hp} {k st v act i : Int} {a : Nat} (z : ¬ ((128 ≤ a ∧ a ≤ 132) ∧ i = k)) : mtM H k st v act a i = H a i := by
  unfold mtM; rw [up_ap, if_neg (by omega), up_ap, if_neg (by omega), up_ap, if_neg (by omega), up_ap, if_neg (by omega), up_ap, if_neg (by omega)]
theorem mtC_v {H : Hp} {k v act : Int} : mtC H k v act 61 k = v ∧ mtC H k v act 62 k = act ∧ mtC H k v act 63 k = 0 ∧ mtC H k v act 64 k = -60 := by
  unfold mtC; simp [up_ap]
theorem mtM_v {H : Hp} {k st v act : Int} : mtM H k st v act 132 k = st ∧ mtM H k st v act 128 k = v ∧ mtM H k st v act 129 k = act ∧ mtM H k st v act 130 k = 0 ∧ mtM H k st v act 131 k = -1 := by
  unfold mtM; simp [up_ap]
theorem cb_mtC {H g : Hp} {k v act : Int} : cb (mtC H k v act) g = mtC (cb H g) k v act := by
  unfold mtC; rw [cb_uc (by decide), cb_uc (by decide), cb_uc (by decide), cb_uc (by decide)]
theorem cb_mtM {H g : Hp} {k st v act : Int} : cb g (mtM H k st v act) = mtM (cb g H) k st v act := by
  unfold mtM; rw [cb_um (by decide), cb_um (by decide), cb_um (by decide), cb_um (by decide), cb_um (by decide)]
theorem op_monitor {G : GG} {h : Hp} {k v act : Int} (hT : IT h) (hM : IMn h) : BOTH G m_X11_monitor m_X12_monitor [iv k, iv v, iv act] h (fun h' => (IT h' ∧ IMn h') ∧ FR PMt h h') := by
  by_cases ok : (0 ≤ k ∧ k ≤ 7) ∧ (1 ≤ v ∧ v ≤ 99) ∧ (0 ≤ act ∧ act ≤ 8)
  · obtain ⟨k0, v0, a0⟩ := ok
    have hk : 0 ≤ k ∧ k < 8 := by omega
    obtain ⟨T, Cc, Cm⟩ := bT_ok hT
    have t1 := T.1
    obtain ⟨i0, i1, i2, i3⟩ := id hT
    have S0 : SV (h 2 1) ((0, -1) : PS) := ⟨⟨Int.le_refl 0, T.1.1⟩, Or.inl rfl⟩
    have entM : ∀ (g : Hp) (Φ : Int → Hp → Prop), ((h 2 1 ≤ 0 → Φ 1 (cb g (mtM (sM (tkH h) (0, -1)) k 0 v act))) ∧ (0 < h 2 1 → Call G m_X12_condition [rv 85, iv 240] (cb g (sM (tkH h) (0, -1))) (fun _ h4 => Call G m_X12_done [rv 85] h4 (fun _ h6 => (((h6 85 6) < 0 → Call G m_X12_copyLine [rv 85, iv 240, iv (w32 (241 + k))] h6 (fun _ h8 => (((h8 85 4) ≤ 0 → (0 ≤ k ∧ k < 8) ∧ (0 ≤ k ∧ k < 8) ∧ (0 ≤ k ∧ k < 8) ∧ (0 ≤ k ∧ k < 8) ∧ (0 ≤ k ∧ k < 8) ∧ Φ 1 (up (up (up (up (up h8 132 k 0) 128 k v) 129 k act) 130 k 0) 131 k (-1))) ∧ (0 < (h8 85 4) → (0 ≤ k ∧ k < 8) ∧ (0 ≤ k ∧ k < 8) ∧ (0 ≤ k ∧ k < 8) ∧ (0 ≤ k ∧ k < 8) ∧ (0 ≤ k ∧ k < 8) ∧ Φ 1 (up (up (up (up (up h8 132 k 1) 128 k v) 129 k act) 130 k 0) 131 k (-1)))))) ∧ (0 ≤ (h6 85 6) → Φ (w32 ((-1000) - (h6 85 6))) h6)))))) → Call G m_X12_monitor [rv 85, iv k, iv v, iv act] (cb g h) Φ := fun g Φ K => by
      refine Call.of rfl (Nat.le_of_ble_eq_true rfl) rfl (U_X12_monitor_85_0 ⟨fun z => absurd z (by omega), fun _ => ⟨fun z => absurd z (by omega), fun _ => ⟨fun z => absurd z (by omega), fun _ => ⟨fun z => absurd z (by omega), fun _ => ⟨fun z => absurd z (by omega), fun _ => ⟨fun z => absurd z (by omega), fun _ => m_take (by show 0 ≤ h 85 3 ∧ h 85 3 ≤ 1600; omega) ?_⟩⟩⟩⟩⟩⟩)
      rw [cb_tkH, ← cb_sM]
      have q : cb g (sM (tkH h) (0, -1)) 85 4 = h 2 1 := by rw [cb_m (by decide), sM_n]; exact Cm.1
      rw [q]
      rw [cb_mtM] at K
      exact ⟨fun z => ⟨fun _ => ⟨hk, hk, hk, hk, hk, K.1 z⟩, fun y => absurd y (by omega)⟩, fun z => K.2 z⟩
    by_cases e : h 2 1 ≤ 0
    · -- an empty tape
      have ef : fns (h 2 1) ((0, -1) : PS) = (0, -1) := if_neg (by show ¬ (_ ∧ (0 : Int) < h 2 1); omega)
      obtain ⟨hcF, ehc⟩ : ∃ hcF, hcF = mtC (up (sT h (0, -1)) 2 1 0) k 0 act := ⟨_, rfl⟩
      obtain ⟨hmF, ehm⟩ : ∃ hmF, hmF = mtM (sM (tkH h) (0, -1)) k 0 v act := ⟨_, rfl⟩
      have co : ∀ a i, a ≠ 2 → ¬ ((61 ≤ a ∧ a ≤ 64) ∧ i = k) → hcF a i = h a i := fun a i z1 z2 => by rw [ehc, mtC_o z2, up_nk z1, sT_o z1]
      have mo' : ∀ a i, ¬ (a = 85 ∧ (i = 3 ∨ i = 4 ∨ i = 5 ∨ i = 6) ∨ a = 87) → ¬ ((128 ≤ a ∧ a ≤ 132) ∧ i = k) → hmF a i = h a i := fun a i z1 z2 => by
        rw [ehm, mtM_o z2]
        unfold sM
        rw [up_ap, if_neg (by omega), up_ap, if_neg (by omega), tkH_o (by omega)]
      refine BOTH.of (r := 1) (h' := cb hcF hmF) (CE.mk (fun g Φ K => ?_)) (ME.mk (fun g Φ K => ?_)) ⟨⟨?_, ?_⟩, ?_⟩
      · have C' : TXc (cb h g) (bT h) (h 2 1) := Cc
        have q1 : cb h g 2 1 = h 2 1 := rfl
        refine Call.of rfl (Nat.le_of_ble_eq_true rfl) rfl (U_X11_monitor_1_0 ⟨fun z => absurd z (by omega), fun _ => ⟨fun z => absurd z (by omega), fun _ => ⟨fun z => absurd z (by omega), fun _ => ⟨fun z => absurd z (by omega), fun _ => ⟨fun z => absurd z (by omega), fun _ => ⟨fun z => absurd z (by omega), fun _ => ⟨fun _ => ?_, fun z => absurd z (by rw [q1]; omega)⟩⟩⟩⟩⟩⟩⟩)
        refine Call.of rfl (Nat.le_of_ble_eq_true rfl) rfl (U_X3_readMonitor_4_2_0 ⟨fun z => absurd z (by rw [q1]; omega), fun _ => ?_⟩)
        refine c_close (s := (0, -1)) (h := cb h g) S0 C' (fun z => ⟨fun _ => ?_, fun y => absurd y (by decide)⟩) (fun z => absurd (by rw [ef]) z)
        refine Call.of rfl (Nat.le_of_ble_eq_true rfl) rfl (U_X0_setMonitor_34_0_0 ⟨hk, hk, hk, hk, ?_⟩)
        rw [ef]
        rw [ehc, cb_mtC, cb_uc (by decide), cb_sT] at K
        exact K
      · rw [ehm] at K
        exact entM g Φ ⟨fun _ => K, fun z => absurd z (by omega)⟩
      · refine IT_of ?_ ?_
        · rw [cb_c (by decide), ehc, mtC_o (by omega), up_at]
        · rw [cb_m (by decide), ehm, mtM_o (by omega), sM_oi (by decide), tkH_3]
      · refine IMn_set (p := k) hM (fun a i d z1 z2 => ?_) ?_
        · unfold DMn at d
          by_cases k85 : a < 85
          · rw [cb_c k85]; exact co a i (by omega) (by omega)
          · rw [cb_m (by omega)]; exact mo' a i (by omega) (by omega)
        · obtain ⟨x1, x2, x3, x4⟩ := mtC_v (H := up (sT h (0, -1)) 2 1 0) (k := k) (v := 0) (act := act)
          obtain ⟨y1, y2, y3, y4, y5⟩ := mtM_v (H := sM (tkH h) (0, -1)) (k := k) (st := 0) (v := v) (act := act)
          rw [← ehc] at x1 x2 x3 x4
          rw [← ehm] at y1 y2 y3 y4 y5
          unfold MNk
          rw [cb_c (k := 61) (by decide), cb_c (k := 62) (by decide), cb_c (k := 63) (by decide), cb_c (k := 64) (by decide), cb_m (k := 132) (by decide), cb_m (k := 129) (by decide), cb_m (k := 130) (by decide), cb_m (k := 131) (by decide), x1, x2, x3, x4, y1, y3, y4, y5]
          exact ⟨Or.inl ⟨rfl, rfl⟩, ⟨rfl, a0.1, a0.2⟩, rfl, Or.inr (Or.inl ⟨rfl, rfl⟩)⟩
      · intro a i z
        unfold PMt PTx at z
        by_cases k85 : a < 85
        · rw [cb_c k85]
          by_cases a2 : a = 2
          · subst a2
            rw [ehc, mtC_o (by omega), up_ni (by omega)]
            unfold sT
            rw [up_ni (by omega), up_ni (by omega)]
          · exact co a i a2 (by omega)
        · rw [cb_m (by omega)]; exact mo' a i (by omega) (by omega)
    · -- a condition
      obtain ⟨b, eb⟩ : ∃ b, b = bT h := ⟨_, rfl⟩
      rw [← eb] at T Cc Cm
      obtain ⟨s', es'⟩ : ∃ s', s' = (cnI b (0, -1)).1 := ⟨_, rfl⟩
      obtain ⟨hc', ehc'⟩ : ∃ hc', hc' = ln5 h 0 (fcC b (0, -1) (h 5 0, h 6 0, h 7 0, h 8 0, h 9 0)) := ⟨_, rfl⟩
      obtain ⟨hm', ehm'⟩ : ∃ hm', hm' = ln6 (tkH h) 240 (fcM b (0, -1) (tkH h 103 240, tkH h 104 240, tkH h 105 240, tkH h 106 240, tkH h 107 240, tkH h 108 240)) := ⟨_, rfl⟩
      have CE1 := ce_cond (G := G) (x := 0) T Cc S0 (by omega)
      have ME1 := me_cond (G := G) T Cm S0
      rw [← es', ← ehc'] at CE1
      rw [← es', ← ehm'] at ME1
      have V : SV (h 2 1) s' := by rw [es']; exact cnI_v T S0
      have Fv := fns_v V
      have fv := Fv.2
      have FC : ∀ a i, ¬ (5 ≤ a ∧ a ≤ 9) → hc' a i = h a i := fun a i z => by rw [ehc']; exact ln5_o (by omega)
      have FM : ∀ a i, ¬ ((103 ≤ a ∧ a ≤ 108) ∧ i = 240) → hm' a i = tkH h a i := fun a i z => by rw [ehm']; exact ln6_o (by omega)
      have Cc' : TXc hc' b (h 2 1) := ⟨by rw [FC 2 1 (by omega)], fun x x0 x1 => by rw [FC 3 x (by omega)]; exact Cc.2 x x0 x1⟩
      have Cm' : TXm hm' b (h 2 1) := ⟨by rw [FM 85 4 (by omega)]; exact Cm.1, fun x x0 x1 => by rw [FM 87 x (by omega)]; exact Cm.2 x x0 x1⟩
      have readC : ∀ (g : Hp) (Φ : Int → Hp → Prop), (((fns (h 2 1) s').2 = -1 → Call G m_X0_setMonitor [rv 34, iv k, iv v, iv act, rv 4] (cb (up (sT hc' (fns (h 2 1) s')) 2 1 0) g) (fun _ h12 => Φ 1 h12)) ∧ ((fns (h 2 1) s').2 ≠ -1 → Φ (-1000 - (fns (h 2 1) s').2) (cb (up (sT hc' (fns (h 2 1) s')) 2 1 0) g))) → Call G m_X11_monitor [rv 1, iv k, iv v, iv act] (cb h g) Φ := fun g Φ K => by
        rw [cb_uc (by decide), cb_sT] at K
        have C' : TXc (cb hc' g) b (h 2 1) := Cc'
        have q1 : cb h g 2 1 = h 2 1 := rfl
        refine Call.of rfl (Nat.le_of_ble_eq_true rfl) rfl (U_X11_monitor_1_0 ⟨fun z => absurd z (by omega), fun _ => ⟨fun z => absurd z (by omega), fun _ => ⟨fun z => absurd z (by omega), fun _ => ⟨fun z => absurd z (by omega), fun _ => ⟨fun z => absurd z (by omega), fun _ => ⟨fun z => absurd z (by omega), fun _ => ⟨fun z => absurd z (by rw [q1]; omega), fun _ => ?_⟩⟩⟩⟩⟩⟩⟩)
        refine Call.of rfl (Nat.le_of_ble_eq_true rfl) rfl (U_X3_readMonitor_4_2_0 ⟨fun _ => ?_, fun z => absurd z (by rw [q1]; omega)⟩)
        have t := CE1 g (fun _ h8 => Call G m_X10_closes [rv 2] h8 (fun r9 h10 => ((r9 ≠ 0 → Call G m_X0_setMonitor [rv 34, iv k, iv v, iv act, rv 4] h10 (fun _ h12 => Φ 1 h12)) ∧ (r9 = 0 → Φ (w32 ((-1000) - (h10 2 3))) h10)))) (by
          rw [cb_sT]
          refine c_close V C' (fun z => ⟨fun _ => K.1 z, fun y => absurd y (by decide)⟩) (fun z => ⟨fun y => absurd rfl y, fun _ => ?_⟩)
          rw [up_ni (by decide), sT_w, w32_of (by omega) (by omega)]
          exact K.2 z)
        rw [cb_sT] at t
        exact t
      by_cases gd : (fns (h 2 1) s').2 = -1
      · have es : fns (h 2 1) s' = s' := by
          unfold fns at gd ⊢
          split
          · rename_i w
            rw [if_pos w] at gd
            have gd : s'.1 = -1 := gd
            have := V.1
            omega
          · rfl
        have gs : s'.2 = -1 := by rw [es] at gd; exact gd
        obtain ⟨hcF, ehc⟩ : ∃ hcF, hcF = cpr (mtC (up (sT hc' s') 2 1 0) k v act) 55 k := ⟨_, rfl⟩
        obtain ⟨hmF, ehm⟩ : ∃ hmF, hmF = mtM (cpl (sM hm' s') 240 (241 + k)) k 1 v act := ⟨_, rfl⟩
        have co : ∀ a i, a ≠ 2 → ¬ (5 ≤ a ∧ a ≤ 9) → ¬ ((55 ≤ a ∧ a ≤ 64) ∧ i = k) → hcF a i = h a i := fun a i z1 z2 z3 => by rw [ehc, cpr_o (by omega), mtC_o (by omega), up_nk z1, sT_o z1, FC a i z2]
        have mo' : ∀ a i, ¬ (a = 85 ∧ (i = 3 ∨ i = 4 ∨ i = 5 ∨ i = 6) ∨ a = 87) → ¬ ((128 ≤ a ∧ a ≤ 132) ∧ i = k) → ¬ ((103 ≤ a ∧ a ≤ 108) ∧ (i = 240 ∨ i = 241 + k)) → hmF a i = h a i := fun a i z1 z2 z3 => by
          rw [ehm, mtM_o z2, cpl_o (by omega)]
          unfold sM
          rw [up_ap, if_neg (by omega), up_ap, if_neg (by omega), FM a i (by omega), tkH_o (by omega)]
        refine BOTH.of (r := 1) (h' := cb hcF hmF) (CE.mk (fun g Φ K => ?_)) (ME.mk (fun g Φ K => ?_)) ⟨⟨?_, ?_⟩, ?_⟩
        · refine readC g Φ ⟨fun _ => ?_, fun z => absurd gd z⟩
          rw [es]
          refine Call.of rfl (Nat.le_of_ble_eq_true rfl) rfl (U_X0_setMonitor_34_4_0 ⟨hk, hk, hk, hk, ?_⟩)
          refine c_copy54 hk ?_
          rw [ehc, cb_cpr (by decide), cb_mtC] at K
          exact K
        · refine entM g Φ ⟨fun z => absurd z e, fun _ => ME1 g _ ?_⟩
          have C' : TXm (cb g hm') b (h 2 1) := Cm'
          rw [cb_sM]
          refine m_close V C' ?_
          rw [es, sM_w]
          refine ⟨fun _ => ?_, fun z => absurd z (by omega)⟩
          rw [w32_of (by omega) (by omega)]
          refine m_copyLine (by omega) (by omega) (by omega) ?_
          have q4 : cpl (sM (cb g hm') s') 240 (241 + k) 85 4 = h 2 1 := by rw [cpl_o (by omega), sM_n]; exact C'.1
          rw [q4]
          refine ⟨fun z => absurd z e, fun _ => ⟨hk, hk, hk, hk, hk, ?_⟩⟩
          rw [ehm, cb_mtM, cb_cpl, cb_sM] at K
          exact K
        · refine IT_of ?_ ?_
          · rw [cb_c (by decide), ehc, cpr_o (by omega), mtC_o (by omega), up_at]
          · rw [cb_m (by decide), ehm, mtM_o (by omega), cpl_o (by omega), sM_oi (by decide), FM 85 3 (by omega), tkH_3]
        · refine IMn_set (p := k) hM (fun a i d z1 z2 => ?_) ?_
          · unfold DMn at d
            by_cases k85 : a < 85
            · rw [cb_c k85]; exact co a i (by omega) (by omega) (by omega)
            · rw [cb_m (by omega)]; exact mo' a i (by omega) (by omega) (by omega)
          · obtain ⟨x1, x2, x3, x4⟩ := mtC_v (H := up (sT hc' s') 2 1 0) (k := k) (v := v) (act := act)
            obtain ⟨y1, y2, y3, y4, y5⟩ := mtM_v (H := cpl (sM hm' s') 240 (241 + k)) (k := k) (st := 1) (v := v) (act := act)
            rw [← ehm] at y1 y2 y3 y4 y5
            have w1 : hcF 61 k = v := by rw [ehc, cpr_o (by omega)]; exact x1
            have w2 : hcF 62 k = act := by rw [ehc, cpr_o (by omega)]; exact x2
            have w3 : hcF 63 k = 0 := by rw [ehc, cpr_o (by omega)]; exact x3
            have w4 : hcF 64 k = -60 := by rw [ehc, cpr_o (by omega)]; exact x4
            have c6 : hcF 56 k = (tol b 16 17 (0, -1)).2 := by rw [ehc, cpr_i (by omega), mtC_o (by omega), up_nk (by decide), sT_o (by decide), ehc']; exact ln5_r6
            have c7 : hcF 57 k = b (cs1 b (0, -1)).1 := by rw [ehc, cpr_i (by omega), mtC_o (by omega), up_nk (by decide), sT_o (by decide), ehc']; exact ln5_r7
            have c8 : hcF 58 k = cvl (-99999) (cnI b (0, -1)) := by rw [ehc, cpr_i (by omega), mtC_o (by omega), up_nk (by decide), sT_o (by decide), ehc']; exact ln5_r8
            have m6 : hmF 106 (241 + k) = (mwo b 100 17 (0, -1)).2 := by rw [ehm, mtM_o (by omega), cpl_i (by omega), sM_o (by decide), ehm']; exact ln6_r106
            have m7 : hmF 107 (241 + k) = b (cs1 b (0, -1)).1 := by rw [ehm, mtM_o (by omega), cpl_i (by omega), sM_o (by decide), ehm']; exact ln6_r107
            have m8 : hmF 108 (241 + k) = (cnI b (0, -1)).2 := by rw [ehm, mtM_o (by omega), cpl_i (by omega), sM_o (by decide), ehm']; exact ln6_r108
            unfold MNk
            rw [cb_c (k := 61) (by decide), cb_c (k := 62) (by decide), cb_c (k := 63) (by decide), cb_c (k := 64) (by decide), cb_c (k := 56) (by decide), cb_c (k := 57) (by decide), cb_c (k := 58) (by decide), cb_m (k := 132) (by decide), cb_m (k := 128) (by decide), cb_m (k := 129) (by decide), cb_m (k := 130) (by decide), cb_m (k := 131) (by decide), cb_m (k := 106) (by decide), cb_m (k := 107) (by decide), cb_m (k := 108) (by decide), w1, w2, w3, w4, c6, c7, c8, m6, m7, m8, y1, y2, y3, y4, y5]
            exact ⟨Or.inr ⟨v0, rfl, rfl, cnd_ok T S0 (by rw [← es']; exact gs)⟩, ⟨rfl, a0.1, a0.2⟩, rfl, Or.inr (Or.inl ⟨rfl, rfl⟩)⟩
        · intro a i z
          unfold PMt PTx at z
          by_cases k85 : a < 85
          · rw [cb_c k85]
            by_cases a2 : a = 2
            · subst a2
              rw [ehc, cpr_o (by omega), mtC_o (by omega), up_ni (by omega)]
              unfold sT
              rw [up_ni (by omega), up_ni (by omega), FC 2 i (by omega)]
            · exact co a i a2 (by omega) (by omega)
          · rw [cb_m (by omega)]; exact mo' a i (by omega) (by omega) (by omega)
      · refine BOTH.of (r := -1000 - (fns (h 2 1) s').2) (h' := cb (up (sT hc' (fns (h 2 1) s')) 2 1 0) (sM hm' (fns (h 2 1) s'))) (CE.mk (fun g Φ K => readC g Φ ⟨fun z => absurd z gd, fun _ => K⟩)) (ME.mk (fun g Φ K => ?_)) ⟨⟨end_ok (by rw [FM 85 3 (by omega), tkH_3]), ?_⟩, ?_⟩
        · refine entM g Φ ⟨fun z => absurd z e, fun _ => ME1 g _ ?_⟩
          have C' : TXm (cb g hm') b (h 2 1) := Cm'
          rw [cb_sM] at K ⊢
          refine m_close V C' ?_
          rw [sM_w, w32_of (z := -1000 - (fns (h 2 1) s').2) (by omega) (by omega)]
          exact ⟨fun z => absurd z (by omega), fun _ => K⟩
        · refine IMn_cg (fun a i d => ?_) hM
          unfold DMn at d
          by_cases k85 : a < 85
          · rw [cb_c k85, up_nk (by omega), sT_o (by omega), FC a i (by omega)]
          · rw [cb_m (by omega), sM_o (by omega), FM a i (by omega), tkH_o (by omega)]
        · intro a i z
          unfold PMt PTx at z
          by_cases k85 : a < 85
          · rw [cb_c k85, up_ap, if_neg (by omega)]
            unfold sT
            rw [up_ap, if_neg (by omega), up_ap, if_neg (by omega), FC a i (by omega)]
          · rw [cb_m (by omega)]
            unfold sM
            rw [up_ap, if_neg (by omega), up_ap, if_neg (by omega), FM a i (by omega), tkH_o (by omega)]
  · refine BOTH.of (r := -1) (h' := h) (fun g Φ K => ?_) (fun g Φ K => ?_) ⟨⟨hT, hM⟩, FR.rf⟩
    · exact Call.of rfl (Nat.le_of_ble_eq_true rfl) rfl (U_X11_monitor_1_0 ⟨fun _ => K, fun z1 => ⟨fun _ => K, fun z2 => ⟨fun _ => K, fun z3 => ⟨fun _ => K, fun z4 => ⟨fun _ => K, fun z5 => ⟨fun _ => K, fun z6 => absurd ⟨⟨z1, z2⟩, ⟨z3, z4⟩, ⟨z5, z6⟩⟩ ok⟩⟩⟩⟩⟩⟩)
    · exact Call.of rfl (Nat.le_of_ble_eq_true rfl) rfl (U_X12_monitor_85_0 ⟨fun _ => K, fun z1 => ⟨fun _ => K, fun z2 => ⟨fun _ => K, fun z3 => ⟨fun _ => K, fun z4 => ⟨fun _ => K, fun z5 => ⟨fun _ => K, fun z6 => absurd ⟨⟨z1, z2⟩, ⟨z3, z4⟩, ⟨z5, z6⟩⟩ ok⟩⟩⟩⟩⟩⟩)
