/-! serving the loads, both ways -/
def PSl (k : Nat) (i : Int) : Prop := k = 18 ∧ i = 4 ∨ k = 21 ∨ k = 22 ∨ k = 85 ∧ (i = 21 ∨ i = 22) ∨ k = 95 ∨ k = 96
def LX (h : Hp) (r k j : Int) : Prop := h 20 j < r ∨ (h 20 j = r ∧ j < k)
theorem LX_p {h : Hp} {r k j : Int} (c : h 20 k = r) : LX h r (k + 1) j ↔ LX h r k j ∨ j = k := by
  unfold LX
  constructor
  · rintro (a | ⟨a, b⟩)
    · exact Or.inl (Or.inl a)
    · by_cases z : j = k
      · exact Or.inr z
      · exact Or.inl (Or.inr ⟨a, by omega⟩)
  · rintro ((a | ⟨a, b⟩) | a)
    · exact Or.inl a
    · exact Or.inr ⟨a, by omega⟩
    · rw [a]; exact Or.inr ⟨c, by omega⟩
theorem LX_n {h : Hp} {r k : Int} (c : h 20 k = r) : ¬ LX h r k k := by unfold LX; omega
theorem LX_s {h : Hp} {r k j : Int} (c : h 20 k ≠ r) : LX h r (k + 1) j ↔ LX h r k j := by
  unfold LX
  constructor
  · rintro (a | ⟨a, b⟩)
    · exact Or.inl a
    · by_cases z : j = k
      · rw [z] at a; exact absurd a c
      · exact Or.inr ⟨a, by omega⟩
  · rintro (a | ⟨a, b⟩)
    · exact Or.inl a
    · exact Or.inr ⟨a, by omega⟩
def SJ (h0 h : Hp) (S r k p x2 x3 : Int) : Prop :=
  FR PSl h0 h ∧ (∀ j, 0 ≤ j → j < 8 → (h 21 j = 0 ∨ h 21 j = 1) ∧ h 95 j = h 21 j) ∧
  (∀ j, 0 ≤ j → j < 8 → LX h0 r k j → (h 22 j = 0 ∨ h 22 j = 1) ∧ h 96 j = h 22 j) ∧
  (∀ j, 0 ≤ j → j < 8 → ¬ LX h0 r k j → h 96 j = 0) ∧
  (h 85 21 = h 18 4 ∧ 0 ≤ h 18 4) ∧ (x3 + h 18 4 = S ∧ 0 ≤ x3) ∧ (h 85 22 = h0 85 22 + x2 ∧ 0 ≤ x2 ∧ x2 ≤ p)
theorem sv_step {G : GG} {h0 h : Hp} {S r x2 x3 x1 p p' : Int} {k : Nat} (hu : ∀ j, 0 ≤ j → j < 8 → (0 ≤ h0 19 j ∧ h0 19 j ≤ 1000 ∧ h0 93 j = h0 19 j) ∧ h0 94 j = h0 20 j) (pb : 0 ≤ p ∧ p' ≤ 8) (ps : h0 20 k = r → p' = p + 1 ∧ h0 23 p = k) (pn : h0 20 k ≠ r → p' = p) (J : SJ h0 h S r k p x2 x3) (hk : k < 8) (hS : S ≤ 1010000) (he : 0 ≤ h0 85 22 ∧ h0 85 22 ≤ 1000000000) :
    ∃ h' y2 y3, CR G m_X8_serve 36 [(0, rv 18), (2, iv x2), (3, iv x3), (4, iv p)] h 36 [(0, rv 18), (2, iv y2), (3, iv y3), (4, iv p')] h' ∧
      MR G m_X12_serve 49 [(0, rv 85), (1, iv x1), (2, iv x3), (3, iv r), (4, iv (k : Int))] h 49 [(0, rv 85), (1, iv x1), (2, iv y3), (3, iv r), (4, iv ((k : Int) + 1))] h' ∧ SJ h0 h' S r (k + 1) p' y2 y3 := by
  obtain ⟨fr, on, sv, un, us, le, ev⟩ := J
  obtain ⟨u, u94⟩ := hu k (by omega) (by omega)
  have e94 : h 94 k = h0 20 k := by rw [fr 94 k (by unfold PSl; omega), u94]
  have e93 : h 93 k = h0 19 k := by rw [fr 93 k (by unfold PSl; omega), u.2.2]
  have e19 : h 19 k = h0 19 k := fr 19 k (by unfold PSl; omega)
  have onk := on k (by omega) (by omega)
  by_cases c : h0 20 k = r
  · obtain ⟨pp, ek⟩ := ps c
    have e23 : h 23 p = k := by rw [fr 23 _ (by unfold PSl; omega), ek]
    have LXk : ∀ j, LX h0 r ((k : Int) + 1) j ↔ LX h0 r k j ∨ j = k := fun j => LX_p c
    have nLXk : ¬ LX h0 r k k := LX_n c
    by_cases c1 : h 21 k = 0
    · refine ⟨up h 22 k 0, x2, x3, ?_, ?_, ?_⟩
      · intro g Φ K
        rw [cb_uc (by omega)] at K
        refine U_X8_serve_18_36 ?_
        simp only [cb_ap, Nat.reduceLT, if_true, e23, e19, c1]
        rw [w32_of (z := p + 1) (by omega) (by omega), ← pp]
        refine ⟨fun z => absurd z (by omega), fun _ => ⟨by omega, by omega, fun _ => ⟨by omega, fun _ => ⟨by omega, by omega, by omega, fun _ => K, fun z => absurd rfl z⟩, fun z => absurd rfl z⟩, fun _ => ⟨by omega, fun _ => ⟨by omega, by omega, by omega, fun _ => K, fun z => absurd rfl z⟩, fun z => absurd rfl z⟩⟩⟩
      · intro g Φ K
        rw [cb_um' (by omega)] at K
        refine U_X12_serve_85_49 ?_
        simp only [cb_ap, Nat.reduceLT, if_false, e94, onk.2, c1]
        rw [w32_of (z := (k : Int) + 1) (by omega) (by omega)]
        exact ⟨fun z => absurd z (by omega), fun _ => ⟨by omega, fun z => absurd c z, fun _ => ⟨by omega, fun z => absurd rfl z, fun _ => K⟩⟩⟩
      · refine ⟨fr.up (by unfold PSl; omega), fun j a b => ?_, fun j a b q => ?_, fun j a b q => ?_, us, le, ev.1, ev.2.1, by omega⟩
        · have := on j a b
          simp only [up_ap, Nat.reduceEqDiff, false_and, if_false]; exact this
        · simp only [up_ap, Nat.reduceEqDiff, false_and, if_false, true_and]
          by_cases z : j = k
          · subst z
            simp only [if_true, true_or, true_and]
            exact un _ a b nLXk
          · simp only [z, if_false]
            exact sv j a b (((LXk j).mp q).resolve_right z)
        · simp only [up_ap, Nat.reduceEqDiff, false_and, if_false]
          exact un j a b (fun z => q ((LXk j).mpr (Or.inl z)))
    · have c1' : h 21 k = 1 := onk.1.resolve_left c1
      by_cases c2 : h0 19 k ≤ x3
      · refine ⟨up (up (up (up h 22 k 1) 18 4 (h 18 4 + h0 19 k)) 96 k 1) 85 21 (h 18 4 + h0 19 k), x2, x3 - h0 19 k, ?_, ?_, ?_⟩
        · intro g Φ K
          rw [cb_uc' (by omega), cb_uc' (by omega), cb_uc (by omega), cb_uc (by omega)] at K
          refine U_X8_serve_18_36 ?_
          simp only [cb_ap, Nat.reduceLT, if_true, e23, e19, c1']
          rw [w32_of (z := p + 1) (by omega) (by omega), ← pp]
          rw [w32_of (z := x3 - h0 19 k) (by omega) (by omega), w32_of (z := h 18 4 + h0 19 k) (by omega) (by omega)]
          exact ⟨fun z => absurd z (by omega), fun _ => ⟨by omega, by omega, fun z => absurd z (by omega), fun _ => ⟨by omega, fun z => absurd z (by omega), fun _ => ⟨by omega, by omega, by omega, by omega, K⟩⟩⟩⟩
        · intro g Φ K
          rw [cb_um (by omega), cb_um (by omega), cb_um' (by omega), cb_um' (by omega)] at K
          refine U_X12_serve_85_49 ?_
          simp only [cb_ap, Nat.reduceLT, if_false, e94, e93, onk.2, c1', us.1]
          rw [w32_of (z := (k : Int) + 1) (by omega) (by omega)]
          rw [w32_of (z := x3 - h0 19 k) (by omega) (by omega), w32_of (z := h 18 4 + h0 19 k) (by omega) (by omega)]
          exact ⟨fun z => absurd z (by omega), fun _ => ⟨by omega, fun z => absurd c z, fun _ => ⟨by omega, fun _ => ⟨by omega, fun z => absurd z (by omega), fun _ => ⟨by omega, by omega, by omega, K⟩⟩, fun z => absurd z (by omega)⟩⟩⟩
        · refine ⟨(((fr.up (by unfold PSl; omega)).up (by unfold PSl; omega)).up (by unfold PSl; omega)).up (by unfold PSl; omega), fun j a b => ?_, fun j a b q => ?_, fun j a b q => ?_, ?_, ?_, ?_⟩
          · have := on j a b
            simp only [up_ap, Nat.reduceEqDiff, false_and, if_false]; exact this
          · simp only [up_ap, Nat.reduceEqDiff, false_and, if_false, true_and]
            by_cases z : j = k
            · subst z; simp
            · simp only [z, if_false]
              exact sv j a b (((LXk j).mp q).resolve_right z)
          · simp only [up_ap, Nat.reduceEqDiff, false_and, if_false, true_and]
            have z : j ≠ k := fun z => q ((LXk j).mpr (Or.inr z))
            simp only [z, if_false]
            exact un j a b (fun z => q ((LXk j).mpr (Or.inl z)))
          · simp only [up_ap, Nat.reduceEqDiff, false_and, if_false, true_and, and_self, if_true]
            omega
          · simp only [up_ap, Nat.reduceEqDiff, false_and, if_false, true_and, and_self, if_true]
            omega
          · refine ⟨?_, ev.2.1, by omega⟩
            simp only [up_ap, Nat.reduceEqDiff, false_and, if_false, true_and, and_self, if_true, Int.reduceEq]
            exact ev.1
      · refine ⟨up (up (up (up h 22 k 0) 21 k 0) 95 k 0) 85 22 (h 85 22 + 1), x2 + 1, x3, ?_, ?_, ?_⟩
        · intro g Φ K
          rw [cb_uc' (by omega), cb_uc' (by omega), cb_uc (by omega), cb_uc (by omega)] at K
          refine U_X8_serve_18_36 ?_
          simp only [cb_ap, Nat.reduceLT, if_true, e23, e19, c1']
          rw [w32_of (z := p + 1) (by omega) (by omega), ← pp]
          rw [w32_of (z := x2 + 1) (by omega) (by omega)]
          exact ⟨fun z => absurd z (by omega), fun _ => ⟨by omega, by omega, fun _ => ⟨by omega, fun z => absurd z (by omega), fun _ => ⟨by omega, by omega, by omega, fun z => absurd z (by omega), fun _ => ⟨by omega, K⟩⟩⟩, fun z => absurd z (by omega)⟩⟩
        · intro g Φ K
          rw [cb_um (by omega), cb_um (by omega), cb_um' (by omega), cb_um' (by omega)] at K
          refine U_X12_serve_85_49 ?_
          simp only [cb_ap, Nat.reduceLT, if_false, e94, e93, onk.2, c1']
          rw [w32_of (z := (k : Int) + 1) (by omega) (by omega)]
          rw [w32_of (z := h 85 22 + 1) (by omega) (by omega)]
          exact ⟨fun z => absurd z (by omega), fun _ => ⟨by omega, fun z => absurd c z, fun _ => ⟨by omega, fun _ => ⟨by omega, fun _ => ⟨by omega, K⟩, fun z => absurd z (by omega)⟩, fun z => absurd z (by omega)⟩⟩⟩
        · refine ⟨(((fr.up (by unfold PSl; omega)).up (by unfold PSl; omega)).up (by unfold PSl; omega)).up (by unfold PSl; omega), fun j a b => ?_, fun j a b q => ?_, fun j a b q => ?_, ?_, ?_, ?_⟩
          · have := on j a b
            simp only [up_ap, Nat.reduceEqDiff, false_and, if_false, true_and]
            by_cases z : j = k
            · subst z; simp
            · simp only [z, if_false]; exact this
          · simp only [up_ap, Nat.reduceEqDiff, false_and, if_false, true_and]
            by_cases z : j = k
            · subst z
              simp only [if_true, true_or, true_and]
              exact un _ a b nLXk
            · simp only [z, if_false]
              exact sv j a b (((LXk j).mp q).resolve_right z)
          · simp only [up_ap, Nat.reduceEqDiff, false_and, if_false, true_and]
            exact un j a b (fun z => q ((LXk j).mpr (Or.inl z)))
          · simp only [up_ap, Nat.reduceEqDiff, false_and, if_false, true_and, and_self, if_true, Int.reduceEq]
            exact us
          · simp only [up_ap, Nat.reduceEqDiff, false_and, if_false, true_and, and_self, if_true]
            exact le
          · simp only [up_ap, Nat.reduceEqDiff, false_and, if_false, true_and, and_self, if_true, Int.reduceEq]
            omega
  · have pp := pn c
    refine ⟨h, x2, x3, ?_, ?_, ?_⟩
    · rw [pp]; exact CR.rf
    · intro g Φ K
      refine U_X12_serve_85_49 ?_
      simp only [cb_ap, Nat.reduceLT, if_false, e94]
      rw [w32_of (z := (k : Int) + 1) (by omega) (by omega)]
      exact ⟨fun z => absurd z (by omega), fun _ => ⟨by omega, fun _ => K, fun z => absurd z c⟩⟩
    · have LXk : ∀ j, LX h0 r ((k : Int) + 1) j ↔ LX h0 r k j := fun j => LX_s c
      refine ⟨fr, on, fun j a b q => sv j a b ((LXk j).mp q), fun j a b q => un j a b (fun z => q ((LXk j).mpr z)), us, le, ev.1, ev.2.1, by omega⟩
theorem sv_row {G : GG} {h0 : Hp} {S r x1 : Int} (hu : ∀ j, 0 ≤ j → j < 8 → (0 ≤ h0 19 j ∧ h0 19 j ≤ 1000 ∧ h0 93 j = h0 19 j) ∧ h0 94 j = h0 20 j) (o : OrdOK (h0 20) (h0 23)) (hS : S ≤ 1010000) (he : 0 ≤ h0 85 22 ∧ h0 85 22 ≤ 1000000000) :
    ∀ (d k : Nat), k + d = 8 → ∀ (h : Hp) (x2 x3 : Int), SJ h0 h S r k (pos (h0 20) r k) x2 x3 → ∃ h' y2 y3, CR G m_X8_serve 36 [(0, rv 18), (2, iv x2), (3, iv x3), (4, iv (pos (h0 20) r k))] h 36 [(0, rv 18), (2, iv y2), (3, iv y3), (4, iv (pos (h0 20) r 8))] h' ∧
      MR G m_X12_serve 49 [(0, rv 85), (1, iv x1), (2, iv x3), (3, iv r), (4, iv (k : Int))] h 49 [(0, rv 85), (1, iv x1), (2, iv y3), (3, iv r), (4, iv 8)] h' ∧ SJ h0 h' S r 8 (pos (h0 20) r 8) y2 y3
  | 0, k, hk, h, x2, x3, J => by
    have e : k = 8 := by omega
    subst e
    exact ⟨h, x2, x3, CR.rf, MR.rf, J⟩
  | d + 1, k, hk, h, x2, x3, J => by
    have k8 : k < 8 := by omega
    obtain ⟨h1, y2, y3, a, b, c⟩ := sv_step (G := G) (x1 := x1) (p := pos (h0 20) r k) (p' := pos (h0 20) r (k + 1)) hu ⟨(pos_b (h0 20) r k).1, (pos_b (h0 20) r (k + 1)).2⟩ (fun e => ⟨pos_step k8 e, by have := o k k8; rw [e] at this; exact this⟩) (fun e => pos_skip e) J k8 hS he
    obtain ⟨h2, z2, z3, a', b', c'⟩ := sv_row (G := G) (x1 := x1) hu o hS he d (k + 1) (by omega) h1 y2 y3 c
    exact ⟨h2, z2, z3, a.tr a', b.tr b', c'⟩
theorem sv_all {G : GG} {h0 : Hp} {S x1 : Int} (hu : ∀ j, 0 ≤ j → j < 8 → (0 ≤ h0 19 j ∧ h0 19 j ≤ 1000 ∧ h0 93 j = h0 19 j) ∧ h0 94 j = h0 20 j) (hr : ∀ j, 0 ≤ j → j < 8 → 0 ≤ h0 20 j ∧ h0 20 j ≤ 9) (o : OrdOK (h0 20) (h0 23)) (hS : S ≤ 1010000) (he : 0 ≤ h0 85 22 ∧ h0 85 22 ≤ 1000000000) :
    ∀ (d r : Nat), r + d = 10 → ∀ (h : Hp) (x2 x3 : Int), SJ h0 h S r 0 (pos (h0 20) r 0) x2 x3 → ∃ h' y2 y3, CR G m_X8_serve 36 [(0, rv 18), (2, iv x2), (3, iv x3), (4, iv (pos (h0 20) r 0))] h 36 [(0, rv 18), (2, iv y2), (3, iv y3), (4, iv 8)] h' ∧
      MR G m_X12_serve 40 [(0, rv 85), (1, iv x1), (2, iv x3), (3, iv (r : Int))] h 40 [(0, rv 85), (1, iv x1), (2, iv y3), (3, iv 10)] h' ∧ SJ h0 h' S 10 0 8 y2 y3
  | 0, r, hd, h, x2, x3, J => by
    have e : r = 10 := by omega
    subst e
    have pe := pos_end (rank := h0 20) (fun j a b => (hr j a b).2)
    have e10 : (((10 : Nat) : Int)) = 10 := rfl
    rw [e10, pe] at J ⊢
    exact ⟨h, x2, x3, CR.rf, MR.rf, J⟩
  | d + 1, r, hd, h, x2, x3, J => by
    obtain ⟨h1, y2, y3, a, b, c⟩ := sv_row (G := G) (x1 := x1) hu o hS he 8 0 (by omega) h x2 x3 J
    have pr := pos_row (rank := h0 20) (r := (r : Int))
    have c2 : SJ h0 h1 S ((r + 1 : Nat) : Int) 0 (pos (h0 20) ((r + 1 : Nat) : Int) 0) y2 y3 := by
      obtain ⟨fr, on, sv, un, us, le, ev⟩ := c
      have LXk : ∀ j, 0 ≤ j → j < 8 → (LX h0 ((r + 1 : Nat) : Int) 0 j ↔ LX h0 r 8 j) := fun j a b => by unfold LX; omega
      refine ⟨fr, on, fun j a b q => sv j a b ((LXk j a b).mp q), fun j a b q => un j a b (fun z => q ((LXk j a b).mpr z)), us, le, ev.1, ev.2.1, ?_⟩
      have e1 : ((r + 1 : Nat) : Int) = (r : Int) + 1 := by omega
      rw [e1, ← pr]; exact ev.2.2
    obtain ⟨h2, z2, z3, a', b', c'⟩ := sv_all (G := G) (x1 := x1) hu hr o hS he d (r + 1) (by omega) h1 y2 y3 c2
    refine ⟨h2, z2, z3, CR.tr a ?_, ?_, c'⟩
    · have e1 : ((r + 1 : Nat) : Int) = (r : Int) + 1 := by omega
      rw [e1, ← pr] at a'; exact a'
    · intro g Φ K
      refine U_X12_serve_85_40 ⟨fun z => absurd z (by omega), fun _ => b g Φ (U_X12_serve_85_49 ⟨fun _ => ?_, fun z => absurd z (by omega)⟩)⟩
      rw [w32_of (z := (r : Int) + 1) (by omega) (by omega)]
      have t := b' g Φ K
      rw [Int.natCast_add] at t; exact t
def PSv (k : Nat) (i : Int) : Prop := k = 18 ∧ (i = 1 ∨ i = 3 ∨ i = 4) ∨ k = 21 ∨ k = 22 ∨ k = 85 ∧ (i = 19 ∨ i = 21 ∨ i = 22) ∨ k = 95 ∨ k = 96
theorem sim_serve {G : GG} {h : Hp} (hP : IP h) (hO : IOr h) (hB : IB h) (hK : h 85 10 = h 34 4) (hc : 0 ≤ h 34 4 ∧ h 34 4 ≤ 1000000) (he : 0 ≤ h 85 22 ∧ h 85 22 ≤ 1000000000) (hz : h 14 4 = if shdI h (h 34 4) then 1 else 0) :
    ∃ h' r, CE G m_X8_serve [rv 18, iv (h 14 4)] h r h' ∧ ME G m_X12_serve [rv 85] h 0 h' ∧ IP h' ∧ FR PSv h h' ∧ (h' 85 22 = h 85 22 + r ∧ 0 ≤ r ∧ r ≤ 8) ∧ (h' 18 3 = if shdI h (h 34 4) then 0 else h 18 2) ∧ 0 ≤ h' 18 4 := by
  obtain ⟨p0, p1, p2, p3, p4⟩ := id hP
  obtain ⟨L, hL⟩ : ∃ L : Int, L = if shdI h (h 34 4) then 0 else h 18 2 := ⟨_, rfl⟩
  have Lb : 0 ≤ L ∧ L ≤ 10000 := by rw [hL]; split <;> omega
  -- the served of the model are cleared first
  have clr : ∀ (d n : Nat) (f : Int → Int), n + d = 8 → (∀ j : Int, 0 ≤ j → j < n → f j = 0) → ∃ f', (∀ j : Int, 0 ≤ j → j < 8 → f' j = 0) ∧ MR G m_X12_serve 19 [(0, rv 85), (1, iv L), (2, iv (L + h 18 1)), (3, iv (n : Int))] (row (up h 85 21 0) 96 f) 40 [(0, rv 85), (1, iv L), (2, iv (L + h 18 1)), (3, iv 0)] (row (up h 85 21 0) 96 f') := by
    intro d
    induction d with
    | zero =>
      intro n f hn hf
      have e : n = 8 := by omega
      subst e
      exact ⟨f, hf, fun g Φ K => U_X12_serve_85_19 ⟨fun _ => K, fun z => absurd z (by omega)⟩⟩
    | succ d ih =>
      intro n f hn hf
      obtain ⟨f', a, b⟩ := ih (n + 1) (put f n 0) (by omega) (fun j j0 j1 => by
        unfold put; split
        · rfl
        · exact hf j j0 (by omega))
      refine ⟨f', a, fun g Φ K => U_X12_serve_85_19 ⟨fun z => absurd z (by omega), fun _ => ⟨by omega, ?_⟩⟩⟩
      rw [w32_of (z := (n : Int) + 1) (by omega) (by omega)]
      have t := b g Φ K
      rw [Int.natCast_add, cb_rm (by omega), ← up_row, ← cb_rm (by omega)] at t
      exact t
  obtain ⟨f', fz, mr0⟩ := clr 8 0 (h 96) (by omega) (fun j a b => by omega)
  have r96 : row (up h 85 21 0) 96 (h 96) = up h 85 21 0 := by
    have e : h 96 = (up h 85 21 0) 96 := by funext i; rfl
    rw [e]; exact row_id
  rw [r96] at mr0
  obtain ⟨h0, eh0⟩ : ∃ h0, h0 = row (up (up (up h 18 3 L) 18 4 0) 85 21 0) 96 f' := ⟨_, rfl⟩
  have q : ∀ k i, ¬ (k = 18 ∧ (i = 3 ∨ i = 4) ∨ k = 85 ∧ i = 21 ∨ k = 96) → h0 k i = h k i := fun k i z => by
    rw [eh0]; unfold row up
    rw [if_neg (by omega), if_neg (by omega), if_neg (by omega), if_neg (by omega)]
  have v96 : h0 96 = f' := by rw [eh0, row_eq]
  have v4 : h0 18 4 = 0 := by rw [eh0]; rfl
  have v3 : h0 18 3 = L := by rw [eh0]; rfl
  have v21 : h0 85 21 = 0 := by rw [eh0]; rfl
  have e20 : h0 20 = h 20 := by funext i; exact q 20 i (by omega)
  have e23 : h0 23 = h 23 := by funext i; exact q 23 i (by omega)
  have hu : ∀ j, 0 ≤ j → j < 8 → (0 ≤ h0 19 j ∧ h0 19 j ≤ 1000 ∧ h0 93 j = h0 19 j) ∧ h0 94 j = h0 20 j := fun j a b => by
    have := p4 j a b
    rw [q 19 j (by omega), q 93 j (by omega), q 94 j (by omega), q 20 j (by omega)]
    exact ⟨this.1, this.2.1.2.2⟩
  have hr : ∀ j, 0 ≤ j → j < 8 → 0 ≤ h0 20 j ∧ h0 20 j ≤ 9 := fun j a b => by
    have := p4 j a b; rw [e20]; omega
  have o : OrdOK (h0 20) (h0 23) := by rw [e20, e23]; exact hO
  have p0' := pos_0 (rank := h0 20) (fun j a b => (hr j a b).1)
  have J0 : SJ h0 h0 (L + h 18 1) ((0 : Nat) : Int) 0 (pos (h0 20) ((0 : Nat) : Int) 0) 0 (L + h 18 1) := by
    refine ⟨FR.rf, fun j a b => ?_, fun j a b z => ?_, fun j a b _ => ?_, ?_, ?_, ?_⟩
    · have := p4 j a b; rw [q 21 j (by omega), q 95 j (by omega)]; exact this.2.2.1
    · have := hr j a b; unfold LX at z; omega
    · rw [v96]; exact fz j a b
    · rw [v4, v21]; omega
    · rw [v4]; omega
    · have z : pos (h0 20) ((0 : Nat) : Int) 0 = 0 := p0'
      rw [z]; omega
  have he0 : 0 ≤ h0 85 22 ∧ h0 85 22 ≤ 1000000000 := by rw [q 85 22 (by omega)]; exact he
  obtain ⟨h1, y2, y3, a, b, c⟩ := sv_all (G := G) (x1 := L) hu hr o (by omega) he0 10 0 (by omega) h0 0 (L + h 18 1) J0
  obtain ⟨fr, on, sv, un, us, le, ev⟩ := c
  have z0 : pos (h0 20) ((0 : Nat) : Int) 0 = 0 := p0'
  rw [z0] at a
  have b18 : h1 18 0 = h 18 0 := by rw [fr 18 0 (by unfold PSl; omega), q 18 0 (by omega)]
  have b19 : h1 85 19 = h 18 1 := by rw [fr 85 19 (by unfold PSl; omega), q 85 19 (by omega), p1.2.2]
  have b85 : h1 85 18 = h 18 0 := by rw [fr 85 18 (by unfold PSl; omega), q 85 18 (by omega), p0.2.2]
  have bm : imin (h 18 0) (h 18 1 + L - h1 18 4) = imin y3 (h 18 0) := by
    have e : h 18 1 + L - h1 18 4 = y3 := by omega
    rw [e]; unfold imin; split <;> split <;> omega
  obtain ⟨B, hBt⟩ : ∃ B, B = imin y3 (h 18 0) := ⟨_, rfl⟩
  have Bb : 0 ≤ B ∧ B ≤ 1000000 := by rw [hBt]; unfold imin; split <;> omega
  have q1 : ∀ k i, ¬ PSv k i → up (up h1 18 1 B) 85 19 B k i = h k i := fun k i z => by
    unfold PSv at z
    unfold up
    rw [if_neg (by omega), if_neg (by omega), fr k i (by unfold PSl; omega), q k i (by omega)]
  refine ⟨up (up h1 18 1 B) 85 19 B, y2, ?_, ?_, ?_, q1, ?_, ?_, us.2⟩
  · intro g Φ K
    rw [cb_uc' (by omega), cb_uc (by omega)] at K
    have fin : AT G m_X8_serve 36 [(0, rv 18), (2, iv 0), (3, iv (L + h 18 1)), (4, iv 0)] [] (cb h0 g) Φ := a g Φ (U_X8_serve_18_36 ⟨fun _ => by
      simp only [cb_ap, Nat.reduceLT, if_true, b18]; rw [← hBt]; exact K, fun z => absurd z (by omega)⟩)
    have eh : cb h0 g = up (up (cb h g) 18 3 L) 18 4 0 := by rw [eh0, cb_rc' (by omega), cb_uc' (by omega), cb_uc (by omega), cb_uc (by omega)]
    rw [eh] at fin
    refine Call.of rfl (Nat.le_of_ble_eq_true rfl) rfl (U_X8_serve_18_0 ?_)
    simp only [cb_ap, Nat.reduceLT, if_true]
    by_cases s : shdI h (h 34 4)
    · rw [if_pos s] at hL hz
      rw [w32_of (z := 0 + h 18 1) (by omega) (by omega)]
      refine ⟨fun z => absurd z (by omega), fun _ => ?_⟩
      rw [hL] at fin; exact fin
    · rw [if_neg s] at hL hz
      rw [w32_of (z := h 18 2 + h 18 1) (by omega) (by omega)]
      refine ⟨fun _ => ?_, fun z => absurd hz z⟩
      rw [hL] at fin; exact fin
  · intro g Φ K
    rw [cb_um (by omega), cb_um' (by omega)] at K
    refine Call.of rfl (Nat.le_of_ble_eq_true rfl) rfl (U_X12_serve_85_0 (sp_sunNow (h := cb g h) (t := h 34 4) (IBm_cb hB.m) hK hc ?_))
    have eL : (if shdM (cb g h) (h 34 4) then 0 else cb g h 85 20) = L := by
      have z : shdM (cb g h) (h 34 4) ↔ shdI h (h 34 4) := shd_eq hB
      have z2 : cb g h 85 20 = h 18 2 := p2.2.2
      rw [hL, z2]
      by_cases s : shdI h (h 34 4)
      · rw [if_pos (z.mpr s), if_pos s]
      · rw [if_neg (fun t => s (z.mp t)), if_neg s]
    rw [eL]
    have z2 : cb g h 85 19 = h 18 1 := p1.2.2
    rw [z2, w32_of (z := L + h 18 1) (by omega) (by omega)]
    have fin : AT G m_X12_serve 40 [(0, rv 85), (1, iv L), (2, iv (L + h 18 1)), (3, iv 0)] [] (cb g h0) Φ := b g Φ (U_X12_serve_85_40 ⟨fun _ => by
      simp only [cb_ap, Nat.reduceLT, if_false, b85, b19, us.1]
      rw [w32_of (z := h 18 1 + L) (by omega) (by omega), w32_of (z := h 18 1 + L - h1 18 4) (by omega) (by omega), bm, ← hBt]; exact K, fun z => absurd z (by omega)⟩)
    have t := mr0 g Φ (by
      rw [cb_rm (by omega), cb_um (by omega)]
      rw [eh0, cb_rm (by omega), cb_um (by omega), cb_um' (by omega), cb_um' (by omega)] at fin
      exact fin)
    rw [cb_um (by omega)] at t
    exact t
  · have s0 : ∀ j, 0 ≤ j → j < 8 → LX h0 10 0 j := fun j a b => by have := hr j a b; unfold LX; omega
    refine ⟨?_, ?_, ?_, ?_, fun j a b => ?_⟩
    · rw [q1 18 0 (by unfold PSv; omega), q1 85 18 (by unfold PSv; omega)]; exact p0
    · have e1 : up (up h1 18 1 B) 85 19 B 18 1 = B := rfl
      have e2 : up (up h1 18 1 B) 85 19 B 85 19 = B := rfl
      rw [e1, e2]; omega
    · rw [q1 18 2 (by unfold PSv; omega), q1 85 20 (by unfold PSv; omega)]; exact p2
    · exact us.1
    · have := p4 j a b
      refine ⟨?_, ?_, ?_, ?_⟩
      · rw [q1 19 j (by unfold PSv; omega), q1 93 j (by unfold PSv; omega)]; exact this.1
      · rw [q1 20 j (by unfold PSv; omega), q1 94 j (by unfold PSv; omega)]; exact this.2.1
      · exact on j a b
      · exact sv j a b (s0 j a b)
  · refine ⟨?_, ev.2.1, by omega⟩
    have e1 : up (up h1 18 1 B) 85 19 B 85 22 = h1 85 22 := rfl
    rw [e1, ev.1, q 85 22 (by omega)]
  · have e1 : up (up h1 18 1 B) 85 19 B 18 3 = h1 18 3 := rfl
    rw [e1, fr 18 3 (by unfold PSl; omega), v3, hL]
