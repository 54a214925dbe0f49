/-! program: both ways -/
def PPg (k : Nat) (i : Int) : Prop := PTx k i ∨ (5 ≤ k ∧ k ≤ 9) ∨ (37 ≤ k ∧ k ≤ 42) ∨ k = 50 ∨ k = 51 ∨ (103 ≤ k ∧ k ≤ 108) ∧ (0 ≤ i ∧ i ≤ 240) ∨ k = 115 ∨ k = 116 ∨ (118 ≤ k ∧ k ≤ 123)
theorem IT_of {h' : Hp} (a : h' 2 1 = 0) (c : h' 85 3 = 0) : IT h' := by
  refine ⟨by omega, by omega, by omega, fun i a1 a2 => ?_⟩
  rw [a] at a2
  omega
theorem op_program {G : GG} {h : Hp} {k : Int} (hT : IT h) (hL : ILn h) (hR : IRu h) (h4 : h 4 0 = 30) : BOTH G m_X11_program m_X12_program [iv k] h (fun h' => (IT h' ∧ ILn h' ∧ IRu h') ∧ FR PPg h h') := by
  by_cases hk : 0 ≤ k ∧ k < 8
  · obtain ⟨T, Cc, Cm⟩ := bT_ok hT
    have t1 := T.1
    obtain ⟨i0, i1, i2, i3⟩ := id hT
    have S0 : SV (h 2 1) ((0, -1) : PS) := ⟨⟨Int.le_refl 0, T.1.1⟩, Or.inl rfl⟩
    have Cc0 : TXc (ers h 5 0 30 0) (bT h) (h 2 1) := ⟨by rw [ers_o (by omega)], fun x x0 x1 => by rw [ers_o (by omega)]; exact Cc.2 x x0 x1⟩
    obtain ⟨s', m, hc', hm', V, mb, CZp, alt, FC, FM⟩ := sim_prog (G := G) (k := k) T 30 0 (0, -1) (ers h 5 0 30 0) (tkH h) (by omega) S0 rfl Cc0 Cm (by rw [ers_o (by omega)]; exact h4) (fun i a c => by omega) (fun i a c => ers_i (by omega))
    have Cc' : TXc hc' (bT h) (h 2 1) := ⟨by rw [FC 2 1 (by omega)]; exact Cc0.1, fun x x0 x1 => by rw [FC 3 x (by omega)]; exact Cc0.2 x x0 x1⟩
    have Fv := fns_v V
    have fv := Fv.2
    have readC : ∀ (g : Hp) (Φ : Int → Hp → Prop), (((fns (h 2 1) s').2 = -1 → Call G m_X0_install [rv 34, iv k, rv 4, iv 0] (cb (up (sT hc' (fns (h 2 1) s')) 2 1 0) g) (fun _ h6 => Φ m h6)) ∧ ((fns (h 2 1) s').2 ≠ -1 → Φ (-1000 - (fns (h 2 1) s').2) (cb (up (sT hc' (fns (h 2 1) s')) 2 1 0) g))) → Call G m_X11_program [rv 1, iv k] (cb h g) Φ := fun g Φ K => by
      rw [cb_uc (by decide), cb_sT] at K
      have C' : TXc (cb hc' g) (bT h) (h 2 1) := Cc'
      refine Call.of rfl (Nat.le_of_ble_eq_true rfl) rfl (U_X11_program_1_0 ⟨fun z => absurd z (by omega), fun _ => ⟨fun z => absurd z (by omega), fun _ => ?_⟩⟩)
      refine Call.of rfl (Nat.le_of_ble_eq_true rfl) rfl (U_X3_readProgram_4_2_0 ?_)
      have q : cb h g 4 0 = 30 := h4
      rw [q]
      show Call G m_X3_erase [rv 4, iv 0, iv 30] (sT (cb h g) (0, -1)) _
      refine sp_erase4 (by omega) (by omega) ?_
      rw [ers_sT, ← cb_ersc (by decide), ← cb_sT]
      refine CZp g _ ?_
      rw [cb_sT]
      refine c_close V C' (fun z => ⟨fun _ => K.1 z, fun y => absurd y (by decide)⟩) (fun z => ⟨fun y => absurd rfl y, fun _ => ?_⟩)
      rw [up_ni (by decide), sT_w, w32_of (by omega) (by omega)]
      exact K.2 z
    have readM : ∀ (g : Hp) (Φ : Int → Hp → Prop), AT G m_X12_program 18 [(0, rv 85), (1, iv k), (2, iv ((0 : Nat) : Int))] [] (cb g (sM (tkH h) (0, -1))) Φ → Call G m_X12_program [rv 85, iv k] (cb g h) Φ := fun g Φ K => by
      refine Call.of rfl (Nat.le_of_ble_eq_true rfl) rfl (U_X12_program_85_0 ⟨fun z => absurd z (by omega), fun _ => ⟨fun z => absurd z (by omega), fun _ => m_take (by show 0 ≤ h 85 3 ∧ h 85 3 ≤ 1600; omega) ?_⟩⟩)
      rw [cb_tkH, ← cb_sM]
      exact K
    rcases alt with ⟨g1, g2, g3, g4⟩ | ⟨b1, b2⟩
    · have es : fns (h 2 1) s' = s' := by
        unfold fns at g1 ⊢
        split
        · rename_i w
          rw [if_pos w] at g1
          have g1 : s'.1 = -1 := g1
          have := V.1
          omega
        · rfl
      obtain ⟨Hc, eHc⟩ : ∃ Hc, Hc = up (sT hc' s') 2 1 0 := ⟨_, rfl⟩
      have Hco : ∀ a i, a ≠ 2 → Hc a i = hc' a i := fun a i z => by rw [eHc, up_nk z, sT_o z]
      have ce := ce_inst4 (G := G) (h := Hc) (k := k) (x := 0) (n := m) hk (by omega) mb (by rw [Hco 4 0 (by decide), FC 4 0 (by omega), ers_o (by omega)]; exact h4) (fun i a c => by
        have e : (0 : Int) + i = i := by omega
        rw [e, Hco 5 i (by decide)]
        have := LR_v (g2 i a c)
        omega) (fun c => by
        have e : (0 : Int) + m = m := by omega
        rw [e, Hco 5 m (by decide)]
        exact g3 m (Int.le_refl m) c)
      obtain ⟨hcF, ehc⟩ : ∃ hcF, hcF = up (up (ers (cpn Hc 37 5 (30 * k) 0 m) 37 (30 * k + m) (30 * k + 30) 0) 50 k (-1)) 51 k 0 := ⟨_, rfl⟩
      obtain ⟨hmF, ehm⟩ : ∃ hmF, hmF = up (up (cpn (sM hm' s') 103 118 (30 * k) 0 m) 115 k m) 116 k (-1) := ⟨_, rfl⟩
      have c37 : ∀ (t : Nat) (i : Int), t ≤ 5 → 0 ≤ i → i < m → hcF (37 + t) (30 * k + i) = hc' (5 + t) i := fun t i t5 i0 i1 => by
        rw [ehc, up_nk (by omega), up_nk (by omega), ers_o (by omega), cpn_i (by omega), Hco _ _ (by omega)]
        congr 1
        · omega
        · omega
      have c37z : ∀ i, m ≤ i → i < 30 → hcF 37 (30 * k + i) = 0 := fun i i0 i1 => by
        rw [ehc, up_nk (by omega), up_nk (by omega), ers_i (by omega)]
      have co : ∀ a i, ¬ ((37 ≤ a ∧ a ≤ 42) ∧ (30 * k ≤ i ∧ i < 30 * k + 30) ∨ (a = 50 ∨ a = 51) ∧ i = k ∨ (5 ≤ a ∧ a ≤ 9) ∨ a = 2) → hcF a i = h a i := fun a i z => by
        rw [ehc, up_ap, if_neg (by omega), up_ap, if_neg (by omega), ers_o (by omega), cpn_o (by omega), Hco a i (by omega), FC a i (by omega), ers_o (by omega)]
      have co2 : ∀ i, ¬ (i = 1 ∨ i = 2 ∨ i = 3) → hcF 2 i = h 2 i := fun i z => by
        rw [ehc, up_nk (by decide), up_nk (by decide), ers_o (by omega), cpn_o (by omega), eHc, up_ni (by omega)]
        unfold sT
        rw [up_ni (by omega), up_ni (by omega), FC 2 i (by omega), ers_o (by omega)]
      have m103 : ∀ (t : Nat) (i : Int), t ≤ 5 → 0 ≤ i → i < m → hmF (103 + t) (30 * k + i) = hm' (118 + t) i := fun t i t5 i0 i1 => by
        rw [ehm, up_nk (by omega), up_nk (by omega), cpn_i (by omega), sM_o (by omega)]
        congr 1
        · omega
        · omega
      have mo' : ∀ a i, ¬ ((103 ≤ a ∧ a ≤ 108) ∧ (30 * k ≤ i ∧ i < 30 * k + 30 ∨ i = 240) ∨ (a = 115 ∨ a = 116) ∧ i = k ∨ (118 ≤ a ∧ a ≤ 123) ∨ a = 85 ∧ (i = 3 ∨ i = 4 ∨ i = 5 ∨ i = 6) ∨ a = 87) → hmF a i = h a i := fun a i z => by
        rw [ehm, up_ap, if_neg (by omega), up_ap, if_neg (by omega), cpn_o (by omega)]
        unfold sM
        rw [up_ap, if_neg (by omega), up_ap, if_neg (by omega), FM a i (by omega), tkH_o (by omega)]
      refine BOTH.of (r := m) (h' := cb hcF hmF) (CE.mk (fun g Φ K => ?_)) (ME.mk (fun g Φ K => ?_)) ⟨⟨?_, ?_, ?_⟩, ?_⟩
      · refine readC g Φ ⟨fun _ => ?_, fun z => absurd g1 z⟩
        rw [es, ← eHc]
        exact ce g _ (by rw [ehc] at K; exact K)
      · refine readM g Φ (g4 g Φ ?_)
        rw [ehm, cb_um (by decide), cb_um (by decide), cb_cpnm (by decide) (by decide)] at K
        have go : ∀ (d : Nat) (i : Int), i + d = m → 0 ≤ i → AT G m_X12_program 186 [(0, rv 85), (1, iv k), (2, iv m), (3, iv i)] [] (cpn (cb g (sM hm' s')) 103 118 (30 * k) 0 i) Φ := by
          intro d
          induction d with
          | zero =>
            intro i hi i0
            have e : i = m := by omega
            rw [e]
            exact U_X12_program_85_186 ⟨fun _ => ⟨hk, hk, K⟩, fun z => absurd z (by omega)⟩
          | succ d ih =>
            intro i hi i0
            refine U_X12_program_85_186 ⟨fun z => absurd z (by omega), fun _ => ?_⟩
            rw [w32_of (z := 30 * k) (by omega) (by omega), w32_of (z := 30 * k + i) (by omega) (by omega), w32_of (z := i + 1) (by omega) (by omega)]
            have b1 : 0 ≤ i ∧ i < 30 := by omega
            have b2 : 0 ≤ 30 * k + i ∧ 30 * k + i < 260 := by omega
            refine ⟨b1, b2, b1, b2, b1, b2, b1, b2, b1, b2, b1, b2, ?_⟩
            rw [cp_103_118]
            have t := ih (i + 1) (by omega) (by omega)
            rw [← cpn_step (by omega) i0] at t
            have e0 : (0 : Int) + i = i := by omega
            rw [e0] at t
            exact t
        have t := go m.toNat 0 (by omega) (by omega)
        rw [cpn0] at t
        exact t
      · refine IT_of ?_ ?_
        · rw [cb_c (by decide), ehc, up_nk (by decide), up_nk (by decide), ers_o (by omega), cpn_o (by omega), eHc, up_at]
        · rw [cb_m (by decide), ehm, up_nk (by decide), up_nk (by decide), cpn_o (by omega), sM_oi (by decide), FM 85 3 (by omega), tkH_3]
      · refine inst_ln hL hk mb ?_ (fun i i0 i1 => ?_) (fun i i0 i1 => ?_) (fun a j d z1 z2 => ?_)
        · rw [cb_m (by decide), ehm, up_nk (by decide), up_at]
        · have L := g2 i i0 i1
          unfold LRf at L
          unfold LRc
          rw [cb_c (by decide), cb_c (by decide), cb_c (by decide), cb_c (by decide), cb_c (by decide), cb_m (by decide), cb_m (by decide), cb_m (by decide), cb_m (by decide), cb_m (by decide), cb_m (by decide)]
          have x0 := c37 0 i (by omega) i0 i1
          have x1 := c37 1 i (by omega) i0 i1
          have x2 := c37 2 i (by omega) i0 i1
          have x3 := c37 3 i (by omega) i0 i1
          have x4 := c37 4 i (by omega) i0 i1
          have y0 := m103 0 i (by omega) i0 i1
          have y1 := m103 1 i (by omega) i0 i1
          have y2 := m103 2 i (by omega) i0 i1
          have y3 := m103 3 i (by omega) i0 i1
          have y4 := m103 4 i (by omega) i0 i1
          have y5 := m103 5 i (by omega) i0 i1
          simp only [Nat.add_zero] at x0 y0
          rw [x0, x1, x2, x3, x4, y0, y1, y2, y3, y4, y5]
          exact L
        · rw [cb_c (by decide)]; exact c37z i i0 i1
        · unfold DLn at d
          by_cases k85 : a < 85
          · rw [cb_c k85]; exact co a j (by omega)
          · rw [cb_m (by omega)]; exact mo' a j (by omega)
      · refine IRu_set (p := k) hR (fun j z => ?_) ?_
        · rw [cb_c (by decide), cb_c (by decide), cb_m (by decide), cb_m (by decide), co 50 j (by omega), co 51 j (by omega), mo' 116 j (by omega), mo' 117 j (by omega)]
          exact ⟨rfl, rfl, rfl, rfl⟩
        · have a1 : cb hcF hmF 50 k = -1 := by rw [cb_c (by decide), ehc, up_nk (by decide), up_at]
          have a2 : cb hcF hmF 51 k = 0 := by rw [cb_c (by decide), ehc, up_at]
          have a3 : cb hcF hmF 116 k = -1 := by rw [cb_m (by decide), ehm, up_at]
          unfold RUk
          rw [a1, a2, a3]
          exact ⟨rfl, by omega, by omega, by omega, by omega, fun _ => rfl, fun z => absurd rfl z⟩
      · intro a i z
        unfold PPg PTx at z
        by_cases k85 : a < 85
        · rw [cb_c k85]
          by_cases a2 : a = 2
          · subst a2; exact co2 i (by omega)
          · exact co a i (by omega)
        · rw [cb_m (by omega)]; exact mo' a i (by omega)
    · refine BOTH.of (r := -1000 - (fns (h 2 1) s').2) (h' := cb (up (sT hc' (fns (h 2 1) s')) 2 1 0) (sM hm' (fns (h 2 1) s'))) (CE.mk (fun g Φ K => readC g Φ ⟨fun z => absurd z b1, fun _ => K⟩)) (ME.mk (fun g Φ K => readM g Φ (b2 g Φ K))) ⟨⟨end_ok (by rw [FM 85 3 (by omega), tkH_3]), ?_, ?_⟩, ?_⟩
      · refine ILn_cg (fun a i d => ?_) hL
        unfold DLn at d
        by_cases k85 : a < 85
        · rw [cb_c k85, up_nk (by omega), sT_o (by omega), FC a i (by omega), ers_o (by omega)]
        · rw [cb_m (by omega), sM_o (by omega), FM a i (by omega), tkH_o (by omega)]
      · refine fun j j0 j1 => ?_
        have w := hR j j0 j1
        unfold RUk at w ⊢
        have cc : ∀ a i, a < 85 → a ≠ 2 → ¬ (5 ≤ a ∧ a ≤ 9) → cb (up (sT hc' (fns (h 2 1) s')) 2 1 0) (sM hm' (fns (h 2 1) s')) a i = h a i := fun a i z1 z2 z3 => by
          rw [cb_c z1, up_nk z2, sT_o z2, FC a i z3, ers_o (by omega)]
        have mm : ∀ a i, 85 < a → ¬ ((103 ≤ a ∧ a ≤ 108) ∧ i = 240 ∨ (118 ≤ a ∧ a ≤ 123)) → a ≠ 87 → cb (up (sT hc' (fns (h 2 1) s')) 2 1 0) (sM hm' (fns (h 2 1) s')) a i = h a i := fun a i z1 z2 z3 => by
          rw [cb_m (by omega), sM_o (by omega), FM a i z2, tkH_o (by omega)]
        rw [mm 116 j (by omega) (by omega) (by omega), cc 50 j (by omega) (by omega) (by omega), cc 51 j (by omega) (by omega) (by omega), mm 117 j (by omega) (by omega) (by omega)]
        exact w
      · intro a i z
        unfold PPg PTx at z
        by_cases k85 : a < 85
        · rw [cb_c k85, up_ap, if_neg (by omega)]
          unfold sT
          rw [up_ap, if_neg (by omega), up_ap, if_neg (by omega), FC a i (by omega), ers_o (by omega)]
        · rw [cb_m (by omega)]
          unfold sM
          rw [up_ap, if_neg (by omega), up_ap, if_neg (by omega), FM a i (by omega), tkH_o (by omega)]
  · refine BOTH.of (r := -1) (h' := h) (fun g Φ K => ?_) (fun g Φ K => ?_) ⟨⟨hT, hL, hR⟩, FR.rf⟩
    · exact Call.of rfl (Nat.le_of_ble_eq_true rfl) rfl (U_X11_program_1_0 ⟨fun _ => K, fun z => ⟨fun _ => K, fun y => absurd ⟨z, by omega⟩ hk⟩⟩)
    · exact Call.of rfl (Nat.le_of_ble_eq_true rfl) rfl (U_X12_program_85_0 ⟨fun _ => K, fun z => ⟨fun _ => K, fun y => absurd ⟨z, by omega⟩ hk⟩⟩)
