/-! drafts made programs -/
def IDr (h : Hp) : Prop := h 43 0 = 240 ∧ ∀ i, 0 ≤ i → i < 240 → (h 44 i = 0 ∧ h 109 i = -1) ∨ LRc h 44 i 109 i
theorem LR_m {cv ct cs cx cg mv mw mx mt ms mn : Int} (l : LR cv ct cs cx cg mv mw mx mt ms mn) : mv ≠ -1 := by
  rcases l with l | l | l | l | l | l
  · omega
  · omega
  · omega
  · omega
  · omega
  · unfold ACR at l; omega
theorem inst_ln {h h' : Hp} {k n : Int} (I : ILn h) (hk : 0 ≤ k ∧ k < 8) (hn : 0 ≤ n ∧ n ≤ 30) (e115 : h' 115 k = n) (lr : ∀ i, 0 ≤ i → i < n → LRc h' 37 (30 * k + i) 103 (30 * k + i)) (z : ∀ i, n ≤ i → i < 30 → h' 37 (30 * k + i) = 0) (o : ∀ c j, DLn c j → ¬ (c = 115 ∧ j = k) → ¬ ((37 ≤ c ∧ c ≤ 42 ∨ 103 ≤ c ∧ c ≤ 108) ∧ (30 * k ≤ j ∧ j < 30 * k + 30)) → h' c j = h c j) : ILn h' := by
  obtain ⟨a, b⟩ := I
  refine ⟨by rw [o 36 0 (by simp [DLn]) (by omega) (by omega)]; exact a, fun k' k0 k1 => ?_⟩
  by_cases e : k' = k
  · subst e
    rw [e115]
    exact ⟨hn, fun i i0 i1 => ⟨fun q => lr i i0 q, fun q => z i q i1⟩⟩
  · obtain ⟨c, d⟩ := b k' k0 k1
    have e1 := o 115 k' (by simp [DLn]) (by omega) (by omega)
    rw [e1]
    refine ⟨c, fun i i0 i1 => ⟨fun q => ?_, fun q => ?_⟩⟩
    · have w := (d i i0 i1).1 q
      unfold LRc at w ⊢
      rw [o 37 _ (by simp [DLn]) (by omega) (by omega), o (37 + 1) _ (by simp [DLn]) (by omega) (by omega), o (37 + 2) _ (by simp [DLn]) (by omega) (by omega), o (37 + 3) _ (by simp [DLn]) (by omega) (by omega), o (37 + 4) _ (by simp [DLn]) (by omega) (by omega),
        o 103 _ (by simp [DLn]; omega) (by omega) (by omega), o (103 + 1) _ (by simp [DLn]; omega) (by omega) (by omega), o (103 + 2) _ (by simp [DLn]; omega) (by omega) (by omega), o (103 + 3) _ (by simp [DLn]; omega) (by omega) (by omega), o (103 + 4) _ (by simp [DLn]; omega) (by omega) (by omega), o (103 + 5) _ (by simp [DLn]; omega) (by omega) (by omega)]
      exact w
    · rw [o 37 _ (by simp [DLn]) (by omega) (by omega)]; exact (d i i0 i1).2 q
theorem first0 (f : Int → Int) : ∀ m : Nat, ∃ n : Int, (0 ≤ n ∧ n ≤ m) ∧ (∀ i, 0 ≤ i → i < n → f i ≠ 0) ∧ (n < m → f n = 0)
  | 0 => ⟨0, by omega, fun i a b => by omega, fun z => by omega⟩
  | m + 1 => by
    obtain ⟨n, a, b, c⟩ := first0 f m
    by_cases e : n < m
    · exact ⟨n, by omega, b, fun _ => c e⟩
    · by_cases z : f n = 0
      · exact ⟨n, by omega, b, fun _ => z⟩
      · refine ⟨n + 1, by omega, fun i i0 i1 => ?_, fun w => by omega⟩
        by_cases q : i = n
        · rw [q]; exact z
        · exact b i i0 (by omega)
def PRy (k : Nat) (i : Int) : Prop := (37 ≤ k ∧ k ≤ 42) ∨ k = 44 ∨ k = 50 ∨ k = 51 ∨ (103 ≤ k ∧ k ≤ 108) ∧ (0 ≤ i ∧ i < 240) ∨ k = 109 ∨ k = 115 ∨ k = 116
theorem sim_ready {G : GG} {h : Hp} {k : Int} (hk : 0 ≤ k ∧ k < 8) (hL : ILn h) (hR : IRu h) (hD : IDr h) :
    ∃ h', CE G m_X0_ready [rv 34, iv k] h 0 h' ∧ ME G m_X12_ready [rv 85, iv k] h 0 h' ∧ ILn h' ∧ IRu h' ∧ IDr h' ∧ FR PRy h h' := by
  obtain ⟨d0, dd⟩ := id hD
  have e30 : k * 30 = 30 * k := by omega
  have q44 : ∀ g i, cb h g 44 i = h 44 i := fun g i => rfl
  have q109 : ∀ g i, cb g h 109 i = h 109 i := fun g i => rfl
  have rel : ∀ i, 0 ≤ i → i < 240 → (h 44 i ≠ 0 ↔ h 109 i ≠ -1) := fun i i0 i1 => by
    rcases dd i i0 i1 with ⟨a, b⟩ | a
    · rw [a, b]; simp
    · have x := LR_v a
      have y := LR_m a
      exact ⟨fun _ => y, fun _ => by omega⟩
  by_cases c : h 44 (30 * k) = 0
  · have c' : h 109 (30 * k) = -1 := by
      false_or_by_contra
      rename_i z
      exact (rel (30 * k) (by omega) (by omega)).mpr z c
    refine ⟨h, fun g Φ K => ?_, fun g Φ K => ?_, hL, hR, hD, FR.rf⟩
    · refine Call.of rfl (Nat.le_of_ble_eq_true rfl) rfl (U_X0_ready_34_0 ?_)
      rw [w32_of (z := k * 30) (by omega) (by omega), e30]
      refine Call.of rfl (Nat.le_of_ble_eq_true rfl) rfl (U_X3_isThere_43_0 ?_)
      have q0 : cb h g 43 0 = 240 := d0
      rw [q0, q44, w32_of (z := 240 - 1) (by omega) (by omega)]
      exact ⟨fun y => absurd y (by omega), fun _ => ⟨fun y => absurd y (by omega), fun _ => ⟨by omega, fun _ => ⟨fun _ => K, fun y => absurd rfl y⟩, fun y => absurd c y⟩⟩⟩
    · refine Call.of rfl (Nat.le_of_ble_eq_true rfl) rfl (U_X12_ready_85_0 ?_)
      rw [w32_of (z := 30 * k) (by omega) (by omega), q109]
      exact ⟨by omega, fun z => absurd c' z, fun _ => K⟩
  · obtain ⟨n, nb, n1, n2⟩ := first0 (fun i => h 44 (30 * k + i)) 30
    have nb' : 0 ≤ n ∧ n ≤ 30 := by omega
    have c' : h 109 (30 * k) ≠ -1 := (rel (30 * k) (by omega) (by omega)).mp c
    have ce := ce_inst43 (G := G) (h := h) (k := k) (x := 30 * k) (n := n) hk (by omega) nb' d0 n1 (fun z => n2 (by omega))
    obtain ⟨hc, ehc⟩ : ∃ hc, hc = ers (up (up (ers (cpn h 37 44 (30 * k) (30 * k) n) 37 (30 * k + n) (30 * k + 30) 0) 50 k (-1)) 51 k 0) 44 (30 * k) (30 * k + 30) 0 := ⟨_, rfl⟩
    obtain ⟨hm, ehm⟩ : ∃ hm, hm = up (up (ers (cpn h 103 109 (30 * k) (30 * k) n) 109 (30 * k) (30 * k + 30) (-1)) 115 k n) 116 k (-1) := ⟨_, rfl⟩
    -- cells of both
    have c37 : ∀ (t : Nat) (i : Int), t ≤ 5 → 0 ≤ i → i < n → hc (37 + t) (30 * k + i) = h (44 + t) (30 * k + i) := fun t i t5 i0 i1 => by
      rw [ehc, ers_o (by omega), up_nk (by omega), up_nk (by omega), ers_o (by omega), cpn_i (by omega)]
      congr 1
      · omega
      · omega
    have c37z : ∀ i, n ≤ i → i < 30 → hc 37 (30 * k + i) = 0 := fun i i0 i1 => by
      rw [ehc, ers_o (by omega), up_nk (by omega), up_nk (by omega), ers_i (by omega)]
    have co : ∀ a i, ¬ ((37 ≤ a ∧ a ≤ 42) ∧ (30 * k ≤ i ∧ i < 30 * k + 30) ∨ a = 44 ∧ (30 * k ≤ i ∧ i < 30 * k + 30) ∨ (a = 50 ∨ a = 51) ∧ i = k) → hc a i = h a i := fun a i z => by
      rw [ehc, ers_o (by omega), up_ap, if_neg (by omega), up_ap, if_neg (by omega), ers_o (by omega), cpn_o (by omega)]
    have m103 : ∀ (t : Nat) (i : Int), t ≤ 5 → 0 ≤ i → i < n → hm (103 + t) (30 * k + i) = h (109 + t) (30 * k + i) := fun t i t5 i0 i1 => by
      rw [ehm, up_nk (by omega), up_nk (by omega), ers_o (by omega), cpn_i (by omega)]
      congr 1
      · omega
      · omega
    have mo : ∀ a i, ¬ ((103 ≤ a ∧ a ≤ 108) ∧ (30 * k ≤ i ∧ i < 30 * k + 30) ∨ a = 109 ∧ (30 * k ≤ i ∧ i < 30 * k + 30) ∨ (a = 115 ∨ a = 116) ∧ i = k) → hm a i = h a i := fun a i z => by
      rw [ehm, up_ap, if_neg (by omega), up_ap, if_neg (by omega), ers_o (by omega), cpn_o (by omega)]
    refine ⟨cb hc hm, CE.mk (fun g Φ K => ?_), ME.mk (fun g Φ K => ?_), ?_, ?_, ?_, ?_⟩
    · refine Call.of rfl (Nat.le_of_ble_eq_true rfl) rfl (U_X0_ready_34_0 ?_)
      rw [w32_of (z := k * 30) (by omega) (by omega), e30, w32_of (z := 30 * k + 30) (by omega) (by omega)]
      refine Call.of rfl (Nat.le_of_ble_eq_true rfl) rfl (U_X3_isThere_43_0 ?_)
      have q0 : cb h g 43 0 = 240 := d0
      rw [q0, q44, w32_of (z := 240 - 1) (by omega) (by omega)]
      refine ⟨fun y => absurd y (by omega), fun _ => ⟨fun y => absurd y (by omega), fun _ => ⟨by omega, fun y => absurd y c, fun _ => ⟨fun y => absurd y (by omega), fun _ => ce g _ (sp_erase43 (by omega) (by omega) ?_)⟩⟩⟩⟩
      rw [ehc, cb_ersc (by decide)] at K; exact K
    · refine Call.of rfl (Nat.le_of_ble_eq_true rfl) rfl (U_X12_ready_85_0 ?_)
      rw [w32_of (z := 30 * k) (by omega) (by omega), q109]
      refine ⟨by omega, fun _ => ?_, fun z => absurd z c'⟩
      rw [ehm, cb_um (by decide), cb_um (by decide), cb_ersm (by decide), cb_cpnm (by decide) (by decide)] at K
      have er : ∀ (d : Nat) (m : Int), m + d = 30 → 0 ≤ m → AT G m_X12_ready 124 [(0, rv 85), (1, iv k), (2, iv n), (3, iv m)] [] (ers (cpn (cb g h) 103 109 (30 * k) (30 * k) n) 109 (30 * k) (30 * k + m) (-1)) Φ := by
        intro d
        induction d with
        | zero =>
          intro m hm m0
          have e : m = 30 := by omega
          rw [e]
          exact U_X12_ready_85_124 ⟨fun _ => ⟨hk, hk, K⟩, fun z => absurd z (by omega)⟩
        | succ d ih =>
          intro m hm m0
          refine U_X12_ready_85_124 ⟨fun z => absurd z (by omega), fun _ => ?_⟩
          rw [w32_of (z := 30 * k) (by omega) (by omega), w32_of (z := 30 * k + m) (by omega) (by omega), w32_of (z := m + 1) (by omega) (by omega), ers_step (by omega)]
          have t := ih (m + 1) (by omega) (by omega)
          have e : 30 * k + (m + 1) = 30 * k + m + 1 := by omega
          rw [e] at t
          exact ⟨by omega, t⟩
      have fin : AT G m_X12_ready 124 [(0, rv 85), (1, iv k), (2, iv n), (3, iv 0)] [] (cpn (cb g h) 103 109 (30 * k) (30 * k) n) Φ := by
        have t := er 30 0 (by omega) (by omega)
        rw [ers0 (by omega)] at t; exact t
      have go : ∀ (d : Nat) (m : Int), m + d = n → 0 ≤ m → AT G m_X12_ready 16 [(0, rv 85), (1, iv k), (2, iv m)] [] (cpn (cb g h) 103 109 (30 * k) (30 * k) m) Φ := by
        intro d
        induction d with
        | zero =>
          intro m hm m0
          have e : m = n := by omega
          rw [e]
          refine U_X12_ready_85_16 ⟨fun _ => fin, fun z => ?_⟩
          rw [w32_of (z := 30 * k) (by omega) (by omega), w32_of (z := 30 * k + n) (by omega) (by omega)]
          have q : cpn (cb g h) 103 109 (30 * k) (30 * k) n 109 (30 * k + n) = -1 := by
            rw [cpn_o (by omega)]
            have n0 : h 44 (30 * k + n) = 0 := n2 (by omega)
            show h 109 (30 * k + n) = -1
            false_or_by_contra
            rename_i w
            exact (rel (30 * k + n) (by omega) (by omega)).mpr w n0
          exact ⟨by omega, fun _ => fin, fun w => absurd q w⟩
        | succ d ih =>
          intro m hm m0
          refine U_X12_ready_85_16 ⟨fun z => absurd z (by omega), fun _ => ?_⟩
          rw [w32_of (z := 30 * k) (by omega) (by omega), w32_of (z := 30 * k + m) (by omega) (by omega), w32_of (z := m + 1) (by omega) (by omega)]
          have q : cpn (cb g h) 103 109 (30 * k) (30 * k) m 109 (30 * k + m) ≠ -1 := by
            rw [cpn_o (by omega)]
            exact (rel (30 * k + m) (by omega) (by omega)).mp (n1 m m0 (by omega))
          have b1 : 0 ≤ 30 * k + m ∧ 30 * k + m < 240 := by omega
          have b2 : 0 ≤ 30 * k + m ∧ 30 * k + m < 260 := by omega
          refine ⟨b1, fun w => absurd w q, fun _ => ⟨b1, b2, b1, b2, b1, b2, b1, b2, b1, b2, b1, b2, ?_⟩⟩
          rw [cp_103_109]
          have t := ih (m + 1) (by omega) (by omega)
          rw [← cpn_step (by omega) m0] at t
          exact t
      have t := go n.toNat 0 (by omega) (by omega)
      rw [cpn0] at t
      exact t
    · refine inst_ln hL hk nb' ?_ (fun i i0 i1 => ?_) (fun i i0 i1 => ?_) (fun a j d z1 z2 => ?_)
      · rw [cb_m (by decide), ehm, up_nk (by decide), up_at]
      · have L := (dd (30 * k + i) (by omega) (by omega)).resolve_left (fun w => n1 i i0 i1 w.1)
        unfold LRc at L ⊢
        rw [cb_c (by decide), cb_c (by decide), cb_c (by decide), cb_c (by decide), cb_c (by decide), cb_m (by decide), cb_m (by decide), cb_m (by decide), cb_m (by decide), cb_m (by decide), cb_m (by decide)]
        have x0 := c37 0 i (by omega) i0 i1
        have x1 := c37 1 i (by omega) i0 i1
        have x2 := c37 2 i (by omega) i0 i1
        have x3 := c37 3 i (by omega) i0 i1
        have x4 := c37 4 i (by omega) i0 i1
        have y0 := m103 0 i (by omega) i0 i1
        have y1 := m103 1 i (by omega) i0 i1
        have y2 := m103 2 i (by omega) i0 i1
        have y3 := m103 3 i (by omega) i0 i1
        have y4 := m103 4 i (by omega) i0 i1
        have y5 := m103 5 i (by omega) i0 i1
        simp only [Nat.add_zero] at x0 y0
        rw [x0, x1, x2, x3, x4, y0, y1, y2, y3, y4, y5]
        exact L
      · rw [cb_c (by decide)]; exact c37z i i0 i1
      · unfold DLn at d
        by_cases k85 : a < 85
        · rw [cb_c k85]; exact co a j (by omega)
        · rw [cb_m (by omega)]; exact mo a j (by omega)
    · refine IRu_set (p := k) hR (fun j z => ?_) ?_
      · rw [cb_c (by decide), cb_c (by decide), cb_m (by decide), cb_m (by decide), co 50 j (by omega), co 51 j (by omega), mo 116 j (by omega), mo 117 j (by omega)]
        exact ⟨rfl, rfl, rfl, rfl⟩
      · have a1 : cb hc hm 50 k = -1 := by rw [cb_c (by decide), ehc, ers_o (by omega), up_nk (by decide), up_at]
        have a2 : cb hc hm 51 k = 0 := by rw [cb_c (by decide), ehc, ers_o (by omega), up_at]
        have a3 : cb hc hm 116 k = -1 := by rw [cb_m (by decide), ehm, up_at]
        unfold RUk
        rw [a1, a2, a3]
        exact ⟨rfl, by omega, by omega, by omega, by omega, fun _ => rfl, fun z => absurd rfl z⟩
    · refine ⟨by rw [cb_c (by decide), co 43 0 (by omega)]; exact d0, fun i i0 i1 => ?_⟩
      by_cases z : 30 * k ≤ i ∧ i < 30 * k + 30
      · left
        rw [cb_c (by decide), cb_m (by decide), ehc, ers_i z, ehm, up_nk (by decide), up_nk (by decide), ers_i z]
        exact ⟨rfl, rfl⟩
      · have L := dd i i0 i1
        unfold LRc at L ⊢
        rw [cb_c (k := 44) (by decide), cb_m (k := 109) (by decide), cb_c (k := 44 + 1) (by decide), cb_c (k := 44 + 2) (by decide), cb_c (k := 44 + 3) (by decide), cb_c (k := 44 + 4) (by decide), cb_m (k := 109 + 1) (by decide), cb_m (k := 109 + 2) (by decide), cb_m (k := 109 + 3) (by decide), cb_m (k := 109 + 4) (by decide), cb_m (k := 109 + 5) (by decide),
          co 44 i (by omega), co (44 + 1) i (by omega), co (44 + 2) i (by omega), co (44 + 3) i (by omega), co (44 + 4) i (by omega), mo 109 i (by omega), mo (109 + 1) i (by omega), mo (109 + 2) i (by omega), mo (109 + 3) i (by omega), mo (109 + 4) i (by omega), mo (109 + 5) i (by omega)]
        exact L
    · intro a i z
      unfold PRy at z
      by_cases k85 : a < 85
      · rw [cb_c k85]; exact co a i (by omega)
      · rw [cb_m (by omega)]; exact mo a i (by omega)
