/-! the monitors -/
def MNk (h : Hp) (k : Int) : Prop :=
  ((h 61 k = 0 ∧ h 132 k = 0) ∨ ((1 ≤ h 61 k ∧ h 61 k ≤ 99) ∧ h 132 k = 1 ∧ h 128 k = h 61 k ∧ CND (h 56 k) (h 57 k) (h 58 k) (h 106 (241 + k)) (h 107 (241 + k)) (h 108 (241 + k)))) ∧
  (h 129 k = h 62 k ∧ 0 ≤ h 62 k ∧ h 62 k ≤ 8) ∧ h 130 k = h 63 k ∧ (h 61 k = 0 ∨ (h 64 k = -60 ∧ h 131 k = -1 ∨ h 131 k = h 64 k ∧ 0 ≤ h 64 k ∧ h 64 k ≤ h 34 4))
def IMn (h : Hp) : Prop := ∀ k, 0 ≤ k → k < 8 → MNk h k
def DMn (k : Nat) (i : Int) : Prop := k = 34 ∧ i = 4 ∨ k = 56 ∨ k = 57 ∨ k = 58 ∨ k = 61 ∨ k = 62 ∨ k = 63 ∨ k = 64 ∨ (k = 106 ∨ k = 107 ∨ k = 108) ∧ (241 ≤ i ∧ i < 249) ∨ k = 128 ∨ k = 129 ∨ k = 130 ∨ k = 131 ∨ k = 132
theorem MNk_cg {h h' : Hp} {k : Int} (k0 : 0 ≤ k) (k1 : k < 8) (e : ∀ a i, DMn a i → ¬ (a = 63 ∨ a = 64 ∨ a = 130 ∨ a = 131) → h' a i = h a i) (e63 : h' 63 k = h 63 k) (e64 : h' 64 k = h 64 k) (e130 : h' 130 k = h 130 k) (e131 : h' 131 k = h 131 k) (I : MNk h k) : MNk h' k := by
  unfold MNk
  rw [e 61 k (by simp [DMn]) (by omega), e 132 k (by simp [DMn]) (by omega), e 128 k (by simp [DMn]) (by omega), e 56 k (by simp [DMn]) (by omega), e 57 k (by simp [DMn]) (by omega), e 58 k (by simp [DMn]) (by omega),
    e 106 _ (by simp [DMn]; omega) (by omega), e 107 _ (by simp [DMn]; omega) (by omega), e 108 _ (by simp [DMn]; omega) (by omega), e 129 k (by simp [DMn]) (by omega), e 62 k (by simp [DMn]) (by omega), e 34 4 (by simp [DMn]) (by omega), e63, e64, e130, e131]
  exact I
theorem IMn_cg {h h' : Hp} (e : ∀ k i, DMn k i → h' k i = h k i) (I : IMn h) : IMn h' := fun k k0 k1 =>
  MNk_cg k0 k1 (fun a i d _ => e a i d) (e 63 k (by simp [DMn])) (e 64 k (by simp [DMn])) (e 130 k (by simp [DMn])) (e 131 k (by simp [DMn])) (I k k0 k1)
def PWa (k : Nat) (i : Int) : Prop := PPf k i ∨ k = 63 ∨ k = 64 ∨ k = 130 ∨ k = 131
theorem dj_w1 : ∀ k i, DLn k i → ¬ PWa k i := by
  intro k i a b
  rcases b with b | b
  · exact dj_f1 k i a b
  · unfold DLn at a; omega
theorem dj_w2 : ∀ k i, DB k i → ¬ PWa k i := by
  intro k i a b
  rcases b with b | b
  · exact dj_f2 k i a b
  · unfold DB PB at a; omega
theorem dj_w3 : ∀ k i, DSk k i → ¬ PWa k i := by
  intro k i a b
  rcases b with b | b
  · exact dj_f3 k i a b
  · unfold DSk at a; omega
theorem dj_w4 : ∀ k i, DMn k i → ¬ (k = 63 ∨ k = 64 ∨ k = 130 ∨ k = 131) → ¬ PPf k i := by
  intro k i a c b; unfold PPf at b; unfold DMn at a
  rcases a with ⟨rfl, rfl⟩ | rfl | rfl | rfl | rfl | rfl | rfl | rfl | ⟨rfl | rfl | rfl, _⟩ | rfl | rfl | rfl | rfl | rfl <;> simp at b
theorem dj_w5 : ∀ k i, DMn k i → ¬ PPf k i := by
  intro k i a b; unfold PPf at b; unfold DMn at a
  rcases a with ⟨rfl, rfl⟩ | rfl | rfl | rfl | rfl | rfl | rfl | rfl | ⟨rfl | rfl | rfl, _⟩ | rfl | rfl | rfl | rfl | rfl <;> simp at b
theorem TL.sw {h h' : Hp} (T : TL h) (f : FR PWa h h') (m : MW h') (e : IEv h') : TL h' := by
  obtain ⟨_, _, c, d, g⟩ := T
  exact ⟨m, e, ILn_cg (dj f dj_w1) c, IB_cg (dj f dj_w2) d, ISk_cg (dj f dj_w3) g⟩
theorem sim_watch1 {G : GG} {h : Hp} {k : Int} (hk : 0 ≤ k ∧ k < 8) (T : TL h) (I : IMn h) (he : h 34 5 ≤ 999999000) :
    ∃ h', CE G m_X0_watch [rv 34, iv k] h 0 h' ∧ MR G m_X12_watch 2 [(0, rv 85), (1, iv k)] h 2 [(0, rv 85), (1, iv (k + 1))] h' ∧ TL h' ∧ IMn h' ∧ FR PWa h h' ∧ (h 34 5 ≤ h' 34 5 ∧ h' 34 5 ≤ h 34 5 + 1) := by
  obtain ⟨M, hE, hL, hB, hS⟩ := id T
  obtain ⟨hP, hW, hMo, hR, hRe, hKi, hCl⟩ := id M
  obtain ⟨e1, e2⟩ := id hE
  obtain ⟨i1, i2, i3, i4⟩ := id (I k hk.1 hk.2)
  rcases i1 with ⟨a1, a2⟩ | ⟨a1, a2, a3, a4⟩
  · refine ⟨h, fun g Φ K => ?_, fun g Φ K => ?_, T, I, FR.rf, by omega⟩
    · refine Call.of rfl (Nat.le_of_ble_eq_true rfl) rfl (U_X0_watch_34_0 ⟨hk, fun z => absurd a1 z, fun _ => K⟩)
    · refine U_X12_watch_85_2 ⟨fun z => absurd z (by omega), fun _ => ⟨hk, fun z => absurd a2 z, fun _ => ?_⟩⟩
      rw [w32_of (z := k + 1) (by omega) (by omega)]; exact K
  have i4 := i4.resolve_left (by omega)
  obtain ⟨r, b, l, cj, mj, oc⟩ := sim_judge_54 (G := G) (i := k) (a := 241 + k) hk (by omega) a4 hB hP hW hMo hRe hS hE hCl
  -- MN behind a change of its own counts
  have mn : ∀ (h' : Hp) (c x y : Int), FR PWa h h' → (∀ j, h' 63 j = if j = k then c else h 63 j) → (∀ j, h' 130 j = if j = k then c else h 130 j) → (∀ j, h' 64 j = if j = k then x else h 64 j) → (∀ j, h' 131 j = if j = k then y else h 131 j) → (x = -60 ∧ y = -1 ∨ y = x ∧ 0 ≤ x ∧ x ≤ h 34 4) → IMn h' := fun h' c x y f f63 f130 f64 f131 q j j0 j1 => by
    have J := I j j0 j1
    have ee : ∀ a i, DMn a i → ¬ (a = 63 ∨ a = 64 ∨ a = 130 ∨ a = 131) → h' a i = h a i := fun a i d n => f a i (fun z => by
      rcases z with z | z
      · exact dj_w4 a i d n z
      · exact n z)
    by_cases z : j = k
    · subst z
      have J' := MNk_cg (h := h) (h' := up (up (up (up h' 63 j (h 63 j)) 64 j (h 64 j)) 130 j (h 130 j)) 131 j (h 131 j)) j0 j1 (fun a i d n => by
        rw [up_nk (by omega), up_nk (by omega), up_nk (by omega), up_nk (by omega)]; exact ee a i d n) (by rw [up_nk (by omega), up_nk (by omega), up_nk (by omega), up_at]) (by rw [up_nk (by omega), up_nk (by omega), up_at]) (by rw [up_nk (by omega), up_at]) up_at J
      obtain ⟨j1', j2', j3', j4'⟩ := J'
      refine ⟨j1', j2', ?_, ?_⟩
      · rw [f63, f130, if_pos rfl, if_pos rfl]
      · refine Or.inr ?_
        rw [f64, f131, if_pos rfl, if_pos rfl, ee 34 4 (by simp [DMn]) (by omega)]; exact q
    · exact MNk_cg j0 j1 ee (by rw [f63, if_neg z]) (by rw [f64, if_neg z]) (by rw [f130, if_neg z]) (by rw [f131, if_neg z]) J
  have q61 : ∀ g, cb h g 61 k = h 61 k := fun g => rfl
  have m132 : ∀ g, cb g h 132 k = 1 := fun g => a2
  by_cases cr : r = 1
  · subst cr
    obtain ⟨o2, o3⟩ : b = 1 ∧ l = 0 := by rcases oc with ⟨z, _⟩ | ⟨_, z, z'⟩ <;> omega
    subst o2 o3
    obtain ⟨c, hc⟩ : ∃ c, c = w32 (h 63 k + 1) := ⟨_, rfl⟩
    -- the class and the model behind the count
    have cw : ∀ (g : Hp) (Φ : Int → Hp → Prop), ((c ≠ h 61 k → Φ 0 (up (cb h g) 63 k c)) ∧ (c = h 61 k → Call G m_X0_act [rv 34, iv k] (up (cb h g) 63 k c) (fun _ h4 => Φ 0 h4))) → Call G m_X0_watch [rv 34, iv k] (cb h g) Φ := fun g Φ Q => by
      refine Call.of rfl (Nat.le_of_ble_eq_true rfl) rfl (U_X0_watch_34_0 ⟨hk, fun _ => cj g _ ⟨fun _ => ⟨hk, hk, hk, hk, ?_⟩, fun z => absurd rfl z⟩, fun z => absurd z (by rw [q61]; omega)⟩)
      have q63 : cb h g 63 k = h 63 k := rfl
      rw [q63, q61, ← hc]; exact Q
    have mw : ∀ (g : Hp) (Φ : Int → Hp → Prop), ((c = h 61 k → (((h 131 k) = (-1) → (((h 62 k) ≠ 8 → AT G m_X12_watch 2 [(0, rv 85), (1, iv (k + 1))] [] (up (up (up (up (up (up (cb g h) 85 57 0) 130 k c) 85 22 (h 34 5 + 1)) 131 k (h 34 4)) 116 (h 62 k) 0) 117 (h 62 k) 0) Φ) ∧ ((h 62 k) = 8 → Call G m_X12_goTo [rv 85, iv 0] (up (up (up (up (cb g h) 85 57 0) 130 k c) 85 22 (h 34 5 + 1)) 131 k (h 34 4)) (fun _ h16 => AT G m_X12_watch 2 [(0, rv 85), (1, iv (k + 1))] [] h16 Φ)))) ∧ ((h 131 k) ≠ (-1) → ((60 ≤ (w32 (h 34 4 - (h 131 k))) → (((h 62 k) ≠ 8 → AT G m_X12_watch 2 [(0, rv 85), (1, iv (k + 1))] [] (up (up (up (up (up (up (cb g h) 85 57 0) 130 k c) 85 22 (h 34 5 + 1)) 131 k (h 34 4)) 116 (h 62 k) 0) 117 (h 62 k) 0) Φ) ∧ ((h 62 k) = 8 → Call G m_X12_goTo [rv 85, iv 0] (up (up (up (up (cb g h) 85 57 0) 130 k c) 85 22 (h 34 5 + 1)) 131 k (h 34 4)) (fun _ h18 => AT G m_X12_watch 2 [(0, rv 85), (1, iv (k + 1))] [] h18 Φ)))) ∧ ((w32 (h 34 4 - (h 131 k))) < 60 → Call G m_X12_goTo [rv 85, iv 0] (up (up (up (up (cb g h) 85 57 0) 130 k c) 85 22 (h 34 5 + 1)) 131 k (h 34 4)) (fun _ h20 => AT G m_X12_watch 2 [(0, rv 85), (1, iv (k + 1))] [] h20 Φ)))))) ∧ (c ≠ h 61 k → AT G m_X12_watch 2 [(0, rv 85), (1, iv (k + 1))] [] (up (up (cb g h) 85 57 0) 130 k c) Φ)) → AT G m_X12_watch 2 [(0, rv 85), (1, iv k)] [] (cb g h) Φ := fun g Φ Q => by
      refine U_X12_watch_85_2 ⟨fun z => absurd z (by omega), fun _ => ⟨hk, fun _ => ?_, fun z => absurd z (by rw [m132]; omega)⟩⟩
      rw [w32_of (z := 241 + k) (by omega) (by omega), w32_of (z := k + 1) (by omega) (by omega)]
      rw [← cb_um (by omega)]
      refine mj g _ ⟨fun z => absurd z (by omega), fun _ => ⟨fun z => absurd rfl z, fun _ => ⟨hk, hk, hk, hk, ?_⟩⟩⟩
      rw [cb_um (by omega)]
      have p130 : up (cb g h) 85 57 0 130 k = h 63 k := i3
      have p128 : up (cb g h) 85 57 0 128 k = h 61 k := a3
      have p129 : up (cb g h) 85 57 0 129 k = h 62 k := i2.1
      have p131 : up (cb g h) 85 57 0 131 k = h 131 k := rfl
      have p10 : up (cb g h) 85 57 0 85 10 = h 34 4 := hCl.1
      have p22 : up (cb g h) 85 57 0 85 22 = h 34 5 := e1
      rw [p130, p128, p129, p131, p10, p22, ← hc, w32_of (z := h 34 5 + 1) (by omega) (by omega)]
      refine ⟨fun z => ⟨hk, fun y => ⟨hk, hk, fun x => ⟨hk, by omega, by omega, ((Q.1 z).1 y).1 x⟩, fun x => ((Q.1 z).1 y).2 x⟩, fun y => ⟨hk, fun x => ⟨hk, hk, fun w => ⟨hk, by omega, by omega, (((Q.1 z).2 y).1 x).1 w⟩, fun w => (((Q.1 z).2 y).1 x).2 w⟩, fun x => ⟨hk, ((Q.1 z).2 y).2 x⟩⟩⟩, fun z => Q.2 z⟩
    by_cases cc : c = h 61 k
    · -- it acts
      obtain ⟨hA, ehA⟩ : ∃ hA, hA = up (up (up (up (up (up (up h 63 k c) 64 k (h 34 4)) 34 5 (h 34 5 + 1)) 85 57 0) 130 k c) 85 22 (h 34 5 + 1)) 131 k (h 34 4) := ⟨_, rfl⟩
      have cA : ∀ g, cb hA g = up (up (up (cb h g) 63 k c) 64 k (h 34 4)) 34 5 (h 34 5 + 1) := fun g => by
        rw [ehA, cb_uc' (by omega), cb_uc' (by omega), cb_uc' (by omega), cb_uc' (by omega), cb_uc (by omega), cb_uc (by omega), cb_uc (by omega)]
      have mA : ∀ g, cb g hA = up (up (up (up (cb g h) 85 57 0) 130 k c) 85 22 (h 34 5 + 1)) 131 k (h 34 4) := fun g => by
        rw [ehA, cb_um (by omega), cb_um (by omega), cb_um (by omega), cb_um (by omega), cb_um' (by omega), cb_um' (by omega), cb_um' (by omega)]
      have fA0 : FR (fun k i => k = 63 ∨ k = 64 ∨ k = 34 ∧ i = 5 ∨ k = 85 ∧ (i = 22 ∨ i = 57) ∨ k = 130 ∨ k = 131) h hA := by
        rw [ehA]; exact ((((((FR.rf.up (by omega)).up (by omega)).up (by omega)).up (by omega)).up (by omega)).up (by omega)).up (by omega)
      have fA : FR PWa h hA := by
        rw [ehA]; exact ((((((FR.rf.up (by simp [PWa])).up (by simp [PWa])).up (by simp [PWa, PPf])).up (by simp [PWa, PPf])).up (by simp [PWa])).up (by simp [PWa, PPf])).up (by simp [PWa])
      have MA : MW hA := MW_cg fA0 M (by unfold DP DW DMo DRu DRe DKi DCl; omega)
      have EA : IEv hA := by rw [ehA]; exact ⟨rfl, show 0 ≤ h 34 5 + 1 by omega⟩
      have hA63 : ∀ j, hA 63 j = if j = k then c else h 63 j := fun j => by rw [ehA]; simp [up_ap]
      have hA64 : ∀ j, hA 64 j = if j = k then h 34 4 else h 64 j := fun j => by rw [ehA]; simp [up_ap]
      have hA130 : ∀ j, hA 130 j = if j = k then c else h 130 j := fun j => by rw [ehA]; simp [up_ap]
      have hA131 : ∀ j, hA 131 j = if j = k then h 34 4 else h 131 j := fun j => by rw [ehA]; simp [up_ap]
      have hA5 : hA 34 5 = h 34 5 + 1 := by rw [ehA]; rfl
      have mnA : ∀ h', FR PPf hA h' → IMn h' := fun h' f => mn h' c (h 34 4) (h 34 4) (fA.trans (f.mono (fun _ _ z => Or.inl z))) (fun j => by rw [f 63 j (by simp [PPf]), hA63]) (fun j => by rw [f 130 j (by simp [PPf]), hA130]) (fun j => by rw [f 64 j (by simp [PPf]), hA64]) (fun j => by rw [f 131 j (by simp [PPf]), hA131]) (Or.inr ⟨rfl, hCl.2.1.1, Int.le_refl _⟩)
      -- to the safe mode, or a start
      have safe : (∀ (g : Hp) (Φ : Int → Hp → Prop), Call G m_X0_goTo [rv 34, iv 0] (cb hA g) (fun _ h4 => Φ 0 h4) → Call G m_X0_watch [rv 34, iv k] (cb h g) Φ) → (∀ (g : Hp) (Φ : Int → Hp → Prop), Call G m_X12_goTo [rv 85, iv 0] (cb g hA) (fun _ h16 => AT G m_X12_watch 2 [(0, rv 85), (1, iv (k + 1))] [] h16 Φ) → AT G m_X12_watch 2 [(0, rv 85), (1, iv k)] [] (cb g h) Φ) →
          ∃ h', CE G m_X0_watch [rv 34, iv k] h 0 h' ∧ MR G m_X12_watch 2 [(0, rv 85), (1, iv k)] h 2 [(0, rv 85), (1, iv (k + 1))] h' ∧ TL h' ∧ IMn h' ∧ FR PWa h h' ∧ (h 34 5 ≤ h' 34 5 ∧ h' 34 5 ≤ h 34 5 + 1) := fun hc hm => by
        obtain ⟨h', ce, me, mo, ru, fr, on, w51⟩ := sim_goTo (G := G) (h := hA) (m := 0) (by omega) MA.2.2.1 MA.2.2.2.1
        have frP : FR PPf hA h' := fr.mono (fun _ _ z => ppf_g (Or.inl z))
        have mw' : MW h' := ⟨IP_on MA.1 (fun k i q d => fr k i (by unfold DP at d; unfold PGt; omega)) on, IW_cg (dj fr (by unfold DW PGt; omega)) MA.2.1, mo, ru, IRe_cg (dj fr (by unfold DRe PGt; omega)) MA.2.2.2.2.1, IKi_cg (dj fr (by unfold DKi PGt; omega)) MA.2.2.2.2.2.1, ICl_cg (dj fr (by unfold DCl PGt; omega)) MA.2.2.2.2.2.2⟩
        have ev : IEv h' := IEv_cg (dj fr (by unfold DEv PGt; omega)) EA
        have e5 : h' 34 5 = h 34 5 + 1 := by rw [fr 34 5 (by unfold PGt; omega), hA5]
        have frT : FR PWa h h' := fA.trans (frP.mono (fun _ _ z => Or.inl z))
        exact ⟨h', fun g Φ K => hc g Φ (ce g _ K), fun g Φ K => hm g Φ (me g _ K), T.sw frT mw' ev, mnA h' frP, frT, by omega⟩
      have beg : h 62 k ≠ 8 → (∀ (g : Hp) (Φ : Int → Hp → Prop), Φ 0 (up (up (cb hA g) 50 (h 62 k) 0) 51 (h 62 k) 0) → Call G m_X0_watch [rv 34, iv k] (cb h g) Φ) → (∀ (g : Hp) (Φ : Int → Hp → Prop), AT G m_X12_watch 2 [(0, rv 85), (1, iv (k + 1))] [] (up (up (cb g hA) 116 (h 62 k) 0) 117 (h 62 k) 0) Φ → AT G m_X12_watch 2 [(0, rv 85), (1, iv k)] [] (cb g h) Φ) →
          ∃ h', CE G m_X0_watch [rv 34, iv k] h 0 h' ∧ MR G m_X12_watch 2 [(0, rv 85), (1, iv k)] h 2 [(0, rv 85), (1, iv (k + 1))] h' ∧ TL h' ∧ IMn h' ∧ FR PWa h h' ∧ (h 34 5 ≤ h' 34 5 ∧ h' 34 5 ≤ h 34 5 + 1) := fun n8 hc hm => by
        have frP : FR PPf hA (up (up (up (up hA 50 (h 62 k) 0) 51 (h 62 k) 0) 116 (h 62 k) 0) 117 (h 62 k) 0) := ((((FR.rf.up (by simp [PPf])).up (by simp [PPf])).up (by simp [PPf])).up (by simp [PPf]))
        have fr : FR (fun k i => k = 50 ∨ k = 51 ∨ k = 116 ∨ k = 117) hA (up (up (up (up hA 50 (h 62 k) 0) 51 (h 62 k) 0) 116 (h 62 k) 0) 117 (h 62 k) 0) := ((((FR.rf.up (by omega)).up (by omega)).up (by omega)).up (by omega))
        have mw' : MW (up (up (up (up hA 50 (h 62 k) 0) 51 (h 62 k) 0) 116 (h 62 k) 0) 117 (h 62 k) 0) := ⟨IP_cg (dj fr (by unfold DP; omega)) MA.1, IW_cg (dj fr (by unfold DW; omega)) MA.2.1, IMo_cg (dj fr (by unfold DMo; omega)) MA.2.2.1, IRu_begin MA.2.2.2.1, IRe_cg (dj fr (by unfold DRe; omega)) MA.2.2.2.2.1, IKi_cg (dj fr (by unfold DKi; omega)) MA.2.2.2.2.2.1, ICl_cg (dj fr (by unfold DCl; omega)) MA.2.2.2.2.2.2⟩
        have frT : FR PWa h (up (up (up (up hA 50 (h 62 k) 0) 51 (h 62 k) 0) 116 (h 62 k) 0) 117 (h 62 k) 0) := fA.trans (frP.mono (fun _ _ z => Or.inl z))
        refine ⟨up (up (up (up hA 50 (h 62 k) 0) 51 (h 62 k) 0) 116 (h 62 k) 0) 117 (h 62 k) 0, fun g Φ K => hc g Φ ?_, fun g Φ K => hm g Φ ?_, T.sw frT mw' EA, mnA _ frP, frT, ⟨show h 34 5 ≤ hA 34 5 by omega, show hA 34 5 ≤ h 34 5 + 1 by omega⟩⟩
        · rw [cb_uc' (by omega), cb_uc' (by omega), cb_uc (by omega), cb_uc (by omega)] at K; exact K
        · rw [cb_um (by omega), cb_um (by omega), cb_um' (by omega), cb_um' (by omega)] at K; exact K
      -- the class's act
      have ca : ∀ (g : Hp) (Φ : Int → Hp → Prop), ((60 ≤ w32 (h 34 4 - h 64 k) → ((h 62 k ≠ 8 → Φ 0 (up (up (cb hA g) 50 (h 62 k) 0) 51 (h 62 k) 0)) ∧ (h 62 k = 8 → Call G m_X0_goTo [rv 34, iv 0] (cb hA g) (fun _ h2 => Φ 0 h2)))) ∧ (w32 (h 34 4 - h 64 k) < 60 → Call G m_X0_goTo [rv 34, iv 0] (cb hA g) (fun _ h4 => Φ 0 h4))) → Call G m_X0_watch [rv 34, iv k] (cb h g) Φ := fun g Φ Q => by
        refine cw g Φ ⟨fun z => absurd cc z, fun _ => ?_⟩
        refine Call.of rfl (Nat.le_of_ble_eq_true rfl) rfl (U_X0_act_34_0 ⟨hk, ?_⟩)
        have p4 : up (cb h g) 63 k c 34 4 = h 34 4 := rfl
        have p5 : up (cb h g) 63 k c 34 5 = h 34 5 := rfl
        have p64 : up (cb h g) 63 k c 64 k = h 64 k := rfl
        have p62 : up (cb h g) 63 k c 62 k = h 62 k := rfl
        rw [p4, p5, p64, p62, w32_of (z := h 34 5 + 1) (by omega) (by omega), ← cA g]
        exact ⟨fun z => ⟨hk, hk, fun y => ⟨hk, by omega, by omega, (Q.1 z).1 y⟩, (Q.1 z).2⟩, fun z => ⟨hk, Q.2 z⟩⟩
      by_cases n1 : h 131 k = -1
      · have w60 : 60 ≤ w32 (h 34 4 - h 64 k) := by
          have k4 := hCl.2.1
          rcases i4 with q | q
          · rw [q.1, w32_of (z := h 34 4 - -60) (by omega) (by omega)]; omega
          · omega
        by_cases n8 : h 62 k = 8
        · refine safe (fun g Φ Q => ca g Φ ⟨fun _ => ⟨fun z => absurd n8 z, fun _ => Q⟩, fun z => absurd z (by omega)⟩) (fun g Φ Q => mw g Φ ⟨fun _ => ⟨fun _ => ⟨fun z => absurd n8 z, fun _ => ?_⟩, fun z => absurd n1 z⟩, fun z => absurd cc z⟩)
          rw [mA] at Q; exact Q
        · refine beg n8 (fun g Φ Q => ca g Φ ⟨fun _ => ⟨fun _ => Q, fun z => absurd z n8⟩, fun z => absurd z (by omega)⟩) (fun g Φ Q => mw g Φ ⟨fun _ => ⟨fun _ => ⟨fun _ => ?_, fun z => absurd z n8⟩, fun z => absurd n1 z⟩, fun z => absurd cc z⟩)
          rw [mA] at Q; exact Q
      · have eq64 : h 131 k = h 64 k := by
          rcases i4 with q | q
          · exact absurd q.2 n1
          · exact q.1
        by_cases w60 : 60 ≤ w32 (h 34 4 - h 64 k)
        · by_cases n8 : h 62 k = 8
          · refine safe (fun g Φ Q => ca g Φ ⟨fun _ => ⟨fun z => absurd n8 z, fun _ => Q⟩, fun z => absurd z (by omega)⟩) (fun g Φ Q => mw g Φ ⟨fun _ => ⟨fun z => absurd z n1, fun _ => ⟨fun _ => ⟨fun z => absurd n8 z, fun _ => ?_⟩, fun z => absurd z (by rw [eq64]; omega)⟩⟩, fun z => absurd cc z⟩)
            rw [mA] at Q; exact Q
          · refine beg n8 (fun g Φ Q => ca g Φ ⟨fun _ => ⟨fun _ => Q, fun z => absurd z n8⟩, fun z => absurd z (by omega)⟩) (fun g Φ Q => mw g Φ ⟨fun _ => ⟨fun z => absurd z n1, fun _ => ⟨fun _ => ⟨fun _ => ?_, fun z => absurd z n8⟩, fun z => absurd z (by rw [eq64]; omega)⟩⟩, fun z => absurd cc z⟩)
            rw [mA] at Q; exact Q
        · refine safe (fun g Φ Q => ca g Φ ⟨fun z => absurd z w60, fun _ => Q⟩) (fun g Φ Q => mw g Φ ⟨fun _ => ⟨fun z => absurd z n1, fun _ => ⟨fun z => absurd z (by rw [eq64]; exact w60), fun _ => ?_⟩⟩, fun z => absurd cc z⟩)
          rw [mA] at Q; exact Q
    · have fr0 : FR (fun k i => k = 63 ∨ k = 85 ∧ i = 57 ∨ k = 130) h (up (up (up h 63 k c) 85 57 0) 130 k c) := (((FR.rf.up (by omega)).up (by omega)).up (by omega))
      have fr : FR PWa h (up (up (up h 63 k c) 85 57 0) 130 k c) := (((FR.rf.up (by simp [PWa])).up (by simp [PWa, PPf])).up (by simp [PWa]))
      refine ⟨up (up (up h 63 k c) 85 57 0) 130 k c, fun g Φ K => cw g Φ ⟨fun _ => ?_, fun z => absurd z cc⟩, fun g Φ K => mw g Φ ⟨fun z => absurd z cc, fun _ => ?_⟩, T.sw fr (MW_cg fr0 M (by unfold DP DW DMo DRu DRe DKi DCl; omega)) ⟨e1, e2⟩, mn _ c (h 64 k) (h 131 k) fr (fun j => by simp [up_ap]) (fun j => by simp [up_ap]) (fun j => ?_) (fun j => ?_) ?_, fr, ⟨Int.le_refl _, show h 34 5 ≤ h 34 5 + 1 by omega⟩⟩
      · rw [cb_uc' (by omega), cb_uc' (by omega), cb_uc (by omega)] at K; exact K
      · rw [cb_um (by omega), cb_um (by omega), cb_um' (by omega)] at K; exact K
      · have q : up (up (up h 63 k c) 85 57 0) 130 k c 64 j = h 64 j := rfl
        rw [q]
        by_cases z : j = k
        · rw [if_pos z, z]
        · rw [if_neg z]
      · have q : up (up (up h 63 k c) 85 57 0) 130 k c 131 j = h 131 j := rfl
        rw [q]
        by_cases z : j = k
        · rw [if_pos z, z]
        · rw [if_neg z]
      · exact i4
  · -- it does not hold
    have fr0 : FR (fun k i => k = 63 ∨ k = 85 ∧ i = 57 ∨ k = 130) h (up (up (up h 63 k 0) 85 57 l) 130 k 0) := (((FR.rf.up (by omega)).up (by omega)).up (by omega))
    have fr : FR PWa h (up (up (up h 63 k 0) 85 57 l) 130 k 0) := (((FR.rf.up (by simp [PWa])).up (by simp [PWa, PPf])).up (by simp [PWa]))
    refine ⟨up (up (up h 63 k 0) 85 57 l) 130 k 0, fun g Φ K => ?_, fun g Φ K => ?_, T.sw fr (MW_cg fr0 M (by unfold DP DW DMo DRu DRe DKi DCl; omega)) ⟨e1, e2⟩, mn _ 0 (h 64 k) (h 131 k) fr (fun j => by simp [up_ap]) (fun j => by simp [up_ap]) (fun j => ?_) (fun j => ?_) ?_, fr, ⟨Int.le_refl _, show h 34 5 ≤ h 34 5 + 1 by omega⟩⟩
    · rw [cb_uc' (by omega), cb_uc' (by omega), cb_uc (by omega)] at K
      refine Call.of rfl (Nat.le_of_ble_eq_true rfl) rfl (U_X0_watch_34_0 ⟨hk, fun _ => cj g _ ⟨fun z => absurd z cr, fun _ => ⟨hk, K⟩⟩, fun z => absurd z (by rw [q61]; omega)⟩)
    · rw [cb_um (by omega), cb_um (by omega), cb_um' (by omega)] at K
      refine U_X12_watch_85_2 ⟨fun z => absurd z (by omega), fun _ => ⟨hk, fun _ => ?_, fun z => absurd z (by rw [m132]; omega)⟩⟩
      rw [w32_of (z := 241 + k) (by omega) (by omega), w32_of (z := k + 1) (by omega) (by omega)]
      rw [← cb_um (by omega)]
      have p128 : cb g (up h 85 57 l) 128 k = h 61 k := a3
      have p57 : cb g (up h 85 57 l) 85 57 = l := rfl
      refine mj g _ ⟨fun _ => ⟨hk, hk, hk, fun z => absurd z (by rw [p128]; omega), fun _ => ?_⟩, fun bz => ⟨fun _ => ⟨hk, hk, hk, fun z => absurd z (by rw [p128]; omega), fun _ => ?_⟩, fun z => ?_⟩⟩
      · rw [cb_um (by omega)]; exact K
      · rw [cb_um (by omega)]; exact K
      · exfalso
        rw [p57] at z
        rcases oc with ⟨_, q⟩ | ⟨q1, q2, _⟩
        · omega
        · rcases q1 with q1 | q1
          · rw [q1] at q2; exact bz q2
          · exact cr q1
    · have q : up (up (up h 63 k 0) 85 57 l) 130 k 0 64 j = h 64 j := rfl
      rw [q]
      by_cases z : j = k
      · rw [if_pos z, z]
      · rw [if_neg z]
    · have q : up (up (up h 63 k 0) 85 57 l) 130 k 0 131 j = h 131 j := rfl
      rw [q]
      by_cases z : j = k
      · rw [if_pos z, z]
      · rw [if_neg z]
    · exact i4
