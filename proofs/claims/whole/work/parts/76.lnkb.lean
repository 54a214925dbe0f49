/-! a frame is filled and sent, both ways -/
theorem IUw_cg {h h' : Hp} (e : ∀ k i, (k = 26 ∧ (i = 7 ∨ i = 8) ∨ k = 32 ∨ k = 85 ∧ (i = 73 ∨ i = 74) ∨ k = 136) → h' k i = h k i) (I : IUw h) : IUw h' := by
  obtain ⟨a, b, c, d⟩ := I
  unfold IUw
  rw [e 85 73 (by omega), e 85 74 (by omega), e 26 7 (by omega), e 26 8 (by omega)]
  exact ⟨a, b, c, fun j j0 j1 => by rw [e 136 j (by omega), e 32 j (by omega)]; exact d j j0 j1⟩
theorem sim_fill {G : GG} {F : Int} (hF : 0 ≤ F ∧ F + 18 ≤ 744) :
    ∀ (d i : Nat), i + d = 18 → ∀ (h : Hp) (x : Int), IRe h → IUw h → (∀ b : Int, 0 ≤ b → b < i → h 33 (F + b) = h 139 (4 + b) ∧ 0 ≤ h 139 (4 + b) ∧ h 139 (4 + b) ≤ 255) → (x = 255 ∨ 0 ≤ x ∧ x < i) →
    ∃ h' x', CZ G m_X4_fillData 6 [(0, rv 26), (1, iv F), (2, iv x), (3, iv (i : Int))] h x' h' ∧ MR G m_X12_link 23 [(0, rv 85), (1, iv x), (2, iv (i : Int))] h 23 [(0, rv 85), (1, iv x'), (2, iv 18)] h' ∧ IRe h' ∧ IUw h' ∧ (∀ b : Int, 0 ≤ b → b < 18 → h' 33 (F + b) = h' 139 (4 + b) ∧ 0 ≤ h' 139 (4 + b) ∧ h' 139 (4 + b) ≤ 255) ∧ FR (PLk F) h h' ∧ (x' = 255 ∨ 0 ≤ x' ∧ x' < 18) := by
  intro d
  induction d with
  | zero =>
    intro i hi h x hR hU hb hx
    have e : i = 18 := by omega
    subst e
    exact ⟨h, x, fun g Φ K => U_X4_fillData_26_6 ⟨fun _ => K, fun z => absurd z (by omega)⟩, MR.rf, hR, hU, hb, FR.rf, hx⟩
  | succ d ih =>
    intro i hi h x hR hU hb hx
    obtain ⟨⟨u1, u2⟩, u3, u4, u5⟩ := id hU
    have q7 : ∀ g, cb h g 26 7 = h 26 7 := fun g => rfl
    have q8 : ∀ g, cb h g 26 8 = h 26 8 := fun g => rfl
    have m73 : ∀ g, cb g h 85 73 = h 26 7 := fun g => u1
    have m74 : ∀ g, cb g h 85 74 = h 26 8 := fun g => u2
    -- a byte v is put, and the place moves
    have step : ∀ (h1 : Hp) (v y p : Int), IRe h1 → IUw h1 → FR (PLk F) h h1 → (∀ b : Int, 0 ≤ b → b < i → h1 33 (F + b) = h1 139 (4 + b) ∧ 0 ≤ h1 139 (4 + b) ∧ h1 139 (4 + b) ≤ 255) → (0 ≤ v ∧ v ≤ 255) → (0 ≤ p ∧ p ≤ h1 26 7) → (y = 255 ∨ 0 ≤ y ∧ y < ((i + 1 : Nat) : Int)) →
        (∀ (g : Hp) (Φ : Int → Hp → Prop), AT G m_X4_fillData 6 [(0, rv 26), (1, iv F), (2, iv y), (3, iv ((i : Int) + 1))] [] (up (up (cb h1 g) 33 (F + i) v) 26 8 p) Φ → AT G m_X4_fillData 6 [(0, rv 26), (1, iv F), (2, iv x), (3, iv (i : Int))] [] (cb h g) Φ) →
        (∀ (g : Hp) (Φ : Int → Hp → Prop), AT G m_X12_link 23 [(0, rv 85), (1, iv y), (2, iv ((i : Int) + 1))] [] (up (up (cb g h1) 139 (4 + i) v) 85 74 p) Φ → AT G m_X12_link 23 [(0, rv 85), (1, iv x), (2, iv (i : Int))] [] (cb g h) Φ) →
        ∃ h' x', CZ G m_X4_fillData 6 [(0, rv 26), (1, iv F), (2, iv x), (3, iv (i : Int))] h x' h' ∧ MR G m_X12_link 23 [(0, rv 85), (1, iv x), (2, iv (i : Int))] h 23 [(0, rv 85), (1, iv x'), (2, iv 18)] h' ∧ IRe h' ∧ IUw h' ∧ (∀ b : Int, 0 ≤ b → b < 18 → h' 33 (F + b) = h' 139 (4 + b) ∧ 0 ≤ h' 139 (4 + b) ∧ h' 139 (4 + b) ≤ 255) ∧ FR (PLk F) h h' ∧ (x' = 255 ∨ 0 ≤ x' ∧ x' < 18) := fun h1 v y p R1 U1 f1 b1 vb pb yb hc hm => by
      have fr2 : FR (PLk F) h1 (up (up (up (up h1 33 (F + i) v) 26 8 p) 139 (4 + i) v) 85 74 p) := (((FR.rf.up (by simp [PLk]; omega)).up (by simp [PLk])).up (by simp [PLk]; omega)).up (by simp [PLk])
      have v33 : ∀ j, up (up (up (up h1 33 (F + i) v) 26 8 p) 139 (4 + i) v) 85 74 p 33 j = if j = F + i then v else h1 33 j := fun j => by simp [up_ap]
      have v139 : ∀ j, up (up (up (up h1 33 (F + i) v) 26 8 p) 139 (4 + i) v) 85 74 p 139 j = if j = 4 + i then v else h1 139 j := fun j => by simp [up_ap]
      obtain ⟨l, RL⟩ := R1
      obtain ⟨⟨w1, w2⟩, w3, w4, w5⟩ := U1
      obtain ⟨h', x', cz, mr, R', U', b', f', xb⟩ := ih (i + 1) (by omega) (up (up (up (up h1 33 (F + i) v) 26 8 p) 139 (4 + i) v) 85 74 p) y ⟨l, RC_cg (fun k j z => by
          rw [up_ap, if_neg (by omega), up_ap, if_neg (by omega), up_ap, if_neg (by omega), up_ap, if_neg (by omega)]) RL⟩ ⟨⟨w1, rfl⟩, w3, pb, fun j a b => w5 j a b⟩ (fun b b0 b1' => by
          rw [v33, v139]
          by_cases z : b = i
          · rw [if_pos (by omega), if_pos (by omega)]; exact ⟨rfl, vb⟩
          · rw [if_neg (by omega), if_neg (by omega)]; exact b1 b b0 (by omega)) yb
      refine ⟨h', x', fun g Φ K => hc g Φ ?_, fun g Φ K => hm g Φ ?_, R', U', b', (f1.trans fr2).trans f', xb⟩
      · have t := cz g Φ K
        rw [Int.natCast_add, cb_uc' (by omega), cb_uc' (by omega), cb_uc (by omega), cb_uc (by omega)] at t
        exact t
      · have t := mr g Φ K
        rw [Int.natCast_add, cb_um (by omega), cb_um (by omega), cb_um' (by omega), cb_um' (by omega)] at t
        exact t
    by_cases c : h 26 8 = h 26 7
    · obtain ⟨l, RL⟩ := id hR
      obtain ⟨lp, lt, lm, lc⟩ := id RL
      by_cases e : l = []
      · -- nothing to send
        have fcl : ∀ (g : Hp) (Φ : Int → Hp → Prop), Φ 4 (cb h g) → Call G m_X4_firstClass [rv 26] (cb h g) Φ := fun g Φ K => by
          refine sp_firstClass (fun c c0 c4 a b => ?_)
          have hCg : Crel (cb h g) l := lc
          have : c = 4 := by
            false_or_by_contra
            obtain ⟨q, hq, _⟩ := (held hCg c0 (by omega)).mp (a (by omega))
            rw [e] at hq; exact absurd hq (List.not_mem_nil)
          rw [this]; exact K
        refine step h 0 x (h 26 8) hR hU FR.rf hb (by omega) (by omega) (by omega) (fun g Φ K => ?_) (fun g Φ K => ?_)
        · refine U_X4_fillData_26_6 ⟨fun z => absurd z (by omega), fun _ => ⟨fun z => absurd c z, fun _ => fcl g _ ⟨fun _ => ⟨fun _ => ?_, fun z => ?_⟩, fun z => absurd z (by omega)⟩⟩⟩
          · rw [q8, w32_of (z := F + (i : Int)) (by omega) (by omega), w32_of (z := (i : Int) + 1) (by omega) (by omega), w32_of (z := h 26 8 + 0) (by omega) (by omega), Int.add_zero]
            exact ⟨by omega, K⟩
          · rw [q8, q7] at z; omega
        · have e72 : cb g h 85 72 = 0 := by
            have : cb g h 85 72 = (l.length : Int) := lm.1
            rw [this, e]; rfl
          refine U_X12_link_85_23 ⟨fun z => absurd z (by omega), fun _ => ⟨fun z => absurd (by rw [m74, m73]; exact c) z, fun _ => ?_⟩⟩
          refine U_X12_link_85_45 ⟨fun _ => ⟨fun z => absurd rfl z, fun _ => ?_⟩, fun z => absurd z (by rw [e72]; omega)⟩
          rw [w32_of (z := 4 + (i : Int)) (by omega) (by omega), w32_of (z := (i : Int) + 1) (by omega) (by omega)]
          have eq : up (up (cb g h) 139 (4 + i) 0) 85 74 (h 26 8) = up (cb g h) 139 (4 + i) 0 := up_id u2
          rw [eq] at K
          exact ⟨by omega, K⟩
      · -- the next packet
        have hn : 0 < l.length := List.length_pos_iff.mpr e
        obtain ⟨h1, cc, l', cb_, ce1, ce2, mk, R1, U1, e8, e7, f1⟩ := sim_start (G := G) (x1 := x) (x2 := i) RL hn (by omega)
        have f1' : FR (PLk F) h h1 := f1.mono (fun k j z => by unfold PLk; omega)
        have v0 := U1.2.2.2 0 (by omega) (by omega)
        refine step h1 (h1 32 0) (imin x i) 1 ⟨l', R1⟩ U1 f1' (fun b b0 b1 => by
          rw [f1 33 _ (by omega), f1 139 _ (by omega)]; exact hb b b0 b1) v0.2 (by omega) (by unfold imin; split <;> omega) (fun g Φ K => ?_) (fun g Φ K => ?_)
        · refine U_X4_fillData_26_6 ⟨fun z => absurd z (by omega), fun _ => ⟨fun z => absurd c z, fun _ => ce1 g _ ⟨fun z => absurd z (by omega), fun _ => ce1 g _ (ce2 g _ ?_)⟩⟩⟩
          have p7 : cb h1 g 26 7 = h1 26 7 := rfl
          have p8 : cb h1 g 26 8 = 0 := e8
          have p32 : cb h1 g 32 0 = h1 32 0 := rfl
          rw [p7, p8, p32, w32_of (z := F + (i : Int)) (by omega) (by omega), w32_of (z := (i : Int) + 1) (by omega) (by omega), w32_of (z := (0 : Int) + 1) (by omega) (by omega)]
          exact ⟨fun z => absurd z (by omega), fun _ => ⟨by omega, by omega, K⟩⟩
        · refine U_X12_link_85_23 ⟨fun z => absurd z (by omega), fun _ => ⟨fun z => absurd (by rw [m74, m73]; exact c) z, fun _ => mk g Φ ⟨fun z => ?_, fun z => ?_⟩⟩⟩
          · have ei : imin x i = x := by unfold imin; rw [if_neg (by omega)]
            rw [ei] at K; exact K
          · have ei : imin x i = i := by unfold imin; rw [if_pos (by omega)]
            rw [ei] at K; exact K
    · have v8 := u5 (h 26 8) u4.1 (by omega)
      refine step h (h 32 (h 26 8)) x (h 26 8 + 1) hR hU FR.rf hb v8.2 (by omega) (by omega) (fun g Φ K => ?_) (fun g Φ K => ?_)
      · refine U_X4_fillData_26_6 ⟨fun z => absurd z (by omega), fun _ => ⟨fun _ => ⟨fun z => ?_, fun _ => ?_⟩, fun z => absurd z c⟩⟩
        · rw [q8, q7] at z; omega
        · have p32 : cb h g 32 (h 26 8) = h 32 (h 26 8) := rfl
          rw [q8, p32, w32_of (z := F + (i : Int)) (by omega) (by omega), w32_of (z := (i : Int) + 1) (by omega) (by omega), w32_of (z := h 26 8 + 1) (by omega) (by omega)]
          exact ⟨by omega, by omega, K⟩
      · refine U_X12_link_85_23 ⟨fun z => absurd z (by omega), fun _ => ⟨fun _ => ?_, fun z => absurd (by rw [m74, m73] at z; exact z) c⟩⟩
        have p136 : cb g h 136 (h 26 8) = h 32 (h 26 8) := v8.1
        rw [m74, p136, w32_of (z := 4 + (i : Int)) (by omega) (by omega), w32_of (z := (i : Int) + 1) (by omega) (by omega), w32_of (z := h 26 8 + 1) (by omega) (by omega)]
        exact ⟨by omega, by omega, K⟩
def IFr (h : Hp) : Prop := (h 85 78 = h 26 11 ∧ 0 ≤ h 26 11 ∧ h 26 11 ≤ 30) ∧ (0 ≤ h 26 10 ∧ h 26 10 < 30) ∧ ∀ j, 0 ≤ j → j < h 26 11 → ∀ b, 0 ≤ b → b < 24 → h 138 (24 * j + b) = h 33 (24 * ((h 26 10 + j) % 30) + b) ∧ 0 ≤ h 138 (24 * j + b) ∧ h 138 (24 * j + b) ≤ 255
def ILk (h : Hp) : Prop := (h 85 79 = h 26 12 ∧ 0 ≤ h 26 12 ∧ h 26 12 ≤ 255) ∧ (h 85 81 = h 26 13 ∧ 0 ≤ h 26 13 ∧ h 26 13 ≤ 255) ∧ h 85 80 = h 26 14 ∧ (h 26 14 = 0 ∨ h 26 14 = 1)
def PSf (k : Nat) (i : Int) : Prop := k = 26 ∧ (i = 3 ∨ i = 7 ∨ i = 8 ∨ i = 11 ∨ i = 12) ∨ k = 28 ∨ k = 29 ∨ k = 32 ∨ k = 33 ∨ k = 85 ∧ (i = 72 ∨ i = 73 ∨ i = 74 ∨ i = 78 ∨ i = 79) ∨ k = 133 ∨ k = 134 ∨ k = 136 ∨ k = 138 ∨ k = 139
/-- the model keeps a frame -/
theorem mz_keep {G : GG} {h : Hp} {w : Int} (hw : h 85 78 = w) (wb : 0 ≤ w ∧ w < 30) : ∃ f, (∀ j, 0 ≤ j → j < 24 → f (24 * w + j) = h 139 j) ∧ (∀ j, (j < 24 * w ∨ 24 * w + 24 ≤ j) → f j = h 138 j) ∧ MZ G m_X12_link 305 [(0, rv 85), (4, iv 0)] h 0 (up (row h 138 f) 85 78 (w + 1)) := by
  have go : ∀ (d n : Nat) (f : Int → Int), n + d = 24 → (∀ j : Int, 0 ≤ j → j < n → f (24 * w + j) = h 139 j) → (∀ j, (j < 24 * w ∨ 24 * w + 24 ≤ j) → f j = h 138 j) → ∃ f', (∀ j : Int, 0 ≤ j → j < 24 → f' (24 * w + j) = h 139 j) ∧ (∀ j, (j < 24 * w ∨ 24 * w + 24 ≤ j) → f' j = h 138 j) ∧ MZ G m_X12_link 305 [(0, rv 85), (4, iv (n : Int))] (row h 138 f) 0 (up (row h 138 f') 85 78 (w + 1)) := by
    intro d
    induction d with
    | zero =>
      intro n f hn a b
      have e : n = 24 := by omega
      subst e
      refine ⟨f, a, b, fun g Φ K => U_X12_link_85_305 ⟨fun _ => ?_, fun z => absurd z (by omega)⟩⟩
      have e78 : cb g (row h 138 f) 85 78 = w := hw
      rw [e78, w32_of (z := w + 1) (by omega) (by omega)]
      rw [cb_um (by omega)] at K; exact K
    | succ d ih =>
      intro n f hn a b
      obtain ⟨f', x, y, z⟩ := ih (n + 1) (put f (24 * w + n) (h 139 n)) (by omega) (fun j j0 j1 => by
        unfold put
        by_cases q : j = n
        · subst q; rw [if_pos rfl]
        · rw [if_neg (by omega)]; exact a j j0 (by omega)) (fun j q => by
        unfold put; rw [if_neg (by omega)]; exact b j q)
      refine ⟨f', x, y, fun g Φ K => U_X12_link_85_305 ⟨fun z => absurd z (by omega), fun _ => ?_⟩⟩
      have e78 : cb g (row h 138 f) 85 78 = w := hw
      have e139 : cb g (row h 138 f) 139 n = h 139 n := rfl
      rw [e78, e139, w32_of (z := 24 * w) (by omega) (by omega), w32_of (z := 24 * w + (n : Int)) (by omega) (by omega), w32_of (z := (n : Int) + 1) (by omega) (by omega)]
      have t := z g Φ K
      rw [Int.natCast_add, ← up_row, cb_um (by omega)] at t
      exact ⟨by omega, by omega, t⟩
  obtain ⟨f', x, y, z⟩ := go 24 0 (h 138) (by omega) (fun j a b => by omega) (fun _ _ => rfl)
  rw [row_id] at z
  exact ⟨f', x, y, z⟩
