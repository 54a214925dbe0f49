/-! data of a frame, byte by byte, both ways -/
theorem mr_best {G : GG} {h : Hp} {l : List Pk} (hp : ∀ p ∈ l, pok p) (L : l.length ≤ 50) (hm : Mrel h l) (hn : 0 < l.length) {x1 x2 : Int} :
    ∃ (k : Nat) (hk : k < l.length), (∀ j (hj : j < l.length), pcl l[k] ≤ pcl l[j]) ∧ (∀ j (hj : j < k), pcl l[k] < pcl (l[j]'(by omega))) ∧ MR G m_X12_link 45 [(0, rv 85), (1, iv x1), (2, iv x2), (3, iv (-1)), (4, iv 0)] h 45 [(0, rv 85), (1, iv x1), (2, iv x2), (3, iv (k : Int)), (4, iv (l.length : Int))] h := by
  have go : ∀ (d n k : Nat) (hnd : n + d = l.length) (kn : k < n), (∀ j (hj : j < n), pcl (l[k]'(by omega)) ≤ pcl (l[j]'(by omega))) → (∀ j (hj : j < k), pcl (l[k]'(by omega)) < pcl (l[j]'(by omega))) →
      ∃ (k' : Nat) (hk : k' < l.length), (∀ j (hj : j < l.length), pcl l[k'] ≤ pcl l[j]) ∧ (∀ j (hj : j < k'), pcl l[k'] < pcl (l[j]'(by omega))) ∧ MR G m_X12_link 45 [(0, rv 85), (1, iv x1), (2, iv x2), (3, iv (k : Int)), (4, iv (n : Int))] h 45 [(0, rv 85), (1, iv x1), (2, iv x2), (3, iv (k' : Int)), (4, iv (l.length : Int))] h := by
    intro d
    induction d with
    | zero =>
      intro n k hnd kn a b
      have e : n = l.length := by omega
      subst e
      exact ⟨k, kn, a, b, MR.rf⟩
    | succ d ih =>
      intro n k hnd kn a b
      have hn' : n < l.length := by omega
      have hk' : k < l.length := by omega
      by_cases c : pcl l[n] < pcl l[k]
      · obtain ⟨k', hk, p, q, r⟩ := ih (n + 1) n (by omega) (by omega) (fun j hj => by
            by_cases z : j = n
            · simp only [z]; exact Int.le_refl _
            · have := a j (by omega); omega) (fun j hj => by have := a j (by omega); omega)
        refine ⟨k', hk, p, q, fun g Φ K => U_X12_link_85_45 ⟨fun z => ?_, fun _ => ⟨fun z => absurd z (by omega), fun _ => ?_⟩⟩⟩
        · have e : cb g h 85 72 = (l.length : Int) := hm.1
          rw [e] at z; omega
        · refine sp_sort hp L (h := cb g h) hm hn' (sp_sort hp L (h := cb g h) hm hk' ⟨fun z => absurd z (by omega), fun _ => ?_⟩)
          rw [w32_of (z := (n : Int) + 1) (by omega) (by omega)]
          have t := r g Φ K
          rw [Int.natCast_add] at t; exact t
      · obtain ⟨k', hk, p, q, r⟩ := ih (n + 1) k (by omega) (by omega) (fun j hj => by
            by_cases z : j = n
            · simp only [z]; omega
            · exact a j (by omega)) b
        refine ⟨k', hk, p, q, fun g Φ K => U_X12_link_85_45 ⟨fun z => ?_, fun _ => ⟨fun z => absurd z (by omega), fun _ => ?_⟩⟩⟩
        · have e : cb g h 85 72 = (l.length : Int) := hm.1
          rw [e] at z; omega
        · refine sp_sort hp L (h := cb g h) hm hn' (sp_sort hp L (h := cb g h) hm hk' ⟨fun _ => ?_, fun z => absurd z c⟩)
          rw [w32_of (z := (n : Int) + 1) (by omega) (by omega)]
          have t := r g Φ K
          rw [Int.natCast_add] at t; exact t
  obtain ⟨k', hk, p, q, r⟩ := go (l.length - 1) 1 0 (by omega) (by omega) (fun j hj => by
    have e : j = 0 := by omega
    simp only [e]; exact Int.le_refl _) (fun j hj => by omega)
  refine ⟨k', hk, p, q, fun g Φ K => U_X12_link_85_45 ⟨fun z => ?_, fun _ => ⟨fun _ => ?_, fun z => absurd rfl z⟩⟩⟩
  · have e : cb g h 85 72 = (l.length : Int) := hm.1
    rw [e] at z; omega
  · rw [w32_of (z := (0 : Int) + 1) (by omega) (by omega)]
    exact r g Φ K
/-- the packet under way -/
def IUw (h : Hp) : Prop := (h 85 73 = h 26 7 ∧ h 85 74 = h 26 8) ∧ (0 ≤ h 26 7 ∧ h 26 7 ≤ 9) ∧ (0 ≤ h 26 8 ∧ h 26 8 ≤ h 26 7) ∧ ∀ j, 0 ≤ j → j < h 26 7 → h 136 j = h 32 j ∧ 0 ≤ h 32 j ∧ h 32 j ≤ 255
def PLk (F : Int) (k : Nat) (i : Int) : Prop := k = 26 ∧ (i = 3 ∨ i = 7 ∨ i = 8) ∨ k = 28 ∨ k = 29 ∨ k = 32 ∨ k = 33 ∧ F ≤ i ∧ i < F + 18 ∨ k = 85 ∧ (i = 72 ∨ i = 73 ∨ i = 74) ∨ k = 133 ∨ k = 134 ∨ k = 136 ∨ k = 139 ∧ 4 ≤ i ∧ i < 22
/-- a packet is started, both ways -/
theorem sim_start {G : GG} {h : Hp} {l : List Pk} {x1 x2 : Int} (R : RC h l) (hn : 0 < l.length) (hx : 0 ≤ x2 ∧ x2 < 18) :
    ∃ (h' : Hp) (c : Int) (l' : List Pk), (0 ≤ c ∧ c < 4) ∧ CE G m_X4_firstClass [rv 26] h c h ∧ CE G m_X4_startPacket [rv 26, iv c] h 0 h' ∧
      (∀ (g : Hp) (Φ : Int → Hp → Prop), ((x1 ≠ 255 → AT G m_X12_link 23 [(0, rv 85), (1, iv x1), (2, iv (x2 + 1))] [] (up (up (cb g h') 139 (4 + x2) (h' 32 0)) 85 74 1) Φ) ∧ (x1 = 255 → AT G m_X12_link 23 [(0, rv 85), (1, iv x2), (2, iv (x2 + 1))] [] (up (up (cb g h') 139 (4 + x2) (h' 32 0)) 85 74 1) Φ)) → AT G m_X12_link 45 [(0, rv 85), (1, iv x1), (2, iv x2), (3, iv (-1)), (4, iv 0)] [] (cb g h) Φ) ∧
      RC h' l' ∧ IUw h' ∧ h' 26 8 = 0 ∧ 6 ≤ h' 26 7 ∧ FR (fun k i => k = 26 ∧ (i = 3 ∨ i = 7 ∨ i = 8) ∨ k = 28 ∨ k = 29 ∨ k = 32 ∨ k = 85 ∧ (i = 72 ∨ i = 73 ∨ i = 74) ∨ k = 133 ∨ k = 134 ∨ k = 136) h h' := by
  obtain ⟨hp, tb, hm, hC⟩ := id R
  have L := len50 hp tb
  have T := tot_len l hp
  obtain ⟨k, hk, mn, fst, mr⟩ := mr_best (G := G) (x1 := x1) (x2 := x2) hp L hm hn
  have po := hp _ (List.getElem_mem hk)
  have pk := pok_c po
  have sk := pok_s po
  have hf : ∀ j (hj : j < k), pcl (l[j]'(by omega)) ≠ pcl l[k] := fun j hj => by have := fst j hj; omega
  obtain ⟨d4, dj_, rel⟩ := tk_rel hp tb hC hk hf
  obtain ⟨r1, r2, r3⟩ := id (hC.2 _ pk.1 pk.2)
  have lk := fc_len (pcl l[k]) l
  obtain ⟨sl, hsl⟩ : ∃ sl, sl = (pcl l[k] * 50 + (h 28 (pcl l[k]) + 0) % 50) * 9 := ⟨_, rfl⟩
  have slb : 0 ≤ sl ∧ sl ≤ 1791 := by omega
  rw [← hsl] at d4
  have dj2 : ∀ j, 0 ≤ j → j < psz l[k] → h 27 (sl + j) = l[k] j := fun j a b => by rw [hsl]; exact dj_ j a b
  -- the class's heap
  obtain ⟨hc, ehc⟩ : ∃ hc, hc = up (up (cpy h 27 sl 32 0 9) 26 7 (psz l[k])) 26 8 0 := ⟨_, rfl⟩
  have hc_rel : Crel (tk hc (pcl l[k]) (psz l[k])) (l.eraseIdx k) := by
    obtain ⟨q1, q2⟩ := rel
    have f0 : ∀ a i, (a = 26 ∧ i = 3 ∨ a = 27 ∨ a = 28 ∨ a = 29) → hc a i = h a i := fun a i z => by
      rw [ehc]; unfold up cpy
      rw [if_neg (by omega), if_neg (by omega), if_neg (by omega)]
    have f1 : ∀ a i, (a = 26 ∧ i = 3 ∨ a = 27 ∨ a = 28 ∨ a = 29) → tk hc (pcl l[k]) (psz l[k]) a i = tk h (pcl l[k]) (psz l[k]) a i := fun a i z => by
      unfold tk
      rw [f0 26 3 (by omega), f0 28 _ (by omega), f0 29 _ (by omega)]
      unfold up
      split
      · rfl
      · split
        · rfl
        · split
          · rfl
          · exact f0 a i z
    refine ⟨by rw [f1 26 3 (by omega)]; exact q1, fun c c0 c4 => ?_⟩
    obtain ⟨u1, u2, u3⟩ := q2 c c0 c4
    exact ⟨by rw [f1 29 c (by omega)]; exact u1, by rw [f1 28 c (by omega)]; exact u2, fun t ht j a b => by rw [f1 28 c (by omega), f1 27 _ (by omega)]; exact u3 t ht j a b⟩
  -- the model copies
  obtain ⟨hd, ehd⟩ : ∃ hd, hd = up (up h 85 73 (psz l[k])) 85 74 0 := ⟨_, rfl⟩
  have cp : ∀ (d j : Nat) (f : Int → Int), (j : Int) + d = psz l[k] → (∀ i : Int, 0 ≤ i → i < j → f i = l[k] i) → ∃ f', (∀ i : Int, 0 ≤ i → i < psz l[k] → f' i = l[k] i) ∧ MR G m_X12_link 124 [(0, rv 85), (1, iv x1), (2, iv x2), (3, iv (k : Int)), (4, iv (j : Int))] (row hd 136 f) 124 [(0, rv 85), (1, iv x1), (2, iv x2), (3, iv (k : Int)), (4, iv (psz l[k]))] (row hd 136 f') := by
    intro d
    induction d with
    | zero =>
      intro j f hj hf
      have e : (j : Int) = psz l[k] := by omega
      rw [e] at hf ⊢
      exact ⟨f, hf, MR.rf⟩
    | succ d ih =>
      intro j f hj hf
      obtain ⟨f', a, b⟩ := ih (j + 1) (put f j (l[k] j)) (by omega) (fun i i0 i1 => by
        unfold put
        by_cases z : i = j
        · subst z; rw [if_pos rfl]
        · rw [if_neg z]; exact hf i i0 (by omega))
      refine ⟨f', a, MR.tr (fun g Φ K => ?_) b⟩
      have e73 : cb g (row hd 136 f) 85 73 = psz l[k] := by rw [ehd]; rfl
      have e133 : cb g (row hd 136 f) 133 (9 * (k : Int) + j) = l[k] j := by
        have : cb g (row hd 136 f) 133 (9 * (k : Int) + j) = h 133 (9 * (k : Int) + j) := by rw [ehd]; rfl
        rw [this]; exact (hm.2 k hk).2 j (by omega) (by omega)
      refine U_X12_link_85_124 ⟨fun z => absurd z (by rw [e73]; omega), fun _ => ?_⟩
      rw [w32_of (z := 9 * (k : Int)) (by omega) (by omega), w32_of (z := 9 * (k : Int) + j) (by omega) (by omega), w32_of (z := (j : Int) + 1) (by omega) (by omega), e133]
      rw [Int.natCast_add, ← up_row, cb_um (by omega)] at K
      exact ⟨by omega, by omega, K⟩
  obtain ⟨f', vf, mrc⟩ := cp (psz l[k]).toNat 0 (hd 136) (by omega) (fun i a b => by omega)
  rw [row_id] at mrc
  have hmd : Mrel (row hd 136 f') l := by rw [ehd]; exact hm
  obtain ⟨hM, me, mm, fm⟩ := me_drop (G := G) hp L hmd hk
  have e32 : ∀ j, 0 ≤ j → j < 9 → tk hc (pcl l[k]) (psz l[k]) 32 j = h 27 (sl + j) := fun j a b => by
    have : tk hc (pcl l[k]) (psz l[k]) 32 j = cpy h 27 sl 32 0 9 32 j := by unfold tk; rw [ehc]; rfl
    rw [this]; unfold cpy; rw [if_pos (by omega)]; congr 1; omega
  have e267 : tk hc (pcl l[k]) (psz l[k]) 26 7 = psz l[k] := by unfold tk; rw [ehc]; rfl
  have e268 : tk hc (pcl l[k]) (psz l[k]) 26 8 = 0 := by unfold tk; rw [ehc]; rfl
  have m73 : hM 85 73 = psz l[k] := by rw [fm 85 73 (by unfold PDr; omega), ehd]; rfl
  have m74 : hM 85 74 = 0 := by rw [fm 85 74 (by unfold PDr; omega), ehd]; rfl
  have m136 : ∀ j, hM 136 j = f' j := fun j => by rw [fm 136 j (by unfold PDr; omega), row_eq]
  have frc : FR (fun k i => k = 26 ∧ (i = 3 ∨ i = 7 ∨ i = 8) ∨ k = 28 ∨ k = 29 ∨ k = 32 ∨ k = 85 ∧ (i = 72 ∨ i = 73 ∨ i = 74) ∨ k = 133 ∨ k = 134 ∨ k = 136) h (tk hc (pcl l[k]) (psz l[k])) := by
    rw [ehc]
    exact (((((FR.rf.cpy (fun i => by omega)).up (by omega)).up (by omega)).up (by omega)).up (by omega)).up (by omega)
  have frm : FR (fun k i => k = 26 ∧ (i = 3 ∨ i = 7 ∨ i = 8) ∨ k = 28 ∨ k = 29 ∨ k = 32 ∨ k = 85 ∧ (i = 72 ∨ i = 73 ∨ i = 74) ∨ k = 133 ∨ k = 134 ∨ k = 136) h hM := fun a i z => by
    rw [fm a i (by unfold PDr; omega), ehd]
    unfold row up
    rw [if_neg (by omega), if_neg (by omega), if_neg (by omega)]
  have tt := go_tot hk
  refine ⟨cb (tk hc (pcl l[k]) (psz l[k])) hM, pcl l[k], l.eraseIdx k, pk, fun g Φ K => ?_, fun g Φ K => ?_, fun g Φ Q => ?_, ⟨go_mem hp, by omega, mm, hc_rel⟩, ⟨⟨?_, ?_⟩, ?_, ?_, fun j a b => ?_⟩, e268, ?_, FR_cb frc frm⟩
  · refine sp_firstClass (fun c c0 c4 a b => ?_)
    have hCg : Crel (cb h g) l := hC
    have e : c = pcl l[k] := by
      have in1 := (held hCg pk.1 pk.2).mpr ⟨_, List.getElem_mem hk, rfl⟩
      have le1 : c ≤ pcl l[k] := by
        false_or_by_contra
        rename_i z
        exact in1 (b _ pk.1 (by omega))
      have in2 := (held hCg c0 (by omega)).mp (a (by omega))
      obtain ⟨q, hq, eq⟩ := in2
      obtain ⟨j, hj, ej⟩ := List.getElem_of_mem hq
      have := mn j hj
      rw [ej, eq] at this
      omega
    rw [e]; exact K
  · rw [cb_l] at K
    refine Call.of rfl (Nat.le_of_ble_eq_true rfl) rfl (U_X4_startPacket_26_0 (sp_slot (h := cb h g) pk r2 (by omega) ?_))
    have e28 : cb h g 28 (pcl l[k]) = h 28 (pcl l[k]) := rfl
    rw [e28, ← hsl]
    have e4 : cpy (cb h g) 27 sl 32 0 9 32 4 = psz l[k] - 5 := by
      have : cpy (cb h g) 27 sl 32 0 9 32 4 = h 27 (sl + (4 - 0)) := by unfold cpy; rw [if_pos (by omega)]; rfl
      rw [this]
      have e : sl + (4 - 0) = sl + 4 := by omega
      rw [e, d4]; unfold psz; omega
    have e5 : 5 + (psz l[k] - 5) = psz l[k] := by omega
    rw [e4, w32_of (z := 5 + (psz l[k] - 5)) (by omega) (by omega), e5]
    have tl := hC.1
    refine ⟨by omega, sp_takeOldest (s := psz l[k]) pk slb ?_ (by omega) (show 0 ≤ h 26 3 ∧ h 26 3 ≤ 300 by omega) r2 (show 0 ≤ h 29 (pcl l[k]) ∧ h 29 (pcl l[k]) ≤ 50 by omega) ?_⟩
    · have : up (up (cpy (cb h g) 27 sl 32 0 9) 26 7 (psz l[k])) 26 8 0 27 (sl + 4) = h 27 (sl + 4) := rfl
      rw [this, d4]; unfold psz; omega
    · have et : cb (tk hc (pcl l[k]) (psz l[k])) g = tk (up (up (cpy (cb h g) 27 sl 32 0 9) 26 7 (psz l[k])) 26 8 0) (pcl l[k]) (psz l[k]) := by
        unfold tk
        rw [cb_uc (by omega), cb_uc (by omega), cb_uc (by omega), ehc, cb_uc (by omega), cb_uc (by omega), ← cb_cpyc (by omega) (by omega)]
        rfl
      rw [et] at K; exact K
  · refine mr g Φ (U_X12_link_85_45 ⟨fun _ => ⟨fun _ => ⟨by omega, ?_⟩, fun z => absurd z (by omega)⟩, fun z => ?_⟩)
    · have e134 : cb g h 134 k = psz l[k] := (hm.2 k hk).1
      rw [e134]
      have t := mrc g Φ (U_X12_link_85_124 ⟨fun _ => me g _ ?_, fun z => ?_⟩)
      · rw [ehd, cb_um (by omega), cb_um (by omega)] at t; exact t
      · have p74 : cb g hM 85 74 = 0 := m74
        have p136 : cb g hM 136 0 = cb (tk hc (pcl l[k]) (psz l[k])) hM 32 0 := by
          have : cb (tk hc (pcl l[k]) (psz l[k])) hM 32 0 = tk hc (pcl l[k]) (psz l[k]) 32 0 := rfl
          rw [this, e32 0 (by omega) (by omega), dj2 0 (by omega) (by omega)]
          show hM 136 0 = _
          rw [m136, vf 0 (by omega) (by omega)]
        rw [p74, p136, w32_of (z := 4 + x2) (by omega) (by omega), w32_of (z := x2 + 1) (by omega) (by omega), w32_of (z := (0 : Int) + 1) (by omega) (by omega)]
        rw [cb_r] at Q
        exact ⟨fun z => ⟨by omega, by omega, Q.1 z⟩, fun z => ⟨by omega, by omega, Q.2 z⟩⟩
      · have e73 : cb g (row hd 136 f') 85 73 = psz l[k] := by rw [ehd]; rfl
        rw [e73] at z; omega
    · have e : cb g h 85 72 = (l.length : Int) := hm.1
      rw [e] at z; omega
  · show hM 85 73 = tk hc (pcl l[k]) (psz l[k]) 26 7
    rw [m73, e267]
  · show hM 85 74 = tk hc (pcl l[k]) (psz l[k]) 26 8
    rw [m74, e268]
  · show 0 ≤ tk hc (pcl l[k]) (psz l[k]) 26 7 ∧ tk hc (pcl l[k]) (psz l[k]) 26 7 ≤ 9
    rw [e267]; omega
  · show 0 ≤ tk hc (pcl l[k]) (psz l[k]) 26 8 ∧ tk hc (pcl l[k]) (psz l[k]) 26 8 ≤ tk hc (pcl l[k]) (psz l[k]) 26 7
    rw [e267, e268]; omega
  · have b' : j < psz l[k] := by
      have : cb (tk hc (pcl l[k]) (psz l[k])) hM 26 7 = psz l[k] := e267
      rw [this] at b; exact b
    have p1 : cb (tk hc (pcl l[k]) (psz l[k])) hM 136 j = l[k] j := by
      show hM 136 j = _
      rw [m136, vf j a b']
    have p2 : cb (tk hc (pcl l[k]) (psz l[k])) hM 32 j = l[k] j := by
      show tk hc (pcl l[k]) (psz l[k]) 32 j = _
      rw [e32 j a (by omega), dj2 j a b']
    rw [p1, p2]
    exact ⟨rfl, po.2.2 j a b'⟩
  · show 6 ≤ tk hc (pcl l[k]) (psz l[k]) 26 7
    rw [e267]; omega
