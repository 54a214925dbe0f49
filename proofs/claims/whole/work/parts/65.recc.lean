/-! recording a packet, both ways -/
def PRc (k : Nat) (i : Int) : Prop := k = 26 ∧ i = 3 ∨ k = 27 ∨ k = 28 ∨ k = 29 ∨ k = 85 ∧ (i = 22 ∨ i = 72) ∨ k = 133 ∨ k = 134
theorem sim_rec {G : GG} {p : Pk} {n : Int} (po : pok p) (hn : 0 ≤ n ∧ n < 16) (hc : pcl p = n / 4) :
    ∀ (d x4 : Nat), x4 + d = 2 → ∀ (h : Hp) (l : List Pk), RC h l → tot l ≤ 300 - 6 * x4 → (∀ j, 0 ≤ j → j < psz p → h 31 j = p j) → (∀ j, 0 ≤ j → j < psz p → h 137 j = p j) → (0 ≤ h 85 22 ∧ h 85 22 ≤ 1000000000 + x4) →
    ∃ h' r l', CZ G m_X4_record 26 [(0, rv 26), (1, iv (psz p)), (2, iv (pcl p)), (3, iv (x4 : Int)), (4, iv (x4 : Int))] h r h' ∧ MZ G m_X12_emit 125 [(0, rv 85), (1, iv n), (3, iv (psz p))] h 0 h' ∧ RC h' l' ∧ FR PRc h h' ∧ h' 85 22 = h 85 22 + (r - x4) ∧ (x4 : Int) ≤ r ∧ r ≤ 2 := by
  have ps := pok_s po
  have pc := pok_c po
  have fit : ∀ (x4 : Nat), x4 ≤ 2 → ∀ (h : Hp) (l : List Pk), RC h l → tot l + psz p ≤ 300 → (∀ j, 0 ≤ j → j < psz p → h 31 j = p j) → (∀ j, 0 ≤ j → j < psz p → h 137 j = p j) →
    ∃ h' r l', CZ G m_X4_record 26 [(0, rv 26), (1, iv (psz p)), (2, iv (pcl p)), (3, iv (x4 : Int)), (4, iv (x4 : Int))] h r h' ∧ MZ G m_X12_emit 125 [(0, rv 85), (1, iv n), (3, iv (psz p))] h 0 h' ∧ RC h' l' ∧ FR PRc h h' ∧ h' 85 22 = h 85 22 + (r - x4) ∧ (x4 : Int) ≤ r ∧ r ≤ 2 := by
    intro x4 x2 h l R ht h31 h137
    obtain ⟨hp, tb, hm, hC⟩ := R
    obtain ⟨hM, mz, mm, fm⟩ := me_app (G := G) (n := n) hp hm po ht h137
    have T := tot_len l hp
    obtain ⟨r1, r2, r3⟩ := id (hC.2 _ pc.1 pc.2)
    have lp := fc_len (pcl p) l
    refine ⟨cb (up (up (cpy h 31 0 27 ((pcl p * 50 + (h 28 (pcl p) + h 29 (pcl p)) % 50) * 9) (psz p)) 29 (pcl p) (h 29 (pcl p) + 1)) 26 3 (h 26 3 + psz p)) hM, x4, l ++ [p], CZ.mk ?_, MZ.mk mz, ⟨?_, ?_, mm, ce_app hp hC po ht h31⟩, ?_, ?_, by omega, by omega⟩
    · intro g Φ K
      rw [cb_uc (by omega), cb_uc (by omega), ← cb_cpyc (by omega) (by omega)] at K
      refine U_X4_record_26_26 ⟨fun z => absurd z (by omega), fun _ => ⟨fun _ => ⟨pc, ?_⟩, fun z => ?_⟩⟩
      · refine sp_slot (h := cb h g) pc r2 (show 0 ≤ h 29 (pcl p) ∧ h 29 (pcl p) ≤ 50 by omega) ⟨?_, pc, pc, ?_⟩
        · show _ ∧ (0 : Int) ≤ (pcl p * 50 + (h 28 (pcl p) + h 29 (pcl p)) % 50) * 9 ∧ _ ∧ _ ∧ (pcl p * 50 + (h 28 (pcl p) + h 29 (pcl p)) % 50) * 9 + psz p ≤ 1800
          omega
        · have e29 : cb h g 29 (pcl p) = h 29 (pcl p) := rfl
          have e26 : cb h g 26 3 = h 26 3 := rfl
          have e28 : cb h g 28 (pcl p) = h 28 (pcl p) := rfl
          have tl := hC.1
          rw [e29, e26, e28, w32_of (z := h 29 (pcl p) + 1) (by omega) (by omega), w32_of (z := h 26 3 + psz p) (by omega) (by omega)]
          exact K
      · have e26 : cb h g 26 3 = tot l := hC.1
        rw [e26, w32_of (z := tot l + psz p) (by omega) (by omega)] at z; omega
    · intro q hq
      rw [List.mem_append, List.mem_singleton] at hq
      rcases hq with hq | hq
      · exact hp q hq
      · rw [hq]; exact po
    · rw [tot_app]; simp [tot]; omega
    · refine FR_cb ?_ (fm.mono (fun k i z => by unfold PMa at z; unfold PRc; omega))
      exact ((FR.rf.cpy (fun i => by unfold PRc; omega)).up (by unfold PRc; omega)).up (by unfold PRc; omega)
    · have e : hM 85 22 = h 85 22 := fm 85 22 (by unfold PMa; omega)
      show hM 85 22 = _
      rw [e]; omega
  intro d
  induction d with
  | zero =>
    intro x4 hx h l R t6 h31 h137 he
    exact fit x4 (by omega) h l R (by omega) h31 h137
  | succ d ih =>
    intro x4 hx h l R t6 h31 h137 he
    by_cases c : tot l + psz p ≤ 300
    · exact fit x4 (by omega) h l R c h31 h137
    · obtain ⟨hp, tb, hm, hC⟩ := id R
      have L := len50 hp tb
      have T := tot_len l hp
      have hl : 0 < l.length := by
        false_or_by_contra
        rename_i z
        have e : l = [] := List.length_eq_zero_iff.mp (by omega)
        rw [e] at c; simp [tot] at c; omega
      obtain ⟨k, hk, mx, fst, mr⟩ := mr_worst (G := G) (x1 := n) (x3 := psz p) hp L hm hl
      have pk := pok_c (hp _ (List.getElem_mem hk))
      have sk := pok_s (hp _ (List.getElem_mem hk))
      have hlast : ∀ (g : Hp) (Φ : Int → Hp → Prop), Φ (pcl l[k]) (cb h g) → Call G m_X4_lastClass [rv 26] (cb h g) Φ := fun g Φ K => by
        refine sp_lastClass (fun c c1 c3 a b => ?_)
        have hCg : Crel (cb h g) l := hC
        have e : c = pcl l[k] := by
          have in1 := (held hCg pk.1 pk.2).mpr ⟨_, List.getElem_mem hk, rfl⟩
          have le1 : pcl l[k] ≤ c := by
            false_or_by_contra
            rename_i z
            exact in1 (b _ (by omega) pk.2)
          have in2 := (held hCg (show 0 ≤ c by omega) (by omega)).mp (a (by omega))
          obtain ⟨q, hq, eq⟩ := in2
          obtain ⟨j, hj, ej⟩ := List.getElem_of_mem hq
          have := mx j hj
          rw [ej, eq] at this
          omega
        rw [e]; exact K
      -- the model comes to the worst
      have mz0 : ∀ (g : Hp) (Φ : Int → Hp → Prop), (Call G m_X12_sort [rv 85, iv (k : Int)] (up (cb g h) 85 22 (h 85 22 + 1)) (fun r1 h2 => (((w32 (n.tdiv 4)) ≤ r1 → Call G m_X12_drop [rv 85, iv (k : Int)] h2 (fun _ h4 => AT G m_X12_emit 125 [(0, rv 85), (1, iv n), (3, iv (psz p))] [] h4 Φ)) ∧ (r1 < (w32 (n.tdiv 4)) → Φ 0 h2)))) → AT G m_X12_emit 125 [(0, rv 85), (1, iv n), (3, iv (psz p))] [] (cb g h) Φ := fun g Φ K => by
        refine U_X12_emit_85_125 (sp_recorded (h := cb g h) hp tb hm ⟨fun z => ?_, fun _ => ?_⟩)
        · rw [w32_of (z := tot l + psz p) (by omega) (by omega)] at z; omega
        · refine mr g Φ (U_X12_emit_85_143 ⟨fun _ => ?_, fun z => ?_⟩)
          · have e : cb g h 85 22 = h 85 22 := rfl
            rw [e, w32_of (z := h 85 22 + 1) (by omega) (by omega)]; exact K
          · have e : cb g h 85 72 = (l.length : Int) := hm.1
            rw [e] at z; omega
      have hmu : ∀ g, Mrel (up (cb g h) 85 22 (h 85 22 + 1)) l := fun g => hm
      have en : w32 (n.tdiv 4) = pcl p := by rw [Int.tdiv_eq_ediv_of_nonneg hn.1, w32_of (z := n / 4) (by omega) (by omega), hc]
      by_cases c2 : pcl l[k] < pcl p
      · refine ⟨up h 85 22 (h 85 22 + 1), x4 + 1, l, ?_, ?_, ⟨hp, tb, hm, hC⟩, FR.rf.up (by unfold PRc; omega), ?_, by omega, by omega⟩
        · intro g Φ K
          rw [cb_uc' (by omega)] at K
          refine U_X4_record_26_26 ⟨fun z => absurd z (by omega), fun _ => ⟨fun z => ?_, fun _ => hlast g _ ⟨fun z => absurd z (by omega), fun _ => ?_⟩⟩⟩
          · have e26 : cb h g 26 3 = tot l := hC.1
            rw [e26, w32_of (z := tot l + psz p) (by omega) (by omega)] at z; omega
          · rw [w32_of (z := (x4 : Int) + 1) (by omega) (by omega)]; exact K
        · intro g Φ K
          rw [cb_um (by omega)] at K
          refine mz0 g Φ (sp_sort hp L (hmu g) hk ?_)
          rw [en]
          exact ⟨fun z => absurd z (by omega), fun _ => K⟩
        · rw [up_at]; omega
      · -- the oldest of the last class goes
        have hf : ∀ j (hj : j < k), pcl (l[j]'(by omega)) ≠ pcl l[k] := fun j hj => by have := fst j hj; omega
        obtain ⟨d4, dj, rel⟩ := tk_rel hp tb hC hk hf
        obtain ⟨r1, r2, r3⟩ := id (hC.2 _ pk.1 pk.2)
        have lk := fc_len (pcl l[k]) l
        have hm1 : Mrel (up h 85 22 (h 85 22 + 1)) l := hm
        obtain ⟨hM, me, mm, fm⟩ := me_drop (G := G) hp L hm1 hk
        have tt := go_tot hk
        have R2 : RC (cb (tk h (pcl l[k]) (psz l[k])) hM) (l.eraseIdx k) := ⟨go_mem hp, by omega, mm, rel⟩
        have fr2 : FR PRc h (cb (tk h (pcl l[k]) (psz l[k])) hM) := by
          refine FR_cb ?_ ?_
          · exact ((FR.rf.up (by unfold PRc; omega)).up (by unfold PRc; omega)).up (by unfold PRc; omega)
          · intro a b z
            rw [fm a b (by unfold PRc at z; unfold PDr; omega), up_ap, if_neg (by unfold PRc at z; omega)]
        have e22 : cb (tk h (pcl l[k]) (psz l[k])) hM 85 22 = h 85 22 + 1 := by
          show hM 85 22 = _
          rw [fm 85 22 (by unfold PDr; omega), up_at]
        obtain ⟨h', r, l', cz, mz, rc, fr, ev, b1, b2⟩ := ih (x4 + 1) (by omega) (cb (tk h (pcl l[k]) (psz l[k])) hM) (l.eraseIdx k) R2 (by omega)
          (fun j a b => by rw [fr2 31 j (by unfold PRc; omega)]; exact h31 j a b) (fun j a b => by rw [fr2 137 j (by unfold PRc; omega)]; exact h137 j a b) (by rw [e22]; omega)
        refine ⟨h', r, l', ?_, ?_, rc, fr2.trans fr, ?_, by omega, b2⟩
        · intro g Φ K
          refine U_X4_record_26_26 ⟨fun z => absurd z (by omega), fun _ => ⟨fun z => ?_, fun _ => hlast g _ ⟨fun _ => ?_, fun z => absurd z c2⟩⟩⟩
          · have e26 : cb h g 26 3 = tot l := hC.1
            rw [e26, w32_of (z := tot l + psz p) (by omega) (by omega)] at z; omega
          · have tl := hC.1
            refine sp_slot (h := cb h g) pk r2 (by omega) (sp_takeOldest (s := psz l[k]) pk (show 0 ≤ (pcl l[k] * 50 + (h 28 (pcl l[k]) + 0) % 50) * 9 ∧ (pcl l[k] * 50 + (h 28 (pcl l[k]) + 0) % 50) * 9 ≤ 1791 by omega) (show h 27 ((pcl l[k] * 50 + (h 28 (pcl l[k]) + 0) % 50) * 9 + 4) = psz l[k] - 5 by rw [d4]; unfold psz; omega) (by omega) (show 0 ≤ h 26 3 ∧ h 26 3 ≤ 300 by omega) r2 (show 0 ≤ h 29 (pcl l[k]) ∧ h 29 (pcl l[k]) ≤ 50 by omega) ?_)
            rw [w32_of (z := (x4 : Int) + 1) (by omega) (by omega)]
            have t := cz g Φ K
            rw [cb_l, Int.natCast_add] at t
            have et : cb (tk h (pcl l[k]) (psz l[k])) g = tk (cb h g) (pcl l[k]) (psz l[k]) := by
              unfold tk; rw [cb_uc (by omega), cb_uc (by omega), cb_uc (by omega)]; rfl
            rw [et] at t
            exact t
        · intro g Φ K
          refine mz0 g Φ (sp_sort hp L (hmu g) hk ?_)
          rw [en]
          refine ⟨fun _ => ?_, fun z => absurd z c2⟩
          have t := mz g Φ K
          rw [cb_r] at t
          have q := me g (fun _ h4 => AT G m_X12_emit 125 [(0, rv 85), (1, iv n), (3, iv (psz p))] [] h4 Φ) t
          rw [cb_um (by omega)] at q
          exact q
        · rw [ev, e22]; omega
