/-! THE RECORDER, the class's side, and recording both ways -/
theorem FR.mono {P Q : Nat → Int → Prop} {h h' : Hp} (a : FR P h h') (i : ∀ k j, P k j → Q k j) : FR Q h h' := fun k j q => a k j (fun z => q (i k j z))
theorem FR_cb {P : Nat → Int → Prop} {h c m : Hp} (a : FR P h c) (b : FR P h m) : FR P h (cb c m) := fun k j q => by
  unfold cb; split
  · exact a k j q
  · exact b k j q
theorem FR.cpy {P : Nat → Int → Prop} {h h' : Hp} {k0 k1 : Nat} {sp dp n : Int} (f : FR P h h') (p : ∀ i, P k1 i) : FR P h (cpy h' k0 sp k1 dp n) := fun k' i' q => by
  unfold Jvm.Pilot.CMissionHouseLaw_law_r4178_01fd52.cpy
  rw [if_neg (fun z => q (by rw [z.1]; exact p _))]
  exact f k' i' q
theorem sp_slot {G : GG} {h : Hp} {Φ : Int → Hp → Prop} {c x : Int} (hc : 0 ≤ c ∧ c < 4) (ho : 0 ≤ h 28 c ∧ h 28 c < 50) (hx : 0 ≤ x ∧ x ≤ 50) (k : Φ ((c * 50 + (h 28 c + x) % 50) * 9) h) : Call G m_X4_slot [rv 26, iv c, iv x] h Φ := by
  refine Call.of rfl (Nat.le_of_ble_eq_true rfl) rfl (U_X4_slot_26_0 ⟨hc, ?_⟩)
  rw [w32_of (z := c * 50) (by omega) (by omega), w32_of (z := h 28 c + x) (by omega) (by omega), Int.tmod_eq_emod_of_nonneg (by omega), w32_of (z := c * 50 + (h 28 c + x) % 50) (by omega) (by omega), w32_of (z := (c * 50 + (h 28 c + x) % 50) * 9) (by omega) (by omega)]
  exact k
theorem sp_lastClass {G : GG} {h : Hp} {Φ : Int → Hp → Prop} (k : ∀ c, -1 ≤ c → c ≤ 3 → (0 ≤ c → h 29 c ≠ 0) → (∀ d, c < d → d < 4 → h 29 d = 0) → Φ c h) : Call G m_X4_lastClass [rv 26] h Φ := by
  refine Call.of rfl (Nat.le_of_ble_eq_true rfl) rfl (U_X4_lastClass_26_0 ?_)
  have go : ∀ (d : Nat) (c : Int), c + 1 = d → c ≤ 3 → (∀ d, c < d → d < 4 → h 29 d = 0) → AT G m_X4_lastClass 2 [(0, rv 26), (1, iv c)] [] h Φ := by
    intro d
    induction d with
    | zero => intro c e c3 z; exact U_X4_lastClass_26_2 ⟨fun _ => k c (by omega) c3 (fun q => absurd q (by omega)) z, fun q => absurd q (by omega)⟩
    | succ d ih =>
      intro c e c3 z
      refine U_X4_lastClass_26_2 ⟨fun q => absurd q (by omega), fun _ => ⟨by omega, fun q => k c (by omega) c3 (fun _ => q) z, fun q => ?_⟩⟩
      rw [w32_of (z := c + (-1)) (by omega) (by omega)]
      refine ih (c + (-1)) (by omega) (by omega) (fun d a b => ?_)
      by_cases w : d = c
      · rw [w]; exact q
      · exact z d (by omega) b
  exact go 4 3 (by omega) (by omega) (fun d a b => by omega)
theorem sp_firstClass {G : GG} {h : Hp} {Φ : Int → Hp → Prop} (k : ∀ c, 0 ≤ c → c ≤ 4 → (c < 4 → h 29 c ≠ 0) → (∀ d, 0 ≤ d → d < c → h 29 d = 0) → Φ c h) : Call G m_X4_firstClass [rv 26] h Φ := by
  refine Call.of rfl (Nat.le_of_ble_eq_true rfl) rfl (U_X4_firstClass_26_0 ?_)
  have go : ∀ (d : Nat) (c : Int), c + d = 4 → 0 ≤ c → (∀ d, 0 ≤ d → d < c → h 29 d = 0) → AT G m_X4_firstClass 2 [(0, rv 26), (1, iv c)] [] h Φ := by
    intro d
    induction d with
    | zero => intro c e c3 z; exact U_X4_firstClass_26_2 ⟨fun _ => k c c3 (by omega) (fun q => absurd q (by omega)) z, fun q => absurd q (by omega)⟩
    | succ d ih =>
      intro c e c3 z
      refine U_X4_firstClass_26_2 ⟨fun q => absurd q (by omega), fun _ => ⟨by omega, fun q => k c (by omega) (by omega) (fun _ => q) z, fun q => ?_⟩⟩
      rw [w32_of (z := c + 1) (by omega) (by omega)]
      refine ih (c + 1) (by omega) (by omega) (fun d a b => ?_)
      by_cases w : d = c
      · rw [w]; exact q
      · exact z d a (by omega)
  exact go 4 0 (by omega) (by omega) (fun d a b => by omega)
theorem held {h : Hp} {l : List Pk} (hC : Crel h l) {c : Int} (c0 : 0 ≤ c) (c4 : c < 4) : h 29 c ≠ 0 ↔ ∃ p ∈ l, pcl p = c := by
  have r := (hC.2 c c0 c4).1
  rw [r]
  constructor
  · intro z
    have : fc c l ≠ [] := fun e => z (by rw [e]; rfl)
    obtain ⟨p, hp⟩ := List.exists_mem_of_ne_nil _ this
    exact ⟨p, fc_mem.mp hp⟩
  · rintro ⟨p, hp⟩ e
    have := List.length_pos_of_mem (fc_mem.mpr hp)
    omega
/-- the class's heap behind the taking of the oldest of a class -/
def tk (h : Hp) (c s : Int) : Hp := up (up (up h 26 3 (h 26 3 - s)) 28 c ((h 28 c + 1) % 50)) 29 c (h 29 c - 1)
theorem tk_rel {h : Hp} {l : List Pk} (hp : ∀ p ∈ l, pok p) (ht : tot l ≤ 300) (hC : Crel h l) {k : Nat} (hk : k < l.length) (hf : ∀ j (hj : j < k), pcl (l[j]'(by omega)) ≠ pcl l[k]) :
    h 27 ((pcl l[k] * 50 + (h 28 (pcl l[k]) + 0) % 50) * 9 + 4) = l[k] 4 ∧ (∀ j, 0 ≤ j → j < psz l[k] → h 27 ((pcl l[k] * 50 + (h 28 (pcl l[k]) + 0) % 50) * 9 + j) = l[k] j) ∧ Crel (tk h (pcl l[k]) (psz l[k])) (l.eraseIdx k) := by
  have po := hp _ (List.getElem_mem hk)
  have ps := pok_s po
  have pc := pok_c po
  have L := len50 hp ht
  have ge := go_fc hk hf
  obtain ⟨r1, r2, r3⟩ := hC.2 _ pc.1 pc.2
  have r0 : ∀ j, 0 ≤ j → j < psz l[k] → h 27 ((pcl l[k] * 50 + (h 28 (pcl l[k]) + 0) % 50) * 9 + j) = l[k] j := fun j a b => by
    have z0 : 0 < (fc (pcl l[k]) l).length := by rw [ge]; simp
    have e0 : (fc (pcl l[k]) l)[0] = l[k] := by simp only [ge, List.getElem_cons_zero]
    have z := r3 0 z0 j a (by rw [e0]; exact b)
    rw [e0] at z; exact z
  refine ⟨r0 4 (by omega) (by omega), r0, ?_, fun c c0 c4 => ?_⟩
  · show h 26 3 - psz l[k] = tot (l.eraseIdx k)
    rw [hC.1, go_tot hk]; omega
  · by_cases e : c = pcl l[k]
    · subst e
      refine ⟨?_, ?_, fun t htt j a b => ?_⟩
      · show up (up (up h 26 3 _) 28 _ _) 29 (pcl l[k]) (h 29 (pcl l[k]) - 1) 29 (pcl l[k]) = _
        rw [up_at, r1, ge]; simp only [List.length_cons]; omega
      · have e28 : tk h (pcl l[k]) (psz l[k]) 28 (pcl l[k]) = (h 28 (pcl l[k]) + 1) % 50 := by unfold tk; rw [up_nk (by omega), up_at]
        rw [e28]; omega
      · have e28 : tk h (pcl l[k]) (psz l[k]) 28 (pcl l[k]) = (h 28 (pcl l[k]) + 1) % 50 := by unfold tk; rw [up_nk (by omega), up_at]
        have e27 : ∀ i, tk h (pcl l[k]) (psz l[k]) 27 i = h 27 i := fun i => rfl
        rw [e28, e27]
        have t1 : t + 1 < (fc (pcl l[k]) l).length := by rw [ge]; simp only [List.length_cons]; omega
        have e1 : (fc (pcl l[k]) l)[t + 1] = (fc (pcl l[k]) (l.eraseIdx k))[t] := by simp only [ge, List.getElem_cons_succ]
        have z := r3 (t + 1) t1 j a (by rw [e1]; exact b)
        rw [e1] at z
        have ei : ((h 28 (pcl l[k]) + 1) % 50 + (t : Int)) % 50 = (h 28 (pcl l[k]) + ((t + 1 : Nat) : Int)) % 50 := by omega
        rw [ei]; exact z
    · rw [go_fc_ne hk (fun z => e z.symm)]
      obtain ⟨q1, q2, q3⟩ := hC.2 c c0 c4
      have e29 : tk h (pcl l[k]) (psz l[k]) 29 c = h 29 c := by unfold tk; rw [up_ni e, up_nk (by omega), up_nk (by omega)]
      have e28 : tk h (pcl l[k]) (psz l[k]) 28 c = h 28 c := by unfold tk; rw [up_nk (by omega), up_ni e, up_nk (by omega)]
      refine ⟨by rw [e29]; exact q1, by rw [e28]; exact q2, fun t htt j a b => ?_⟩
      rw [e28]; exact q3 t htt j a b
theorem sp_takeOldest {G : GG} {h : Hp} {Φ : Int → Hp → Prop} {c x s : Int} (hc : 0 ≤ c ∧ c < 4) (hx : 0 ≤ x ∧ x ≤ 1791) (hs : h 27 (x + 4) = s - 5) (sb : 0 ≤ s ∧ s ≤ 9) (hb : 0 ≤ h 26 3 ∧ h 26 3 ≤ 300) (ho : 0 ≤ h 28 c ∧ h 28 c < 50) (hn : 0 ≤ h 29 c ∧ h 29 c ≤ 50) (k : Φ 0 (tk h c s)) : Call G m_X4_takeOldest [rv 26, iv c, iv x] h Φ := by
  refine Call.of rfl (Nat.le_of_ble_eq_true rfl) rfl (U_X4_takeOldest_26_0 ?_)
  rw [w32_of (z := x + 5) (by omega) (by omega), w32_of (z := x + 5 - 1) (by omega) (by omega)]
  have e : x + 5 - 1 = x + 4 := by omega
  rw [e, hs, w32_of (z := 5 + (s - 5)) (by omega) (by omega)]
  have e : 5 + (s - 5) = s := by omega
  rw [e, w32_of (z := h 26 3 - s) (by omega) (by omega), w32_of (z := h 28 c + 1) (by omega) (by omega), w32_of (z := h 29 c - 1) (by omega) (by omega), Int.tmod_eq_emod_of_nonneg (by omega)]
  exact ⟨by omega, hc, hc, hc, hc, k⟩
/-- the model looks for the first of the last class -/
theorem mr_worst {G : GG} {h : Hp} {l : List Pk} (hp : ∀ p ∈ l, pok p) (L : l.length ≤ 50) (hm : Mrel h l) (hn : 0 < l.length) {x1 x3 : Int} :
    ∃ (k : Nat) (hk : k < l.length), (∀ j (hj : j < l.length), pcl l[j] ≤ pcl l[k]) ∧ (∀ j (hj : j < k), pcl (l[j]'(by omega)) < pcl l[k]) ∧ MR G m_X12_emit 143 [(0, rv 85), (1, iv x1), (3, iv x3), (4, iv 0), (5, iv 1)] h 143 [(0, rv 85), (1, iv x1), (3, iv x3), (4, iv (k : Int)), (5, iv (l.length : Int))] h := by
  have go : ∀ (d n k : Nat) (hnd : n + d = l.length) (kn : k < n), (∀ j (hj : j < n), pcl (l[j]'(by omega)) ≤ pcl (l[k]'(by omega))) → (∀ j (hj : j < k), pcl (l[j]'(by omega)) < pcl (l[k]'(by omega))) →
      ∃ (k' : Nat) (hk : k' < l.length), (∀ j (hj : j < l.length), pcl l[j] ≤ pcl l[k']) ∧ (∀ j (hj : j < k'), pcl (l[j]'(by omega)) < pcl l[k']) ∧ MR G m_X12_emit 143 [(0, rv 85), (1, iv x1), (3, iv x3), (4, iv (k : Int)), (5, iv (n : Int))] h 143 [(0, rv 85), (1, iv x1), (3, iv x3), (4, iv (k' : Int)), (5, iv (l.length : Int))] h := by
    intro d
    induction d with
    | zero =>
      intro n k hnd kn a b
      have e : n = l.length := by omega
      subst e
      exact ⟨k, kn, a, b, MR.rf⟩
    | succ d ih =>
      intro n k hnd kn a b
      have hn' : n < l.length := by omega
      have hk' : k < l.length := by omega
      by_cases c : pcl l[k] < pcl l[n]
      · obtain ⟨k', hk, p, q, r⟩ := ih (n + 1) n (by omega) (by omega) (fun j hj => by
            by_cases z : j = n
            · subst z; exact Int.le_refl _
            · have := a j (by omega); omega) (fun j hj => by have := a j (by omega); omega)
        refine ⟨k', hk, p, q, fun g Φ K => U_X12_emit_85_143 ⟨fun z => ?_, fun _ => ?_⟩⟩
        · have e : cb g h 85 72 = (l.length : Int) := hm.1
          rw [e] at z; omega
        · refine sp_sort hp L (h := cb g h) hm hn' (sp_sort hp L (h := cb g h) hm hk' ⟨fun z => absurd z (by omega), fun _ => ?_⟩)
          rw [w32_of (z := (n : Int) + 1) (by omega) (by omega)]
          have t := r g Φ K
          rw [Int.natCast_add] at t; exact t
      · obtain ⟨k', hk, p, q, r⟩ := ih (n + 1) k (by omega) (by omega) (fun j hj => by
            by_cases z : j = n
            · subst z; omega
            · exact a j (by omega)) b
        refine ⟨k', hk, p, q, fun g Φ K => U_X12_emit_85_143 ⟨fun z => ?_, fun _ => ?_⟩⟩
        · have e : cb g h 85 72 = (l.length : Int) := hm.1
          rw [e] at z; omega
        · refine sp_sort hp L (h := cb g h) hm hn' (sp_sort hp L (h := cb g h) hm hk' ⟨fun _ => ?_, fun z => absurd z c⟩)
          rw [w32_of (z := (n : Int) + 1) (by omega) (by omega)]
          have t := r g Φ K
          rw [Int.natCast_add] at t; exact t
  have t := go (l.length - 1) 1 0 (by omega) (by omega) (fun j hj => by
    have e : j = 0 := by omega
    simp only [e]; exact Int.le_refl _) (fun j hj => by omega)
  exact t
def PMa (k : Nat) (i : Int) : Prop := k = 133 ∨ k = 134 ∨ k = 85 ∧ i = 72
def PCa (k : Nat) (i : Int) : Prop := k = 26 ∧ i = 3 ∨ k = 27 ∨ k = 29
/-- a packet is put at the end, the model's -/
theorem me_app {G : GG} {h : Hp} {l : List Pk} {p : Pk} {n : Int} (hp : ∀ p ∈ l, pok p) (hm : Mrel h l) (po : pok p) (ht : tot l + psz p ≤ 300) (h137 : ∀ j, 0 ≤ j → j < psz p → h 137 j = p j) :
    ∃ h', MZ G m_X12_emit 125 [(0, rv 85), (1, iv n), (3, iv (psz p))] h 0 h' ∧ Mrel h' (l ++ [p]) ∧ FR PMa h h' := by
  have ps := pok_s po
  have L := tot_len l hp
  obtain ⟨N, hN⟩ : ∃ N, N = l.length := ⟨_, rfl⟩
  rw [← hN] at L
  have t0 := tot_len l hp
  have go : ∀ (d j : Nat) (h1 : Hp), (j : Int) + d = psz p → FR PMa h h1 → h1 85 72 = (N : Int) → h1 134 = (up h 134 N (psz p)) 134 → (∀ i, i < 9 * (N : Int) → h1 133 i = h 133 i) → (∀ i : Int, 0 ≤ i → i < j → h1 133 (9 * N + i) = p i) →
      ∃ h', MZ G m_X12_emit 227 [(0, rv 85), (3, iv (psz p)), (4, iv (j : Int))] h1 0 h' ∧ FR PMa h h' ∧ h' 85 72 = (N : Int) + 1 ∧ h' 134 = (up h 134 N (psz p)) 134 ∧ (∀ i, i < 9 * (N : Int) → h' 133 i = h 133 i) ∧ (∀ i : Int, 0 ≤ i → i < psz p → h' 133 (9 * N + i) = p i) := by
    intro d
    induction d with
    | zero =>
      intro j h1 hj fr e72 e134 lo hi
      refine ⟨up h1 85 72 ((N : Int) + 1), fun g Φ K => U_X12_emit_85_227 ⟨fun _ => ?_, fun z => absurd z (by omega)⟩, fr.up (by unfold PMa; omega), up_at, ?_, fun i a => lo i a, fun i a b => hi i a (by omega)⟩
      · have e : cb g h1 85 72 = (N : Int) := e72
        rw [e, w32_of (z := (N : Int) + 1) (by omega) (by omega)]
        rw [cb_um (by omega)] at K; exact K
      · rw [← e134]; funext i; rfl
    | succ d ih =>
      intro j h1 hj fr e72 e134 lo hi
      have h137' : h1 137 j = p j := by rw [fr 137 j (by unfold PMa; omega)]; exact h137 j (by omega) (by omega)
      obtain ⟨h', x, y⟩ := ih (j + 1) (up h1 133 (9 * N + j) (p j)) (by omega) (fr.up (by unfold PMa; omega)) e72 (by rw [← e134]; funext i; rfl) (fun i a => by rw [up_ap, if_neg (by omega)]; exact lo i a) (fun i a b => by
        by_cases z : i = j
        · subst z; exact up_at
        · rw [up_ap, if_neg (by omega)]; exact hi i a (by omega))
      refine ⟨h', fun g Φ K => U_X12_emit_85_227 ⟨fun z => absurd z (by omega), fun _ => ?_⟩, y⟩
      have e : cb g h1 85 72 = (N : Int) := e72
      have e2 : cb g h1 137 j = p j := h137'
      rw [e, w32_of (z := 9 * (N : Int)) (by omega) (by omega), w32_of (z := 9 * (N : Int) + j) (by omega) (by omega), w32_of (z := (j : Int) + 1) (by omega) (by omega), e2]
      have t := x g Φ K
      rw [Int.natCast_add, cb_um (by omega)] at t
      exact ⟨by omega, by omega, t⟩
  obtain ⟨h', x, fr, e72, e134, lo, hi⟩ := go (psz p).toNat 0 (up h 134 N (psz p)) (by omega) (FR.rf.up (by unfold PMa; omega)) (by rw [hN]; exact hm.1) rfl (fun i a => rfl) (fun i a b => by omega)
  refine ⟨h', fun g Φ K => U_X12_emit_85_125 (sp_recorded (h := cb g h) hp (by omega) hm ⟨fun _ => ?_, fun z => ?_⟩), ⟨?_, fun i hi' => ?_⟩, fr⟩
  · have e : cb g h 85 72 = (N : Int) := by rw [hN]; exact hm.1
    rw [e]
    have t := x g Φ K
    rw [cb_um (by omega)] at t
    exact ⟨by omega, t⟩
  · rw [w32_of (z := tot l + psz p) (by omega) (by omega)] at z; omega
  · rw [e72, List.length_append, hN]; rfl
  · by_cases z : i < l.length
    · rw [List.getElem_append_left z]
      have q := hm.2 i z
      have pi := pok_s (hp _ (List.getElem_mem z))
      refine ⟨?_, fun j a b => ?_⟩
      · rw [e134, up_ap, if_neg (by omega)]; exact q.1
      · rw [lo _ (by omega)]; exact q.2 j a b
    · have ei : i = l.length := by rw [List.length_append] at hi'; simp at hi'; omega
      subst ei
      have eg : (l ++ [p])[l.length] = p := by simp
      rw [eg]
      refine ⟨?_, fun j a b => ?_⟩
      · rw [e134, ← hN, up_at]
      · rw [← hN]; exact hi j a b
/-- the class's -/
theorem ce_app {h : Hp} {l : List Pk} {p : Pk} (hp : ∀ p ∈ l, pok p) (hC : Crel h l) (po : pok p) (ht : tot l + psz p ≤ 300) (h31 : ∀ j, 0 ≤ j → j < psz p → h 31 j = p j) :
    Crel (up (up (cpy h 31 0 27 ((pcl p * 50 + (h 28 (pcl p) + h 29 (pcl p)) % 50) * 9) (psz p)) 29 (pcl p) (h 29 (pcl p) + 1)) 26 3 (h 26 3 + psz p)) (l ++ [p]) := by
  have ps := pok_s po
  have pc := pok_c po
  have T := tot_len l hp
  refine ⟨?_, fun c c0 c4 => ?_⟩
  · rw [up_at, tot_app, hC.1]; simp [tot]
  · rw [fc_app, fc_one]
    obtain ⟨q1, q2, q3⟩ := hC.2 c c0 c4
    obtain ⟨r1, r2, r3⟩ := hC.2 _ pc.1 pc.2
    have lc := fc_len c l
    have lp := fc_len (pcl p) l
    have e28 : ∀ c, up (up (cpy h 31 0 27 ((pcl p * 50 + (h 28 (pcl p) + h 29 (pcl p)) % 50) * 9) (psz p)) 29 (pcl p) (h 29 (pcl p) + 1)) 26 3 (h 26 3 + psz p) 28 c = h 28 c := fun c => rfl
    have e27 : ∀ i, up (up (cpy h 31 0 27 ((pcl p * 50 + (h 28 (pcl p) + h 29 (pcl p)) % 50) * 9) (psz p)) 29 (pcl p) (h 29 (pcl p) + 1)) 26 3 (h 26 3 + psz p) 27 i = cpy h 31 0 27 ((pcl p * 50 + (h 28 (pcl p) + h 29 (pcl p)) % 50) * 9) (psz p) 27 i := fun c => rfl
    by_cases e : pcl p = c
    · subst e
      rw [if_pos rfl]
      refine ⟨?_, q2, fun t htt j a b => ?_⟩
      · rw [up_nk (by omega), up_at, q1, List.length_append]; rfl
      · rw [e28, e27]
        unfold cpy
        by_cases z : t < (fc (pcl p) l).length
        · have eg : (fc (pcl p) l ++ [p])[t] = (fc (pcl p) l)[t] := List.getElem_append_left z
          rw [eg] at b ⊢
          have pt := pok_s (hp _ (fc_mem.mp (List.getElem_mem z)).1)
          rw [if_neg (by rw [q1]; omega)]
          exact q3 t z j a b
        · have et : t = (fc (pcl p) l).length := by rw [List.length_append] at htt; simp at htt; omega
          have eg : (fc (pcl p) l ++ [p])[t] = p := by subst et; simp
          rw [eg] at b ⊢
          rw [q1, ← et]
          rw [if_pos (by omega)]
          have ej : 0 + ((pcl p * 50 + (h 28 (pcl p) + ↑t) % 50) * 9 + j - (pcl p * 50 + (h 28 (pcl p) + ↑t) % 50) * 9) = j := by omega
          rw [ej]; exact h31 j a b
    · rw [if_neg e, List.append_nil]
      refine ⟨?_, q2, fun t htt j a b => ?_⟩
      · rw [up_nk (by omega), up_ni (fun z => e z.symm)]; exact q1
      · rw [e28, e27]
        have pt := pok_s (hp _ (fc_mem.mp (List.getElem_mem htt)).1)
        unfold cpy
        rw [if_neg (by omega)]
        exact q3 t htt j a b
