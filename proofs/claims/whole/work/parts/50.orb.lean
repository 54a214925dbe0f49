/-! THE ORBIT: angles, arcs, sight -/
theorem mul_bd {a b A B : Int} (a0 : 0 ≤ a) (a1 : a ≤ A) (b0 : 0 ≤ b) (b1 : b ≤ B) : 0 ≤ a * b ∧ a * b ≤ A * B :=
  ⟨Int.mul_nonneg a0 b0, Int.mul_le_mul a1 b1 b0 (by omega)⟩
def qd (P u : Int) : Int := 3600 * u / P
theorem qd_b {P u : Int} (hP : 60 ≤ P) (u0 : 0 ≤ u) (u1 : u < P) : 0 ≤ qd P u ∧ qd P u < 3600 := by
  unfold qd
  refine ⟨Int.ediv_nonneg (by omega) (by omega), Int.ediv_lt_of_lt_mul (by omega) ?_⟩
  have : 3600 * u < 3600 * P := by omega
  exact this
theorem qd_mono {P u v : Int} (hP : 60 ≤ P) (h : u ≤ v) : qd P u ≤ qd P v := by
  unfold qd
  exact Int.ediv_le_ediv (by omega) (by omega)
def angI (P ph t : Int) : Int := (ph + qd P (t % P)) % 3600
def arcI (P ph f d t : Int) : Int := (angI P ph t - f - t / P * d) % 3600
theorem sp_angleC {G : GG} {h : Hp} {Φ : Int → Hp → Prop} {t : Int} (hP : 60 ≤ h 14 0 ∧ h 14 0 ≤ 20000) (hh : 0 ≤ h 14 1 ∧ h 14 1 ≤ 3599) (ht : 0 ≤ t) (k : Φ (angI (h 14 0) (h 14 1) t) h) : Call G m_X6_angle [rv 14, iv t] h Φ := by
  refine Call.of rfl (Nat.le_of_ble_eq_true rfl) rfl (U_X6_angle_14_0 ⟨by omega, by omega, ?_⟩)
  have m0 := Int.emod_nonneg t (show h 14 0 ≠ 0 by omega)
  have m1 := Int.emod_lt_of_pos t (show 0 < h 14 0 by omega)
  have qb := qd_b hP.1 m0 m1
  unfold angI at k
  unfold qd at k qb
  rw [Int.tmod_eq_emod_of_nonneg ht, w32_of (z := 3600 * (t % h 14 0)) (by omega) (by omega), Int.tdiv_eq_ediv_of_nonneg (by omega), w32_of (z := 3600 * (t % h 14 0) / h 14 0) (by omega) (by omega), w32_of (by omega) (by omega), Int.tmod_eq_emod_of_nonneg (by omega)]
  exact k
theorem sp_angleM {G : GG} {h : Hp} {Φ : Int → Hp → Prop} {t : Int} (hP : 60 ≤ h 85 11 ∧ h 85 11 ≤ 20000) (hh : 0 ≤ h 85 12 ∧ h 85 12 ≤ 3599) (ht : 0 ≤ t) (k : Φ (angI (h 85 11) (h 85 12) t) h) : Call G m_X12_angle [rv 85, iv t] h Φ := by
  refine Call.of rfl (Nat.le_of_ble_eq_true rfl) rfl (U_X12_angle_85_0 ⟨by omega, by omega, ?_⟩)
  have m0 := Int.emod_nonneg t (show h 85 11 ≠ 0 by omega)
  have m1 := Int.emod_lt_of_pos t (show 0 < h 85 11 by omega)
  have qb := qd_b hP.1 m0 m1
  unfold angI at k
  unfold qd at k qb
  rw [Int.tmod_eq_emod_of_nonneg ht, w32_of (z := 3600 * (t % h 85 11)) (by omega) (by omega), Int.tdiv_eq_ediv_of_nonneg (by omega), w32_of (z := 3600 * (t % h 85 11) / h 85 11) (by omega) (by omega), w32_of (by omega) (by omega), Int.tmod_eq_emod_of_nonneg (by omega)]
  exact k
theorem ang_b (P ph t : Int) : 0 ≤ angI P ph t ∧ angI P ph t < 3600 := by unfold angI; omega
theorem turn_b {P t : Int} (hP : 60 ≤ P) (ht : 0 ≤ t ∧ t ≤ 1000000) : 0 ≤ t / P ∧ t / P ≤ 20000 := by
  refine ⟨Int.ediv_nonneg ht.1 (by omega), ?_⟩
  have h1 : t / P ≤ t / 60 := by
    have := Int.ediv_le_ediv (c := 1) (by omega) (show t ≤ t by omega)
    apply Int.le_ediv_of_mul_le (by omega)
    have e := Int.mul_ediv_add_emod t P
    have m0 := Int.emod_nonneg t (show P ≠ 0 by omega)
    have d0 := Int.ediv_nonneg (a := t) (b := P) ht.1 (by omega)
    have : t / P * 60 ≤ t / P * P := Int.mul_le_mul_of_nonneg_left hP d0
    rw [Int.mul_comm P] at e
    omega
  omega
theorem sp_inArc {G : GG} {h : Hp} {Φ : Int → Hp → Prop} {s a T : Int} (hs : 0 ≤ s ∧ s < 4) (hf : 0 ≤ h 15 s ∧ h 15 s ≤ 3599) (hd : 0 ≤ h 17 s ∧ h 17 s ≤ 3599) (ha : 0 ≤ a ∧ a < 3600) (hT : 0 ≤ T ∧ T ≤ 20000) (k : Φ ((a - h 15 s - T * h 17 s) % 3600) h) : Call G m_X6_inArc [rv 14, iv s, iv a, iv T] h Φ := by
  refine Call.of rfl (Nat.le_of_ble_eq_true rfl) rfl (U_X6_inArc_14_0 ⟨hs, hs, ?_⟩)
  have mb := mul_bd hT.1 hT.2 hd.1 hd.2
  rw [w32_of (z := T * h 17 s) (by omega) (by omega), w32_of (z := h 15 s + T * h 17 s) (by omega) (by omega), Int.tmod_eq_emod_of_nonneg (show 0 ≤ h 15 s + T * h 17 s by omega), w32_of (z := a - (h 15 s + T * h 17 s) % 3600) (by omega) (by omega), w32_of (by omega) (by omega), Int.tmod_eq_emod_of_nonneg (by omega)]
  rw [show (a - (h 15 s + T * h 17 s) % 3600 + 3600) % 3600 = (a - h 15 s - T * h 17 s) % 3600 by omega]
  exact k
theorem sp_round {G : GG} {h : Hp} {Φ : Int → Hp → Prop} {z : Int} (hz : -1000000000000 ≤ z ∧ z ≤ 1000000000000) (k : Φ (z % 3600) h) : Call G m_X12_round [jv z] h Φ := by
  refine Call.of rfl (Nat.le_of_ble_eq_true rfl) rfl (U_X12_round_0 ?_)
  have e : z.tmod 3600 = if 0 ≤ z then z % 3600 else - ((-z) % 3600) := by
    split
    · exact Int.tmod_eq_emod_of_nonneg (by omega)
    · have := Int.neg_tmod (-z) 3600
      rw [Int.neg_neg] at this
      rw [this, Int.tmod_eq_emod_of_nonneg (by omega)]
  have e2 : w64 (z.tmod 3600 + 3600) = z.tmod 3600 + 3600 := by
    unfold w64; rw [e]; split <;> omega
  rw [e2, Int.tmod_eq_emod_of_nonneg (by rw [e]; split <;> omega), w32_of (by omega) (by omega)]
  have e3 : (z.tmod 3600 + 3600) % 3600 = z % 3600 := by rw [e]; split <;> omega
  rw [e3]; exact k
/-- whether a station sees -/
abbrev sgt (h : Hp) (s t : Int) : Prop := arcI (h 14 0) (h 14 1) (h 15 s) (h 17 s) t < h 16 s
theorem sp_sees {G : GG} {h : Hp} {Φ : Int → Hp → Prop} {s t : Int} (hI : IB h) (hs : 0 ≤ s ∧ s < 4) (ht : 0 ≤ t ∧ t ≤ 1000000) (k : Φ (if sgt h s t then 1 else 0) h) : Call G m_X12_sees [rv 85, iv s, iv t] h Φ := by
  obtain ⟨j0, j1, j2, j3, j4⟩ := id hI
  obtain ⟨f, w, d⟩ := j4 s hs.1 (by omega)
  have tb := turn_b j0.1 ht
  have mb := mul_bd tb.1 tb.2 d.1 d.2.1
  refine Call.of rfl (Nat.le_of_ble_eq_true rfl) rfl (U_X12_sees_85_0 (sp_angleM (by omega) (by omega) ht.1 ?_))
  rw [j0.2.2, j1.2.2]
  have ab := ang_b (h 14 0) (h 14 1) t
  refine ⟨hs, by omega, hs, ?_⟩
  rw [f.2.2, d.2.2, Int.tdiv_eq_ediv_of_nonneg ht.1, w32_of (z := t / h 14 0) (by omega) (by omega)]
  have w1 : w64 (t / h 14 0 * h 17 s) = t / h 14 0 * h 17 s := by unfold w64; omega
  rw [w1, w32_of (z := angI (h 14 0) (h 14 1) t - h 15 s) (by omega) (by omega)]
  have w2 : w64 (angI (h 14 0) (h 14 1) t - h 15 s - t / h 14 0 * h 17 s) = angI (h 14 0) (h 14 1) t - h 15 s - t / h 14 0 * h 17 s := by unfold w64; omega
  rw [w2]
  refine sp_round (by omega) ⟨hs, ?_⟩
  rw [w.2.2]
  refine ⟨fun c => ?_, fun c => ?_⟩
  · rw [if_neg (show ¬ sgt h s t by unfold sgt arcI; omega)] at k; exact k
  · rw [if_pos (show sgt h s t from c)] at k; exact k
def nxt (P t deg : Int) : Int := t - t % P + imin (((qd P (t % P) + deg) * P + 3600 - 1) / 3600) P
theorem sp_whenPassed {G : GG} {h : Hp} {Φ : Int → Hp → Prop} {t g : Int} (hP : 60 ≤ h 14 0 ∧ h 14 0 ≤ 20000) (ht : 0 ≤ t ∧ t ≤ 1000000) (hg : 0 ≤ g ∧ g ≤ 3600) (k : Φ (nxt (h 14 0) t g) h) : Call G m_X6_whenPassed [rv 14, iv t, iv g] h Φ := by
  refine Call.of rfl (Nat.le_of_ble_eq_true rfl) rfl (U_X6_whenPassed_14_0 ⟨by omega, by omega, ?_⟩)
  have m0 := Int.emod_nonneg t (show h 14 0 ≠ 0 by omega)
  have m1 := Int.emod_lt_of_pos t (show 0 < h 14 0 by omega)
  have qb := qd_b hP.1 m0 m1
  unfold nxt at k
  have m2 : t % h 14 0 ≤ t := by
    have e := Int.mul_ediv_add_emod t (h 14 0)
    have d0 := Int.ediv_nonneg (a := t) (b := h 14 0) ht.1 (by omega)
    have := Int.mul_nonneg (show 0 ≤ h 14 0 by omega) d0
    omega
  have mb := mul_bd (show 0 ≤ qd (h 14 0) (t % h 14 0) + g by omega) (show _ ≤ 7200 by omega) (show 0 ≤ h 14 0 by omega) hP.2
  rw [Int.tmod_eq_emod_of_nonneg ht.1, w32_of (z := 3600 * (t % h 14 0)) (by omega) (by omega), Int.tdiv_eq_ediv_of_nonneg (show 0 ≤ 3600 * (t % h 14 0) by omega)]
  unfold qd at k qb mb
  rw [w32_of (z := 3600 * (t % h 14 0) / h 14 0) (by omega) (by omega), w32_of (z := 3600 * (t % h 14 0) / h 14 0 + g) (by omega) (by omega), w32_of (z := (3600 * (t % h 14 0) / h 14 0 + g) * h 14 0) (by omega) (by omega), w32_of (z := (3600 * (t % h 14 0) / h 14 0 + g) * h 14 0 + 3600) (by omega) (by omega), w32_of (z := (3600 * (t % h 14 0) / h 14 0 + g) * h 14 0 + 3600 - 1) (by omega) (by omega), Int.tdiv_eq_ediv_of_nonneg (by omega), w32_of (z := t - t % h 14 0) (by omega) (by omega)]
  rw [w32_of (z := ((3600 * (t % h 14 0) / h 14 0 + g) * h 14 0 + 3600 - 1) / 3600) (by omega) (by omega)]
  have ib : ∀ z, 0 ≤ z → 0 ≤ imin z (h 14 0) ∧ imin z (h 14 0) ≤ 20000 := fun z a => by unfold imin; split <;> omega
  have := ib (((3600 * (t % h 14 0) / h 14 0 + g) * h 14 0 + 3600 - 1) / 3600) (by omega)
  rw [w32_of (by omega) (by omega)]
  exact k
/-- between a second and the next that is looked at nothing changes -/
theorem arc_jump {P ph f d t g v : Int} (hP : 60 ≤ P) (ht : 0 ≤ t) (hg : 1 ≤ g) (hv : t ≤ v) (hn : v < nxt P t g) (ha : arcI P ph f d t + g ≤ 3600) : arcI P ph f d v < arcI P ph f d t + g ∧ arcI P ph f d t ≤ arcI P ph f d v := by
  have m0 := Int.emod_nonneg t (show P ≠ 0 by omega)
  have m1 := Int.emod_lt_of_pos t (show 0 < P by omega)
  have e := Int.mul_ediv_add_emod t P
  unfold nxt imin at hn
  have hu : v - t + t % P < P := by split at hn <;> omega
  have e1 : v = t % P + (v - t) + P * (t / P) := by omega
  have e2 : (t % P + (v - t) + P * (t / P)) % P = t % P + (v - t) := by
    rw [Int.add_mul_emod_self_left]
    exact Int.emod_eq_of_lt (by omega) (by omega)
  rw [← e1] at e2
  have e3 : v / P = t / P := by
    have e4 := Int.mul_ediv_add_emod v P
    rw [e2] at e4
    have e5 : P * (v / P) = P * (t / P) := by omega
    exact Int.eq_of_mul_eq_mul_left (by omega) e5
  have q1 := qd_b hP m0 m1
  have q2 := qd_b (u := t % P + (v - t)) hP (by omega) (by omega)
  have q3 := qd_mono (P := P) (u := t % P) (v := t % P + (v - t)) hP (by omega)
  have q4 : qd P (t % P + (v - t)) < qd P (t % P) + g := by
    have lt : 3600 * (t % P + (v - t)) < (qd P (t % P) + g) * P := by
      split at hn <;> omega
    unfold qd at lt ⊢
    exact Int.ediv_lt_of_lt_mul (by omega) lt
  unfold arcI angI at *
  rw [e2, e3]
  generalize qd P (t % P) = A at *
  generalize qd P (t % P + (v - t)) = B at *
  generalize t / P * d = C at *
  omega
theorem nxt_gt {P t g : Int} (hP : 60 ≤ P) (ht : 0 ≤ t) (hg : 1 ≤ g) : t < nxt P t g := by
  have m0 := Int.emod_nonneg t (show P ≠ 0 by omega)
  have m1 := Int.emod_lt_of_pos t (show 0 < P by omega)
  have h1 : 3600 * (t % P) < (qd P (t % P) + g) * P := by
    have := Int.lt_ediv_add_one_mul_self (3600 * (t % P)) (show 0 < P by omega)
    have h2 : (3600 * (t % P) / P + 1) * P ≤ (qd P (t % P) + g) * P := by
      refine Int.mul_le_mul_of_nonneg_right ?_ (by omega)
      unfold qd; omega
    omega
  unfold nxt imin
  split <;> omega
theorem nxt_le {P t g : Int} (hP : 60 ≤ P ∧ P ≤ 20000) (ht : 0 ≤ t) : nxt P t g ≤ t + 20000 := by
  have m0 := Int.emod_nonneg t (show P ≠ 0 by omega)
  unfold nxt imin
  split <;> omega
theorem sp_firstSight {G : GG} {h : Hp} {Φ : Int → Hp → Prop} {s c w : Int} (hI : IB h) (hs : 0 ≤ s ∧ s < 4) (hc : 0 ≤ c ∧ c ≤ 300000) (hw : w = 0 ∨ w = 1) (k1 : ∀ t, c ≤ t → t ≤ c + 20000 → (sgt h s t ↔ w = 1) → (∀ v, c ≤ v → v < t → ¬ (sgt h s v ↔ w = 1)) → Φ t h) (k2 : (∀ v, c ≤ v → v ≤ c + 20000 → ¬ (sgt h s v ↔ w = 1)) → Φ (-1) h) : Call G m_X6_firstSight [rv 14, iv s, iv c, iv w] h Φ := by
  obtain ⟨j0, j1, j2, j3, j4⟩ := id hI
  obtain ⟨f, wd, d⟩ := j4 s hs.1 (by omega)
  refine Call.of rfl (Nat.le_of_ble_eq_true rfl) rfl (U_X6_firstSight_14_0 ?_)
  have go : ∀ (e : Nat) (t i : Int), c ≤ t → t ≤ c + 40000 → c + 40000 - t ≤ e → 0 ≤ i → i ≤ t - c → (∀ v, c ≤ v → v < t → ¬ (sgt h s v ↔ w = 1)) → AT G m_X6_firstSight 6 [(0, rv 14), (1, iv s), (2, iv c), (3, iv w), (4, iv t), (5, iv i)] [] h Φ := by
    intro e
    induction e with
    | zero =>
      intro t i a1 a2 a3 a4 a5 a6
      refine U_X6_firstSight_14_6 ?_
      rw [w32_of (z := c + 20000) (by omega) (by omega)]
      exact ⟨fun _ => k2 (fun v b1 b2 => a6 v b1 (by omega)), fun _ => ⟨fun _ => k2 (fun v b1 b2 => a6 v b1 (by omega)), fun z => absurd z (by omega)⟩⟩
    | succ e ih =>
      intro t i a1 a2 a3 a4 a5 a6
      refine U_X6_firstSight_14_6 ?_
      rw [w32_of (z := c + 20000) (by omega) (by omega)]
      refine ⟨fun z => k2 (fun v b1 b2 => a6 v b1 (by omega)), fun i1 => ⟨fun z => k2 (fun v b1 b2 => a6 v b1 (by omega)), fun t1 => ?_⟩⟩
      refine sp_angleC ⟨j0.1, j0.2.1⟩ ⟨j1.1, j1.2.1⟩ (by omega) ⟨by omega, ?_⟩
      have tb := turn_b j0.1 (show 0 ≤ t ∧ t ≤ 1000000 by omega)
      rw [Int.tdiv_eq_ediv_of_nonneg (by omega), w32_of (z := t / h 14 0) (by omega) (by omega)]
      refine sp_inArc hs ⟨f.1, f.2.1⟩ ⟨d.1, d.2.1⟩ (ang_b _ _ _) tb ⟨hs, ?_⟩
      have hA : (angI (h 14 0) (h 14 1) t - h 15 s - t / h 14 0 * h 17 s) % 3600 = arcI (h 14 0) (h 14 1) (h 15 s) (h 17 s) t := rfl
      rw [hA]
      have Ab : 0 ≤ arcI (h 14 0) (h 14 1) (h 15 s) (h 17 s) t ∧ arcI (h 14 0) (h 14 1) (h 15 s) (h 17 s) t < 3600 := by unfold arcI; omega
      have step : ∀ g : Int, 1 ≤ g → g ≤ 3600 → (∀ v, t ≤ v → v < nxt (h 14 0) t g → ¬ (sgt h s v ↔ w = 1)) → Call G m_X6_whenPassed [rv 14, iv t, iv g] h (fun r5 h6 => AT G m_X6_firstSight 6 [(0, rv 14), (1, iv s), (2, iv c), (3, iv w), (4, iv r5), (5, iv (w32 (i + 1)))] [] h6 Φ) := by
        intro g g0 g1 hno
        have n1 := nxt_gt (g := g) j0.1 (show 0 ≤ t by omega) g0
        have n2 := nxt_le (g := g) ⟨j0.1, j0.2.1⟩ (show 0 ≤ t by omega)
        refine sp_whenPassed ⟨j0.1, j0.2.1⟩ (by omega) (by omega) ?_
        rw [w32_of (z := i + 1) (by omega) (by omega)]
        refine ih _ _ (by omega) (by omega) (by omega) (by omega) (by omega) (fun v b1 b2 => ?_)
        by_cases q : v < t
        · exact a6 v b1 q
        · exact hno v (by omega) b2
      refine ⟨fun c1 => ⟨fun c2 => ?_, fun c2 => ?_⟩, fun c1 => ⟨fun c2 => ⟨hs, ?_⟩, fun c2 => ?_⟩⟩
      · rw [w32_of (by omega) (by omega)]
        refine step _ (by omega) (by omega) (fun v b1 b2 b3 => ?_)
        have := arc_jump (ph := h 14 1) (f := h 15 s) (d := h 17 s) j0.1 (by omega) (by omega) b1 b2 (by omega)
        have : ¬ sgt h s v := by unfold sgt; omega
        exact this (b3.mpr (by omega))
      · refine k1 t a1 t1 ⟨fun z => ?_, fun z => by omega⟩ a6
        unfold sgt at z; omega
      · rw [w32_of (by omega) (by omega)]
        refine step _ (by omega) (by omega) (fun v b1 b2 b3 => ?_)
        have := arc_jump (ph := h 14 1) (f := h 15 s) (d := h 17 s) j0.1 (by omega) (by omega) b1 b2 (by omega)
        have : sgt h s v := by unfold sgt; omega
        have := b3.mp this
        omega
      · exact k1 t a1 t1 ⟨fun _ => by omega, fun _ => c1⟩ a6
  exact go 40000 c 0 (by omega) (by omega) (by omega) (by omega) (by omega) (fun v a b => by omega)
theorem op_sight {G : GG} {h : Hp} {a b : Int} (hb : b = 0 ∨ b = 1) (hI : IB h) (hK : h 85 10 = h 34 4) (hc : 0 ≤ h 34 4 ∧ h 34 4 ≤ 300000) : BOTH G m_X11_sight m_X12_sight [iv a, iv b] h (fun h' => h' = h) := by
  unfold BOTH
  refine Call.of rfl (Nat.le_of_ble_eq_true rfl) rfl (U_X11_sight_1_0 ?_)
  have bad : ¬ (0 ≤ a ∧ a < 4) → Call G m_X12_sight [rv 85, iv a, iv b] h (fun r2 h2 => -1 = r2 ∧ h2 = h) := fun z => by
    refine Call.of rfl (Nat.le_of_ble_eq_true rfl) rfl (U_X12_sight_85_0 ⟨fun _ => ⟨rfl, rfl⟩, fun _ => ⟨fun _ => ⟨rfl, rfl⟩, fun _ => absurd z (by omega)⟩⟩)
  refine ⟨fun c1 => bad (by omega), fun c1 => ⟨fun c2 => bad (by omega), fun c2 => ?_⟩⟩
  have key : ∀ w, (w = 0 ∨ w = 1) → w + b = 1 → Call G m_X6_firstSight [rv 14, iv a, iv (h 34 4), iv w] h (fun r h1 => Call G m_X12_sight [rv 85, iv a, iv b] h1 (fun r2 h2 => r = r2 ∧ h2 = h)) := by
    intro w hw hwb
    have scan : ∀ (e : Nat) (t : Int) (Ψ : Int → Hp → Prop), h 34 4 ≤ t → t + e = h 34 4 + 20001 → (∀ u, t ≤ u → u ≤ h 34 4 + 20000 → (sgt h a u ↔ w = 1) → (∀ v, t ≤ v → v < u → ¬ (sgt h a v ↔ w = 1)) → Ψ u h) → ((∀ v, t ≤ v → v ≤ h 34 4 + 20000 → ¬ (sgt h a v ↔ w = 1)) → Ψ (-1) h) → AT G m_X12_sight 16 [(0, rv 85), (1, iv a), (2, iv b), (3, iv t)] [] h Ψ := by
      intro e
      induction e with
      | zero =>
        intro t Ψ a1 a2 k1 k2
        refine U_X12_sight_85_16 ?_
        rw [hK, w32_of (z := h 34 4 + 20000) (by omega) (by omega)]
        exact ⟨fun _ => k2 (fun v b1 b2 => by omega), fun z => absurd z (by omega)⟩
      | succ e ih =>
        intro t Ψ a1 a2 k1 k2
        refine U_X12_sight_85_16 ?_
        rw [hK, w32_of (z := h 34 4 + 20000) (by omega) (by omega)]
        refine ⟨fun z => absurd z (by omega), fun _ => sp_sees hI ⟨c1, by omega⟩ (by omega) ?_⟩
        by_cases q : sgt h a t
        · rw [if_pos q]
          refine ⟨fun z => ?_, fun z => k1 t (by omega) (by omega) ⟨fun _ => by omega, fun _ => q⟩ (fun v b1 b2 => by omega)⟩
          rw [w32_of (z := t + 1) (by omega) (by omega)]
          have no : ¬ (sgt h a t ↔ w = 1) := fun y => by have := y.mp q; omega
          refine ih (t + 1) Ψ (by omega) (by omega) (fun u b1 b2 b3 b4 => k1 u (by omega) b2 b3 (fun v d1 d2 => ?_)) (fun hh => k2 (fun v b1 b2 => ?_))
          · by_cases y : v = t
            · subst y; exact no
            · exact b4 v (by omega) d2
          · by_cases y : v = t
            · subst y; exact no
            · exact hh v (by omega) b2
        · rw [if_neg q]
          refine ⟨fun z => ?_, fun z => k1 t (by omega) (by omega) ⟨fun y => absurd y q, fun y => by omega⟩ (fun v b1 b2 => by omega)⟩
          rw [w32_of (z := t + 1) (by omega) (by omega)]
          have no : ¬ (sgt h a t ↔ w = 1) := fun y => q (y.mpr (by omega))
          refine ih (t + 1) Ψ (by omega) (by omega) (fun u b1 b2 b3 b4 => k1 u (by omega) b2 b3 (fun v d1 d2 => ?_)) (fun hh => k2 (fun v b1 b2 => ?_))
          · by_cases y : v = t
            · subst y; exact no
            · exact b4 v (by omega) d2
          · by_cases y : v = t
            · subst y; exact no
            · exact hh v (by omega) b2
    refine sp_firstSight hI ⟨c1, by omega⟩ hc hw (fun t a1 a2 a3 a4 => ?_) (fun a4 => ?_)
    all_goals refine Call.of rfl (Nat.le_of_ble_eq_true rfl) rfl (U_X12_sight_85_0 ⟨fun z => absurd z (by omega), fun _ => ⟨fun z => absurd z (by omega), fun _ => ?_⟩⟩)
    all_goals rw [hK]
    · refine scan 20001 _ _ (by omega) (by omega) (fun u b1 b2 b3 b4 => ⟨?_, rfl⟩) (fun hh => absurd a3 (hh t a1 a2))
      rcases Int.lt_trichotomy t u with z | z | z
      · exact absurd a3 (b4 t a1 z)
      · exact z
      · exact absurd b3 (a4 u b1 z)
    · exact scan 20001 _ _ (by omega) (by omega) (fun u b1 b2 b3 b4 => absurd b3 (a4 u b1 b2)) (fun hh => ⟨rfl, rfl⟩)
  exact ⟨fun z => key 0 (Or.inl rfl) (by omega), fun z => key 1 (Or.inr rfl) (by omega)⟩
