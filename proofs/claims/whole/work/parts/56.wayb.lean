theorem sp_fill83 {G : GG} {h : Hp} {Φ : Int → Hp → Prop} {v : Int} (k : ∀ C, (∀ f, fld f → C f = v) → Φ 0 (row h 83 C)) : Call G m_J7_fill_53178 [rv 83, iv v] h Φ := by
  refine Call.of rfl (Nat.le_of_ble_eq_true rfl) rfl (T_J7_fill_53178_83_0 ?_)
  have go : ∀ (e i : Nat) (C : Int → Int), i + e = 288 → (∀ f : Int, 0 ≤ f → f < i → C f = v) → AT G m_J7_fill_53178 5 [(0, rv 83), (1, iv v), (2, iv (i : Int)), (3, iv 288)] [] (row h 83 C) Φ := by
    intro e
    induction e with
    | zero =>
      intro i C hi hC
      exact T_J7_fill_53178_83_5 ⟨fun _ => k C (fun f hf => hC f hf.1 (by unfold fld at hf; omega)), fun z => absurd z (by omega)⟩
    | succ e ih =>
      intro i C hi hC
      refine T_J7_fill_53178_83_5 ⟨fun z => absurd z (by omega), fun _ => ⟨by omega, ?_⟩⟩
      rw [up_row, w32_of (by omega) (by omega)]
      have t := ih (i + 1) (put C i v) (by omega) (fun f f0 f1 => by
        unfold put
        by_cases q : f = i
        · rw [if_pos q]
        · rw [if_neg q]; exact hC f f0 (by omega))
      rw [Int.natCast_add] at t
      exact t
  have := go 288 0 (h 83) (by omega) (fun f a b => by omega)
  rw [row_id] at this
  exact this
/-- class's search: distances C, queue Q, found, done, sides done -/
abbrev JQ (bar : Int → Int) (to : Int) (C Q : Int → Int) (n d : Nat) (t : Int) : Prop :=
  (1 ≤ n) ∧
  (n ≤ 288) ∧
  (d ≤ n) ∧
  (∀ i : Nat, i < n → fld (Q i) ∧ ∃ k : Nat, C (Q i) = (k : Int) ∧ k ≤ i ∧ Ds bar to k (Q i)) ∧
  (∀ f, fld f → C f = -1 ∨ ∃ i : Nat, i < n ∧ Q i = f) ∧
  (∀ i j : Nat, i ≤ j → j < n → C (Q i) ≤ C (Q j)) ∧
  (d < n → ∀ j : Nat, j < n → C (Q j) ≤ C (Q d) + 1) ∧
  (∀ (i : Nat) (u : Int), i < n → 0 ≤ u → u < 4 → (i < d ∨ (i = d ∧ u < t)) → fld (nbI (Q i) u) → bar (nbI (Q i) u) = 0 → C (nbI (Q i) u) ≠ -1) ∧
  (nones C = 288 - n) ∧
  (Q 0 = to)
theorem JQ.n1 {bar : Int → Int} {to : Int} {C Q : Int → Int} {n d : Nat} {t : Int} (J : JQ bar to C Q n d t) : 1 ≤ n := J.1
theorem JQ.n2 {bar : Int → Int} {to : Int} {C Q : Int → Int} {n d : Nat} {t : Int} (J : JQ bar to C Q n d t) : n ≤ 288 := J.2.1
theorem JQ.d1 {bar : Int → Int} {to : Int} {C Q : Int → Int} {n d : Nat} {t : Int} (J : JQ bar to C Q n d t) : d ≤ n := J.2.2.1
theorem JQ.q {bar : Int → Int} {to : Int} {C Q : Int → Int} {n d : Nat} {t : Int} (J : JQ bar to C Q n d t) : ∀ i : Nat, i < n → fld (Q i) ∧ ∃ k : Nat, C (Q i) = (k : Int) ∧ k ≤ i ∧ Ds bar to k (Q i) := J.2.2.2.1
theorem JQ.a {bar : Int → Int} {to : Int} {C Q : Int → Int} {n d : Nat} {t : Int} (J : JQ bar to C Q n d t) : ∀ f, fld f → C f = -1 ∨ ∃ i : Nat, i < n ∧ Q i = f := J.2.2.2.2.1
theorem JQ.m {bar : Int → Int} {to : Int} {C Q : Int → Int} {n d : Nat} {t : Int} (J : JQ bar to C Q n d t) : ∀ i j : Nat, i ≤ j → j < n → C (Q i) ≤ C (Q j) := J.2.2.2.2.2.1
theorem JQ.s {bar : Int → Int} {to : Int} {C Q : Int → Int} {n d : Nat} {t : Int} (J : JQ bar to C Q n d t) : d < n → ∀ j : Nat, j < n → C (Q j) ≤ C (Q d) + 1 := J.2.2.2.2.2.2.1
theorem JQ.c {bar : Int → Int} {to : Int} {C Q : Int → Int} {n d : Nat} {t : Int} (J : JQ bar to C Q n d t) : ∀ (i : Nat) (u : Int), i < n → 0 ≤ u → u < 4 → (i < d ∨ (i = d ∧ u < t)) → fld (nbI (Q i) u) → bar (nbI (Q i) u) = 0 → C (nbI (Q i) u) ≠ -1 := J.2.2.2.2.2.2.2.1
theorem JQ.no {bar : Int → Int} {to : Int} {C Q : Int → Int} {n d : Nat} {t : Int} (J : JQ bar to C Q n d t) : nones C = 288 - n := J.2.2.2.2.2.2.2.2.1
theorem JQ.z {bar : Int → Int} {to : Int} {C Q : Int → Int} {n d : Nat} {t : Int} (J : JQ bar to C Q n d t) : Q 0 = to := J.2.2.2.2.2.2.2.2.2
theorem JQ.full {bar : Int → Int} {to : Int} {C Q : Int → Int} {n d : Nat} {t : Int} (J : JQ bar to C Q n d t) (hd : d < n) : ∀ (k : Nat), (k : Int) ≤ C (Q d) → ∀ f, ball bar to k f → C f ≠ -1
  | 0, _, f, h => by
    have e : f = to := h
    subst e
    obtain ⟨_, k, k1, k2, k3⟩ := J.q 0 (by have := J.n1; omega)
    have := J.z
    rw [show Q ((0 : Nat) : Int) = f from this] at k1
    omega
  | k + 1, hk, f, h => by
    rcases h with z | ⟨z1, z2, g, u, z3, z4, z5, z6⟩
    · exact JQ.full J hd k (by omega) f z
    · have hg := JQ.full J hd k (by omega) g z5
      rcases J.a g z3 with y | ⟨i, i1, i2⟩
      · exact absurd y hg
      · obtain ⟨_, k', k1, k2, k3⟩ := J.q i i1
        rw [i2] at k1 k3
        have hk' : k' ≤ k := by
          rcases Nat.lt_or_ge k k' with y | y
          · exact absurd z5 (k3.2 k y)
          · exact y
        have hid : i < d := by
          rcases Nat.lt_or_ge i d with y | y
          · exact y
          · have := J.m d i y i1
            rw [i2] at this
            omega
        have := J.c i u i1 z4.1 z4.2 (Or.inl hid)
        rw [i2, z6] at this
        exact this z1 z2
theorem up_row_ne {h : Hp} {k k' : Nat} {f : Int → Int} {i v : Int} (e : k ≠ k') : up (row h k f) k' i v = row (up h k' i v) k f := by
  funext a b
  unfold up row
  by_cases q : a = k
  · subst q
    simp [e]
  · simp [q]
theorem up_eq_row {h : Hp} {k : Nat} {i v : Int} : up h k i v = row h k (put (h k) i v) := by
  funext a b
  unfold up row put
  by_cases q : a = k
  · subst q; simp
  · simp [q]
def hQ (h : Hp) (C Q : Int → Int) : Hp := row (row h 83 C) 84 Q
theorem hQ_o {h : Hp} {C Q : Int → Int} {k : Nat} (h1 : k ≠ 83) (h2 : k ≠ 84) : hQ h C Q k = h k := by unfold hQ; rw [row_ne h2, row_ne h1]
theorem hQ_83 {h : Hp} {C Q : Int → Int} : hQ h C Q 83 = C := by unfold hQ; rw [row_ne (by decide), row_eq]
theorem hQ_84 {h : Hp} {C Q : Int → Int} : hQ h C Q 84 = Q := by unfold hQ; rw [row_eq]
theorem hQ_u83 {h : Hp} {C Q : Int → Int} {i v : Int} : up (hQ h C Q) 83 i v = hQ h (put C i v) Q := by unfold hQ; rw [up_row_ne (by decide), up_row]
theorem hQ_u84 {h : Hp} {C Q : Int → Int} {i v : Int} : up (hQ h C Q) 84 i v = hQ h C (put Q i v) := by unfold hQ; rw [up_row]
theorem JQ.tells {bar : Int → Int} {to : Int} {C Q : Int → Int} {n d : Nat} {t : Int} (J : JQ bar to C Q n d t) : tells bar to C := fun f hf => by
  rcases J.a f hf with y | ⟨i, i1, i2⟩
  · exact Or.inl y
  · obtain ⟨_, k, k1, k2, k3⟩ := J.q i i1
    rw [i2] at k1 k3
    exact Or.inr ⟨k, k1, k3⟩
/-- a field that is found -/
theorem JQ_put {bar : Int → Int} {to : Int} {C Q : Int → Int} {n d : Nat} {t : Int} (J : JQ bar to C Q n d t) (hd : d < n) (ht : 0 ≤ t ∧ t < 4) (hg : fld (nbI (Q d) t)) (hb : bar (nbI (Q d) t) = 0) (hC : C (nbI (Q d) t) = -1) (hn : n < 288) : JQ bar to (put C (nbI (Q d) t) (C (Q d) + 1)) (put Q n (nbI (Q d) t)) (n + 1) d (t + 1) := by
  generalize hG : nbI (Q d) t = g at *
  obtain ⟨dF, kd, kd1, kd2, kd3⟩ := J.q d hd
  have cg : ∀ i : Nat, i < n → ¬ Q i = g := fun i hi e => by
    obtain ⟨_, k, k1, _⟩ := J.q i hi
    rw [e, hC] at k1; omega
  have qo : ∀ i : Nat, i < n → put Q n g i = Q i := fun i hi => by unfold put; rw [if_neg (by omega)]
  have co : ∀ i : Nat, i < n → put C g (C (Q d) + 1) (put Q n g i) = C (Q i) := fun i hi => by
    rw [qo i hi]; unfold put; rw [if_neg (cg i hi)]
  have qn : put Q n g n = g := by unfold put; rw [if_pos rfl]
  have cn : put C g (C (Q d) + 1) g = C (Q d) + 1 := by unfold put; rw [if_pos rfl]
  have cne : ∀ f, C f ≠ -1 → put C g (C (Q d) + 1) f ≠ -1 := fun f hf => by
    unfold put
    split
    · omega
    · exact hf
  refine ⟨by omega, by omega, by have := J.d1; omega, fun i hi => ?_, fun f hf => ?_, fun i j hij hj => ?_, fun _ j hj => ?_, fun i u hi u0 u1 hu hf hb2 => ?_, ?_, ?_⟩
  · by_cases e : i = n
    · subst e
      rw [qn, cn]
      refine ⟨hg, kd + 1, by omega, by omega, ?_, fun m hm hbm => ?_⟩
      · exact Or.inr ⟨hg, hb, Q d, t, dF, ht, kd3.1, hG⟩
      · exact JQ.full J hd kd (by omega) g (ball_mono (by omega) hbm) hC
    · rw [co i (by omega), qo i (by omega)]
      exact J.q i (by omega)
  · by_cases e : f = g
    · exact Or.inr ⟨n, by omega, by rw [qn, e]⟩
    · rcases J.a f hf with y | ⟨i, i1, i2⟩
      · refine Or.inl ?_
        unfold put; rw [if_neg e]; exact y
      · exact Or.inr ⟨i, by omega, by rw [qo i i1]; exact i2⟩
  · by_cases e : j = n
    · subst e
      rw [qn, cn]
      by_cases e2 : i = j
      · subst e2; rw [qn, cn]; omega
      · rw [co i (by omega)]; exact J.s hd i (by omega)
    · rw [co i (by omega), co j (by omega)]; exact J.m i j hij (by omega)
  · rw [co d hd]
    by_cases e : j = n
    · subst e; rw [qn, cn]; omega
    · rw [co j (by omega)]; exact J.s hd j (by omega)
  · have hin : i < n := by rcases hu with y | y <;> omega
    rw [qo i hin] at hf hb2 ⊢
    by_cases e : i = d ∧ u = t
    · obtain ⟨rfl, rfl⟩ := e
      rw [hG, cn]; omega
    · exact cne _ (J.c i u hin u0 u1 (by omega) hf hb2)
  · rw [nones_set hg hC (by omega), J.no]; omega
  · have := qo 0 (by omega)
    exact this.trans J.z
theorem sp_turnsTo {G : GG} {h : Hp} {Φ : Int → Hp → Prop} {fr to : Int} (h1 : fld fr) (h2 : fld to) (hbar : ∀ i, fld i → h 82 i = 0 ∨ h 82 i = 1)
    (kb : (h 82 fr ≠ 0 ∨ h 82 to ≠ 0) → ∀ C, Φ (-1) (row h 83 C))
    (k : h 82 fr = 0 → h 82 to = 0 → ∀ C Q, tells (h 82) to C → (C fr = -1 → ∀ n, ¬ ball (h 82) to n fr) → (∀ r : Nat, C fr = r → r ≤ 287 ∧ ∀ j, j < r → ∀ f, ball (h 82) to j f → C f ≠ -1) → Φ (C fr) (hQ h C Q)) : Call G m_X9_turnsTo [rv 81, iv fr, iv to] h Φ := by
  refine Call.of rfl (Nat.le_of_ble_eq_true rfl) rfl (U_X9_turnsTo_81_0 (sp_fill83 (fun C hC => ?_)))
  rw [row_ne (by decide)]
  refine ⟨h1, fun c => kb (Or.inl c) C, fun c => ⟨h2, fun c2 => ⟨h2, ?_⟩, fun c2 => kb (Or.inr c2) C⟩⟩
  rw [up_row, show up (row h 83 (put C to 0)) 84 0 to = hQ h (put C to 0) (put (h 84) 0 to) by
    rw [up_eq_row, row_ne (by decide)]; rfl]
  have ex : ∀ (C Q : Int → Int) (n d : Nat), JQ (h 82) to C Q n d 0 → (n ≤ d ∨ C fr ≠ -1) → Φ (C fr) (hQ h C Q) := by
    intro C Q n d J hx
    have T := J.tells
    have b287 : ∀ r : Nat, C fr = r → r ≤ 287 := fun r hr => by
      rcases J.a fr h1 with y | ⟨i, i1, i2⟩
      · omega
      · obtain ⟨_, k, k1, k2, k3⟩ := J.q i i1
        rw [i2] at k1
        have := J.n2
        omega
    by_cases hnd : n ≤ d
    · have cl : ∀ n f, ball (h 82) to n f → C f ≠ -1 := by
        refine closed ?_ (fun f t hf ht hc hn hb => ?_)
        · obtain ⟨_, k, k1, _⟩ := J.q 0 (by have := J.n1; omega)
          rw [show Q ((0 : Nat) : Int) = to from J.z] at k1
          omega
        · rcases J.a f hf with y | ⟨i, i1, i2⟩
          · exact absurd y hc
          · have := J.c i t i1 ht.1 ht.2 (Or.inl (by omega))
            rw [i2] at this
            exact this hn hb
      exact k c c2 C Q T (fun e n hb => cl n fr hb e) (fun r hr => ⟨b287 r hr, fun j _ f hb => cl j f hb⟩)
    · have hC : C fr ≠ -1 := by
        rcases hx with y | y
        · exact absurd y hnd
        · exact y
      refine k c c2 C Q T (fun e => absurd e hC) (fun r hr => ⟨b287 r hr, fun j hj f hb => ?_⟩)
      refine JQ.full J (by omega) j ?_ f hb
      rcases J.a fr h1 with y | ⟨i, i1, i2⟩
      · exact absurd y hC
      · have := J.s (by omega) i i1
        rw [i2] at this
        omega
  have inner : ∀ (e : Nat) (t : Int) (C Q : Int → Int) (n d : Nat), t + e = 4 → 0 ≤ t → d < n → JQ (h 82) to C Q n d t → (∀ C Q n, JQ (h 82) to C Q n (d + 1) 0 → AT G m_X9_turnsTo 47 [(0, rv 81), (1, iv fr), (3, iv (n : Int)), (4, iv ((d : Int) + 1))] [] (hQ h C Q) Φ) → AT G m_X9_turnsTo 74 [(0, rv 81), (1, iv fr), (3, iv (n : Int)), (4, iv (d : Int)), (5, iv t)] [] (hQ h C Q) Φ := by
    intro e
    induction e with
    | zero =>
      intro t C Q n d ht t0 hd J kk
      have et : t = 4 := by omega
      subst et
      have := J.n2
      refine U_X9_turnsTo_81_74 ⟨fun _ => ?_, fun z => absurd z (by omega)⟩
      rw [w32_of (by omega) (by omega)]
      refine kk C Q n ⟨J.n1, J.n2, by omega, J.q, J.a, J.m, fun hd2 j hj => ?_, fun i u hi u0 u1 hu hf hb => ?_, J.no, J.z⟩
      · have a1 := J.s hd j hj
        have a2 := J.m d (d + 1) (by omega) hd2
        rw [Int.natCast_add] at a2 ⊢
        omega
      · exact J.c i u hi u0 u1 (by omega) hf hb
    | succ e ih =>
      intro t C Q n d ht t0 hd J kk
      have n2 := J.n2
      obtain ⟨dF, kd, kd1, kd2, kd3⟩ := J.q d hd
      have skip : ¬ (fld (nbI (Q d) t) ∧ h 82 (nbI (Q d) t) = 0 ∧ C (nbI (Q d) t) = -1) → AT G m_X9_turnsTo 74 [(0, rv 81), (1, iv fr), (3, iv (n : Int)), (4, iv (d : Int)), (5, iv (t + 1))] [] (hQ h C Q) Φ := fun no => by
        refine ih (t + 1) C Q n d (by omega) (by omega) hd ⟨J.n1, J.n2, J.d1, J.q, J.a, J.m, J.s, fun i u hi u0 u1 hu hf hb hc => ?_, J.no, J.z⟩ kk
        by_cases e : i = d ∧ u = t
        · obtain ⟨rfl, rfl⟩ := e
          exact no ⟨hf, hb, hc⟩
        · exact J.c i u hi u0 u1 (by omega) hf hb hc
      refine U_X9_turnsTo_81_74 ⟨fun z => absurd z (by omega), fun _ => ⟨by omega, ?_⟩⟩
      rw [hQ_84, w32_of (z := t + 1) (by omega) (by omega)]
      refine sp_neighbour dF (by omega) ⟨fun c => skip (fun z => ?_), fun c => ?_⟩
      · have := z.1.1; omega
      · rcases nb_f (t := t) dF with y | y
        · exact absurd y c
        · rw [hQ_o (by decide) (by decide), hQ_83]
          refine ⟨y, fun c3 => skip (fun z => c3 z.2.1), fun c3 => ⟨y, fun c4 => skip (fun z => c4 z.2.2), fun c4 => ⟨fun c5 => ?_, fun c5 => ⟨by omega, ?_, y, by omega, ?_⟩⟩⟩⟩
          · exfalso
            have := nones_pos y c4
            have := J.no
            omega
          · rw [hQ_84]; exact dF
          · rw [hQ_84, hQ_u83, hQ_u84, w32_of (z := C (Q d) + 1) (by omega) (by omega), w32_of (z := (n : Int) + 1) (by omega) (by omega)]
            have t := ih (t + 1) _ _ (n + 1) d (by omega) (by omega) (by omega) (JQ_put J hd (by omega) y c3 c4 (by omega)) kk
            rw [Int.natCast_add] at t
            exact t
  have outer : ∀ (e d : Nat) (C Q : Int → Int) (n : Nat), d + e = 289 → JQ (h 82) to C Q n d 0 → AT G m_X9_turnsTo 47 [(0, rv 81), (1, iv fr), (3, iv (n : Int)), (4, iv (d : Int))] [] (hQ h C Q) Φ := by
    intro e
    induction e with
    | zero =>
      intro d C Q n hd J
      have := J.d1; have := J.n2
      omega
    | succ e ih =>
      intro d C Q n hd J
      have n2 := J.n2
      refine U_X9_turnsTo_81_47 ?_
      rw [hQ_83]
      refine ⟨fun c => ⟨h1, ex C Q n d J (Or.inl (by omega))⟩, fun c => ⟨fun c2 => absurd c2 (by omega), fun c2 => ⟨h1, fun c3 => ⟨h1, ex C Q n d J (Or.inr c3)⟩, fun c3 => ?_⟩⟩⟩
      refine inner 4 0 C Q n d (by omega) (by omega) (by omega) J (fun C' Q' n' J' => ?_)
      have t := ih (d + 1) C' Q' n' (by omega) J'
      rw [Int.natCast_add] at t
      exact t
  have j0 : JQ (h 82) to (put C to 0) (put (h 84) 0 to) 1 0 0 := by
    have p0 : put (h 84) 0 to ((0 : Nat) : Int) = to := by simp [put]
    have pc : put C to 0 to = 0 := by unfold put; rw [if_pos rfl]
    have e0 : ∀ i : Nat, i < 1 → i = 0 := fun i hi => by omega
    refine ⟨by omega, by omega, by omega, fun i hi => ?_, fun f hf => ?_, fun i j hij hj => ?_, fun _ j hj => ?_, fun i u hi u0 u1 hu => by omega, ?_, p0⟩
    · rw [e0 i hi, p0, pc]
      exact ⟨h2, 0, rfl, by omega, rfl, fun m hm => by omega⟩
    · by_cases e : f = to
      · exact Or.inr ⟨0, by omega, by rw [p0, e]⟩
      · refine Or.inl ?_
        unfold put; rw [if_neg e]; exact hC f hf
    · rw [e0 i (by omega), e0 j hj]; omega
    · rw [e0 j hj]; omega
    · rw [nones_set h2 (hC to h2) (by omega)]
      have : nones C = sumN (fun _ => 1) 288 := sumN_eq 288 (fun j hj => by rw [if_pos (hC j (by unfold fld; omega))])
      rw [this]
      have : ∀ n : Nat, sumN (fun _ => 1) n = n := by
        intro n
        induction n with
        | zero => rfl
        | succ n ih => unfold sumN; rw [ih]; omega
      rw [this]; omega
  exact outer 289 0 _ _ 1 (by omega) j0
