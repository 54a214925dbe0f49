/-! THE RECORDER: a list of packets; the class's rings, the model's rows -/
abbrev Pk : Type := Int → Int
def pcl (p : Pk) : Int := (p 0 - 10) / 4
def psz (p : Pk) : Int := 5 + p 4
def pok (p : Pk) : Prop := (10 ≤ p 0 ∧ p 0 ≤ 25) ∧ (1 ≤ p 4 ∧ p 4 ≤ 4) ∧ ∀ j, 0 ≤ j → j < psz p → 0 ≤ p j ∧ p j ≤ 255
def tot : List Pk → Int
  | [] => 0
  | p :: l => psz p + tot l
def fc (c : Int) (l : List Pk) : List Pk := l.filter (fun p => decide (pcl p = c))
theorem pok_s {p : Pk} (h : pok p) : 6 ≤ psz p ∧ psz p ≤ 9 := by unfold psz; have := h.2.1; omega
theorem pok_c {p : Pk} (h : pok p) : 0 ≤ pcl p ∧ pcl p < 4 := by unfold pcl; have := h.1; omega
theorem tot_cons {p : Pk} {l : List Pk} : tot (p :: l) = psz p + tot l := rfl
theorem tot_app : ∀ (l m : List Pk), tot (l ++ m) = tot l + tot m
  | [], m => by simp [tot]
  | p :: l, m => by rw [List.cons_append, tot_cons, tot_cons, tot_app l m]; omega
theorem tot_len : ∀ (l : List Pk), (∀ p ∈ l, pok p) → 6 * (l.length : Int) ≤ tot l
  | [], _ => by simp [tot]
  | p :: l, h => by
    have := tot_len l (fun q hq => h q (List.mem_cons_of_mem _ hq))
    have := pok_s (h p (List.mem_cons_self ..))
    rw [tot_cons]; simp only [List.length_cons]; omega
theorem fc_app (c : Int) (l m : List Pk) : fc c (l ++ m) = fc c l ++ fc c m := List.filter_append ..
theorem fc_len (c : Int) (l : List Pk) : (fc c l).length ≤ l.length := List.length_filter_le ..
theorem fc_mem {c : Int} {l : List Pk} {p : Pk} : p ∈ fc c l ↔ p ∈ l ∧ pcl p = c := by unfold fc; rw [List.mem_filter, decide_eq_true_iff]
theorem fc_no {c : Int} {l : List Pk} (h : ∀ q ∈ l, pcl q ≠ c) : fc c l = [] := by
  unfold fc; rw [List.filter_eq_nil_iff]; intro q hq; rw [decide_eq_true_iff]; exact h q hq
theorem fc_one (c : Int) (p : Pk) : fc c [p] = if pcl p = c then [p] else [] := by
  unfold fc; by_cases e : pcl p = c <;> simp [e]
theorem fc_cons {p : Pk} {l : List Pk} : fc (pcl p) (p :: l) = p :: fc (pcl p) l := by unfold fc; rw [List.filter_cons_of_pos (by simp)]
theorem fc_cons_ne {c : Int} {p : Pk} {l : List Pk} (h : pcl p ≠ c) : fc c (p :: l) = fc c l := by unfold fc; rw [List.filter_cons_of_neg (by simpa using h)]
/-- the first of a class goes -/
theorem split {l : List Pk} {k : Nat} (hk : k < l.length) : l = l.take k ++ l[k] :: l.drop (k + 1) := by
  rw [← List.drop_eq_getElem_cons hk, List.take_append_drop]
theorem go_tot {l : List Pk} {k : Nat} (hk : k < l.length) : tot l = psz l[k] + tot (l.eraseIdx k) := by
  have e := split hk
  rw [List.eraseIdx_eq_take_drop_succ, tot_app]
  have : tot l = tot (l.take k ++ l[k] :: l.drop (k + 1)) := by rw [← e]
  rw [this, tot_app, tot_cons]; omega
theorem go_mem {l : List Pk} {k : Nat} (h : ∀ p ∈ l, pok p) : ∀ p ∈ l.eraseIdx k, pok p := fun p hp => h p (List.mem_of_mem_eraseIdx hp)
theorem go_fc {l : List Pk} {k : Nat} (hk : k < l.length) (h : ∀ j (hj : j < k), pcl (l[j]'(by omega)) ≠ pcl l[k]) : fc (pcl l[k]) l = l[k] :: fc (pcl l[k]) (l.eraseIdx k) := by
  have n : fc (pcl l[k]) (l.take k) = [] := fc_no (fun q hq => by
    obtain ⟨i, hi, e⟩ := List.getElem_of_mem hq
    rw [List.length_take] at hi
    rw [List.getElem_take] at e
    rw [← e]; exact h i (by omega))
  have e : fc (pcl l[k]) l = fc (pcl l[k]) (l.take k ++ l[k] :: l.drop (k + 1)) := by rw [← split hk]
  rw [e, fc_app, n, List.eraseIdx_eq_take_drop_succ, fc_app, n, fc_cons]; rfl
theorem go_fc_ne {l : List Pk} {k : Nat} {c : Int} (hk : k < l.length) (h : pcl l[k] ≠ c) : fc c (l.eraseIdx k) = fc c l := by
  have e : fc c l = fc c (l.take k ++ l[k] :: l.drop (k + 1)) := by rw [← split hk]
  rw [e, List.eraseIdx_eq_take_drop_succ, fc_app, fc_app, fc_cons_ne h]
def Mrel (h : Hp) (l : List Pk) : Prop := h 85 72 = l.length ∧ ∀ (i : Nat) (hi : i < l.length), h 134 i = psz l[i] ∧ ∀ j, 0 ≤ j → j < psz l[i] → h 133 (9 * i + j) = l[i] j
def ring (h : Hp) (c : Int) (F : List Pk) : Prop := h 29 c = F.length ∧ (0 ≤ h 28 c ∧ h 28 c < 50) ∧ ∀ (t : Nat) (ht : t < F.length) (j : Int), 0 ≤ j → j < psz F[t] → h 27 ((c * 50 + (h 28 c + t) % 50) * 9 + j) = F[t] j
def Crel (h : Hp) (l : List Pk) : Prop := h 26 3 = tot l ∧ ∀ c, 0 ≤ c → c < 4 → ring h c (fc c l)
def RC (h : Hp) (l : List Pk) : Prop := (∀ p ∈ l, pok p) ∧ tot l ≤ 300 ∧ Mrel h l ∧ Crel h l
theorem len50 {l : List Pk} (h : ∀ p ∈ l, pok p) (t : tot l ≤ 300) : l.length ≤ 50 := by have := tot_len l h; omega
theorem sp_recorded {G : GG} {h : Hp} {Φ : Int → Hp → Prop} {l : List Pk} (hp : ∀ p ∈ l, pok p) (ht : tot l ≤ 300) (hm : Mrel h l) (k : Φ (tot l) h) : Call G m_X12_recorded [rv 85] h Φ := by
  have L := len50 hp ht
  refine Call.of rfl (Nat.le_of_ble_eq_true rfl) rfl (U_X12_recorded_85_0 ?_)
  have go : ∀ (d n : Nat), n + d = l.length → AT G m_X12_recorded 4 [(0, rv 85), (1, iv (tot (l.take n))), (2, iv (n : Int))] [] h Φ := by
    intro d
    induction d with
    | zero =>
      intro n hn
      refine U_X12_recorded_85_4 ⟨fun _ => ?_, fun c => absurd c (by rw [hm.1]; omega)⟩
      rw [List.take_of_length_le (by omega)]; exact k
    | succ d ih =>
      intro n hn
      have hn' : n < l.length := by omega
      refine U_X12_recorded_85_4 ⟨fun c => absurd c (by rw [hm.1]; omega), fun _ => ⟨by omega, ?_⟩⟩
      have e : tot (l.take (n + 1)) = tot (l.take n) + psz l[n] := by
        rw [List.take_succ_eq_append_getElem hn', tot_app]; simp [tot]
      have b : tot (l.take (n + 1)) ≤ tot l := by
        have : tot l = tot (l.take (n + 1) ++ l.drop (n + 1)) := by rw [List.take_append_drop]
        rw [tot_app] at this
        have := tot_len (l.drop (n + 1)) (fun p q => hp p (List.mem_of_mem_drop q))
        omega
      have b0 := tot_len (l.take n) (fun p q => hp p (List.mem_of_mem_take q))
      have ps := pok_s (hp _ (List.getElem_mem hn'))
      rw [(hm.2 n hn').1, w32_of (z := (n : Int) + 1) (by omega) (by omega), w32_of (z := tot (l.take n) + psz l[n]) (by omega) (by omega), ← e]
      have t := ih (n + 1) (by omega)
      rw [Int.natCast_add] at t; exact t
  have t := go l.length 0 (by omega)
  exact t
theorem sp_sort {G : GG} {h : Hp} {Φ : Int → Hp → Prop} {l : List Pk} (hp : ∀ p ∈ l, pok p) (L : l.length ≤ 50) (hm : Mrel h l) {i : Nat} (hi : i < l.length) (k : Φ (pcl l[i]) h) : Call G m_X12_sort [rv 85, iv (i : Int)] h Φ := by
  have po := hp _ (List.getElem_mem hi)
  have ps := pok_s po
  have pc := pok_c po
  have z := (hm.2 i hi).2 0 (by omega) (by omega)
  have e : 9 * (i : Int) + 0 = 9 * i := by omega
  rw [e] at z
  refine Call.of rfl (Nat.le_of_ble_eq_true rfl) rfl (U_X12_sort_85_0 ?_)
  have p0 := po.1
  unfold pcl at k pc
  rw [w32_of (z := 9 * (i : Int)) (by omega) (by omega), z, w32_of (z := l[i] 0 - 10) (by omega) (by omega), Int.tdiv_eq_ediv_of_nonneg (by omega), w32_of (z := (l[i] 0 - 10) / 4) (by omega) (by omega)]
  exact ⟨by omega, k⟩
def PDr (k : Nat) (i : Int) : Prop := k = 133 ∨ k = 134 ∨ k = 85 ∧ i = 72
/-- the model's drop: rows move down -/
theorem me_drop {G : GG} {h : Hp} {l : List Pk} (hp : ∀ p ∈ l, pok p) (L : l.length ≤ 50) (hm : Mrel h l) {k : Nat} (hk : k < l.length) : ∃ h', ME G m_X12_drop [rv 85, iv (k : Int)] h 0 h' ∧ Mrel h' (l.eraseIdx k) ∧ FR PDr h h' := by
  have row1 : ∀ (d j i : Nat) (h1 : Hp), j + d = 9 → i + 1 < l.length → ∃ h2, MR G m_X12_drop 36 [(0, rv 85), (2, iv (i : Int)), (3, iv (j : Int))] h1 36 [(0, rv 85), (2, iv (i : Int)), (3, iv 9)] h2 ∧ (∀ (a : Nat) (b : Int), ¬ (a = 133 ∧ 9 * (i : Int) + j ≤ b ∧ b < 9 * i + 9) → h2 a b = h1 a b) ∧ ∀ t : Int, j ≤ t → t < 9 → h2 133 (9 * i + t) = h1 133 (9 * i + 9 + t) := by
    intro d
    induction d with
    | zero =>
      intro j i h1 hj hi
      have e : j = 9 := by omega
      subst e
      exact ⟨h1, MR.rf, fun _ _ _ => rfl, fun t a b => by omega⟩
    | succ d ih =>
      intro j i h1 hj hi
      obtain ⟨h2, x, y, z⟩ := ih (j + 1) i (up h1 133 (9 * i + j) (h1 133 (9 * i + 9 + j))) (by omega) hi
      refine ⟨h2, MR.tr ?_ x, fun a b q => ?_, fun t a b => ?_⟩
      · intro g Φ K
        rw [cb_um (by omega)] at K
        refine U_X12_drop_85_36 ⟨fun c => absurd c (by omega), fun _ => ?_⟩
        rw [w32_of (z := 9 * (i : Int)) (by omega) (by omega), w32_of (z := 9 * (i : Int) + 9) (by omega) (by omega), w32_of (z := 9 * (i : Int) + 9 + j) (by omega) (by omega), w32_of (z := 9 * (i : Int) + j) (by omega) (by omega), w32_of (z := (j : Int) + 1) (by omega) (by omega)]
        rw [Int.natCast_add] at K
        exact ⟨by omega, by omega, K⟩
      · rw [y a b (by omega), up_ap, if_neg (by omega)]
      · by_cases e : t = j
        · subst e
          rw [y 133 _ (by omega), up_at]
        · rw [z t (by omega) b, up_ap, if_neg (by omega)]
  have rows : ∀ (d i : Nat) (h1 : Hp) (ki : k ≤ i) (hi : i + d + 1 = l.length), h1 85 72 = (l.length : Int) - 1 →
      (∀ (a : Nat) (ha : a < i), h1 134 a = psz (l[if a < k then a else a + 1]'(by split <;> omega)) ∧ ∀ j, 0 ≤ j → j < psz (l[if a < k then a else a + 1]'(by split <;> omega)) → h1 133 (9 * a + j) = (l[if a < k then a else a + 1]'(by split <;> omega)) j) →
      (∀ (a : Nat) (ha : a < l.length), i ≤ a → h1 134 a = psz l[a] ∧ ∀ j, 0 ≤ j → j < psz l[a] → h1 133 (9 * a + j) = l[a] j) → FR PDr h h1 →
      ∃ h2, MZ G m_X12_drop 12 [(0, rv 85), (2, iv (i : Int))] h1 0 h2 ∧ FR PDr h h2 ∧ h2 85 72 = (l.length : Int) - 1 ∧ (∀ (a : Nat) (ha : a < l.length - 1), h2 134 a = psz (l[if a < k then a else a + 1]'(by split <;> omega)) ∧ ∀ j, 0 ≤ j → j < psz (l[if a < k then a else a + 1]'(by split <;> omega)) → h2 133 (9 * a + j) = (l[if a < k then a else a + 1]'(by split <;> omega)) j) := by
    intro d
    induction d with
    | zero =>
      intro i h1 ki hi e72 lo hi2 fr
      refine ⟨h1, fun g Φ K => U_X12_drop_85_12 ⟨fun _ => K, fun c => ?_⟩, fr, e72, fun a ha => lo a (by omega)⟩
      have e : cb g h1 85 72 = (l.length : Int) - 1 := e72
      rw [e] at c; omega
    | succ d ih =>
      intro i h1 ki hi e72 lo up_ fr
      obtain ⟨h2, x, y, z⟩ := row1 9 0 i (up h1 134 i (h1 134 (i + 1))) (by omega) (by omega)
      have nx := up_ (i + 1) (by omega) (by omega)
      have n1 : (((i + 1 : Nat)) : Int) = (i : Int) + 1 := by omega
      have psn := pok_s (hp _ (List.getElem_mem (show i + 1 < l.length by omega)))
      rw [n1] at nx
      obtain ⟨h3, x3, y3, z3, w3⟩ := ih (i + 1) h2 (by omega) (by omega)
        (by rw [y 85 72 (by omega)]; exact e72)
        (fun a ha => by
          by_cases e : a = i
          · subst e
            have ei : (if a < k then a else a + 1) = a + 1 := if_neg (by omega)
            refine ⟨?_, fun j j0 j1 => ?_⟩
            · rw [y 134 a (by omega), up_at, nx.1]; simp only [ei]
            · have el : l[if a < k then a else a + 1]'(by split <;> omega) = l[a + 1]'(by omega) := by simp only [ei]
              have j1' : j < psz (l[a + 1]'(by omega)) := by rw [← el]; exact j1
              rw [z j (by omega) (by omega), up_nk (by omega)]
              have e2 : 9 * (a : Int) + 9 + j = 9 * ((a : Int) + 1) + j := by omega
              rw [e2, nx.2 j j0 j1', el]
          · have q := lo a (by omega)
            refine ⟨?_, fun j j0 j1 => ?_⟩
            · rw [y 134 a (by omega), up_ap, if_neg (by omega)]; exact q.1
            · have psa := pok_s (hp _ (List.getElem_mem (show (if a < k then a else a + 1) < l.length by split <;> omega)))
              rw [y 133 _ (by omega), up_nk (by omega)]; exact q.2 j j0 j1)
        (fun a ha ia => by
          have q := up_ a ha (by omega)
          have psa := pok_s (hp _ (List.getElem_mem ha))
          refine ⟨?_, fun j j0 j1 => ?_⟩
          · rw [y 134 a (by omega), up_ap, if_neg (by omega)]; exact q.1
          · rw [y 133 _ (by omega), up_nk (by omega)]; exact q.2 j j0 j1)
        (fun a b q => by
          unfold PDr at q
          rw [y a b (by omega), up_ap, if_neg (by omega)]; exact fr a b (by unfold PDr; omega))
      refine ⟨h3, fun g Φ K => U_X12_drop_85_12 ⟨fun c => ?_, fun _ => ?_⟩, y3, z3, w3⟩
      · have e : cb g h1 85 72 = (l.length : Int) - 1 := e72
        rw [e] at c; omega
      · rw [w32_of (z := (i : Int) + 1) (by omega) (by omega)]
        refine ⟨by omega, by omega, ?_⟩
        have t := x g Φ (U_X12_drop_85_36 ⟨fun _ => ?_, fun c => absurd c (by omega)⟩)
        · rw [cb_um (by omega)] at t; exact t
        · rw [w32_of (z := (i : Int) + 1) (by omega) (by omega)]
          have t3 := x3 g Φ K
          rw [n1] at t3; exact t3
  obtain ⟨h2, x, fr, e72, w⟩ := rows (l.length - 1 - k) k (up h 85 72 ((l.length : Int) - 1)) (by omega) (by omega) up_at
    (fun a ha => by
      have q := hm.2 a (by omega)
      have e : (if a < k then a else a + 1) = a := if_pos ha
      refine ⟨?_, fun j j0 j1 => ?_⟩
      · rw [up_nk (by omega), q.1]; simp only [e]
      · have el : l[if a < k then a else a + 1]'(by split <;> omega) = l[a]'(by omega) := by simp only [e]
        have j1' : j < psz (l[a]'(by omega)) := by rw [← el]; exact j1
        rw [up_nk (by omega), q.2 j j0 j1', el])
    (fun a ha _ => hm.2 a ha) (FR.rf.up (by unfold PDr; omega))
  refine ⟨h2, fun g Φ K => ?_, ⟨?_, fun i hi => ?_⟩, fr⟩
  · refine Call.of rfl (Nat.le_of_ble_eq_true rfl) rfl (U_X12_drop_85_0 ?_)
    have e : cb g h 85 72 = (l.length : Int) := hm.1
    rw [e, w32_of (z := (l.length : Int) - 1) (by omega) (by omega)]
    have t := x g Φ K
    rw [cb_um (by omega)] at t; exact t
  · rw [e72, List.length_eraseIdx_of_lt hk]; omega
  · have hi' : i < l.length - 1 := by rw [List.length_eraseIdx_of_lt hk] at hi; exact hi
    have q := w i hi'
    have e : (l.eraseIdx k)[i] = l[if i < k then i else i + 1]'(by split <;> omega) := by
      rw [List.getElem_eraseIdx]
      by_cases c : i < k
      · simp only [c, if_true, dite_true]
      · simp only [c, if_false, dite_false]
    rw [e]; exact q
