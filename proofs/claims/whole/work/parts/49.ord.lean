/-! THE ORDER of loads, load -/
def sumN (f : Nat → Int) : Nat → Int
  | 0 => 0
  | n + 1 => sumN f n + f n
theorem sumN_eq {f g : Nat → Int} : ∀ n, (∀ j, j < n → f j = g j) → sumN f n = sumN g n
  | 0, _ => rfl
  | n + 1, h => by
    unfold sumN
    rw [sumN_eq n (fun j a => h j (by omega)), h n (by omega)]
theorem sumN_le {f g : Nat → Int} : ∀ n, (∀ j, j < n → f j ≤ g j) → sumN f n ≤ sumN g n
  | 0, _ => by simp [sumN]
  | n + 1, h => by
    have := sumN_le n (fun j a => h j (by omega))
    have := h n (by omega)
    unfold sumN; omega
theorem sumN_one {f g : Nat → Int} {k : Nat} : ∀ n, k < n → (∀ j, j < n → j ≠ k → f j = g j) → sumN f n = sumN g n - g k + f k
  | 0, h, _ => by omega
  | n + 1, h, e => by
    unfold sumN
    by_cases q : k = n
    · subst q
      rw [sumN_eq k (fun j a => e j (by omega) (by omega))]; omega
    · rw [sumN_one n (by omega) (fun j a b => e j (by omega) b), e n (by omega) (by omega)]; omega
theorem sumN_b {f : Nat → Int} : ∀ n, (∀ j, j < n → 0 ≤ f j ∧ f j ≤ 1) → 0 ≤ sumN f n ∧ sumN f n ≤ n
  | 0, _ => by simp [sumN]
  | n + 1, h => by
    have := sumN_b n (fun j a => h j (by omega))
    have := h n (by omega)
    unfold sumN; omega
def ind (rank : Int → Int) (r k : Int) (j : Nat) : Int := if rank j < r ∨ (rank j = r ∧ (j : Int) < k) then 1 else 0
def pos (rank : Int → Int) (r k : Int) : Int := sumN (ind rank r k) 8
theorem ind_b (rank : Int → Int) (r k : Int) (j : Nat) : 0 ≤ ind rank r k j ∧ ind rank r k j ≤ 1 := by unfold ind; split <;> omega
theorem pos_b (rank : Int → Int) (r k : Int) : 0 ≤ pos rank r k ∧ pos rank r k ≤ 8 := sumN_b 8 (fun j _ => ind_b rank r k j)
theorem pos_step {rank : Int → Int} {r : Int} {k : Nat} (hk : k < 8) (e : rank k = r) : pos rank r (k + 1) = pos rank r k + 1 := by
  unfold pos
  rw [sumN_one (f := ind rank r (k + 1)) (g := ind rank r k) (k := k) 8 hk (fun j a b => by unfold ind; split <;> split <;> omega)]
  have e1 : ind rank r k k = 0 := by unfold ind; rw [if_neg (by omega)]
  have e2 : ind rank r (k + 1) k = 1 := by unfold ind; rw [if_pos (by omega)]
  omega
theorem pos_skip {rank : Int → Int} {r : Int} {k : Nat} (e : rank k ≠ r) : pos rank r (k + 1) = pos rank r k := by
  unfold pos
  refine sumN_eq 8 fun j a => ?_
  unfold ind
  by_cases q : j = k
  · subst q; split <;> split <;> omega
  · split <;> split <;> omega
theorem pos_row {rank : Int → Int} {r : Int} : pos rank r 8 = pos rank (r + 1) 0 := by
  unfold pos
  refine sumN_eq 8 fun j a => ?_
  unfold ind
  split <;> split <;> omega
theorem pos_0 {rank : Int → Int} (h : ∀ j : Int, 0 ≤ j → j < 8 → 0 ≤ rank j) : pos rank 0 0 = 0 := by
  have : pos rank 0 0 = sumN (fun _ => 0) 8 := by
    unfold pos
    refine sumN_eq 8 fun j a => ?_
    have := h j (by omega) (by omega)
    unfold ind; rw [if_neg (by omega)]
  rw [this]; rfl
theorem pos_end {rank : Int → Int} (h : ∀ j : Int, 0 ≤ j → j < 8 → rank j ≤ 9) : pos rank 10 0 = 8 := by
  have : pos rank 10 0 = sumN (fun _ => 1) 8 := by
    unfold pos
    refine sumN_eq 8 fun j a => ?_
    have := h j (by omega) (by omega)
    unfold ind; rw [if_pos (by omega)]
  rw [this]; rfl
theorem pos_mono {rank : Int → Int} {r i : Int} {k : Nat} (hk : k < 8) (h : rank k < r ∨ (rank k = r ∧ (k : Int) < i)) : pos rank (rank k) k + 1 ≤ pos rank r i := by
  have e1 : ind rank (rank k) k k = 0 := by unfold ind; rw [if_neg (by omega)]
  have := sumN_one (f := fun j => if j = k then 1 else ind rank (rank k) k j) (g := ind rank (rank k) k) (k := k) 8 hk (fun j a b => by simp [b])
  have le := sumN_le (f := fun j => if j = k then 1 else ind rank (rank k) k j) (g := ind rank r i) 8 (fun j a => by
    by_cases q : j = k
    · subst q; simp [ind, h]
    · simp only [q, if_false]
      unfold ind
      split <;> split <;> omega)
  simp only [if_true] at this
  unfold pos
  omega
theorem pos_lt {rank : Int → Int} {k : Nat} (hk : k < 8) : 0 ≤ pos rank (rank k) k ∧ pos rank (rank k) k < 8 := by
  have := pos_mono (rank := rank) (r := rank k + 1) (i := 0) hk (Or.inl (by omega))
  have := pos_b rank (rank k + 1) 0
  have := pos_b rank (rank k) k
  omega
/-- o brings the loads by rank, then by number -/
def OrdOK (rank o : Int → Int) : Prop := ∀ k : Nat, k < 8 → o (pos rank (rank k) k) = k
theorem sp_putInOrder {G : GG} {h : Hp} {Φ : Int → Hp → Prop} (hr : ∀ j : Int, 0 ≤ j → j < 8 → 0 ≤ h 20 j ∧ h 20 j ≤ 9) (k : ∀ o, OrdOK (h 20) o → Φ 0 (row h 23 o)) : Call G m_X8_putInOrder [rv 18] h Φ := by
  refine Call.of rfl (Nat.le_of_ble_eq_true rfl) rfl (U_X8_putInOrder_18_0 ?_)
  have r20 : ∀ (o : Int → Int) (j : Int), row h 23 o 20 j = h 20 j := fun o j => by rw [row_ne (by decide)]
  have hin : ∀ (e : Nat) (i : Nat) (r : Int) (o : Int → Int), i + e = 8 → 0 ≤ r → r ≤ 9 → (∀ k : Nat, k < 8 → (h 20 k < r ∨ (h 20 k = r ∧ (k : Int) < i)) → o (pos (h 20) (h 20 k) k) = k) → (∀ o2 : Int → Int, (∀ k : Nat, k < 8 → (h 20 k < r + 1) → o2 (pos (h 20) (h 20 k) k) = k) → AT G m_X8_putInOrder 4 [(0, rv 18), (1, iv (pos (h 20) (r + 1) 0)), (2, iv (r + 1))] [] (row h 23 o2) Φ) → AT G m_X8_putInOrder 12 [(0, rv 18), (1, iv (pos (h 20) r i)), (2, iv r), (3, iv (i : Int))] [] (row h 23 o) Φ := by
    intro e
    induction e with
    | zero =>
      intro i r o hi r0 r1 ho kk
      have e : i = 8 := by omega
      subst e
      refine U_X8_putInOrder_18_12 ⟨fun _ => ?_, fun z => absurd z (by omega)⟩
      rw [w32_of (z := r + 1) (by omega) (by omega), show ((8 : Nat) : Int) = 8 from rfl, pos_row]
      exact kk o (fun k hk q => ho k hk (by omega))
    | succ e ih =>
      intro i r o hi r0 r1 ho kk
      refine U_X8_putInOrder_18_12 ⟨fun z => absurd z (by omega), fun _ => ⟨by omega, ?_⟩⟩
      rw [r20, w32_of (z := (i : Int) + 1) (by omega) (by omega)]
      refine ⟨fun c => ?_, fun c => ⟨fun c2 => ?_, fun c2 => ⟨by have := pos_b (h 20) r i; omega, ?_⟩⟩⟩
      · have t := ih (i + 1) r o (by omega) r0 r1 (fun k hk q => ho k hk (by
          rcases q with q | ⟨q1, q2⟩
          · exact Or.inl q
          · by_cases z : k = i
            · subst z; exact absurd q1 c
            · exact Or.inr ⟨q1, by omega⟩)) kk
        rw [Int.natCast_add, show ((1 : Nat) : Int) = 1 from rfl, pos_skip c] at t
        exact t
      · exfalso
        have := pos_lt (rank := h 20) (k := i) (by omega)
        rw [c] at this; omega
      · have t := ih (i + 1) r (put o (pos (h 20) r i) i) (by omega) r0 r1 (fun k hk q => by
          unfold put
          by_cases z : k = i
          · subst z; rw [c, if_pos rfl]
          · have before : h 20 k < r ∨ (h 20 k = r ∧ (k : Int) < i) := by
              rcases q with q | q
              · exact Or.inl q
              · exact Or.inr ⟨q.1, by omega⟩
            have := pos_mono hk before
            rw [if_neg (by omega)]
            exact ho k hk before) kk
        rw [Int.natCast_add, show ((1 : Nat) : Int) = 1 from rfl, pos_step (by omega) c] at t
        have pb := pos_b (h 20) r i
        rw [up_row, w32_of (by omega) (by omega)]
        exact t
  have hout : ∀ (e : Nat) (r : Int) (o : Int → Int), r + e = 10 → 0 ≤ r → (∀ k : Nat, k < 8 → (h 20 k < r) → o (pos (h 20) (h 20 k) k) = k) → AT G m_X8_putInOrder 4 [(0, rv 18), (1, iv (pos (h 20) r 0)), (2, iv r)] [] (row h 23 o) Φ := by
    intro e
    induction e with
    | zero =>
      intro r o hr0 r0 ho
      refine U_X8_putInOrder_18_4 ⟨fun _ => k o (fun j hj => ho j hj ?_), fun z => absurd z (by omega)⟩
      have := hr j (by omega) (by omega); omega
    | succ e ih =>
      intro r o hr0 r0 ho
      refine U_X8_putInOrder_18_4 ⟨fun z => absurd z (by omega), fun _ => ?_⟩
      exact hin 8 0 r o (by omega) r0 (by omega) (fun k hk q => ho k hk (by omega)) (fun o2 h2 => ih (r + 1) o2 (by omega) (by omega) h2)
  have := hout 10 0 (h 23) (by omega) (by omega) (fun k hk q => by have := hr k (by omega) (by omega); omega)
  rw [pos_0 (fun j a b => (hr j a b).1), row_id] at this
  exact this
def IOr (h : Hp) : Prop := OrdOK (h 20) (h 23)
def PL (k : Nat) (i : Int) : Prop := k = 19 ∨ k = 20 ∨ k = 23 ∨ k = 93 ∨ k = 94
theorem op_load {G : GG} {h : Hp} {a b c : Int} (hI : IP h) (hO : IOr h) : BOTH G m_X11_load m_X12_load [iv a, iv b, iv c] h (fun h' => (IP h' ∧ IOr h') ∧ FR PL h h') := by
  have hN : (IP h ∧ IOr h) ∧ FR PL h h := ⟨⟨hI, hO⟩, FR.rf⟩
  obtain ⟨j0, j1, j2, j3, j4⟩ := id hI
  unfold BOTH
  refine Call.of rfl (Nat.le_of_ble_eq_true rfl) rfl (U_X11_load_1_0 ?_)
  refine ⟨fun c1 => ?_, fun c1 => ⟨fun c2 => ?_, fun c2 => ⟨fun c3 => ?_, fun c3 => ⟨fun c4 => ?_, fun c4 => ⟨fun c5 => ?_, fun c5 => ⟨fun c6 => ?_, fun c6 => ⟨by omega, by omega, ?_⟩⟩⟩⟩⟩⟩⟩
  any_goals (refine Call.of rfl (Nat.le_of_ble_eq_true rfl) rfl (U_X12_load_85_0 ?_); (repeat' (first | with_reducible apply And.intro | with_reducible intro _)); all_goals first | rfl | (exfalso; omega) | exact hN.1.1 | exact hN.1.2 | exact hN.2; done)
  generalize hg : up (up h 19 a b) 20 a c = g
  have g20 : ∀ j, g 20 j = if j = a then c else h 20 j := fun j => by rw [← hg]; simp [up]
  refine sp_putInOrder (fun j q0 q1 => ?_) (fun o ho => ?_)
  · rw [g20]
    split
    · omega
    · exact ⟨(j4 j q0 q1).2.1.1, (j4 j q0 q1).2.1.2.1⟩
  · refine Call.of rfl (Nat.le_of_ble_eq_true rfl) rfl (U_X12_load_85_0 ?_)
    refine ⟨fun z => absurd z (by omega), fun _ => ⟨fun z => absurd z (by omega), fun _ => ⟨fun z => absurd z (by omega), fun _ => ⟨fun z => absurd z (by omega), fun _ => ⟨fun z => absurd z (by omega), fun _ => ⟨fun z => absurd z (by omega), fun _ => ⟨by omega, by omega, rfl, ⟨?_, ?_⟩, ?_⟩⟩⟩⟩⟩⟩⟩
    · rw [← hg]
      refine ⟨?_, ?_, ?_, ?_, fun i q0 q1 => ?_⟩
      · simp [up, row]; omega
      · simp [up, row]; omega
      · simp [up, row]; omega
      · simp [up, row]; omega
      · have j := j4 i q0 q1
        by_cases q : i = a
        · subst q; simp [up, row]; omega
        · simp [up, row, q]; exact j
    · have e20 : (up (up (row g 23 o) 93 a b) 94 a c) 20 = g 20 := by funext i; simp [up, row]
      have e23 : (up (up (row g 23 o) 93 a b) 94 a c) 23 = o := by funext i; simp [up, row]
      unfold IOr
      rw [e20, e23]
      exact ho
    · refine FR.up (FR.up ?_ (by simp [PL])) (by simp [PL])
      intro k i hk
      have : k ≠ 23 := fun z => hk (Or.inr (Or.inr (Or.inl z)))
      rw [row_ne this, ← hg]
      exact FR.up (FR.up FR.rf (by simp [PL])) (by simp [PL]) k i hk
