/-! rows of lines are copied; drafts; installing -/
theorem cp_37_44 {h : Hp} {j x : Int} : up (up (up (up (up (up h 37 j (h 44 x)) 38 j (h 45 x)) 39 j (h 46 x)) 40 j (h 47 x)) 41 j (h 48 x)) 42 j (h 49 x) = fun k i => if 37 ≤ k ∧ k ≤ 42 then (if i = j then h (k - 37 + 44) x else h k i) else h k i := by
  funext k i
  by_cases c : 37 ≤ k ∧ k ≤ 42
  · have : k = 37 ∨ k = 38 ∨ k = 39 ∨ k = 40 ∨ k = 41 ∨ k = 42 := by omega
    rcases this with rfl | rfl | rfl | rfl | rfl | rfl <;> simp [up_ap]
  · rw [if_neg c]
    unfold up
    rw [if_neg (by omega), if_neg (by omega), if_neg (by omega), if_neg (by omega), if_neg (by omega), if_neg (by omega)]
theorem cp_37_5 {h : Hp} {j x : Int} : up (up (up (up (up (up h 37 j (h 5 x)) 38 j (h 6 x)) 39 j (h 7 x)) 40 j (h 8 x)) 41 j (h 9 x)) 42 j (h 10 x) = fun k i => if 37 ≤ k ∧ k ≤ 42 then (if i = j then h (k - 37 + 5) x else h k i) else h k i := by
  funext k i
  by_cases c : 37 ≤ k ∧ k ≤ 42
  · have : k = 37 ∨ k = 38 ∨ k = 39 ∨ k = 40 ∨ k = 41 ∨ k = 42 := by omega
    rcases this with rfl | rfl | rfl | rfl | rfl | rfl <;> simp [up_ap]
  · rw [if_neg c]
    unfold up
    rw [if_neg (by omega), if_neg (by omega), if_neg (by omega), if_neg (by omega), if_neg (by omega), if_neg (by omega)]
theorem cp_44_69 {h : Hp} {j x : Int} : up (up (up (up (up (up h 44 j (h 69 x)) 45 j (h 70 x)) 46 j (h 71 x)) 47 j (h 72 x)) 48 j (h 73 x)) 49 j (h 74 x) = fun k i => if 44 ≤ k ∧ k ≤ 49 then (if i = j then h (k - 44 + 69) x else h k i) else h k i := by
  funext k i
  by_cases c : 44 ≤ k ∧ k ≤ 49
  · have : k = 44 ∨ k = 45 ∨ k = 46 ∨ k = 47 ∨ k = 48 ∨ k = 49 := by omega
    rcases this with rfl | rfl | rfl | rfl | rfl | rfl <;> simp [up_ap]
  · rw [if_neg c]
    unfold up
    rw [if_neg (by omega), if_neg (by omega), if_neg (by omega), if_neg (by omega), if_neg (by omega), if_neg (by omega)]
theorem cp_55_5 {h : Hp} {j x : Int} : up (up (up (up (up (up h 55 j (h 5 x)) 56 j (h 6 x)) 57 j (h 7 x)) 58 j (h 8 x)) 59 j (h 9 x)) 60 j (h 10 x) = fun k i => if 55 ≤ k ∧ k ≤ 60 then (if i = j then h (k - 55 + 5) x else h k i) else h k i := by
  funext k i
  by_cases c : 55 ≤ k ∧ k ≤ 60
  · have : k = 55 ∨ k = 56 ∨ k = 57 ∨ k = 58 ∨ k = 59 ∨ k = 60 := by omega
    rcases this with rfl | rfl | rfl | rfl | rfl | rfl <;> simp [up_ap]
  · rw [if_neg c]
    unfold up
    rw [if_neg (by omega), if_neg (by omega), if_neg (by omega), if_neg (by omega), if_neg (by omega), if_neg (by omega)]
theorem cp_69_5 {h : Hp} {j x : Int} : up (up (up (up (up (up h 69 j (h 5 x)) 70 j (h 6 x)) 71 j (h 7 x)) 72 j (h 8 x)) 73 j (h 9 x)) 74 j (h 10 x) = fun k i => if 69 ≤ k ∧ k ≤ 74 then (if i = j then h (k - 69 + 5) x else h k i) else h k i := by
  funext k i
  by_cases c : 69 ≤ k ∧ k ≤ 74
  · have : k = 69 ∨ k = 70 ∨ k = 71 ∨ k = 72 ∨ k = 73 ∨ k = 74 := by omega
    rcases this with rfl | rfl | rfl | rfl | rfl | rfl <;> simp [up_ap]
  · rw [if_neg c]
    unfold up
    rw [if_neg (by omega), if_neg (by omega), if_neg (by omega), if_neg (by omega), if_neg (by omega), if_neg (by omega)]
theorem cp_103_109 {h : Hp} {j x : Int} : up (up (up (up (up (up h 103 j (h 109 x)) 104 j (h 110 x)) 105 j (h 111 x)) 106 j (h 112 x)) 107 j (h 113 x)) 108 j (h 114 x) = fun k i => if 103 ≤ k ∧ k ≤ 108 then (if i = j then h (k - 103 + 109) x else h k i) else h k i := by
  funext k i
  by_cases c : 103 ≤ k ∧ k ≤ 108
  · have : k = 103 ∨ k = 104 ∨ k = 105 ∨ k = 106 ∨ k = 107 ∨ k = 108 := by omega
    rcases this with rfl | rfl | rfl | rfl | rfl | rfl <;> simp [up_ap]
  · rw [if_neg c]
    unfold up
    rw [if_neg (by omega), if_neg (by omega), if_neg (by omega), if_neg (by omega), if_neg (by omega), if_neg (by omega)]
theorem cp_103_118 {h : Hp} {j x : Int} : up (up (up (up (up (up h 103 j (h 118 x)) 104 j (h 119 x)) 105 j (h 120 x)) 106 j (h 121 x)) 107 j (h 122 x)) 108 j (h 123 x) = fun k i => if 103 ≤ k ∧ k ≤ 108 then (if i = j then h (k - 103 + 118) x else h k i) else h k i := by
  funext k i
  by_cases c : 103 ≤ k ∧ k ≤ 108
  · have : k = 103 ∨ k = 104 ∨ k = 105 ∨ k = 106 ∨ k = 107 ∨ k = 108 := by omega
    rcases this with rfl | rfl | rfl | rfl | rfl | rfl <;> simp [up_ap]
  · rw [if_neg c]
    unfold up
    rw [if_neg (by omega), if_neg (by omega), if_neg (by omega), if_neg (by omega), if_neg (by omega), if_neg (by omega)]
theorem cp_109_103 {h : Hp} {j x : Int} : up (up (up (up (up (up h 109 j (h 103 x)) 110 j (h 104 x)) 111 j (h 105 x)) 112 j (h 106 x)) 113 j (h 107 x)) 114 j (h 108 x) = fun k i => if 109 ≤ k ∧ k ≤ 114 then (if i = j then h (k - 109 + 103) x else h k i) else h k i := by
  funext k i
  by_cases c : 109 ≤ k ∧ k ≤ 114
  · have : k = 109 ∨ k = 110 ∨ k = 111 ∨ k = 112 ∨ k = 113 ∨ k = 114 := by omega
    rcases this with rfl | rfl | rfl | rfl | rfl | rfl <;> simp [up_ap]
  · rw [if_neg c]
    unfold up
    rw [if_neg (by omega), if_neg (by omega), if_neg (by omega), if_neg (by omega), if_neg (by omega), if_neg (by omega)]
theorem cp_118_103 {h : Hp} {j x : Int} : up (up (up (up (up (up h 118 j (h 103 x)) 119 j (h 104 x)) 120 j (h 105 x)) 121 j (h 106 x)) 122 j (h 107 x)) 123 j (h 108 x) = fun k i => if 118 ≤ k ∧ k ≤ 123 then (if i = j then h (k - 118 + 103) x else h k i) else h k i := by
  funext k i
  by_cases c : 118 ≤ k ∧ k ≤ 123
  · have : k = 118 ∨ k = 119 ∨ k = 120 ∨ k = 121 ∨ k = 122 ∨ k = 123 := by omega
    rcases this with rfl | rfl | rfl | rfl | rfl | rfl <;> simp [up_ap]
  · rw [if_neg c]
    unfold up
    rw [if_neg (by omega), if_neg (by omega), if_neg (by omega), if_neg (by omega), if_neg (by omega), if_neg (by omega)]
/-- rows of the programs (b = 37) or of the model's (b = 103) from rows s on, m of them -/
def cpn (h : Hp) (b s : Nat) (p q m : Int) : Hp := fun c i => if (b ≤ c ∧ c ≤ b + 5) ∧ (p ≤ i ∧ i < p + m) then h (c - b + s) (q + (i - p)) else h c i
theorem cpn_o {h : Hp} {b s c : Nat} {p q m i : Int} (z : ¬ ((b ≤ c ∧ c ≤ b + 5) ∧ (p ≤ i ∧ i < p + m))) : cpn h b s p q m c i = h c i := by unfold cpn; rw [if_neg z]
theorem cpn_i {h : Hp} {b s c : Nat} {p q m i : Int} (z : (b ≤ c ∧ c ≤ b + 5) ∧ (p ≤ i ∧ i < p + m)) : cpn h b s p q m c i = h (c - b + s) (q + (i - p)) := by unfold cpn; rw [if_pos z]
theorem cpn0 {h : Hp} {b s : Nat} {p q : Int} : cpn h b s p q 0 = h := by
  funext c i; exact cpn_o (by omega)
theorem cpn_step {h : Hp} {b s : Nat} {p q m : Int} (d : s + 5 < b ∨ b + 5 < s) (m0 : 0 ≤ m) : (fun k i => if b ≤ k ∧ k ≤ b + 5 then (if i = p + m then cpn h b s p q m (k - b + s) (q + m) else cpn h b s p q m k i) else cpn h b s p q m k i) = cpn h b s p q (m + 1) := by
  funext c i
  by_cases k : b ≤ c ∧ c ≤ b + 5
  · rw [if_pos k]
    by_cases z : i = p + m
    · rw [if_pos z, cpn_o (by omega), cpn_i (by omega)]; congr 1; omega
    · rw [if_neg z]
      by_cases w : p ≤ i ∧ i < p + m
      · rw [cpn_i ⟨k, w⟩, cpn_i (by omega)]
      · rw [cpn_o (by omega), cpn_o (by omega)]
  · rw [if_neg k, cpn_o (by omega), cpn_o (by omega)]
theorem cb_cpnc {h g : Hp} {b s : Nat} {p q m : Int} (hb : b + 5 < 85) (hs : s + 5 < 85) : cb (cpn h b s p q m) g = cpn (cb h g) b s p q m := by
  funext c i
  by_cases k : c < 85
  · rw [cb_c k]
    by_cases z : (b ≤ c ∧ c ≤ b + 5) ∧ (p ≤ i ∧ i < p + m)
    · rw [cpn_i z, cpn_i z, cb_c (by omega)]
    · rw [cpn_o z, cpn_o z, cb_c k]
  · rw [cb_m (by omega), cpn_o (by omega), cb_m (by omega)]
theorem cb_cpnm {h g : Hp} {b s : Nat} {p q m : Int} (hb : 85 ≤ b) (hs : 85 ≤ s) : cb g (cpn h b s p q m) = cpn (cb g h) b s p q m := by
  funext c i
  by_cases k : c < 85
  · rw [cb_c k, cpn_o (by omega), cb_c k]
  · rw [cb_m (by omega)]
    by_cases z : (b ≤ c ∧ c ≤ b + 5) ∧ (p ≤ i ∧ i < p + m)
    · rw [cpn_i z, cpn_i z, cb_m (by omega)]
    · rw [cpn_o z, cpn_o z, cb_m (by omega)]
/-- cells of a row set to one value -/
def ers (h : Hp) (c : Nat) (p n v : Int) : Hp := fun k i => if k = c ∧ p ≤ i ∧ i < n then v else h k i
theorem ers_i {h : Hp} {c : Nat} {p n v i : Int} (z : p ≤ i ∧ i < n) : ers h c p n v c i = v := by unfold ers; rw [if_pos ⟨rfl, z⟩]
theorem ers_o {h : Hp} {c k : Nat} {p n v i : Int} (z : ¬ (k = c ∧ p ≤ i ∧ i < n)) : ers h c p n v k i = h k i := by unfold ers; rw [if_neg z]
theorem ers0 {h : Hp} {c : Nat} {p n v : Int} (z : n ≤ p) : ers h c p n v = h := by funext k i; exact ers_o (by omega)
theorem ers_step {h : Hp} {c : Nat} {p n v : Int} (z : p ≤ n) : up (ers h c p n v) c n v = ers h c p (n + 1) v := by
  funext k i; unfold up ers
  by_cases a : k = c ∧ i = n
  · rw [if_pos a, if_pos (by omega)]
  · rw [if_neg a]
    by_cases b : k = c ∧ p ≤ i ∧ i < n
    · rw [if_pos b, if_pos (by omega)]
    · rw [if_neg b, if_neg (by omega)]
theorem cb_ersc {h g : Hp} {c : Nat} {p n v : Int} (hc : c < 85) : cb (ers h c p n v) g = ers (cb h g) c p n v := by
  funext k i
  by_cases z : k = c ∧ p ≤ i ∧ i < n
  · obtain ⟨rfl, z⟩ := z
    rw [cb_c hc, ers_i z, ers_i z]
  · rw [ers_o z]; unfold cb; rw [ers_o z]
theorem cb_ersm {h g : Hp} {c : Nat} {p n v : Int} (hc : 85 ≤ c) : cb g (ers h c p n v) = ers (cb g h) c p n v := by
  funext k i
  by_cases z : k = c ∧ p ≤ i ∧ i < n
  · obtain ⟨rfl, z⟩ := z
    rw [cb_m hc, ers_i z, ers_i z]
  · rw [ers_o z]; unfold cb; rw [ers_o z]
theorem sp_erase36 {G : GG} {h : Hp} {Φ : Int → Hp → Prop} {p n : Int} (hp : 0 ≤ p ∧ p ≤ 240) (hn : 0 ≤ n ∧ n ≤ 240) (K : Φ 0 (ers h 37 p n 0)) : Call G m_X3_erase [rv 36, iv p, iv n] h Φ := by
  refine Call.of rfl (Nat.le_of_ble_eq_true rfl) rfl (U_X3_erase_36_0 ?_)
  by_cases c : n ≤ p
  · rw [ers0 c] at K
    exact U_X3_erase_36_2 ⟨fun _ => K, fun z => absurd z (by omega)⟩
  · have go : ∀ (d : Nat) (m : Int), m + d = n → p ≤ m → AT G m_X3_erase 2 [(0, rv 36), (2, iv n), (3, iv m)] [] (ers h 37 p m 0) Φ := by
      intro d
      induction d with
      | zero =>
        intro m hm pm
        have e : m = n := by omega
        rw [e]
        exact U_X3_erase_36_2 ⟨fun _ => K, fun z => absurd z (by omega)⟩
      | succ d ih =>
        intro m hm pm
        refine U_X3_erase_36_2 ⟨fun z => absurd z (by omega), fun _ => ⟨by omega, ?_⟩⟩
        rw [w32_of (z := m + 1) (by omega) (by omega), ers_step pm]
        exact ih (m + 1) (by omega) (by omega)
    have t := go (n - p).toNat p (by omega) (by omega)
    rw [ers0 (Int.le_refl p)] at t
    exact t
theorem sp_erase43 {G : GG} {h : Hp} {Φ : Int → Hp → Prop} {p n : Int} (hp : 0 ≤ p ∧ p ≤ 240) (hn : 0 ≤ n ∧ n ≤ 240) (K : Φ 0 (ers h 44 p n 0)) : Call G m_X3_erase [rv 43, iv p, iv n] h Φ := by
  refine Call.of rfl (Nat.le_of_ble_eq_true rfl) rfl (U_X3_erase_43_0 ?_)
  by_cases c : n ≤ p
  · rw [ers0 c] at K
    exact U_X3_erase_43_2 ⟨fun _ => K, fun z => absurd z (by omega)⟩
  · have go : ∀ (d : Nat) (m : Int), m + d = n → p ≤ m → AT G m_X3_erase 2 [(0, rv 43), (2, iv n), (3, iv m)] [] (ers h 44 p m 0) Φ := by
      intro d
      induction d with
      | zero =>
        intro m hm pm
        have e : m = n := by omega
        rw [e]
        exact U_X3_erase_43_2 ⟨fun _ => K, fun z => absurd z (by omega)⟩
      | succ d ih =>
        intro m hm pm
        refine U_X3_erase_43_2 ⟨fun z => absurd z (by omega), fun _ => ⟨by omega, ?_⟩⟩
        rw [w32_of (z := m + 1) (by omega) (by omega), ers_step pm]
        exact ih (m + 1) (by omega) (by omega)
    have t := go (n - p).toNat p (by omega) (by omega)
    rw [ers0 (Int.le_refl p)] at t
    exact t
theorem sp_erase4 {G : GG} {h : Hp} {Φ : Int → Hp → Prop} {p n : Int} (hp : 0 ≤ p ∧ p ≤ 30) (hn : 0 ≤ n ∧ n ≤ 30) (K : Φ 0 (ers h 5 p n 0)) : Call G m_X3_erase [rv 4, iv p, iv n] h Φ := by
  refine Call.of rfl (Nat.le_of_ble_eq_true rfl) rfl (U_X3_erase_4_0 ?_)
  by_cases c : n ≤ p
  · rw [ers0 c] at K
    exact U_X3_erase_4_2 ⟨fun _ => K, fun z => absurd z (by omega)⟩
  · have go : ∀ (d : Nat) (m : Int), m + d = n → p ≤ m → AT G m_X3_erase 2 [(0, rv 4), (2, iv n), (3, iv m)] [] (ers h 5 p m 0) Φ := by
      intro d
      induction d with
      | zero =>
        intro m hm pm
        have e : m = n := by omega
        rw [e]
        exact U_X3_erase_4_2 ⟨fun _ => K, fun z => absurd z (by omega)⟩
      | succ d ih =>
        intro m hm pm
        refine U_X3_erase_4_2 ⟨fun z => absurd z (by omega), fun _ => ⟨by omega, ?_⟩⟩
        rw [w32_of (z := m + 1) (by omega) (by omega), ers_step pm]
        exact ih (m + 1) (by omega) (by omega)
    have t := go (n - p).toNat p (by omega) (by omega)
    rw [ers0 (Int.le_refl p)] at t
    exact t
theorem sp_count43 {G : GG} {h : Hp} {Φ : Int → Hp → Prop} {x n : Int} (hx : 0 ≤ x ∧ x ≤ 210) (hn : 0 ≤ n ∧ n ≤ 30) (h0 : h 43 0 = 240) (a : ∀ i, 0 ≤ i → i < n → h 44 (x + i) ≠ 0) (b : n < 30 → h 44 (x + n) = 0) (K : Φ n h) : Call G m_X3_countFrom [rv 43, iv x] h Φ := by
  refine Call.of rfl (Nat.le_of_ble_eq_true rfl) rfl (U_X3_countFrom_43_0 ?_)
  have go : ∀ (d m : Nat), (m : Int) + d = n → AT G m_X3_countFrom 2 [(0, rv 43), (1, iv x), (2, iv (m : Int))] [] h Φ := by
    intro d
    induction d with
    | zero =>
      intro m hm
      have e : (m : Int) = n := by omega
      rw [e]
      refine U_X3_countFrom_43_2 ⟨fun _ => K, fun z => ?_⟩
      rw [w32_of (z := x + n) (by omega) (by omega)]
      refine Call.of rfl (Nat.le_of_ble_eq_true rfl) rfl (U_X3_isThere_43_0 ?_)
      rw [h0, w32_of (z := 240 - 1) (by omega) (by omega)]
      exact ⟨fun y => absurd y (by omega), fun _ => ⟨fun y => absurd y (by omega), fun _ => ⟨by omega, fun _ => ⟨fun _ => K, fun y => absurd rfl y⟩, fun y => absurd (b z) y⟩⟩⟩
    | succ d ih =>
      intro m hm
      refine U_X3_countFrom_43_2 ⟨fun z => absurd z (by omega), fun z => ?_⟩
      rw [w32_of (z := x + (m : Int)) (by omega) (by omega), w32_of (z := (m : Int) + 1) (by omega) (by omega)]
      refine Call.of rfl (Nat.le_of_ble_eq_true rfl) rfl (U_X3_isThere_43_0 ?_)
      rw [h0, w32_of (z := 240 - 1) (by omega) (by omega)]
      have t := ih (m + 1) (by omega)
      rw [Int.natCast_add] at t
      exact ⟨fun y => absurd y (by omega), fun _ => ⟨fun y => absurd y (by omega), fun _ => ⟨by omega, fun y => absurd y (a m (by omega) (by omega)), fun _ => ⟨fun y => absurd y (by omega), fun _ => t⟩⟩⟩⟩
  exact go n.toNat 0 (by omega)
theorem sp_count4 {G : GG} {h : Hp} {Φ : Int → Hp → Prop} {x n : Int} (hx : 0 ≤ x ∧ x ≤ 0) (hn : 0 ≤ n ∧ n ≤ 30) (h0 : h 4 0 = 30) (a : ∀ i, 0 ≤ i → i < n → h 5 (x + i) ≠ 0) (b : n < 30 → h 5 (x + n) = 0) (K : Φ n h) : Call G m_X3_countFrom [rv 4, iv x] h Φ := by
  refine Call.of rfl (Nat.le_of_ble_eq_true rfl) rfl (U_X3_countFrom_4_0 ?_)
  have go : ∀ (d m : Nat), (m : Int) + d = n → AT G m_X3_countFrom 2 [(0, rv 4), (1, iv x), (2, iv (m : Int))] [] h Φ := by
    intro d
    induction d with
    | zero =>
      intro m hm
      have e : (m : Int) = n := by omega
      rw [e]
      refine U_X3_countFrom_4_2 ⟨fun _ => K, fun z => ?_⟩
      rw [w32_of (z := x + n) (by omega) (by omega)]
      refine Call.of rfl (Nat.le_of_ble_eq_true rfl) rfl (U_X3_isThere_4_0 ?_)
      rw [h0, w32_of (z := 30 - 1) (by omega) (by omega)]
      exact ⟨fun y => absurd y (by omega), fun _ => ⟨fun y => absurd y (by omega), fun _ => ⟨by omega, fun _ => ⟨fun _ => K, fun y => absurd rfl y⟩, fun y => absurd (b z) y⟩⟩⟩
    | succ d ih =>
      intro m hm
      refine U_X3_countFrom_4_2 ⟨fun z => absurd z (by omega), fun z => ?_⟩
      rw [w32_of (z := x + (m : Int)) (by omega) (by omega), w32_of (z := (m : Int) + 1) (by omega) (by omega)]
      refine Call.of rfl (Nat.le_of_ble_eq_true rfl) rfl (U_X3_isThere_4_0 ?_)
      rw [h0, w32_of (z := 30 - 1) (by omega) (by omega)]
      have t := ih (m + 1) (by omega)
      rw [Int.natCast_add] at t
      exact ⟨fun y => absurd y (by omega), fun _ => ⟨fun y => absurd y (by omega), fun _ => ⟨by omega, fun y => absurd y (a m (by omega) (by omega)), fun _ => ⟨fun y => absurd y (by omega), fun _ => t⟩⟩⟩⟩
  exact go n.toNat 0 (by omega)
/-- the class installs rows -/
theorem ce_inst43 {G : GG} {h : Hp} {k x n : Int} (hk : 0 ≤ k ∧ k < 8) (hx : 0 ≤ x ∧ x ≤ 210) (hn : 0 ≤ n ∧ n ≤ 30) (h0 : h 43 0 = 240) (a : ∀ i, 0 ≤ i → i < n → h 44 (x + i) ≠ 0) (b : n < 30 → h 44 (x + n) = 0) : CE G m_X0_install [rv 34, iv k, rv 43, iv x] h 0 (up (up (ers (cpn h 37 44 (30 * k) x n) 37 (30 * k + n) (30 * k + 30) 0) 50 k (-1)) 51 k 0) := by
  intro g Φ K
  rw [cb_uc (by decide), cb_uc (by decide), cb_ersc (by decide), cb_cpnc (by decide) (by decide)] at K
  refine Call.of rfl (Nat.le_of_ble_eq_true rfl) rfl (U_X0_install_34_43_0 (sp_count43 (h := cb h g) hx hn h0 a b ?_))
  have e30 : k * 30 = 30 * k := by omega
  rw [w32_of (z := k * 30) (by omega) (by omega), e30]
  have go : ∀ (d : Nat) (m : Int), m + d = n → 0 ≤ m → AT G m_X0_install 16 [(0, rv 34), (1, iv k), (2, rv 43), (3, iv x), (4, iv n), (5, iv (30 * k)), (6, iv m)] [] (cpn (cb h g) 37 44 (30 * k) x m) Φ := by
    intro d
    induction d with
    | zero =>
      intro m hm m0
      have e : m = n := by omega
      rw [e]
      refine U_X0_install_34_43_16 ⟨fun _ => ?_, fun z => absurd z (by omega)⟩
      rw [w32_of (z := 30 * k + n) (by omega) (by omega), w32_of (z := 30 * k + 30) (by omega) (by omega)]
      exact sp_erase36 (by omega) (by omega) ⟨hk, hk, K⟩
    | succ d ih =>
      intro m hm m0
      refine U_X0_install_34_43_16 ⟨fun z => absurd z (by omega), fun _ => ?_⟩
      rw [w32_of (z := 30 * k + m) (by omega) (by omega), w32_of (z := x + m) (by omega) (by omega), w32_of (z := m + 1) (by omega) (by omega)]
      refine Call.of rfl (Nat.le_of_ble_eq_true rfl) rfl (U_X3_copy_36_43_0 ?_)
      have b1 : 0 ≤ x + m ∧ x + m < 240 := by omega
      have b2 : 0 ≤ 30 * k + m ∧ 30 * k + m < 240 := by omega
      refine ⟨b1, b2, b1, b2, b1, b2, b1, b2, b1, b2, b1, b2, ?_⟩
      rw [cp_37_44]
      have t := ih (m + 1) (by omega) (by omega)
      rw [← cpn_step (by omega) m0] at t
      exact t
  have t := go n.toNat 0 (by omega) (by omega)
  rw [cpn0] at t
  exact t
/-- the class installs rows -/
theorem ce_inst4 {G : GG} {h : Hp} {k x n : Int} (hk : 0 ≤ k ∧ k < 8) (hx : 0 ≤ x ∧ x ≤ 0) (hn : 0 ≤ n ∧ n ≤ 30) (h0 : h 4 0 = 30) (a : ∀ i, 0 ≤ i → i < n → h 5 (x + i) ≠ 0) (b : n < 30 → h 5 (x + n) = 0) : CE G m_X0_install [rv 34, iv k, rv 4, iv x] h 0 (up (up (ers (cpn h 37 5 (30 * k) x n) 37 (30 * k + n) (30 * k + 30) 0) 50 k (-1)) 51 k 0) := by
  intro g Φ K
  rw [cb_uc (by decide), cb_uc (by decide), cb_ersc (by decide), cb_cpnc (by decide) (by decide)] at K
  refine Call.of rfl (Nat.le_of_ble_eq_true rfl) rfl (U_X0_install_34_4_0 (sp_count4 (h := cb h g) hx hn h0 a b ?_))
  have e30 : k * 30 = 30 * k := by omega
  rw [w32_of (z := k * 30) (by omega) (by omega), e30]
  have go : ∀ (d : Nat) (m : Int), m + d = n → 0 ≤ m → AT G m_X0_install 16 [(0, rv 34), (1, iv k), (2, rv 4), (3, iv x), (4, iv n), (5, iv (30 * k)), (6, iv m)] [] (cpn (cb h g) 37 5 (30 * k) x m) Φ := by
    intro d
    induction d with
    | zero =>
      intro m hm m0
      have e : m = n := by omega
      rw [e]
      refine U_X0_install_34_4_16 ⟨fun _ => ?_, fun z => absurd z (by omega)⟩
      rw [w32_of (z := 30 * k + n) (by omega) (by omega), w32_of (z := 30 * k + 30) (by omega) (by omega)]
      exact sp_erase36 (by omega) (by omega) ⟨hk, hk, K⟩
    | succ d ih =>
      intro m hm m0
      refine U_X0_install_34_4_16 ⟨fun z => absurd z (by omega), fun _ => ?_⟩
      rw [w32_of (z := 30 * k + m) (by omega) (by omega), w32_of (z := x + m) (by omega) (by omega), w32_of (z := m + 1) (by omega) (by omega)]
      refine Call.of rfl (Nat.le_of_ble_eq_true rfl) rfl (U_X3_copy_36_4_0 ?_)
      have b1 : 0 ≤ x + m ∧ x + m < 30 := by omega
      have b2 : 0 ≤ 30 * k + m ∧ 30 * k + m < 240 := by omega
      refine ⟨b1, b2, b1, b2, b1, b2, b1, b2, b1, b2, b1, b2, ?_⟩
      rw [cp_37_5]
      have t := ih (m + 1) (by omega) (by omega)
      rw [← cpn_step (by omega) m0] at t
      exact t
  have t := go n.toNat 0 (by omega) (by omega)
  rw [cpn0] at t
  exact t
