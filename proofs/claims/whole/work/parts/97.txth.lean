/-! dates -/
def hlN (f : Int → Int) (d : Int) : Nat → Int
  | 0 => 0
  | n + 1 => if hlN f d n ≠ 0 then 1 else if f n = d then 1 else 0
theorem hl_cnt {f : Int → Int} {d : Int} : ∀ n : Nat, (hlN f d n = 1 ∧ cnt f d n < cnt f (d + 1) n) ∨ (hlN f d n = 0 ∧ cnt f d n = cnt f (d + 1) n)
  | 0 => Or.inr ⟨rfl, rfl⟩
  | n + 1 => by
    have ih := hl_cnt (f := f) (d := d) n
    have mn := cnt_mono f (d := d) (e := d + 1) (by omega) n
    have e1 : cnt f d (n + 1) = cnt f d n + (if f n < d then 1 else 0) := rfl
    have e2 : cnt f (d + 1) (n + 1) = cnt f (d + 1) n + (if f n < d + 1 then 1 else 0) := rfl
    have e3 : hlN f d (n + 1) = if hlN f d n ≠ 0 then 1 else if f n = d then 1 else 0 := rfl
    rw [e1, e2, e3]
    rcases ih with ⟨a, c⟩ | ⟨a, c⟩
    · left
      rw [if_pos (by omega)]
      refine ⟨rfl, ?_⟩
      split <;> split <;> omega
    · rw [if_neg (by omega)]
      by_cases q : f n = d
      · left
        rw [if_pos q, if_neg (by omega), if_pos (by omega)]
        omega
      · right
        rw [if_neg q]
        refine ⟨rfl, ?_⟩
        by_cases w : f n < d
        · rw [if_pos w, if_pos (by omega)]; omega
        · rw [if_neg w, if_neg (by omega)]; omega
theorem mo_le {y : Int} (a : Nat) : ∀ c : Nat, mo y a ≤ mo y (a + c)
  | 0 => Int.le_refl _
  | c + 1 => by
    have ih := mo_le (y := y) a c
    have b := mdays_b y ((a + c : Nat) + 1)
    have e : mo y (a + (c + 1)) = mo y (a + c) + mdays y ((a + c : Nat) + 1) := rfl
    rw [e]; omega
theorem day_b {y : Int} {m : Nat} {d : Int} (hy : 2000 ≤ y ∧ y ≤ 2059) (hm : m < 12) (hd : 1 ≤ d ∧ d ≤ mdays y ((m : Int) + 1)) : 0 ≤ yd y + mo y m + d - 1 ∧ yd y + mo y m + d - 1 ≤ 21914 := by
  have a := yd_b (y := y) (by omega)
  have b := mo_b y m
  have c := mo_le (y := y) (m + 1) (11 - m)
  have e : m + 1 + (11 - m) = 12 := by omega
  rw [e, mo_12] at c
  have e2 : mo y (m + 1) = mo y m + mdays y ((m : Int) + 1) := rfl
  have e3 := yd_s (y := y)
  have a2 := yd_b (y := y + 1) (by omega)
  omega
section
variable {G : GG} {b f : Int → Int} {n lo hi d : Int} {h : Hp} {s : PS} {Φ : Int → Hp → Prop} {L : Nat}
theorem sp_leapsBefore (e : h 12 1 = L) (e13 : h 13 = f) (hL : L ≤ 10) (asc : ∀ i j : Int, 0 ≤ i → i < j → j < L → f i < f j) (K : Φ (cnt f d L) h) : Call G m_X1_leapsBefore [rv 12, iv d] h Φ := by
  have go : ∀ (q p : Nat), p + q = L → (∀ i : Int, 0 ≤ i → i < p → f i < d) → AT G m_X1_leapsBefore 2 [(0, rv 12), (1, iv d), (2, iv (p : Int))] [] h Φ := by
    intro q
    induction q with
    | zero =>
      intro p hp m
      refine U_X1_leapsBefore_12_2 ⟨fun _ => ?_, fun z => absurd z (by omega)⟩
      rw [cnt_at L (p := p) (by omega) m (fun i a c => by omega)] at K
      exact K
    | succ q ih =>
      intro p hp m
      refine U_X1_leapsBefore_12_2 ⟨fun z => absurd z (by omega), fun _ => ⟨by omega, ?_⟩⟩
      rw [e13, w32_of (by omega) (by omega)]
      refine ⟨fun z => ?_, fun z => ih (p + 1) (by omega) (fun i a c => ?_)⟩
      · rw [cnt_at L (p := p) (by omega) m (fun i a c => ?_)] at K
        · exact K
        · by_cases o : i = p
          · rw [o]; exact z
          · have := asc p i (by omega) (by omega) c
            omega
      · by_cases o : i = p
        · rw [o]; exact z
        · exact m i a (by omega)
  refine Call.of rfl (Nat.le_of_ble_eq_true rfl) rfl (U_X1_leapsBefore_12_0 ?_)
  exact go L 0 (by omega) (fun i a c => absurd c (by omega))
theorem sp_hasLeapC (hd : 0 ≤ d ∧ d ≤ 22000) (e : h 12 1 = L) (e13 : h 13 = f) (hL : L ≤ 10) (asc : ∀ i j : Int, 0 ≤ i → i < j → j < L → f i < f j) (K1 : cnt f d L < cnt f (d + 1) L → Φ 1 h) (K0 : ¬ cnt f d L < cnt f (d + 1) L → Φ 0 h) : Call G m_X1_hasLeap [rv 12, iv d] h Φ := by
  refine Call.of rfl (Nat.le_of_ble_eq_true rfl) rfl (U_X1_hasLeap_12_0 ?_)
  rw [w32_of (by omega) (by omega)]
  exact sp_leapsBefore e e13 hL asc (sp_leapsBefore e e13 hL asc ⟨fun z => K0 (by omega), fun z => K1 z⟩)
theorem sp_hasLeapM (e : h 85 9 = L) (e89 : h 89 = f) (hL : L ≤ 10) (K : Φ (hlN f d L) h) : Call G m_X12_hasLeap [rv 85, iv d] h Φ := by
  have b01 : ∀ p, hlN f d p = 0 ∨ hlN f d p = 1 := fun p => by
    rcases hl_cnt (f := f) (d := d) p with q | q
    · exact Or.inr q.1
    · exact Or.inl q.1
  have go : ∀ (q p : Nat), p + q = L → AT G m_X12_hasLeap 4 [(0, rv 85), (1, iv d), (2, iv (hlN f d p)), (3, iv (p : Int))] [] h Φ := by
    intro q
    induction q with
    | zero =>
      intro p hp
      have e2 : p = L := by omega
      rw [e2]
      exact U_X12_hasLeap_85_4 ⟨fun _ => ⟨b01 L, K⟩, fun z => absurd z (by omega)⟩
    | succ q ih =>
      intro p hp
      have t := ih (p + 1) (by omega)
      have e3 : hlN f d (p + 1) = if hlN f d p ≠ 0 then 1 else if f p = d then 1 else 0 := rfl
      rw [e3] at t
      refine U_X12_hasLeap_85_4 ⟨fun z => absurd z (by omega), fun _ => ⟨fun z => ?_, fun z => ⟨by omega, ?_⟩⟩⟩
      · rw [if_pos z] at t
        rw [w32_of (by omega) (by omega)]; exact t
      · rw [if_neg (by omega)] at t
        rw [e89, w32_of (by omega) (by omega)]
        refine ⟨fun y => ?_, fun y => ?_⟩
        · rw [if_neg y] at t; exact t
        · rw [if_pos y] at t; exact t
  refine Call.of rfl (Nat.le_of_ble_eq_true rfl) rfl (U_X12_hasLeap_85_0 ?_)
  exact go L 0 (by omega)
theorem skp_g {c : Int} (z : (skp b c s).2 = -1) : s.2 = -1 := by
  false_or_by_contra
  rename_i y
  rw [skp_w y] at z
  exact y z
theorem fix_g {k : Nat} (z : (fix b k lo hi s).1.2 = -1) : s.2 = -1 := by
  false_or_by_contra
  rename_i y
  rw [fix_w y] at z
  exact y z
theorem fix_c {k : Nat} (S : SV n s) (l : lo ≤ hi) : lo ≤ cvl lo (fix b k lo hi s) ∧ cvl lo (fix b k lo hi s) ≤ hi := by
  by_cases z : (fix b k lo hi s).1.2 = -1
  · rw [cvl_r z]; exact fix_r S z
  · rw [cvl_w z]; omega
/-- behind the last sign: the end of the text -/
def fns (n : Int) (s : PS) : PS := if s.2 = -1 ∧ s.1 < n then (s.1, s.1) else s
theorem fns_v (S : SV n s) : SV n (fns n s) := by
  unfold fns
  split
  · exact ⟨S.1, Or.inr S.1⟩
  · exact S
theorem c_close (S : SV n s) (C : TXc h b n) (K1 : (fns n s).2 = -1 → Φ 1 (up (sT h (fns n s)) 2 1 0)) (K0 : (fns n s).2 ≠ -1 → Φ 0 (up (sT h (fns n s)) 2 1 0)) : Call G m_X10_closes [rv 2] (sT h s) Φ := by
  refine c_closes S C (fun z y => ?_) (fun z => ?_) (fun z y => ?_)
  · have e : fns n s = s := if_neg (by omega)
    rw [e] at K1; exact K1 z
  · have e : fns n s = s := if_neg (by omega)
    rw [e] at K0; exact K0 z
  · have e : fns n s = (s.1, s.1) := if_pos ⟨z, y⟩
    rw [e] at K0
    exact K0 (by show ¬ s.1 = -1; have := S.1; omega)
theorem m_close (S : SV n s) (C : TXm h b n) (K : Φ 0 (sM h (fns n s))) : Call G m_X12_done [rv 85] (sM h s) Φ := by
  refine m_done S C (fun z y => ?_) (fun z => ?_) (fun z y => ?_)
  · have e : fns n s = s := if_neg (by omega)
    rw [e] at K; exact K
  · have e : fns n s = s := if_neg (by omega)
    rw [e] at K; exact K
  · have e : fns n s = (s.1, s.1) := if_pos ⟨z, y⟩
    rw [e] at K; exact K
end
/-- the model's text -/
def tkH (h : Hp) : Hp := up (row (up h 85 4 (h 85 3)) 87 (fun i => if 0 ≤ i ∧ i < h 85 3 then h 86 i else h 87 i)) 85 3 0
theorem m_take {G : GG} {h : Hp} {Φ : Int → Hp → Prop} (n0 : 0 ≤ h 85 3 ∧ h 85 3 ≤ 1600) (K : Φ 0 (sM (tkH h) (0, -1))) : Call G m_X12_take [rv 85] h Φ := by
  obtain ⟨R, eR⟩ : ∃ R : Int → Hp, R = fun m => row (up h 85 4 (h 85 3)) 87 (fun i => if 0 ≤ i ∧ i < m then h 86 i else h 87 i) := ⟨_, rfl⟩
  have r4 : ∀ m, R m 85 4 = h 85 3 := fun m => by rw [eR]; show row _ 87 _ 85 4 = _; rw [row_ne (by decide), up_at]
  have r86 : ∀ m i, R m 86 i = h 86 i := fun m i => by rw [eR]; show row _ 87 _ 86 i = _; rw [row_ne (by decide), up_nk (by decide)]
  have st : ∀ m, 0 ≤ m → up (R m) 87 m (h 86 m) = R (m + 1) := fun m m0 => by
    rw [eR]
    funext k i
    unfold up row
    dsimp only
    by_cases e : k = 87
    · by_cases o : i = m
      · subst e; subst o
        rw [if_pos ⟨rfl, rfl⟩, if_pos rfl, if_pos (by omega)]
      · have t : ¬ (k = 87 ∧ i = m) := fun t => o t.2
        simp only [if_neg t, if_pos e]
        by_cases w : 0 ≤ i ∧ i < m
        · rw [if_pos w, if_pos (by omega)]
        · rw [if_neg w, if_neg (by omega)]
    · have t : ¬ (k = 87 ∧ i = m) := fun t => e t.1
      simp only [if_neg t, if_neg e]
  have go : ∀ (q : Nat) (m : Int), 0 ≤ m → m + q = h 85 3 → AT G m_X12_take 10 [(0, rv 85), (1, iv m)] [] (R m) Φ := by
    intro q
    induction q with
    | zero =>
      intro m m0 hm
      refine U_X12_take_85_10 ?_
      rw [r4]
      refine ⟨fun _ => ?_, fun z => absurd z (by omega)⟩
      have e : m = h 85 3 := by omega
      rw [e, eR]
      exact K
    | succ q ih =>
      intro m m0 hm
      refine U_X12_take_85_10 ?_
      rw [r4, r86]
      refine ⟨fun z => absurd z (by omega), fun _ => ⟨by omega, by omega, ?_⟩⟩
      rw [st m m0, w32_of (by omega) (by omega)]
      exact ih (m + 1) (by omega) (by omega)
  refine Call.of rfl (Nat.le_of_ble_eq_true rfl) rfl (U_X12_take_85_0 ?_)
  have e0 : R 0 = up h 85 4 (h 85 3) := by
    rw [eR]
    funext k i
    unfold row
    dsimp only
    by_cases e : k = 87
    · rw [if_pos e, if_neg (by omega)]
      subst e
      exact (up_nk (by decide)).symm
    · rw [if_neg e]
  have t := go (h 85 3).toNat 0 (by omega) (by omega)
  rw [e0] at t
  exact t
theorem cb_tkH {g h : Hp} : tkH (cb g h) = cb g (tkH h) := by
  unfold tkH
  rw [cb_um (by decide), cb_rm (by decide), cb_um (by decide)]
  rfl
theorem tkH_o {h : Hp} {k : Nat} {i : Int} (z : ¬ (k = 85 ∧ (i = 3 ∨ i = 4) ∨ k = 87)) : tkH h k i = h k i := by
  unfold tkH up
  rw [if_neg (by omega), row_ne (by omega), if_neg (by omega)]
/-- class and model read the same text -/
def bT (h : Hp) (i : Int) : Int := if 0 ≤ i ∧ i < h 2 1 then h 3 i else -1
theorem bT_ok {h : Hp} (I : IT h) : TX (bT h) (h 2 1) ∧ TXc h (bT h) (h 2 1) ∧ TXm (tkH h) (bT h) (h 2 1) := by
  obtain ⟨i0, i1, i2, i3⟩ := I
  refine ⟨⟨⟨i0, i1⟩, fun x x0 x1 => ?_, fun x z => if_neg z⟩, ⟨rfl, fun x x0 x1 => ?_⟩, ⟨?_, fun x x0 x1 => ?_⟩⟩
  · unfold bT; rw [if_pos ⟨x0, x1⟩]; exact (i3 x x0 x1).2
  · unfold bT; rw [if_pos ⟨x0, x1⟩]
  · unfold tkH; rw [up_ni (by decide), row_ne (by decide), up_at]; exact i2
  · unfold bT tkH; rw [if_pos ⟨x0, x1⟩, up_nk (by decide), row_eq, if_pos (by omega)]; exact (i3 x x0 x1).1
/-- the heaps behind a text -/
def PTx (k : Nat) (i : Int) : Prop := k = 2 ∧ (i = 1 ∨ i = 2 ∨ i = 3) ∨ k = 85 ∧ (i = 3 ∨ i = 4 ∨ i = 5 ∨ i = 6) ∨ k = 87
theorem end_ok {hc hm : Hp} {s : PS} (e3 : hm 85 3 = 0) : IT (cb (up (sT hc s) 2 1 0) (sM hm s)) := by
  have a : cb (up (sT hc s) 2 1 0) (sM hm s) 2 1 = 0 := by rw [cb_c (by decide), up_at]
  have c : cb (up (sT hc s) 2 1 0) (sM hm s) 85 3 = 0 := by rw [cb_m (by decide), sM_oi (by decide)]; exact e3
  refine ⟨by omega, by omega, by omega, fun i a1 a2 => ?_⟩
  rw [a] at a2
  omega
theorem tkH_3 {h : Hp} : tkH h 85 3 = 0 := by unfold tkH; rw [up_at]
