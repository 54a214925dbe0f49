/-! commands kept on the ground, and their acknowledging -/
def KRv (cv ct cs cx cg cd mv mw mx mt ms mn dO dL inn : Int) : Prop :=
  (cd = -1 ∧ inn = 0 ∧ ACR cv ct cx mv mw mx) ∨ (cd = -1 ∧ cv = 15 ∧ inn = 2 ∧ dO = cx ∧ 0 ≤ cx ∧ cx ≤ 7) ∨ (inn = 1 ∧ (0 ≤ dO ∧ dO ≤ 7) ∧ (0 ≤ dL ∧ dL ≤ 29) ∧ cd = 30 * dO + dL ∧ LR cv ct cs cx cg mv mw mx mt ms mn)
def KR (h : Hp) (i : Int) : Prop := KRv (h 69 i) (h 70 i) (h 71 i) (h 72 i) (h 73 i) (h 74 i) (h 103 (249 + i)) (h 104 (249 + i)) (h 105 (249 + i)) (h 106 (249 + i)) (h 107 (249 + i)) (h 108 (249 + i)) (h 144 i) (h 145 i) (h 146 i)
def IKp (h : Hp) : Prop := (h 85 88 = h 65 9 ∧ 0 ≤ h 65 9 ∧ h 65 9 ≤ 8) ∧ (h 85 89 = h 65 10 ∧ 0 ≤ h 65 10 ∧ h 65 10 ≤ h 65 9) ∧ (h 85 90 = h 65 11 ∧ 0 ≤ h 65 11 ∧ h 65 11 ≤ 255) ∧ ∀ i, 0 ≤ i → i < h 65 9 → h 143 i = (h 65 11 - h 65 9 + i) % 256 ∧ KR h i
def DKp (k : Nat) (i : Int) : Prop := k = 65 ∧ (i = 9 ∨ i = 10 ∨ i = 11) ∨ k = 69 ∨ k = 70 ∨ k = 71 ∨ k = 72 ∨ k = 73 ∨ k = 74 ∨ k = 85 ∧ (i = 88 ∨ i = 89 ∨ i = 90) ∨ (k = 103 ∨ k = 104 ∨ k = 105 ∨ k = 106 ∨ k = 107 ∨ k = 108) ∧ (249 ≤ i ∧ i < 257) ∨ k = 143 ∨ k = 144 ∨ k = 145 ∨ k = 146
theorem IKp_cg {h h' : Hp} (e : ∀ k i, DKp k i → h' k i = h k i) (I : IKp h) : IKp h' := by
  obtain ⟨a, b, c, d⟩ := I
  unfold IKp
  rw [e 85 88 (by simp [DKp]), e 65 9 (by simp [DKp]), e 85 89 (by simp [DKp]), e 65 10 (by simp [DKp]), e 85 90 (by simp [DKp]), e 65 11 (by simp [DKp])]
  refine ⟨a, b, c, fun i i0 i1 => ?_⟩
  have q := d i i0 i1
  unfold KR at q ⊢
  rw [e 143 i (by simp [DKp]), e 69 i (by simp [DKp]), e 70 i (by simp [DKp]), e 71 i (by simp [DKp]), e 72 i (by simp [DKp]), e 73 i (by simp [DKp]), e 74 i (by simp [DKp]), e 144 i (by simp [DKp]), e 145 i (by simp [DKp]), e 146 i (by simp [DKp]),
    e 103 _ (by simp [DKp]; omega), e 104 _ (by simp [DKp]; omega), e 105 _ (by simp [DKp]; omega), e 106 _ (by simp [DKp]; omega), e 107 _ (by simp [DKp]; omega), e 108 _ (by simp [DKp]; omega)]
  exact q
def shf (f : Int → Int) (o x a : Int) : Int → Int := fun i => if o ≤ i ∧ i < o + (x - a) then f (i + a) else f i
def HC (h : Hp) (x a : Int) : Hp := fun k i => if 69 ≤ k ∧ k ≤ 74 then shf (h k) 0 x a i else h k i
def HM (h : Hp) (x a : Int) : Hp := fun k i => if 103 ≤ k ∧ k ≤ 108 then shf (h k) 249 x a i else if 143 ≤ k ∧ k ≤ 146 then shf (h k) 0 x a i else h k i
theorem shf0 {f : Int → Int} {o a : Int} : shf f o a a = f := by
  funext i; unfold shf; rw [if_neg (by omega)]
theorem HC0 {h : Hp} {a : Int} : HC h a a = h := by
  funext k i; unfold HC; rw [shf0]; split <;> rfl
theorem HM0 {h : Hp} {a : Int} : HM h a a = h := by
  funext k i; unfold HM; rw [shf0, shf0]; split
  · rfl
  · split <;> rfl
theorem shf_step {f : Int → Int} {o x a i : Int} (ha : 0 ≤ a) (hx : a ≤ x) : (if i = o + x - a then shf f o x a (o + x) else shf f o x a i) = shf f o (x + 1) a i := by
  unfold shf
  rw [if_neg (show ¬ (o ≤ o + x ∧ o + x < o + (x - a)) by omega)]
  by_cases z : i = o + x - a
  · rw [if_pos z, if_pos (by omega)]; congr 1; omega
  · rw [if_neg z]
    by_cases w : o ≤ i ∧ i < o + (x - a)
    · rw [if_pos w, if_pos (by omega)]
    · rw [if_neg w, if_neg (by omega)]
theorem cp6c {h : Hp} {j x : Int} : up (up (up (up (up (up h 69 j (h 69 x)) 70 j (h 70 x)) 71 j (h 71 x)) 72 j (h 72 x)) 73 j (h 73 x)) 74 j (h 74 x) = fun k i => if 69 ≤ k ∧ k ≤ 74 then (if i = j then h k x else h k i) else h k i := by
  funext k i
  by_cases c : 69 ≤ k ∧ k ≤ 74
  · have : k = 69 ∨ k = 70 ∨ k = 71 ∨ k = 72 ∨ k = 73 ∨ k = 74 := by omega
    rcases this with rfl | rfl | rfl | rfl | rfl | rfl <;> simp [up_ap]
  · rw [if_neg c]
    unfold up
    rw [if_neg (by omega), if_neg (by omega), if_neg (by omega), if_neg (by omega), if_neg (by omega), if_neg (by omega)]
theorem HC_step {h : Hp} {x a : Int} (ha : 0 ≤ a) (hx : a ≤ x) : up (up (up (up (up (up (HC h x a) 69 (x - a) (HC h x a 69 x)) 70 (x - a) (HC h x a 70 x)) 71 (x - a) (HC h x a 71 x)) 72 (x - a) (HC h x a 72 x)) 73 (x - a) (HC h x a 73 x)) 74 (x - a) (HC h x a 74 x) = HC h (x + 1) a := by
  rw [cp6c]; funext k i
  by_cases c : 69 ≤ k ∧ k ≤ 74
  · rw [if_pos c]
    have e : ∀ i, HC h x a k i = shf (h k) 0 x a i := fun i => by unfold HC; rw [if_pos c]
    have e2 : HC h (x + 1) a k i = shf (h k) 0 (x + 1) a i := by unfold HC; rw [if_pos c]
    rw [e, e, e2]
    have q := shf_step (f := h k) (o := 0) (i := i) ha hx
    have e3 : 0 + x - a = x - a := by omega
    have e4 : (0 : Int) + x = x := by omega
    rw [e3, e4] at q; exact q
  · rw [if_neg c]; unfold HC; rw [if_neg c, if_neg c]
theorem cp6m {h : Hp} {j x : Int} : up (up (up (up (up (up h 103 j (h 103 x)) 104 j (h 104 x)) 105 j (h 105 x)) 106 j (h 106 x)) 107 j (h 107 x)) 108 j (h 108 x) = fun k i => if 103 ≤ k ∧ k ≤ 108 then (if i = j then h k x else h k i) else h k i := by
  funext k i
  by_cases c : 103 ≤ k ∧ k ≤ 108
  · have : k = 103 ∨ k = 104 ∨ k = 105 ∨ k = 106 ∨ k = 107 ∨ k = 108 := by omega
    rcases this with rfl | rfl | rfl | rfl | rfl | rfl <;> simp [up_ap]
  · rw [if_neg c]
    unfold up
    rw [if_neg (by omega), if_neg (by omega), if_neg (by omega), if_neg (by omega), if_neg (by omega), if_neg (by omega)]
theorem cp4m {h : Hp} {j x : Int} : up (up (up (up h 143 j (h 143 x)) 144 j (h 144 x)) 145 j (h 145 x)) 146 j (h 146 x) = fun k i => if 143 ≤ k ∧ k ≤ 146 then (if i = j then h k x else h k i) else h k i := by
  funext k i
  by_cases c : 143 ≤ k ∧ k ≤ 146
  · have : k = 143 ∨ k = 144 ∨ k = 145 ∨ k = 146 := by omega
    rcases this with rfl | rfl | rfl | rfl <;> simp [up_ap]
  · rw [if_neg c]
    unfold up
    rw [if_neg (by omega), if_neg (by omega), if_neg (by omega), if_neg (by omega)]
theorem HM_step {h : Hp} {x a : Int} (ha : 0 ≤ a) (hx : a ≤ x) : ∀ h2, (h2 = fun k i => if 103 ≤ k ∧ k ≤ 108 then (if i = 249 + x - a then HM h x a k (249 + x) else HM h x a k i) else HM h x a k i) → (fun k i => if 143 ≤ k ∧ k ≤ 146 then (if i = x - a then h2 k x else h2 k i) else h2 k i) = HM h (x + 1) a := by
  intro h2 e2; funext k i
  by_cases c : 103 ≤ k ∧ k ≤ 108
  · rw [if_neg (by omega), e2]; simp only
    rw [if_pos c]
    have e : ∀ i, HM h x a k i = shf (h k) 249 x a i := fun i => by unfold HM; rw [if_pos c]
    have e3 : HM h (x + 1) a k i = shf (h k) 249 (x + 1) a i := by unfold HM; rw [if_pos c]
    rw [e, e, e3]
    exact shf_step (f := h k) (o := 249) (i := i) ha hx
  · have f2 : ∀ i, h2 k i = HM h x a k i := fun i => by rw [e2]; simp only; rw [if_neg c]
    by_cases c2 : 143 ≤ k ∧ k ≤ 146
    · rw [if_pos c2, f2, f2]
      have e : ∀ i, HM h x a k i = shf (h k) 0 x a i := fun i => by unfold HM; rw [if_neg c, if_pos c2]
      have e3 : HM h (x + 1) a k i = shf (h k) 0 (x + 1) a i := by unfold HM; rw [if_neg c, if_pos c2]
      rw [e, e, e3]
      have q := shf_step (f := h k) (o := 0) (i := i) ha hx
      have e3 : 0 + x - a = x - a := by omega
      have e4 : (0 : Int) + x = x := by omega
      rw [e3, e4] at q; exact q
    · rw [if_neg c2, f2]; unfold HM; rw [if_neg c, if_neg c2, if_neg c, if_neg c2]
def ackC (h : Hp) (a fl : Int) : Hp := if a ≤ h 65 9 then up (up (HC h (h 65 9) a) 65 9 (h 65 9 - a)) 65 10 (if fl = 1 then 0 else imax 0 (h 65 10 - a)) else if fl = 1 then up h 65 10 0 else h
def ackM (h : Hp) (a : Int) : Hp := if h 85 88 ≠ 0 ∧ a ≤ h 85 88 then up (up (HM h (h 85 88) a) 85 88 (h 85 88 - a)) 85 89 (imax 0 (h 85 89 - a)) else h
theorem HC_o {h : Hp} {x a : Int} {k : Nat} (c : ¬ (69 ≤ k ∧ k ≤ 74)) (i : Int) : HC h x a k i = h k i := by unfold HC; rw [if_neg c]
theorem HM_o {h : Hp} {x a : Int} {k : Nat} (c : ¬ (103 ≤ k ∧ k ≤ 108)) (c2 : ¬ (143 ≤ k ∧ k ≤ 146)) (i : Int) : HM h x a k i = h k i := by unfold HM; rw [if_neg c, if_neg c2]
theorem cb_HC {h g : Hp} {x a : Int} : cb (HC h x a) g = HC (cb h g) x a := by
  funext k i
  by_cases c : k < 85
  · rw [cb_c c]
    by_cases d : 69 ≤ k ∧ k ≤ 74
    · unfold HC; rw [if_pos d, if_pos d, cb_cr c]
    · rw [HC_o d, HC_o d, cb_c c]
  · rw [cb_m (by omega), HC_o (by omega), cb_m (by omega)]
theorem cb_HM {h g : Hp} {x a : Int} : cb g (HM h x a) = HM (cb g h) x a := by
  funext k i
  by_cases c : k < 85
  · rw [cb_c c, HM_o (by omega) (by omega), cb_c c]
  · rw [cb_m (by omega)]; unfold HM; rw [cb_mr (by omega)]
theorem ce_ack {G : GG} {h : Hp} {rep fl a : Int} (hn : 0 ≤ h 65 9 ∧ h 65 9 ≤ 8) (hs : 0 ≤ h 65 10 ∧ h 65 10 ≤ 8) (hx : 0 ≤ h 65 11 ∧ h 65 11 ≤ 255) (hr : 0 ≤ rep ∧ rep ≤ 255) (ha : a = (rep - (h 65 11 - h 65 9)) % 256) : CE G m_X2_acknowledge [rv 65, iv rep, iv fl] h 0 (ackC h a fl) := by
  have ab : 0 ≤ a ∧ a < 256 := by omega
  have ea : band (w32 (rep - w32 (h 65 11 - h 65 9))) 255 = a := by
    rw [band_255x, w32_of (z := h 65 11 - h 65 9) (by omega) (by omega), w32_of (z := rep - (h 65 11 - h 65 9)) (by omega) (by omega), ha]
  intro g Φ K
  have q9 : cb h g 65 9 = h 65 9 := rfl
  have q10 : cb h g 65 10 = h 65 10 := rfl
  have q11 : cb h g 65 11 = h 65 11 := rfl
  unfold ackC at K
  refine Call.of rfl (Nat.le_of_ble_eq_true rfl) rfl (U_X2_acknowledge_65_0 ?_)
  rw [q9, q11, ea]
  clear ea
  by_cases c : a ≤ h 65 9
  · rw [if_pos c, cb_uc (by decide), cb_uc (by decide)] at K
    refine ⟨fun z => absurd z (by omega), fun _ => ?_⟩
    have go : ∀ (d : Nat) (x : Int), x + d = h 65 9 → a ≤ x → AT G m_X2_acknowledge 27 [(0, rv 65), (2, iv fl), (3, iv a), (4, iv x)] [] (HC (cb h g) x a) Φ := by
      intro d
      induction d with
      | zero =>
        intro x hx' ax
        have ex : x = h 65 9 := by omega
        have p9 : HC (cb h g) x a 65 9 = h 65 9 := HC_o (by omega) _
        have p10 : HC (cb h g) x a 65 10 = h 65 10 := HC_o (by omega) _
        refine U_X2_acknowledge_65_27 ⟨fun _ => ?_, fun z => absurd z (by rw [p9]; omega)⟩
        rw [p9, p10, w32_of (z := h 65 9 - a) (by omega) (by omega), w32_of (z := h 65 10 - a) (by omega) (by omega), ex]
        rw [cb_HC] at K
        refine ⟨fun z => ?_, fun z => ?_⟩
        · rw [if_neg z] at K; exact K
        · rw [if_pos z] at K; rw [up_up]; exact K
      | succ d ih =>
        intro x hx' ax
        have p9 : HC (cb h g) x a 65 9 = h 65 9 := HC_o (by omega) _
        refine U_X2_acknowledge_65_27 ⟨fun z => absurd z (by rw [p9]; omega), fun _ => ?_⟩
        rw [w32_of (z := x - a) (by omega) (by omega), w32_of (z := x + 1) (by omega) (by omega)]
        refine Call.of rfl (Nat.le_of_ble_eq_true rfl) rfl (U_X3_copy_68_68_0 ?_)
        have b1 : 0 ≤ x ∧ x < 8 := by omega
        have b2 : 0 ≤ x - a ∧ x - a < 8 := by omega
        refine ⟨b1, b2, b1, b2, b1, b2, b1, b2, b1, b2, b1, b2, ?_⟩
        rw [HC_step ab.1 ax]
        exact ih (x + 1) (by omega) (by omega)
    have t := go (h 65 9 - a).toNat a (by omega) (by omega)
    rw [HC0] at t
    exact t
  · rw [if_neg c] at K
    refine ⟨fun _ => ⟨fun z => ?_, fun z => ?_⟩, fun z => absurd z c⟩
    · rw [if_neg z] at K; exact K
    · rw [if_pos z, cb_uc (by decide)] at K; exact K
theorem me_ack {G : GG} {h : Hp} {rep a : Int} (hn : 0 ≤ h 85 88 ∧ h 85 88 ≤ 8) (hs : 0 ≤ h 85 89 ∧ h 85 89 ≤ 8) (h0 : h 85 88 ≠ 0 → 0 ≤ h 143 0 ∧ h 143 0 ≤ 255 ∧ a = (rep - h 143 0) % 256) (hr : 0 ≤ rep ∧ rep ≤ 255) : ME G m_X12_acknowledge [rv 85, iv rep] h 0 (ackM h a) := by
  intro g Φ K
  have q88 : cb g h 85 88 = h 85 88 := rfl
  have q143 : cb g h 143 0 = h 143 0 := rfl
  unfold ackM at K
  refine Call.of rfl (Nat.le_of_ble_eq_true rfl) rfl (U_X12_acknowledge_85_0 ?_)
  rw [q88, q143]
  by_cases c0 : h 85 88 = 0
  · rw [if_neg (fun z => z.1 c0)] at K
    exact ⟨fun z => absurd c0 z, fun _ => K⟩
  · obtain ⟨n0, n1, na⟩ := h0 c0
    have ab : 0 ≤ a ∧ a < 256 := by omega
    have ea : band (w32 (rep - h 143 0)) 255 = a := by rw [band_255x, w32_of (z := rep - h 143 0) (by omega) (by omega), na]
    rw [ea]
    clear ea
    refine ⟨fun _ => ⟨fun c => ?_, fun c => ?_⟩, fun z => absurd z c0⟩
    · rw [if_pos ⟨c0, c⟩, cb_um (by decide), cb_um (by decide), cb_HM] at K
      have go : ∀ (d : Nat) (x : Int), x + d = h 85 88 → a ≤ x → AT G m_X12_acknowledge 32 [(0, rv 85), (2, iv a), (3, iv x)] [] (HM (cb g h) x a) Φ := by
        intro d
        induction d with
        | zero =>
          intro x hx' ax
          have ex : x = h 85 88 := by omega
          have p88 : HM (cb g h) x a 85 88 = h 85 88 := HM_o (by omega) (by omega) _
          have p89 : HM (cb g h) x a 85 89 = h 85 89 := HM_o (by omega) (by omega) _
          refine U_X12_acknowledge_85_32 ⟨fun _ => ?_, fun z => absurd z (by rw [p88]; omega)⟩
          rw [p88, p89, w32_of (z := h 85 88 - a) (by omega) (by omega), w32_of (z := h 85 89 - a) (by omega) (by omega), ex]
          exact K
        | succ d ih =>
          intro x hx' ax
          have p88 : HM (cb g h) x a 85 88 = h 85 88 := HM_o (by omega) (by omega) _
          refine U_X12_acknowledge_85_32 ⟨fun z => absurd z (by rw [p88]; omega), fun _ => ?_⟩
          rw [w32_of (z := 249 + x) (by omega) (by omega), w32_of (z := 249 + x - a) (by omega) (by omega), w32_of (z := x - a) (by omega) (by omega), w32_of (z := x + 1) (by omega) (by omega)]
          refine Call.of rfl (Nat.le_of_ble_eq_true rfl) rfl (U_X12_copyLine_85_0 ?_)
          have b1 : 0 ≤ 249 + x ∧ 249 + x < 260 := by omega
          have b2 : 0 ≤ 249 + x - a ∧ 249 + x - a < 260 := by omega
          have b3 : 0 ≤ x ∧ x < 9 := by omega
          have b4 : 0 ≤ x - a ∧ x - a < 9 := by omega
          refine ⟨b1, b2, b1, b2, b1, b2, b1, b2, b1, b2, b1, b2, b3, b4, b3, b4, b3, b4, b3, b4, ?_⟩
          rw [cp6m, cp4m, HM_step ab.1 ax _ rfl]
          exact ih (x + 1) (by omega) (by omega)
      have t := go (h 85 88 - a).toNat a (by omega) (by omega)
      rw [HM0] at t
      exact t
    · rw [if_neg (fun z => absurd z.2 (by omega))] at K; exact K
theorem ack_rel {h : Hp} {a fl : Int} (I : IKp h) (ha : 0 ≤ a) : IKp (cb (ackC h a fl) (if fl = 1 then up (ackM h a) 85 89 0 else ackM h a)) := by
  obtain ⟨⟨a1, a2, a3⟩, ⟨b1, b2, b3⟩, ⟨c1, c2, c3⟩, d⟩ := id I
  by_cases c : a ≤ h 65 9
  · by_cases c0 : h 65 9 = 0
    · -- none kept
      have az : a = 0 := by omega
      have eC : ackC h a fl = h := by
        unfold ackC
        rw [if_pos c, az, c0, HC0]
        have s0 : h 65 10 = 0 := by omega
        have e1 : (if fl = 1 then (0 : Int) else imax 0 (h 65 10 - 0)) = 0 := by
          rw [s0]; split
          · rfl
          · unfold imax; split <;> omega
        rw [e1, up_id (show h 65 9 = 0 - 0 by omega), up_id s0]
      have eM : (if fl = 1 then up (ackM h a) 85 89 0 else ackM h a) = h := by
        have : ackM h a = h := by unfold ackM; rw [if_neg (fun z => z.1 (by omega))]
        rw [this]
        split
        · exact up_id (by omega)
        · rfl
      rw [eC, eM, cb_id]; exact I
    · have eC : ackC h a fl = up (up (HC h (h 65 9) a) 65 9 (h 65 9 - a)) 65 10 (if fl = 1 then 0 else imax 0 (h 65 10 - a)) := by unfold ackC; rw [if_pos c]
      have eM0 : ackM h a = up (up (HM h (h 65 9) a) 85 88 (h 65 9 - a)) 85 89 (imax 0 (h 65 10 - a)) := by unfold ackM; rw [a1, b1, if_pos ⟨c0, c⟩]
      obtain ⟨s, hs⟩ : ∃ s, s = if fl = 1 then 0 else imax 0 (h 65 10 - a) := ⟨_, rfl⟩
      have sb : 0 ≤ s ∧ s ≤ h 65 9 - a := by
        rw [hs]; split
        · omega
        · unfold imax; split <;> omega
      have eM : (if fl = 1 then up (ackM h a) 85 89 0 else ackM h a) = up (up (HM h (h 65 9) a) 85 88 (h 65 9 - a)) 85 89 s := by
        rw [eM0, hs]
        by_cases z : fl = 1
        · rw [if_pos z, if_pos z, up_up]
        · rw [if_neg z, if_neg z]
      rw [eM, eC, ← hs]
      clear eM eC eM0 hs
      have p9 : cb (up (up (HC h (h 65 9) a) 65 9 (h 65 9 - a)) 65 10 s) (up (up (HM h (h 65 9) a) 85 88 (h 65 9 - a)) 85 89 s) 65 9 = h 65 9 - a := rfl
      have p10 : cb (up (up (HC h (h 65 9) a) 65 9 (h 65 9 - a)) 65 10 s) (up (up (HM h (h 65 9) a) 85 88 (h 65 9 - a)) 85 89 s) 65 10 = s := rfl
      have p11 : cb (up (up (HC h (h 65 9) a) 65 9 (h 65 9 - a)) 65 10 s) (up (up (HM h (h 65 9) a) 85 88 (h 65 9 - a)) 85 89 s) 65 11 = h 65 11 := by rw [cb_c (by decide), up_ni (by omega), up_ni (by omega), HC_o (by omega)]
      have p90 : cb (up (up (HC h (h 65 9) a) 65 9 (h 65 9 - a)) 65 10 s) (up (up (HM h (h 65 9) a) 85 88 (h 65 9 - a)) 85 89 s) 85 90 = h 85 90 := by rw [cb_m (by decide), up_ni (by omega), up_ni (by omega), HM_o (by omega) (by omega)]
      have pc : ∀ k i, (69 ≤ k ∧ k ≤ 74) → 0 ≤ i → i < h 65 9 - a → cb (up (up (HC h (h 65 9) a) 65 9 (h 65 9 - a)) 65 10 s) (up (up (HM h (h 65 9) a) 85 88 (h 65 9 - a)) 85 89 s) k i = h k (i + a) := fun k i z i0 i1 => by
        rw [cb_c (by omega), up_nk (by omega), up_nk (by omega)]
        unfold HC shf; rw [if_pos z, if_pos (by omega)]
      have pm : ∀ k i, (103 ≤ k ∧ k ≤ 108) → 0 ≤ i → i < h 65 9 - a → cb (up (up (HC h (h 65 9) a) 65 9 (h 65 9 - a)) 65 10 s) (up (up (HM h (h 65 9) a) 85 88 (h 65 9 - a)) 85 89 s) k (249 + i) = h k (249 + (i + a)) := fun k i z i0 i1 => by
        rw [cb_m (by omega), up_nk (by omega), up_nk (by omega)]
        unfold HM shf; rw [if_pos z, if_pos (by omega)]; congr 1; omega
      have pn : ∀ k i, (143 ≤ k ∧ k ≤ 146) → 0 ≤ i → i < h 65 9 - a → cb (up (up (HC h (h 65 9) a) 65 9 (h 65 9 - a)) 65 10 s) (up (up (HM h (h 65 9) a) 85 88 (h 65 9 - a)) 85 89 s) k i = h k (i + a) := fun k i z i0 i1 => by
        rw [cb_m (by omega), up_nk (by omega), up_nk (by omega)]
        unfold HM shf; rw [if_neg (by omega), if_pos z, if_pos (by omega)]
      unfold IKp
      rw [p9, p10, p11, p90]
      refine ⟨⟨rfl, by omega, by omega⟩, ⟨rfl, by omega, by omega⟩, ⟨c1, c2, c3⟩, fun i i0 i1 => ?_⟩
      have q := d (i + a) (by omega) (by omega)
      rw [pn 143 i (by omega) i0 i1]
      refine ⟨by rw [q.1]; congr 1; omega, ?_⟩
      unfold KR
      rw [pc 69 i (by omega) i0 i1, pc 70 i (by omega) i0 i1, pc 71 i (by omega) i0 i1, pc 72 i (by omega) i0 i1, pc 73 i (by omega) i0 i1, pc 74 i (by omega) i0 i1, pn 144 i (by omega) i0 i1, pn 145 i (by omega) i0 i1, pn 146 i (by omega) i0 i1,
        pm 103 i (by omega) i0 i1, pm 104 i (by omega) i0 i1, pm 105 i (by omega) i0 i1, pm 106 i (by omega) i0 i1, pm 107 i (by omega) i0 i1, pm 108 i (by omega) i0 i1]
      exact q.2
  · have eM0 : ackM h a = h := by unfold ackM; rw [if_neg (fun z => c (by rw [← a1]; exact z.2))]
    rw [eM0]
    unfold ackC
    rw [if_neg c]
    by_cases z : fl = 1
    · rw [if_pos z, if_pos z]
      refine ⟨⟨a1, a2, a3⟩, ⟨rfl, by show (0 : Int) ≤ 0; omega, by show (0 : Int) ≤ h 65 9; omega⟩, ⟨c1, c2, c3⟩, fun i i0 i1 => d i i0 i1⟩
    · rw [if_neg z, if_neg z, cb_id]; exact I
