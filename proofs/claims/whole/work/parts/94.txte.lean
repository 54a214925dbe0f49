/-! TEXTS: words -/
def wd (t : Nat) : List Int := strB.getD (t - 1000) []
def wl (b : Int → Int) (a e : Int) : List Int := (List.range (e - a).toNat).map (fun j : Nat => b (a + (j : Int)))
theorem ns63 {t : Nat} (h : 1000 ≤ t ∧ t < 1063) : 1000 ≤ t ∧ t < 1000 + NS := h
theorem wl_eq {b : Int → Int} {a e : Int} {l : List Int} (ae : a ≤ e) : wl b a e = l ↔ ((l.length : Int) = e - a ∧ ∀ j : Nat, j < l.length → b (a + (j : Int)) = l.getD j 0) := by
  unfold wl
  constructor
  · intro z
    subst z
    refine ⟨by rw [List.length_map, List.length_range]; omega, fun j hj => ?_⟩
    rw [List.getD_eq_getElem?_getD, List.getElem?_eq_getElem hj]
    simp
  · rintro ⟨z, y⟩
    apply List.ext_getElem
    · rw [List.length_map, List.length_range]; omega
    · intro j h1 h2
      have q := y j h2
      rw [List.getD_eq_getElem?_getD, List.getElem?_eq_getElem h2] at q
      have q : b (a + (j : Int)) = l[j] := q
      rw [← q]
      simp
def tx (x : Int) : Nat := if x ≤ 18 then (999 + x).toNat else if x = 19 then 1010 else (998 + x).toNat
theorem tx_b {x : Int} (hx : 1 ≤ x ∧ x ≤ 32) : 1000 ≤ tx x ∧ tx x < 1063 := by
  unfold tx
  split
  · omega
  · split <;> omega
def tld (u : List Int) : Nat → Int → Option Int
  | 0, _ => none
  | d + 1, x => if u = wd (tx x) then some x else tld u d (x + 1)
def mfd (u : List Int) (k : Nat) : Nat → Nat → Option Int
  | 0, _ => none
  | d + 1, w => if u = wd (rf k w) then some (w : Int) else mfd u k d (w + 1)
def pck (o : Option Int) (e : Int) (s : PS) (z : Int) : PS × Int := match o with
  | some x => ((e, -1), x)
  | none => ((s.1, s.1), z)
def tol (b : Int → Int) (x1 : Int) (d : Nat) (s : PS) : PS × Int := if s.2 = -1 then pck (tld (wl b s.1 (wen b s.1)) d x1) (wen b s.1) s x1 else (s, x1)
def mwo (b : Int → Int) (k cnt : Nat) (s : PS) : PS × Int := if s.2 = -1 then pck (mfd (wl b s.1 (wen b s.1)) k cnt 0) (wen b s.1) s (-1) else (s, -1)
section
variable {G : GG} {b : Int → Int} {n e x : Int} {h : Hp} {s : PS} {Φ : Int → Hp → Prop}
theorem pck_v {o : Option Int} {z : Int} (S : SV n s) (e0 : 0 ≤ e) (e1 : e ≤ n) : SV n (pck o e s z).1 := by
  cases o with
  | none => exact ⟨S.1, Or.inr S.1⟩
  | some x => exact ⟨⟨e0, e1⟩, Or.inl rfl⟩
theorem tol_v {x1 : Int} {d : Nat} (T : TX b n) (S : SV n s) : SV n (tol b x1 d s).1 := by
  have we := wen_v T S.1.1 S.1.2
  unfold tol
  split
  · exact pck_v S (by have := S.1; omega) we.2
  · exact S
theorem tol_w {x1 : Int} {d : Nat} (z : s.2 ≠ -1) : tol b x1 d s = (s, x1) := if_neg z
theorem mwo_w {k cnt : Nat} (z : s.2 ≠ -1) : mwo b k cnt s = (s, -1) := if_neg z
theorem c_text (hx : 1 ≤ x ∧ x ≤ 32) (K : Φ (tx x : Int) h) : Call G m_X3_text [iv x] h Φ := by
  refine Call.of rfl (Nat.le_of_ble_eq_true rfl) rfl (U_X3_text_0 ?_)
  refine ⟨fun e => by rw [e, show ((tx 1 : Nat) : Int) = 1000 by decide] at K; exact K, fun e => by rw [e, show ((tx 2 : Nat) : Int) = 1001 by decide] at K; exact K, fun e => by rw [e, show ((tx 3 : Nat) : Int) = 1002 by decide] at K; exact K, fun e => by rw [e, show ((tx 4 : Nat) : Int) = 1003 by decide] at K; exact K, fun e => by rw [e, show ((tx 5 : Nat) : Int) = 1004 by decide] at K; exact K, fun e => by rw [e, show ((tx 6 : Nat) : Int) = 1005 by decide] at K; exact K, fun e => by rw [e, show ((tx 7 : Nat) : Int) = 1006 by decide] at K; exact K, fun e => by rw [e, show ((tx 8 : Nat) : Int) = 1007 by decide] at K; exact K, fun e => by rw [e, show ((tx 9 : Nat) : Int) = 1008 by decide] at K; exact K, fun e => by rw [e, show ((tx 10 : Nat) : Int) = 1009 by decide] at K; exact K, fun e => by rw [e, show ((tx 11 : Nat) : Int) = 1010 by decide] at K; exact K, fun e => by rw [e, show ((tx 12 : Nat) : Int) = 1011 by decide] at K; exact K, fun e => by rw [e, show ((tx 13 : Nat) : Int) = 1012 by decide] at K; exact K, fun e => by rw [e, show ((tx 14 : Nat) : Int) = 1013 by decide] at K; exact K, fun e => by rw [e, show ((tx 15 : Nat) : Int) = 1014 by decide] at K; exact K, fun _ => ?_⟩
  refine Call.of rfl (Nat.le_of_ble_eq_true rfl) rfl (U_X3_thingText_0 ?_)
  refine ⟨fun e => ⟨by decide, by rw [e, show ((tx 16 : Nat) : Int) = 1015 by decide] at K; exact K⟩, fun e => ⟨by decide, by rw [e, show ((tx 17 : Nat) : Int) = 1016 by decide] at K; exact K⟩, fun e => ⟨by decide, by rw [e, show ((tx 18 : Nat) : Int) = 1017 by decide] at K; exact K⟩, fun e => ⟨by decide, by rw [e, show ((tx 19 : Nat) : Int) = 1010 by decide] at K; exact K⟩, fun e => ⟨by decide, by rw [e, show ((tx 20 : Nat) : Int) = 1018 by decide] at K; exact K⟩, fun e => ⟨by decide, by rw [e, show ((tx 21 : Nat) : Int) = 1019 by decide] at K; exact K⟩, fun e => ⟨by decide, by rw [e, show ((tx 22 : Nat) : Int) = 1020 by decide] at K; exact K⟩, fun e => ⟨by decide, by rw [e, show ((tx 23 : Nat) : Int) = 1021 by decide] at K; exact K⟩, fun e => ⟨by decide, by rw [e, show ((tx 24 : Nat) : Int) = 1022 by decide] at K; exact K⟩, fun e => ⟨by decide, by rw [e, show ((tx 25 : Nat) : Int) = 1023 by decide] at K; exact K⟩, fun e => ⟨by decide, by rw [e, show ((tx 26 : Nat) : Int) = 1024 by decide] at K; exact K⟩, fun e => ⟨by decide, by rw [e, show ((tx 27 : Nat) : Int) = 1025 by decide] at K; exact K⟩, fun e => ⟨by decide, by rw [e, show ((tx 28 : Nat) : Int) = 1026 by decide] at K; exact K⟩, fun e => ⟨by decide, by rw [e, show ((tx 29 : Nat) : Int) = 1027 by decide] at K; exact K⟩, fun e => ⟨by decide, by rw [e, show ((tx 30 : Nat) : Int) = 1028 by decide] at K; exact K⟩, fun e => ⟨by decide, by rw [e, show ((tx 31 : Nat) : Int) = 1029 by decide] at K; exact K⟩, fun e => ⟨by decide, by rw [e, show ((tx 32 : Nat) : Int) = 1030 by decide] at K; exact K⟩, fun e => absurd e (by omega)⟩
theorem c_reads {t : Nat} (T : TX b n) (C : TXc h b n) (S : SV n s) (ht : 1000 ≤ t ∧ t < 1063) (ae : s.1 ≤ e) (e1 : e ≤ n) (K1 : wl b s.1 e = wd t → Φ 1 (sT h s)) (K0 : wl b s.1 e ≠ wd t → Φ 0 (sT h s)) : Call G m_X10_reads [rv 2, rv t, iv e] (sT h s) Φ := by
  obtain ⟨⟨s0, s1⟩, s2⟩ := id S
  have t1 := T.1
  have sl : slen t = ((wd t).length : Int) := rfl
  have sb := slen_ok (ns63 ht)
  have go : ((wd t).length : Int) = e - s.1 → ∀ (q j : Nat), j + q = (wd t).length → (∀ i, i < j → b (s.1 + (i : Int)) = (wd t).getD i 0) → AT G m_X10_reads 17 [(0, rv 2), (1, rv t), (3, iv (j : Int))] [] (sT h s) Φ := by
    intro el q
    induction q with
    | zero =>
      intro j hj m
      refine U_X10_reads_2_t1_17 ⟨ht, sp_length (ns63 ht) ⟨fun _ => K1 ((wl_eq ae).mpr ⟨el, fun i hi => m i (by omega)⟩), fun z => absurd z (by rw [sl]; omega)⟩⟩
    | succ q ih =>
      intro j hj m
      refine U_X10_reads_2_t1_17 ⟨ht, sp_length (ns63 ht) ⟨fun z => absurd z (by rw [sl]; omega), fun _ => ?_⟩⟩
      rw [sT_a, w32_of (z := s.1 + (j : Int)) (by omega) (by omega)]
      refine c_byteAt T C.q ⟨ht, sp_charAt (ns63 ht) (by omega) (by rw [sl]; omega) ?_⟩
      have ec : schr t (j : Int) = (wd t).getD j 0 := by unfold schr; rw [Int.toNat_natCast]; rfl
      rw [ec]
      refine ⟨fun y => ?_, fun y => K0 (fun w => y (((wl_eq ae).mp w).2 j (by omega)))⟩
      rw [w32_of (z := (j : Int) + 1) (by omega) (by omega)]
      refine ih (j + 1) (by omega) (fun i hi => ?_)
      by_cases o : i = j
      · rw [o]; exact y
      · exact m i (by omega)
  refine Call.of rfl (Nat.le_of_ble_eq_true rfl) rfl (U_X10_reads_2_t1_0 ⟨ht, sp_length (ns63 ht) ?_⟩)
  rw [sT_a, w32_of (z := e - s.1) (by omega) (by omega)]
  refine ⟨fun z => ?_, fun z => K0 (fun w => z (sl.trans ((wl_eq ae).mp w).1))⟩
  exact go (sl.symm.trans z) (wd t).length 0 (by omega) (fun i hi => absurd hi (by omega))
theorem c_told {d : Nat} {x1 x2 : Int} (T : TX b n) (C : TXc h b n) (S : SV n s) (hx : 1 ≤ x1 ∧ x2 ≤ 32) (hd : x1 + d = x2 + 1) (K : Φ (tol b x1 d s).2 (sT h (tol b x1 d s).1)) : Call G m_X10_told [rv 2, iv x1, iv x2] (sT h s) Φ := by
  obtain ⟨⟨s0, s1⟩, s2⟩ := id S
  have we := wen_v T s0 s1
  refine Call.of rfl (Nat.le_of_ble_eq_true rfl) rfl (U_X10_told_2_0 ?_)
  rw [sT_w]
  unfold tol at K
  refine ⟨fun z => ?_, fun z => c_wordEnd T C S ?_⟩
  · rw [if_neg z] at K; exact K
  · rw [if_pos z] at K
    have go : ∀ (d : Nat) (x : Int), x1 ≤ x → x + d = x2 + 1 → Φ (pck (tld (wl b s.1 (wen b s.1)) d x) (wen b s.1) s x1).2 (sT h (pck (tld (wl b s.1 (wen b s.1)) d x) (wen b s.1) s x1).1) → AT G m_X10_told 17 [(0, rv 2), (1, iv x1), (2, iv x2), (3, iv (wen b s.1)), (4, iv x)] [] (sT h s) Φ := by
      intro d
      induction d with
      | zero =>
        intro x x0 hd K
        refine U_X10_told_2_17 ⟨fun _ => ?_, fun z => absurd z (by omega)⟩
        rw [sT_a, sT_2]; exact K
      | succ d ih =>
        intro x x0 hd K
        refine U_X10_told_2_17 ⟨fun z => absurd z (by omega), fun _ => c_text (by omega) ?_⟩
        show Call G m_X10_reads [rv 2, rv (((tx x : Nat) : Int).toNat), iv (wen b s.1)] (sT h s) _
        rw [Int.toNat_natCast]
        refine c_reads T C S (tx_b (by omega)) we.1 we.2 (fun m => ⟨fun y => absurd y (by decide), fun _ => ?_⟩) (fun m => ⟨fun _ => ?_, fun y => absurd rfl y⟩)
        · have e : tld (wl b s.1 (wen b s.1)) (d + 1) x = some x := by simp only [tld, if_pos m]
          rw [e] at K
          rw [sT_1, z]; exact K
        · have e : tld (wl b s.1 (wen b s.1)) (d + 1) x = tld (wl b s.1 (wen b s.1)) d (x + 1) := by simp only [tld, if_neg m]
          rw [e] at K
          rw [w32_of (by omega) (by omega)]
          exact ih (x + 1) (by omega) (by omega) K
    exact go d x1 (by omega) hd K
theorem rf_98 : ∀ w : Nat, w < 15 → 1000 ≤ rf 98 w ∧ rf 98 w < 1063 := by decide
theorem m_wordOf98 (T : TX b n) (C : TXm h b n) (S : SV n s) (K : Φ (mwo b 98 15 s).2 (sM h (mwo b 98 15 s).1)) : Call G m_X12_wordOf [rv 85, rv 98] (sM h s) Φ := by
  obtain ⟨⟨s0, s1⟩, s2⟩ := id S
  have t1 := T.1
  have we := wen_v T s0 s1
  refine Call.of rfl (Nat.le_of_ble_eq_true rfl) rfl (U_X12_wordOf_85_98_0 ?_)
  rw [sM_w]
  unfold mwo at K
  refine ⟨fun z => m_wordEnd T C S ?_, fun z => ?_⟩
  · have z : s.2 = -1 := by omega
    rw [if_pos z] at K
    have go : ∀ (d w : Nat), w + d = 15 → Φ (pck (mfd (wl b s.1 (wen b s.1)) 98 d w) (wen b s.1) s (-1)).2 (sM h (pck (mfd (wl b s.1 (wen b s.1)) 98 d w) (wen b s.1) s (-1)).1) → AT G m_X12_wordOf 16 [(0, rv 85), (1, rv 98), (2, iv (wen b s.1)), (3, iv (w : Int))] [] (sM h s) Φ := by
      intro d
      induction d with
      | zero =>
        intro w hd K
        refine U_X12_wordOf_85_98_16 ⟨fun _ => ?_, fun z => absurd z (by omega)⟩
        rw [sM_w, sM_a, sM_2]
        exact ⟨fun y => absurd y (by omega), fun _ => K⟩
      | succ d ih =>
        intro w hd K
        have tn : ((w : Nat) : Int).toNat = w := Int.toNat_natCast w
        have rb := rf_98 w (by omega)
        have wb : 0 ≤ (w : Int) ∧ (w : Int) < 15 := by omega
        have sl : slen (rf 98 w) = ((wd (rf 98 w)).length : Int) := rfl
        have sb := slen_ok (ns63 rb)
        have KN : wl b s.1 (wen b s.1) ≠ wd (rf 98 w) → AT G m_X12_wordOf 16 [(0, rv 85), (1, rv 98), (2, iv (wen b s.1)), (3, iv (w32 ((w : Int) + 1)))] [] (sM h s) Φ := fun m => by
          have e : mfd (wl b s.1 (wen b s.1)) 98 (d + 1) w = mfd (wl b s.1 (wen b s.1)) 98 d (w + 1) := by simp only [mfd, if_neg m]
          rw [e] at K
          rw [w32_of (by omega) (by omega)]
          exact ih (w + 1) (by omega) K
        have KY : wl b s.1 (wen b s.1) = wd (rf 98 w) → Φ (w : Int) (up (sM h s) 85 5 (wen b s.1)) := fun m => by
          have e : mfd (wl b s.1 (wen b s.1)) 98 (d + 1) w = some (w : Int) := by simp only [mfd, if_pos m]
          rw [e] at K
          rw [sM_1, z]; exact K
        have in0 : wl b s.1 (wen b s.1) ≠ wd (rf 98 w) → ∀ j, AT G m_X12_wordOf 47 [(0, rv 85), (1, rv 98), (2, iv (wen b s.1)), (3, iv (w : Int)), (4, iv 0), (5, iv j)] [] (sM h s) Φ := fun m j => by
          refine U_X12_wordOf_85_98_47 ?_
          rw [tn]
          exact ⟨wb, rb, sp_length (ns63 rb) ⟨fun _ => ⟨fun _ => KN m, fun y => absurd rfl y⟩, fun _ => ⟨fun _ => ⟨fun _ => KN m, fun y => absurd rfl y⟩, fun y => absurd rfl y⟩⟩⟩
        have in1 : ((wd (rf 98 w)).length : Int) = wen b s.1 - s.1 → ∀ (q j : Nat), j + q = (wd (rf 98 w)).length → (∀ i, i < j → b (s.1 + (i : Int)) = (wd (rf 98 w)).getD i 0) → AT G m_X12_wordOf 47 [(0, rv 85), (1, rv 98), (2, iv (wen b s.1)), (3, iv (w : Int)), (4, iv 1), (5, iv (j : Int))] [] (sM h s) Φ := by
          intro el q
          induction q with
          | zero =>
            intro j hj m
            refine U_X12_wordOf_85_98_47 ?_
            rw [tn]
            exact ⟨wb, rb, sp_length (ns63 rb) ⟨fun _ => ⟨fun y => absurd y (by decide), fun _ => KY ((wl_eq we.1).mpr ⟨el, fun i hi => m i (by omega)⟩)⟩, fun y => absurd y (by rw [sl]; omega)⟩⟩
          | succ q ihq =>
            intro j hj m
            refine U_X12_wordOf_85_98_47 ?_
            rw [tn]
            refine ⟨wb, rb, sp_length (ns63 rb) ⟨fun y => absurd y (by rw [sl]; omega), fun _ => ⟨fun y => absurd y (by decide), fun _ => ?_⟩⟩⟩
            rw [sM_a, w32_of (z := s.1 + (j : Int)) (by omega) (by omega)]
            have e87 : sM h s 87 (s.1 + (j : Int)) = b (s.1 + (j : Int)) := (sM_o (by decide)).trans (C.2 _ (by omega) (by omega))
            refine ⟨by omega, wb, rb, sp_charAt (ns63 rb) (by omega) (by rw [sl]; omega) ?_⟩
            have ec : schr (rf 98 w) (j : Int) = (wd (rf 98 w)).getD j 0 := by unfold schr; rw [Int.toNat_natCast]; rfl
            rw [ec, e87, w32_of (z := (j : Int) + 1) (by omega) (by omega)]
            refine ⟨fun y => in0 (fun u => y (((wl_eq we.1).mp u).2 j (by omega))) _, fun y => ihq (j + 1) (by omega) (fun i hi => ?_)⟩
            by_cases o : i = j
            · rw [o]; exact y
            · exact m i (by omega)
        refine U_X12_wordOf_85_98_16 ⟨fun z => absurd z (by omega), fun _ => ?_⟩
        rw [tn, sM_a, w32_of (z := wen b s.1 - s.1) (by omega) (by omega)]
        refine ⟨wb, rb, sp_length (ns63 rb) ⟨fun y => in0 (fun u => y (((wl_eq we.1).mp u).1.symm.trans sl.symm)) 0, fun y => in1 (sl.symm.trans y.symm) (wd (rf 98 w)).length 0 (by omega) (fun i hi => absurd hi (by omega))⟩⟩
    exact go 15 0 (by omega) K
  · rw [if_neg (by omega)] at K; exact K
theorem rf_99 : ∀ w : Nat, w < 13 → 1000 ≤ rf 99 w ∧ rf 99 w < 1063 := by decide
theorem m_wordOf99 (T : TX b n) (C : TXm h b n) (S : SV n s) (K : Φ (mwo b 99 13 s).2 (sM h (mwo b 99 13 s).1)) : Call G m_X12_wordOf [rv 85, rv 99] (sM h s) Φ := by
  obtain ⟨⟨s0, s1⟩, s2⟩ := id S
  have t1 := T.1
  have we := wen_v T s0 s1
  refine Call.of rfl (Nat.le_of_ble_eq_true rfl) rfl (U_X12_wordOf_85_99_0 ?_)
  rw [sM_w]
  unfold mwo at K
  refine ⟨fun z => m_wordEnd T C S ?_, fun z => ?_⟩
  · have z : s.2 = -1 := by omega
    rw [if_pos z] at K
    have go : ∀ (d w : Nat), w + d = 13 → Φ (pck (mfd (wl b s.1 (wen b s.1)) 99 d w) (wen b s.1) s (-1)).2 (sM h (pck (mfd (wl b s.1 (wen b s.1)) 99 d w) (wen b s.1) s (-1)).1) → AT G m_X12_wordOf 16 [(0, rv 85), (1, rv 99), (2, iv (wen b s.1)), (3, iv (w : Int))] [] (sM h s) Φ := by
      intro d
      induction d with
      | zero =>
        intro w hd K
        refine U_X12_wordOf_85_99_16 ⟨fun _ => ?_, fun z => absurd z (by omega)⟩
        rw [sM_w, sM_a, sM_2]
        exact ⟨fun y => absurd y (by omega), fun _ => K⟩
      | succ d ih =>
        intro w hd K
        have tn : ((w : Nat) : Int).toNat = w := Int.toNat_natCast w
        have rb := rf_99 w (by omega)
        have wb : 0 ≤ (w : Int) ∧ (w : Int) < 13 := by omega
        have sl : slen (rf 99 w) = ((wd (rf 99 w)).length : Int) := rfl
        have sb := slen_ok (ns63 rb)
        have KN : wl b s.1 (wen b s.1) ≠ wd (rf 99 w) → AT G m_X12_wordOf 16 [(0, rv 85), (1, rv 99), (2, iv (wen b s.1)), (3, iv (w32 ((w : Int) + 1)))] [] (sM h s) Φ := fun m => by
          have e : mfd (wl b s.1 (wen b s.1)) 99 (d + 1) w = mfd (wl b s.1 (wen b s.1)) 99 d (w + 1) := by simp only [mfd, if_neg m]
          rw [e] at K
          rw [w32_of (by omega) (by omega)]
          exact ih (w + 1) (by omega) K
        have KY : wl b s.1 (wen b s.1) = wd (rf 99 w) → Φ (w : Int) (up (sM h s) 85 5 (wen b s.1)) := fun m => by
          have e : mfd (wl b s.1 (wen b s.1)) 99 (d + 1) w = some (w : Int) := by simp only [mfd, if_pos m]
          rw [e] at K
          rw [sM_1, z]; exact K
        have in0 : wl b s.1 (wen b s.1) ≠ wd (rf 99 w) → ∀ j, AT G m_X12_wordOf 47 [(0, rv 85), (1, rv 99), (2, iv (wen b s.1)), (3, iv (w : Int)), (4, iv 0), (5, iv j)] [] (sM h s) Φ := fun m j => by
          refine U_X12_wordOf_85_99_47 ?_
          rw [tn]
          exact ⟨wb, rb, sp_length (ns63 rb) ⟨fun _ => ⟨fun _ => KN m, fun y => absurd rfl y⟩, fun _ => ⟨fun _ => ⟨fun _ => KN m, fun y => absurd rfl y⟩, fun y => absurd rfl y⟩⟩⟩
        have in1 : ((wd (rf 99 w)).length : Int) = wen b s.1 - s.1 → ∀ (q j : Nat), j + q = (wd (rf 99 w)).length → (∀ i, i < j → b (s.1 + (i : Int)) = (wd (rf 99 w)).getD i 0) → AT G m_X12_wordOf 47 [(0, rv 85), (1, rv 99), (2, iv (wen b s.1)), (3, iv (w : Int)), (4, iv 1), (5, iv (j : Int))] [] (sM h s) Φ := by
          intro el q
          induction q with
          | zero =>
            intro j hj m
            refine U_X12_wordOf_85_99_47 ?_
            rw [tn]
            exact ⟨wb, rb, sp_length (ns63 rb) ⟨fun _ => ⟨fun y => absurd y (by decide), fun _ => KY ((wl_eq we.1).mpr ⟨el, fun i hi => m i (by omega)⟩)⟩, fun y => absurd y (by rw [sl]; omega)⟩⟩
          | succ q ihq =>
            intro j hj m
            refine U_X12_wordOf_85_99_47 ?_
            rw [tn]
            refine ⟨wb, rb, sp_length (ns63 rb) ⟨fun y => absurd y (by rw [sl]; omega), fun _ => ⟨fun y => absurd y (by decide), fun _ => ?_⟩⟩⟩
            rw [sM_a, w32_of (z := s.1 + (j : Int)) (by omega) (by omega)]
            have e87 : sM h s 87 (s.1 + (j : Int)) = b (s.1 + (j : Int)) := (sM_o (by decide)).trans (C.2 _ (by omega) (by omega))
            refine ⟨by omega, wb, rb, sp_charAt (ns63 rb) (by omega) (by rw [sl]; omega) ?_⟩
            have ec : schr (rf 99 w) (j : Int) = (wd (rf 99 w)).getD j 0 := by unfold schr; rw [Int.toNat_natCast]; rfl
            rw [ec, e87, w32_of (z := (j : Int) + 1) (by omega) (by omega)]
            refine ⟨fun y => in0 (fun u => y (((wl_eq we.1).mp u).2 j (by omega))) _, fun y => ihq (j + 1) (by omega) (fun i hi => ?_)⟩
            by_cases o : i = j
            · rw [o]; exact y
            · exact m i (by omega)
        refine U_X12_wordOf_85_99_16 ⟨fun z => absurd z (by omega), fun _ => ?_⟩
        rw [tn, sM_a, w32_of (z := wen b s.1 - s.1) (by omega) (by omega)]
        refine ⟨wb, rb, sp_length (ns63 rb) ⟨fun y => in0 (fun u => y (((wl_eq we.1).mp u).1.symm.trans sl.symm)) 0, fun y => in1 (sl.symm.trans y.symm) (wd (rf 99 w)).length 0 (by omega) (fun i hi => absurd hi (by omega))⟩⟩
    exact go 13 0 (by omega) K
  · rw [if_neg (by omega)] at K; exact K
theorem rf_100 : ∀ w : Nat, w < 17 → 1000 ≤ rf 100 w ∧ rf 100 w < 1063 := by decide
theorem m_wordOf100 (T : TX b n) (C : TXm h b n) (S : SV n s) (K : Φ (mwo b 100 17 s).2 (sM h (mwo b 100 17 s).1)) : Call G m_X12_wordOf [rv 85, rv 100] (sM h s) Φ := by
  obtain ⟨⟨s0, s1⟩, s2⟩ := id S
  have t1 := T.1
  have we := wen_v T s0 s1
  refine Call.of rfl (Nat.le_of_ble_eq_true rfl) rfl (U_X12_wordOf_85_100_0 ?_)
  rw [sM_w]
  unfold mwo at K
  refine ⟨fun z => m_wordEnd T C S ?_, fun z => ?_⟩
  · have z : s.2 = -1 := by omega
    rw [if_pos z] at K
    have go : ∀ (d w : Nat), w + d = 17 → Φ (pck (mfd (wl b s.1 (wen b s.1)) 100 d w) (wen b s.1) s (-1)).2 (sM h (pck (mfd (wl b s.1 (wen b s.1)) 100 d w) (wen b s.1) s (-1)).1) → AT G m_X12_wordOf 16 [(0, rv 85), (1, rv 100), (2, iv (wen b s.1)), (3, iv (w : Int))] [] (sM h s) Φ := by
      intro d
      induction d with
      | zero =>
        intro w hd K
        refine U_X12_wordOf_85_100_16 ⟨fun _ => ?_, fun z => absurd z (by omega)⟩
        rw [sM_w, sM_a, sM_2]
        exact ⟨fun y => absurd y (by omega), fun _ => K⟩
      | succ d ih =>
        intro w hd K
        have tn : ((w : Nat) : Int).toNat = w := Int.toNat_natCast w
        have rb := rf_100 w (by omega)
        have wb : 0 ≤ (w : Int) ∧ (w : Int) < 17 := by omega
        have sl : slen (rf 100 w) = ((wd (rf 100 w)).length : Int) := rfl
        have sb := slen_ok (ns63 rb)
        have KN : wl b s.1 (wen b s.1) ≠ wd (rf 100 w) → AT G m_X12_wordOf 16 [(0, rv 85), (1, rv 100), (2, iv (wen b s.1)), (3, iv (w32 ((w : Int) + 1)))] [] (sM h s) Φ := fun m => by
          have e : mfd (wl b s.1 (wen b s.1)) 100 (d + 1) w = mfd (wl b s.1 (wen b s.1)) 100 d (w + 1) := by simp only [mfd, if_neg m]
          rw [e] at K
          rw [w32_of (by omega) (by omega)]
          exact ih (w + 1) (by omega) K
        have KY : wl b s.1 (wen b s.1) = wd (rf 100 w) → Φ (w : Int) (up (sM h s) 85 5 (wen b s.1)) := fun m => by
          have e : mfd (wl b s.1 (wen b s.1)) 100 (d + 1) w = some (w : Int) := by simp only [mfd, if_pos m]
          rw [e] at K
          rw [sM_1, z]; exact K
        have in0 : wl b s.1 (wen b s.1) ≠ wd (rf 100 w) → ∀ j, AT G m_X12_wordOf 47 [(0, rv 85), (1, rv 100), (2, iv (wen b s.1)), (3, iv (w : Int)), (4, iv 0), (5, iv j)] [] (sM h s) Φ := fun m j => by
          refine U_X12_wordOf_85_100_47 ?_
          rw [tn]
          exact ⟨wb, rb, sp_length (ns63 rb) ⟨fun _ => ⟨fun _ => KN m, fun y => absurd rfl y⟩, fun _ => ⟨fun _ => ⟨fun _ => KN m, fun y => absurd rfl y⟩, fun y => absurd rfl y⟩⟩⟩
        have in1 : ((wd (rf 100 w)).length : Int) = wen b s.1 - s.1 → ∀ (q j : Nat), j + q = (wd (rf 100 w)).length → (∀ i, i < j → b (s.1 + (i : Int)) = (wd (rf 100 w)).getD i 0) → AT G m_X12_wordOf 47 [(0, rv 85), (1, rv 100), (2, iv (wen b s.1)), (3, iv (w : Int)), (4, iv 1), (5, iv (j : Int))] [] (sM h s) Φ := by
          intro el q
          induction q with
          | zero =>
            intro j hj m
            refine U_X12_wordOf_85_100_47 ?_
            rw [tn]
            exact ⟨wb, rb, sp_length (ns63 rb) ⟨fun _ => ⟨fun y => absurd y (by decide), fun _ => KY ((wl_eq we.1).mpr ⟨el, fun i hi => m i (by omega)⟩)⟩, fun y => absurd y (by rw [sl]; omega)⟩⟩
          | succ q ihq =>
            intro j hj m
            refine U_X12_wordOf_85_100_47 ?_
            rw [tn]
            refine ⟨wb, rb, sp_length (ns63 rb) ⟨fun y => absurd y (by rw [sl]; omega), fun _ => ⟨fun y => absurd y (by decide), fun _ => ?_⟩⟩⟩
            rw [sM_a, w32_of (z := s.1 + (j : Int)) (by omega) (by omega)]
            have e87 : sM h s 87 (s.1 + (j : Int)) = b (s.1 + (j : Int)) := (sM_o (by decide)).trans (C.2 _ (by omega) (by omega))
            refine ⟨by omega, wb, rb, sp_charAt (ns63 rb) (by omega) (by rw [sl]; omega) ?_⟩
            have ec : schr (rf 100 w) (j : Int) = (wd (rf 100 w)).getD j 0 := by unfold schr; rw [Int.toNat_natCast]; rfl
            rw [ec, e87, w32_of (z := (j : Int) + 1) (by omega) (by omega)]
            refine ⟨fun y => in0 (fun u => y (((wl_eq we.1).mp u).2 j (by omega))) _, fun y => ihq (j + 1) (by omega) (fun i hi => ?_)⟩
            by_cases o : i = j
            · rw [o]; exact y
            · exact m i (by omega)
        refine U_X12_wordOf_85_100_16 ⟨fun z => absurd z (by omega), fun _ => ?_⟩
        rw [tn, sM_a, w32_of (z := wen b s.1 - s.1) (by omega) (by omega)]
        refine ⟨wb, rb, sp_length (ns63 rb) ⟨fun y => in0 (fun u => y (((wl_eq we.1).mp u).1.symm.trans sl.symm)) 0, fun y => in1 (sl.symm.trans y.symm) (wd (rf 100 w)).length 0 (by omega) (fun i hi => absurd hi (by omega))⟩⟩
    exact go 17 0 (by omega) K
  · rw [if_neg (by omega)] at K; exact K
theorem rf_101 : ∀ w : Nat, w < 8 → 1000 ≤ rf 101 w ∧ rf 101 w < 1063 := by decide
theorem m_wordOf101 (T : TX b n) (C : TXm h b n) (S : SV n s) (K : Φ (mwo b 101 8 s).2 (sM h (mwo b 101 8 s).1)) : Call G m_X12_wordOf [rv 85, rv 101] (sM h s) Φ := by
  obtain ⟨⟨s0, s1⟩, s2⟩ := id S
  have t1 := T.1
  have we := wen_v T s0 s1
  refine Call.of rfl (Nat.le_of_ble_eq_true rfl) rfl (U_X12_wordOf_85_101_0 ?_)
  rw [sM_w]
  unfold mwo at K
  refine ⟨fun z => m_wordEnd T C S ?_, fun z => ?_⟩
  · have z : s.2 = -1 := by omega
    rw [if_pos z] at K
    have go : ∀ (d w : Nat), w + d = 8 → Φ (pck (mfd (wl b s.1 (wen b s.1)) 101 d w) (wen b s.1) s (-1)).2 (sM h (pck (mfd (wl b s.1 (wen b s.1)) 101 d w) (wen b s.1) s (-1)).1) → AT G m_X12_wordOf 16 [(0, rv 85), (1, rv 101), (2, iv (wen b s.1)), (3, iv (w : Int))] [] (sM h s) Φ := by
      intro d
      induction d with
      | zero =>
        intro w hd K
        refine U_X12_wordOf_85_101_16 ⟨fun _ => ?_, fun z => absurd z (by omega)⟩
        rw [sM_w, sM_a, sM_2]
        exact ⟨fun y => absurd y (by omega), fun _ => K⟩
      | succ d ih =>
        intro w hd K
        have tn : ((w : Nat) : Int).toNat = w := Int.toNat_natCast w
        have rb := rf_101 w (by omega)
        have wb : 0 ≤ (w : Int) ∧ (w : Int) < 8 := by omega
        have sl : slen (rf 101 w) = ((wd (rf 101 w)).length : Int) := rfl
        have sb := slen_ok (ns63 rb)
        have KN : wl b s.1 (wen b s.1) ≠ wd (rf 101 w) → AT G m_X12_wordOf 16 [(0, rv 85), (1, rv 101), (2, iv (wen b s.1)), (3, iv (w32 ((w : Int) + 1)))] [] (sM h s) Φ := fun m => by
          have e : mfd (wl b s.1 (wen b s.1)) 101 (d + 1) w = mfd (wl b s.1 (wen b s.1)) 101 d (w + 1) := by simp only [mfd, if_neg m]
          rw [e] at K
          rw [w32_of (by omega) (by omega)]
          exact ih (w + 1) (by omega) K
        have KY : wl b s.1 (wen b s.1) = wd (rf 101 w) → Φ (w : Int) (up (sM h s) 85 5 (wen b s.1)) := fun m => by
          have e : mfd (wl b s.1 (wen b s.1)) 101 (d + 1) w = some (w : Int) := by simp only [mfd, if_pos m]
          rw [e] at K
          rw [sM_1, z]; exact K
        have in0 : wl b s.1 (wen b s.1) ≠ wd (rf 101 w) → ∀ j, AT G m_X12_wordOf 47 [(0, rv 85), (1, rv 101), (2, iv (wen b s.1)), (3, iv (w : Int)), (4, iv 0), (5, iv j)] [] (sM h s) Φ := fun m j => by
          refine U_X12_wordOf_85_101_47 ?_
          rw [tn]
          exact ⟨wb, rb, sp_length (ns63 rb) ⟨fun _ => ⟨fun _ => KN m, fun y => absurd rfl y⟩, fun _ => ⟨fun _ => ⟨fun _ => KN m, fun y => absurd rfl y⟩, fun y => absurd rfl y⟩⟩⟩
        have in1 : ((wd (rf 101 w)).length : Int) = wen b s.1 - s.1 → ∀ (q j : Nat), j + q = (wd (rf 101 w)).length → (∀ i, i < j → b (s.1 + (i : Int)) = (wd (rf 101 w)).getD i 0) → AT G m_X12_wordOf 47 [(0, rv 85), (1, rv 101), (2, iv (wen b s.1)), (3, iv (w : Int)), (4, iv 1), (5, iv (j : Int))] [] (sM h s) Φ := by
          intro el q
          induction q with
          | zero =>
            intro j hj m
            refine U_X12_wordOf_85_101_47 ?_
            rw [tn]
            exact ⟨wb, rb, sp_length (ns63 rb) ⟨fun _ => ⟨fun y => absurd y (by decide), fun _ => KY ((wl_eq we.1).mpr ⟨el, fun i hi => m i (by omega)⟩)⟩, fun y => absurd y (by rw [sl]; omega)⟩⟩
          | succ q ihq =>
            intro j hj m
            refine U_X12_wordOf_85_101_47 ?_
            rw [tn]
            refine ⟨wb, rb, sp_length (ns63 rb) ⟨fun y => absurd y (by rw [sl]; omega), fun _ => ⟨fun y => absurd y (by decide), fun _ => ?_⟩⟩⟩
            rw [sM_a, w32_of (z := s.1 + (j : Int)) (by omega) (by omega)]
            have e87 : sM h s 87 (s.1 + (j : Int)) = b (s.1 + (j : Int)) := (sM_o (by decide)).trans (C.2 _ (by omega) (by omega))
            refine ⟨by omega, wb, rb, sp_charAt (ns63 rb) (by omega) (by rw [sl]; omega) ?_⟩
            have ec : schr (rf 101 w) (j : Int) = (wd (rf 101 w)).getD j 0 := by unfold schr; rw [Int.toNat_natCast]; rfl
            rw [ec, e87, w32_of (z := (j : Int) + 1) (by omega) (by omega)]
            refine ⟨fun y => in0 (fun u => y (((wl_eq we.1).mp u).2 j (by omega))) _, fun y => ihq (j + 1) (by omega) (fun i hi => ?_)⟩
            by_cases o : i = j
            · rw [o]; exact y
            · exact m i (by omega)
        refine U_X12_wordOf_85_101_16 ⟨fun z => absurd z (by omega), fun _ => ?_⟩
        rw [tn, sM_a, w32_of (z := wen b s.1 - s.1) (by omega) (by omega)]
        refine ⟨wb, rb, sp_length (ns63 rb) ⟨fun y => in0 (fun u => y (((wl_eq we.1).mp u).1.symm.trans sl.symm)) 0, fun y => in1 (sl.symm.trans y.symm) (wd (rf 101 w)).length 0 (by omega) (fun i hi => absurd hi (by omega))⟩⟩
    exact go 8 0 (by omega) K
  · rw [if_neg (by omega)] at K; exact K
theorem rf_102 : ∀ w : Nat, w < 1 → 1000 ≤ rf 102 w ∧ rf 102 w < 1063 := by decide
theorem m_wordOf102 (T : TX b n) (C : TXm h b n) (S : SV n s) (K : Φ (mwo b 102 1 s).2 (sM h (mwo b 102 1 s).1)) : Call G m_X12_wordOf [rv 85, rv 102] (sM h s) Φ := by
  obtain ⟨⟨s0, s1⟩, s2⟩ := id S
  have t1 := T.1
  have we := wen_v T s0 s1
  refine Call.of rfl (Nat.le_of_ble_eq_true rfl) rfl (U_X12_wordOf_85_102_0 ?_)
  rw [sM_w]
  unfold mwo at K
  refine ⟨fun z => m_wordEnd T C S ?_, fun z => ?_⟩
  · have z : s.2 = -1 := by omega
    rw [if_pos z] at K
    have go : ∀ (d w : Nat), w + d = 1 → Φ (pck (mfd (wl b s.1 (wen b s.1)) 102 d w) (wen b s.1) s (-1)).2 (sM h (pck (mfd (wl b s.1 (wen b s.1)) 102 d w) (wen b s.1) s (-1)).1) → AT G m_X12_wordOf 16 [(0, rv 85), (1, rv 102), (2, iv (wen b s.1)), (3, iv (w : Int))] [] (sM h s) Φ := by
      intro d
      induction d with
      | zero =>
        intro w hd K
        refine U_X12_wordOf_85_102_16 ⟨fun _ => ?_, fun z => absurd z (by omega)⟩
        rw [sM_w, sM_a, sM_2]
        exact ⟨fun y => absurd y (by omega), fun _ => K⟩
      | succ d ih =>
        intro w hd K
        have tn : ((w : Nat) : Int).toNat = w := Int.toNat_natCast w
        have rb := rf_102 w (by omega)
        have wb : 0 ≤ (w : Int) ∧ (w : Int) < 1 := by omega
        have sl : slen (rf 102 w) = ((wd (rf 102 w)).length : Int) := rfl
        have sb := slen_ok (ns63 rb)
        have KN : wl b s.1 (wen b s.1) ≠ wd (rf 102 w) → AT G m_X12_wordOf 16 [(0, rv 85), (1, rv 102), (2, iv (wen b s.1)), (3, iv (w32 ((w : Int) + 1)))] [] (sM h s) Φ := fun m => by
          have e : mfd (wl b s.1 (wen b s.1)) 102 (d + 1) w = mfd (wl b s.1 (wen b s.1)) 102 d (w + 1) := by simp only [mfd, if_neg m]
          rw [e] at K
          rw [w32_of (by omega) (by omega)]
          exact ih (w + 1) (by omega) K
        have KY : wl b s.1 (wen b s.1) = wd (rf 102 w) → Φ (w : Int) (up (sM h s) 85 5 (wen b s.1)) := fun m => by
          have e : mfd (wl b s.1 (wen b s.1)) 102 (d + 1) w = some (w : Int) := by simp only [mfd, if_pos m]
          rw [e] at K
          rw [sM_1, z]; exact K
        have in0 : wl b s.1 (wen b s.1) ≠ wd (rf 102 w) → ∀ j, AT G m_X12_wordOf 47 [(0, rv 85), (1, rv 102), (2, iv (wen b s.1)), (3, iv (w : Int)), (4, iv 0), (5, iv j)] [] (sM h s) Φ := fun m j => by
          refine U_X12_wordOf_85_102_47 ?_
          rw [tn]
          exact ⟨wb, rb, sp_length (ns63 rb) ⟨fun _ => ⟨fun _ => KN m, fun y => absurd rfl y⟩, fun _ => ⟨fun _ => ⟨fun _ => KN m, fun y => absurd rfl y⟩, fun y => absurd rfl y⟩⟩⟩
        have in1 : ((wd (rf 102 w)).length : Int) = wen b s.1 - s.1 → ∀ (q j : Nat), j + q = (wd (rf 102 w)).length → (∀ i, i < j → b (s.1 + (i : Int)) = (wd (rf 102 w)).getD i 0) → AT G m_X12_wordOf 47 [(0, rv 85), (1, rv 102), (2, iv (wen b s.1)), (3, iv (w : Int)), (4, iv 1), (5, iv (j : Int))] [] (sM h s) Φ := by
          intro el q
          induction q with
          | zero =>
            intro j hj m
            refine U_X12_wordOf_85_102_47 ?_
            rw [tn]
            exact ⟨wb, rb, sp_length (ns63 rb) ⟨fun _ => ⟨fun y => absurd y (by decide), fun _ => KY ((wl_eq we.1).mpr ⟨el, fun i hi => m i (by omega)⟩)⟩, fun y => absurd y (by rw [sl]; omega)⟩⟩
          | succ q ihq =>
            intro j hj m
            refine U_X12_wordOf_85_102_47 ?_
            rw [tn]
            refine ⟨wb, rb, sp_length (ns63 rb) ⟨fun y => absurd y (by rw [sl]; omega), fun _ => ⟨fun y => absurd y (by decide), fun _ => ?_⟩⟩⟩
            rw [sM_a, w32_of (z := s.1 + (j : Int)) (by omega) (by omega)]
            have e87 : sM h s 87 (s.1 + (j : Int)) = b (s.1 + (j : Int)) := (sM_o (by decide)).trans (C.2 _ (by omega) (by omega))
            refine ⟨by omega, wb, rb, sp_charAt (ns63 rb) (by omega) (by rw [sl]; omega) ?_⟩
            have ec : schr (rf 102 w) (j : Int) = (wd (rf 102 w)).getD j 0 := by unfold schr; rw [Int.toNat_natCast]; rfl
            rw [ec, e87, w32_of (z := (j : Int) + 1) (by omega) (by omega)]
            refine ⟨fun y => in0 (fun u => y (((wl_eq we.1).mp u).2 j (by omega))) _, fun y => ihq (j + 1) (by omega) (fun i hi => ?_)⟩
            by_cases o : i = j
            · rw [o]; exact y
            · exact m i (by omega)
        refine U_X12_wordOf_85_102_16 ⟨fun z => absurd z (by omega), fun _ => ?_⟩
        rw [tn, sM_a, w32_of (z := wen b s.1 - s.1) (by omega) (by omega)]
        refine ⟨wb, rb, sp_length (ns63 rb) ⟨fun y => in0 (fun u => y (((wl_eq we.1).mp u).1.symm.trans sl.symm)) 0, fun y => in1 (sl.symm.trans y.symm) (wd (rf 102 w)).length 0 (by omega) (fun i hi => absurd hi (by omega))⟩⟩
    exact go 1 0 (by omega) K
  · rw [if_neg (by omega)] at K; exact K
end
