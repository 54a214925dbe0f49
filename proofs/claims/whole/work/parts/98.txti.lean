/-! date -/
def dt1 (b : Int → Int) : PS × Int := fix b 4 2000 2059 (0, -1)
def dt2 (b : Int → Int) : PS × Int := fix b 2 1 12 (skp b 45 (dt1 b).1)
def dY (b : Int → Int) : Int := cvl 2000 (dt1 b)
def dM (b : Int → Int) : Int := cvl 1 (dt2 b)
def dt3 (b : Int → Int) : PS × Int := fix b 2 1 (mdays (dY b) (dM b)) (skp b 45 (dt2 b).1)
def dDay (b : Int → Int) : Int := yd (dY b) + mo (dY b) (dM b - 1).toNat + cvl 1 (dt3 b) - 1
def dt4 (b : Int → Int) : PS × Int := fix b 2 0 23 (skp b 84 (dt3 b).1)
def dt5 (b : Int → Int) : PS × Int := fix b 2 0 59 (skp b 58 (dt4 b).1)
def dE (b : Int → Int) : PS := skp b 58 (dt5 b).1
def dHi (b f : Int → Int) (L : Nat) : Int := if cvl 0 (dt4 b) = 23 ∧ cvl 0 (dt5 b) = 59 ∧ cnt f (dDay b) L < cnt f (dDay b + 1) L then 60 else 59
def dt6 (b f : Int → Int) (L : Nat) : PS × Int := fix b 2 0 (dHi b f L) (dE b)
def dVal (b f : Int → Int) (L : Nat) : Int := dDay b * 86400 + cnt f (dDay b) L + cvl 0 (dt4 b) * 3600 + cvl 0 (dt5 b) * 60 + cvl 0 (dt6 b f L)
section
variable {G : GG} {b f : Int → Int} {n : Int} {h : Hp} {Φ : Int → Hp → Prop} {L : Nat}
theorem dt_v (T : TX b n) : SV n ((0, -1) : PS) ∧ SV n (dt1 b).1 ∧ SV n (dt2 b).1 ∧ SV n (dt3 b).1 ∧ SV n (dt4 b).1 ∧ SV n (dt5 b).1 ∧ SV n (dE b) ∧ SV n (dt6 b f L).1 := by
  have S0 : SV n ((0, -1) : PS) := ⟨⟨Int.le_refl 0, T.1.1⟩, Or.inl rfl⟩
  have S1 : SV n (dt1 b).1 := fix_v T S0
  have S2 : SV n (dt2 b).1 := fix_v T (skp_v T (by decide) S1)
  have S3 : SV n (dt3 b).1 := fix_v T (skp_v T (by decide) S2)
  have S4 : SV n (dt4 b).1 := fix_v T (skp_v T (by decide) S3)
  have S5 : SV n (dt5 b).1 := fix_v T (skp_v T (by decide) S4)
  have S6 : SV n (dE b) := skp_v T (by decide) S5
  exact ⟨S0, S1, S2, S3, S4, S5, S6, fix_v T S6⟩
theorem dt_r (T : TX b n) : (2000 ≤ dY b ∧ dY b ≤ 2059) ∧ (1 ≤ dM b ∧ dM b ≤ 12) ∧ (1 ≤ cvl 1 (dt3 b) ∧ cvl 1 (dt3 b) ≤ mdays (dY b) (dM b)) ∧ (0 ≤ dDay b ∧ dDay b ≤ 21914) ∧ (0 ≤ cvl 0 (dt4 b) ∧ cvl 0 (dt4 b) ≤ 23) ∧ (0 ≤ cvl 0 (dt5 b) ∧ cvl 0 (dt5 b) ≤ 59) ∧ (0 ≤ cvl 0 (dt6 b f L) ∧ cvl 0 (dt6 b f L) ≤ 60) := by
  obtain ⟨S0, S1, S2, S3, S4, S5, S6, S7⟩ := dt_v (f := f) (L := L) T
  have a : 2000 ≤ dY b ∧ dY b ≤ 2059 := fix_c S0 (by omega)
  have c : 1 ≤ dM b ∧ dM b ≤ 12 := fix_c (skp_v T (by decide) S1) (by omega)
  have mb := mdays_b (dY b) (dM b)
  have d : 1 ≤ cvl 1 (dt3 b) ∧ cvl 1 (dt3 b) ≤ mdays (dY b) (dM b) := fix_c (skp_v T (by decide) S2) (by omega)
  have e : (((dM b - 1).toNat : Nat) : Int) + 1 = dM b := by omega
  have day := day_b (y := dY b) (m := (dM b - 1).toNat) (d := cvl 1 (dt3 b)) a (by omega) (by rw [e]; exact d)
  have i6 : 0 ≤ cvl 0 (dt6 b f L) ∧ cvl 0 (dt6 b f L) ≤ dHi b f L := fix_c S6 (by unfold dHi; split <;> omega)
  have i7 : dHi b f L ≤ 60 := by unfold dHi; split <;> omega
  exact ⟨a, c, d, day, fix_c (skp_v T (by decide) S3) (by omega), fix_c (skp_v T (by decide) S4) (by omega), by omega⟩
theorem c_readDate (T : TX b n) (C : TXc h b n) (e : h 12 1 = L) (e13 : h 13 = f) (hL : L ≤ 10) (asc : ∀ i j : Int, 0 ≤ i → i < j → j < L → f i < f j) (K : Φ (dVal b f L) (sT h (dt6 b f L).1)) : Call G m_X1_readDate [rv 12, rv 2] (sT h (0, -1)) Φ := by
  obtain ⟨S0, S1, S2, S3, S4, S5, S6, S7⟩ := dt_v (f := f) (L := L) T
  obtain ⟨rY, rM, rD, rd, r4, r5, r6⟩ := dt_r (f := f) (L := L) T
  have cb1 := cnt_b f (dDay b) L
  have e' : ∀ s, sT h s 12 1 = L := fun s => (sT_o (by decide)).trans e
  have e13' : ∀ s, sT h s 13 = f := fun s => by rw [← e13]; funext i; exact sT_o (by decide)
  have em : dM b = (((dM b - 1).toNat : Nat) : Int) + 1 := by omega
  have fin : ∀ hi', hi' = dHi b f L → Call G m_X10_fixed [rv 2, iv 2, iv 0, iv hi'] (sT h (dE b)) (fun r25 h26 => Call G m_X1_leapsBefore [rv 12, iv (dDay b)] h26 (fun r27 h28 => Φ (w32 ((w32 ((w32 ((w32 ((w32 (dDay b * 86400)) + r27)) + (w32 (cvl 0 (dt4 b) * 3600)))) + (w32 (cvl 0 (dt5 b) * 60)))) + r25)) h28)) := fun hi' eh => by
    rw [eh]
    refine c_fixed (d := 2) T C S6 (by omega) (sp_leapsBefore (e' _) (e13' _) hL asc ?_)
    show Φ (w32 ((w32 ((w32 ((w32 ((w32 (dDay b * 86400)) + cnt f (dDay b) L)) + (w32 (cvl 0 (dt4 b) * 3600)))) + (w32 (cvl 0 (dt5 b) * 60)))) + cvl 0 (dt6 b f L))) (sT h (dt6 b f L).1)
    rw [w32_of (z := dDay b * 86400) (by omega) (by omega), w32_of (z := dDay b * 86400 + cnt f (dDay b) L) (by omega) (by omega), w32_of (z := cvl 0 (dt4 b) * 3600) (by omega) (by omega), w32_of (z := dDay b * 86400 + cnt f (dDay b) L + cvl 0 (dt4 b) * 3600) (by omega) (by omega), w32_of (z := cvl 0 (dt5 b) * 60) (by omega) (by omega), w32_of (z := dDay b * 86400 + cnt f (dDay b) L + cvl 0 (dt4 b) * 3600 + cvl 0 (dt5 b) * 60) (by omega) (by omega), w32_of (by omega) (by omega)]
    exact K
  refine Call.of rfl (Nat.le_of_ble_eq_true rfl) rfl (U_X1_readDate_12_2_0 ?_)
  refine c_fixed (d := 4) (s := (0, -1)) T C S0 (by omega) ?_
  refine c_skip (s := (dt1 b).1) T C S1 ?_
  refine c_fixed (d := 2) (s := skp b 45 (dt1 b).1) T C (skp_v T (by decide) S1) (by omega) ?_
  refine c_skip (s := (dt2 b).1) T C S2 ?_
  show Call G m_X1_daysIn [iv (dY b), iv (dM b)] (sT h (skp b 45 (dt2 b).1)) _
  refine sp_daysIn (by omega) rM ?_
  refine c_fixed (d := 2) (s := skp b 45 (dt2 b).1) T C (skp_v T (by decide) S2) (by omega) ?_
  show Call G m_X1_dayOf [iv (dY b), iv (dM b), iv (cvl 1 (dt3 b))] (sT h (dt3 b).1) _
  have mb := mdays_b (dY b) (dM b)
  rw [em]
  refine sp_dayOfC (by omega) (by omega) (by omega) ?_
  refine c_skip (s := (dt3 b).1) T C S3 ?_
  refine c_fixed (d := 2) (s := skp b 84 (dt3 b).1) T C (skp_v T (by decide) S3) (by omega) ?_
  refine c_skip (s := (dt4 b).1) T C S4 ?_
  refine c_fixed (d := 2) (s := skp b 58 (dt4 b).1) T C (skp_v T (by decide) S4) (by omega) ?_
  refine c_skip (s := (dt5 b).1) T C S5 ?_
  refine ⟨fun z => ?_, fun z => ⟨fun y => ?_, fun y => ?_⟩⟩
  · exact fin 59 (by unfold dHi; rw [if_neg (fun t => z t.1)])
  · exact fin 59 (by unfold dHi; rw [if_neg (fun t => y t.2.1)])
  · refine sp_hasLeapC (d := dDay b) (by omega) (e' _) (e13' _) hL asc (fun x => ⟨fun t => absurd t (by decide), fun _ => ?_⟩) (fun x => ⟨fun _ => ?_, fun t => absurd rfl t⟩)
    · exact fin 60 (by unfold dHi; rw [if_pos ⟨z, y, x⟩])
    · exact fin 59 (by unfold dHi; rw [if_neg (fun t => x t.2.2)])
def dR (b f : Int → Int) (L : Nat) (n : Int) : Int := if (fns n (dt6 b f L).1).2 = -1 then dVal b f L else -1000 - (fns n (dt6 b f L).1).2
theorem m_date (T : TX b n) (n0 : 0 ≤ h 85 3 ∧ h 85 3 ≤ 1600) (C : TXm (tkH h) b n) (e : h 85 9 = L) (e89 : h 89 = f) (hL : L ≤ 10) (K : Φ (dR b f L n) (sM (tkH h) (fns n (dt6 b f L).1))) : Call G m_X12_date [rv 85] h Φ := by
  obtain ⟨S0, S1, S2, S3, S4, S5, S6, S7⟩ := dt_v (f := f) (L := L) T
  obtain ⟨rY, rM, rD, rd, r4, r5, r6⟩ := dt_r (f := f) (L := L) T
  have cb1 := cnt_b f (dDay b) L
  have t1 := T.1
  have e' : ∀ s, sM (tkH h) s 85 9 = L := fun s => (sM_oi (by decide)).trans ((tkH_o (by omega)).trans e)
  have e89' : ∀ s, sM (tkH h) s 89 = f := fun s => by rw [← e89]; funext i; exact (sM_o (by decide)).trans (tkH_o (by omega))
  have Fv := fns_v S7
  -- a bad end
  have badend : ∀ (hi' day r17 r21 : Int), (dE b).2 ≠ -1 → Call G m_X12_digits [rv 85, iv 2, iv 0, iv hi'] (sM (tkH h) (dE b)) (fun r27 h28 => Call G m_X12_done [rv 85] h28 (fun _ h30 => (((h30 85 6) < 0 → Call G m_X12_firstSecond [rv 85, iv day] h30 (fun r31 h32 => Φ (w32 ((w32 ((w32 (r31 + (w32 (3600 * r17)))) + (w32 (60 * r21)))) + r27)) h32)) ∧ (0 ≤ (h30 85 6) → Φ (w32 ((-1000) - (h30 85 6))) h30)))) := fun hi' day r17 r21 z => by
    refine m_digits (d := 2) T C S6 (by omega) ?_
    rw [fix_w z]
    refine m_close S6 C ?_
    have e6 : dt6 b f L = (dE b, 0) := fix_w z
    have ef : fns n (dE b) = dE b := if_neg (fun t => z t.1)
    have v := S6.2
    unfold dR at K
    rw [e6] at K
    dsimp only at K
    rw [ef, if_neg z] at K
    rw [ef, sM_w, w32_of (z := -1000 - (dE b).2) (by omega) (by omega)]
    exact ⟨fun y => absurd y (by omega), fun _ => K⟩
  refine Call.of rfl (Nat.le_of_ble_eq_true rfl) rfl (U_X12_date_85_0 (m_take n0 ?_))
  refine m_digits (d := 4) (s := (0, -1)) T C S0 (by omega) ?_
  refine m_need (s := (dt1 b).1) T C S1 ?_
  refine m_digits (d := 2) (s := skp b 45 (dt1 b).1) T C (skp_v T (by decide) S1) (by omega) ?_
  refine m_need (s := (dt2 b).1) T C S2 ?_
  have S2' := skp_v (c := 45) T (by decide) S2
  refine ⟨fun z => ?_, fun z => ?_⟩
  · have z : (skp b 45 (dt2 b).1).2 = -1 := by
      have z : sM (tkH h) (skp b 45 (dt2 b).1) 85 6 < 0 := z
      rw [sM_w] at z
      have := S2'.2
      omega
    have g2 : (dt2 b).1.2 = -1 := skp_g z
    have g1 : (dt1 b).1.2 = -1 := skp_g (fix_g g2)
    have y1 : dY b = (dt1 b).2 := cvl_r g1
    have y2 : dM b = (dt2 b).2 := cvl_r g2
    show Call G m_X12_days [iv (dt1 b).2, iv (dt2 b).2] (sM (tkH h) (skp b 45 (dt2 b).1)) _
    rw [← y1, ← y2]
    refine sp_days (by omega) rM ?_
    refine m_digits (d := 2) (s := skp b 45 (dt2 b).1) T C S2' (by omega) ?_
    refine m_need (s := (dt3 b).1) T C S3 ?_
    refine m_digits (d := 2) (s := skp b 84 (dt3 b).1) T C (skp_v T (by decide) S3) (by omega) ?_
    refine m_need (s := (dt4 b).1) T C S4 ?_
    refine m_digits (d := 2) (s := skp b 58 (dt4 b).1) T C (skp_v T (by decide) S4) (by omega) ?_
    refine m_need (s := (dt5 b).1) T C S5 ?_
    refine ⟨fun w => ?_, fun w => ?_⟩
    · have w : (dE b).2 = -1 := by
        have w : sM (tkH h) (dE b) 85 6 < 0 := w
        rw [sM_w] at w
        have := S6.2
        omega
      have g5 : (dt5 b).1.2 = -1 := skp_g w
      have g4 : (dt4 b).1.2 = -1 := skp_g (fix_g g5)
      have g3 : (dt3 b).1.2 = -1 := skp_g (fix_g g4)
      have y5 : cvl 0 (dt5 b) = (dt5 b).2 := cvl_r g5
      have y4 : cvl 0 (dt4 b) = (dt4 b).2 := cvl_r g4
      have y3 : cvl 1 (dt3 b) = (dt3 b).2 := cvl_r g3
      have em : dM b = (((dM b - 1).toNat : Nat) : Int) + 1 := by omega
      have eday : dDay b = yd (dY b) + mo (dY b) (dM b - 1).toNat + (dt3 b).2 - 1 := by unfold dDay; rw [y3]
      have yb := yd_b (y := dY b) (by omega)
      have mb := mo_b (dY b) (dM b - 1).toNat
      have ed : w32 ((w32 (yd (dY b) + mo (dY b) (dM b - 1).toNat + (dt3 b).2)) - 1) = dDay b := by
        rw [w32_of (z := yd (dY b) + mo (dY b) (dM b - 1).toNat + (dt3 b).2) (by omega) (by omega), w32_of (by omega) (by omega), eday]
      have fin : ∀ hi', hi' = dHi b f L → Call G m_X12_digits [rv 85, iv 2, iv 0, iv hi'] (sM (tkH h) (dE b)) (fun r27 h28 => Call G m_X12_done [rv 85] h28 (fun _ h30 => (((h30 85 6) < 0 → Call G m_X12_firstSecond [rv 85, iv (dDay b)] h30 (fun r31 h32 => Φ (w32 ((w32 ((w32 (r31 + (w32 (3600 * (dt4 b).2)))) + (w32 (60 * (dt5 b).2)))) + r27)) h32)) ∧ (0 ≤ (h30 85 6) → Φ (w32 ((-1000) - (h30 85 6))) h30)))) := fun hi' eh => by
        rw [eh]
        refine m_digits (d := 2) T C S6 (by omega) ?_
        refine m_close (s := (dt6 b f L).1) S7 C ?_
        unfold dR at K
        have v := Fv.2
        rw [sM_w]
        refine ⟨fun u => ?_, fun u => ?_⟩
        · have u : (fns n (dt6 b f L).1).2 = -1 := by omega
          rw [if_pos u] at K
          have g6 : (dt6 b f L).1.2 = -1 := by
            false_or_by_contra
            rename_i o
            have ef : fns n (dt6 b f L).1 = (dt6 b f L).1 := if_neg (fun t => o t.1)
            rw [ef] at u
            exact o u
          have y6 : cvl 0 (dt6 b f L) = (dt6 b f L).2 := cvl_r g6
          refine sp_firstSecond (by omega) (e' _) hL ?_
          rw [e89']
          show Φ (w32 ((w32 ((w32 ((86400 * dDay b + cnt f (dDay b) L) + (w32 (3600 * (dt4 b).2)))) + (w32 (60 * (dt5 b).2)))) + (dt6 b f L).2)) _
          rw [← y4, ← y5, ← y6, w32_of (z := 3600 * cvl 0 (dt4 b)) (by omega) (by omega), w32_of (z := 86400 * dDay b + cnt f (dDay b) L + 3600 * cvl 0 (dt4 b)) (by omega) (by omega), w32_of (z := 60 * cvl 0 (dt5 b)) (by omega) (by omega), w32_of (z := 86400 * dDay b + cnt f (dDay b) L + 3600 * cvl 0 (dt4 b) + 60 * cvl 0 (dt5 b)) (by omega) (by omega), w32_of (by omega) (by omega)]
          have ev : dVal b f L = 86400 * dDay b + cnt f (dDay b) L + 3600 * cvl 0 (dt4 b) + 60 * cvl 0 (dt5 b) + cvl 0 (dt6 b f L) := by unfold dVal; omega
          rw [ev] at K
          exact K
        · rw [if_neg (by omega)] at K
          rw [w32_of (by omega) (by omega)]
          exact K
      have hd : ∀ Ψ : Int → Hp → Prop, Ψ (yd (dY b) + mo (dY b) (dM b - 1).toNat) (sM (tkH h) (dE b)) → Call G m_X12_dayOf [iv (dt1 b).2, iv (dt2 b).2] (sM (tkH h) (dE b)) Ψ := fun Ψ k => by
        rw [← y1, ← y2, em]
        exact sp_dayOfM (by omega) (by omega) k
      rw [y1, y2]
      refine hd _ ?_
      rw [← y1, ← y2]
      show ((dt4 b).2 ≠ 23 → _) ∧ ((dt4 b).2 = 23 → ((dt5 b).2 ≠ 59 → _) ∧ ((dt5 b).2 = 59 → _))
      have ed2 : w32 ((w32 (yd (dY b) + mo (dY b) (dM b - 1).toNat + (fix b 2 1 (mdays (dY b) (dM b)) (skp b 45 (dt2 b).1)).2)) - 1) = dDay b := ed
      refine ⟨fun p => ?_, fun p => ⟨fun q => ?_, fun q => ?_⟩⟩
      · have t := fin 59 (by unfold dHi; rw [if_neg (fun t => p (y4.symm.trans t.1))])
        rw [← ed] at t
        exact t
      · have t := fin 59 (by unfold dHi; rw [if_neg (fun t => q (y5.symm.trans t.2.1))])
        rw [← ed] at t
        exact t
      · have hc := hl_cnt (f := f) (d := dDay b) L
        have w2 : Call G m_X12_hasLeap [rv 85, iv (dDay b)] (sM (tkH h) (dE b)) (fun r39 h40 => ((r39 = 0 → Call G m_X12_digits [rv 85, iv 2, iv 0, iv 59] h40 (fun r27 h28 => Call G m_X12_done [rv 85] h28 (fun _ h30 => (((h30 85 6) < 0 → Call G m_X12_firstSecond [rv 85, iv (dDay b)] h30 (fun r31 h32 => Φ (w32 ((w32 ((w32 (r31 + (w32 (3600 * (dt4 b).2)))) + (w32 (60 * (dt5 b).2)))) + r27)) h32)) ∧ (0 ≤ (h30 85 6) → Φ (w32 ((-1000) - (h30 85 6))) h30))))) ∧ (r39 ≠ 0 → Call G m_X12_digits [rv 85, iv 2, iv 0, iv 60] h40 (fun r27 h28 => Call G m_X12_done [rv 85] h28 (fun _ h30 => (((h30 85 6) < 0 → Call G m_X12_firstSecond [rv 85, iv (dDay b)] h30 (fun r31 h32 => Φ (w32 ((w32 ((w32 (r31 + (w32 (3600 * (dt4 b).2)))) + (w32 (60 * (dt5 b).2)))) + r27)) h32)) ∧ (0 ≤ (h30 85 6) → Φ (w32 ((-1000) - (h30 85 6))) h30))))))) := by
          refine sp_hasLeapM (e' _) (e89' _) hL ⟨fun o => ?_, fun o => ?_⟩
          · exact fin 59 (by unfold dHi; rw [if_neg (fun t => by omega)])
          · exact fin 60 (by unfold dHi; rw [if_pos ⟨y4.trans p, y5.trans q, by omega⟩])
        rw [← ed] at w2
        exact w2
    · have w : (dE b).2 ≠ -1 := by
        have w : 0 ≤ sM (tkH h) (dE b) 85 6 := w
        rw [sM_w] at w
        omega
      refine ⟨fun p => badend _ _ _ _ w, fun p => ⟨fun q => badend _ _ _ _ w, fun q => ?_⟩⟩
      exact sp_hasLeapM (e' _) (e89' _) hL ⟨fun o => badend _ _ _ _ w, fun o => badend _ _ _ _ w⟩
  · have z : (skp b 45 (dt2 b).1).2 ≠ -1 := by
      have z : 0 ≤ sM (tkH h) (skp b 45 (dt2 b).1) 85 6 := z
      rw [sM_w] at z
      omega
    have q3 : dt3 b = (skp b 45 (dt2 b).1, 0) := fix_w z
    have q3' : skp b 84 (dt3 b).1 = skp b 45 (dt2 b).1 := by rw [q3]; exact skp_w z
    have q4 : dt4 b = (skp b 45 (dt2 b).1, 0) := by unfold dt4; rw [q3']; exact fix_w z
    have q4' : skp b 58 (dt4 b).1 = skp b 45 (dt2 b).1 := by rw [q4]; exact skp_w z
    have q5 : dt5 b = (skp b 45 (dt2 b).1, 0) := by unfold dt5; rw [q4']; exact fix_w z
    have q5' : dE b = skp b 45 (dt2 b).1 := by unfold dE; rw [q5]; exact skp_w z
    refine m_digits (d := 2) (s := skp b 45 (dt2 b).1) T C S2' (by omega) ?_
    rw [fix_w z]
    refine m_need (s := skp b 45 (dt2 b).1) T C S2' ?_
    rw [skp_w z]
    refine m_digits (d := 2) (s := skp b 45 (dt2 b).1) T C S2' (by omega) ?_
    rw [fix_w z]
    refine m_need (s := skp b 45 (dt2 b).1) T C S2' ?_
    rw [skp_w z]
    refine m_digits (d := 2) (s := skp b 45 (dt2 b).1) T C S2' (by omega) ?_
    rw [fix_w z]
    refine m_need (s := skp b 45 (dt2 b).1) T C S2' ?_
    rw [skp_w z]
    rw [← q5'] at z ⊢
    refine ⟨fun w => ?_, fun w => ⟨fun p => badend _ _ _ _ z, fun p => absurd p (by show ¬ (0 : Int) = 23; decide)⟩⟩
    have w : sM (tkH h) (dE b) 85 6 < 0 := w
    rw [sM_w] at w
    have := S6.2
    omega
end
theorem op_date {G : GG} {h : Hp} (hT : IT h) (hC : IC h) : BOTH G m_X11_date m_X12_date [] h (fun h' => IT h' ∧ FR PTx h h') := by
  obtain ⟨T, Cc, Cm⟩ := bT_ok hT
  obtain ⟨⟨c0, c1, c2⟩, c3, c4⟩ := hC
  obtain ⟨L, eL⟩ : ∃ L : Nat, h 12 1 = L := ⟨(h 12 1).toNat, by omega⟩
  have hL : L ≤ 10 := by omega
  have asc : ∀ i j : Int, 0 ≤ i → i < j → j < L → h 13 i < h 13 j := fun i j a b c => c4 i j a b (by omega)
  have cq : ∀ d, cnt (h 89) d L = cnt (h 13) d L := fun d => cnt_eq L (fun i a b => (c3 i a (by omega)).2.2)
  have hq : ∀ b, dHi b (h 89) L = dHi b (h 13) L := fun b => by unfold dHi; rw [cq, cq]
  have sq : ∀ b, dt6 b (h 89) L = dt6 b (h 13) L := fun b => by unfold dt6; rw [hq]
  have vq : ∀ b, dVal b (h 89) L = dVal b (h 13) L := fun b => by unfold dVal; rw [sq, cq]
  obtain ⟨i0, i1, i2, i3⟩ := id hT
  obtain ⟨S0, S1, S2, S3, S4, S5, S6, S7⟩ := dt_v (f := h 13) (L := L) T
  have Fv := fns_v S7
  have fv := Fv.2
  refine BOTH.of (r := dR (bT h) (h 13) L (h 2 1)) (h' := cb (up (sT h (fns (h 2 1) (dt6 (bT h) (h 13) L).1)) 2 1 0) (sM (tkH h) (fns (h 2 1) (dt6 (bT h) (h 13) L).1))) (CE.mk (fun g Φ K => ?_)) (ME.mk (fun g Φ K => ?_)) ⟨end_ok tkH_3, fun k i z => ?_⟩
  · rw [cb_uc (by decide), cb_sT] at K
    have C' : TXc (cb h g) (bT h) (h 2 1) := Cc
    refine Call.of rfl (Nat.le_of_ble_eq_true rfl) rfl (U_X11_date_1_0 ?_)
    refine c_readDate (h := cb h g) (f := h 13) (L := L) T C' eL rfl hL asc ?_
    refine c_close S7 C' (fun z => ⟨fun y => absurd y (by decide), fun _ => ?_⟩) (fun z => ⟨fun _ => ?_, fun y => absurd rfl y⟩)
    · unfold dR at K
      rw [if_pos z] at K
      exact K
    · unfold dR at K
      rw [if_neg z] at K
      rw [up_ni (by decide), sT_w, w32_of (by omega) (by omega)]
      exact K
  · rw [cb_sM, ← cb_tkH] at K
    have C' : TXm (tkH (cb g h)) (bT h) (h 2 1) := by rw [cb_tkH]; exact Cm
    refine m_date (h := cb g h) (f := h 89) (L := L) T (by show 0 ≤ h 85 3 ∧ h 85 3 ≤ 1600; omega) C' (by show h 85 9 = L; omega) rfl hL ?_
    unfold dR at K ⊢
    rw [sq, vq]
    exact K
  · unfold PTx at z
    by_cases k85 : k < 85
    · rw [cb_c k85, up_ap, if_neg (by omega)]
      unfold sT up
      rw [if_neg (by omega), if_neg (by omega)]
    · rw [cb_m (by omega)]
      unfold sM
      rw [up_ap, if_neg (by omega), up_ap, if_neg (by omega), tkH_o (by omega)]
