/-! small helps of the printed walks -/
theorem ik {n : Int} (h : decide (-2147483648 ≤ n ∧ n ≤ 2147483647) = true) : i32 n := (of_decide_eq_true h : -2147483648 ≤ n ∧ n ≤ 2147483647)
theorem jk {n : Int} (h : decide (-9223372036854775808 ≤ n ∧ n ≤ 9223372036854775807) = true) : i64 n := (of_decide_eq_true h : -9223372036854775808 ≤ n ∧ n ≤ 9223372036854775807)
theorem bpk {n : Int} (h : decide (-128 ≤ n ∧ n ≤ 127) = true) : (Int8.ofInt n).toInt32 = Int32.ofInt n := by
  have h := of_decide_eq_true h
  rw [← Int32.toInt_inj, Int8.toInt_toInt32, t_o32 ⟨by omega, by omega⟩, Int8.toInt_ofInt, show ((Int8.size : Nat)) = 256 from rfl, Int.bmod_eq_of_le (by omega) (by omega)]
theorem spk {n : Int} (h : decide (-32768 ≤ n ∧ n ≤ 32767) = true) : (Int16.ofInt n).toInt32 = Int32.ofInt n := by
  have h := of_decide_eq_true h
  rw [← Int32.toInt_inj, Int16.toInt_toInt32, t_o32 ⟨by omega, by omega⟩, Int16.toInt_ofInt, show ((Int16.size : Nat)) = 65536 from rfl, Int.bmod_eq_of_le (by omega) (by omega)]
section RowsF
variable {G : GG} {M : MD} {R : Room} {cs sl : Nat} {QF : List Frame → Array Value → State → State → Prop} {pc : Nat} {ls : List (Nat × AV)} {st : List AV} {h : Hp}
theorem a_top {x y : Int} (e : x = y) (k : ATW G M R cs sl QF pc ls (iv y :: st) h) : ATW G M R cs sl QF pc ls (iv x :: st) h := e ▸ k
/-- a call on a String constant -/
theorem a_callTi {M2 : MD} {idx n t : Nat} {as st0 : List AV} (hd : decode M.2.1 pc = .ok (.invokevirtual idx, 3)) (hl : CLV M.1.cls idx M2 n) (hR : RMs R M2) (hcs : cs ≤ R.cells ∧ sl ≤ R.slots) (ht : 1000 ≤ t ∧ t < 1000 + NS) (hC : M2.1.cls = "java/lang/String") (hst : as.reverse ++ rv t :: st = st0) (hri : RTi M2.2.2.2.1 = true) (hn : as.length = n) (hcat : (st.map catA).sum ≤ 8)
    (kk : Call G M2 (rv t :: as) h (fun r h1 => ATW G M R cs sl QF (pc + 3) ls (iv r :: st) h1)) : ATW G M R cs sl QF pc ls st0 h := by
  intro p e s m args below meth c H locs lc C K P S L ol os
  subst hst
  have oa := (ok_app os).1
  have ot : ∀ v ∈ st, okV v := ok_tl (ok_app os).2
  refine call_i (as := as) hri C K S L ol ot ?_ (a := ((rv t :: as).map (cv G)).toArray)
  have hM := kk (ok_cons trivial oa)
  have e1 : (rv t :: as).map (cv G) = Value.ref (G.2.2.1 t) :: as.map (cv G) := by rw [List.map_cons, cv_ref (by omega : 0 < t)]
  rw [e1] at hM ⊢
  have pre := pre_call (M2 := M2) (as := rv t :: as) (h := h) K P S
  rw [e1] at pre
  have cw : CallW R s args M.1.cls M2.1.cls idx M2.1 M2.2.1 M2.2.2.1 M2.2.2.2.1 (TBM M2) (rmK M2.2.2.2.2) 0 0 n :=
    ⟨callB_of n C.2.2.2.2.1 (good_M2 hl.1) rfl rfl rfl (C.2.2.2.2.1 _ hl.1.2.1) (C.2.2.2.2.1 _ hl.2.1) hl.1.2.2 hR, C.2.2.2.2.1 _ hl.2.2.1, C.2.2.2.2.1 _ hl.2.2.2⟩
  have hE := ((K.2.2.2.kept S.2.1).2.2.2.2.2.2 (t - 1000) (by omega)).1
  rw [show 1000 + (t - 1000) = t by omega] at hE
  obtain ⟨cell, q1, q2, q3, -⟩ := hE
  exact va_runV (cf C) hM cw ⟨pre.1, ⟨cell, q1, q2, by rw [hC]; exact q3⟩, pre.2⟩ rfl (by rw [List.length_map]; exact hn) L.1 (by show (as.reverse ++ rv t :: st).map (cv G) = _; rw [rev_map, cv_ref (by omega : 0 < t)]) (lv_room (by rw [cat_sum]; exact hcat)) hd hcs
end RowsF
def imin (x y : Int) : Int := if y < x then y else x
def imax (x y : Int) : Int := if x < y then y else x
section RowsG
variable {G : GG} {M : MD} {R : Room} {cs sl : Nat} {QF : List Frame → Array Value → State → State → Prop} {pc : Nat} {ls : List (Nat × AV)} {st : List AV} {h : Hp}
theorem a_mmin {idx : Nat} {x y : Int} (hd : decode M.2.1 pc = .ok (.invokestatic idx, 3)) (hl : CLT M.1.cls idx m_J9_min_7cf53 2) (hR : 1 ≤ R.frames ∧ (st.map catA).sum + 13 ≤ R.locals) (hcs : cs ≤ R.cells ∧ sl ≤ R.slots) (kk : ATW G M R cs sl QF (pc + 3) ls (iv (imin x y) :: st) h) : ATW G M R cs sl QF pc ls (iv y :: iv x :: st) h := by
  intro p e s m args below meth c H locs lc C K P S L ol os
  have hx : i32 x := ok_hd (ok_tl os)
  have hy : i32 y := ok_hd os
  have ok : i32 (imin x y) := by unfold imin; split <;> assumption
  have k' := kk p e s m args below meth c H locs lc C K P S L ol (ok_cons ok (ok_tl (ok_tl os)))
  have e1 : (if Int32.ofInt y < Int32.ofInt x then Int32.ofInt y else Int32.ofInt x) = Int32.ofInt (imin x y) := by
    unfold imin
    by_cases q : y < x
    · rw [if_pos q, if_pos ((o_lt hy hx).mpr q)]
    · rw [if_neg q, if_neg (fun z => q ((o_lt hy hx).mp z))]
  refine va_mmin C.1 C.2.1 (C.2.2.1.trans L.1.symm) C.2.2.2.1 (C.2.2.2.2.1 _ hl.2.1) (C.2.2.2.2.1 _ hl.2.2) (C.2.2.2.2.1 _ hl.1.2.1) (C.2.2.2.2.1 _ hl.1.1) hR.1 (by rw [cat_sum]; exact hR.2) hcs.1 hcs.2 hd ?_
  rw [e1]
  exact k'
theorem a_mmax {idx : Nat} {x y : Int} (hd : decode M.2.1 pc = .ok (.invokestatic idx, 3)) (hl : CLT M.1.cls idx m_J9_max_7cf53 2) (hR : 1 ≤ R.frames ∧ (st.map catA).sum + 13 ≤ R.locals) (hcs : cs ≤ R.cells ∧ sl ≤ R.slots) (kk : ATW G M R cs sl QF (pc + 3) ls (iv (imax x y) :: st) h) : ATW G M R cs sl QF pc ls (iv y :: iv x :: st) h := by
  intro p e s m args below meth c H locs lc C K P S L ol os
  have hx : i32 x := ok_hd (ok_tl os)
  have hy : i32 y := ok_hd os
  have ok : i32 (imax x y) := by unfold imax; split <;> assumption
  have k' := kk p e s m args below meth c H locs lc C K P S L ol (ok_cons ok (ok_tl (ok_tl os)))
  have e1 : (if Int32.ofInt x < Int32.ofInt y then Int32.ofInt y else Int32.ofInt x) = Int32.ofInt (imax x y) := by
    unfold imax
    by_cases q : x < y
    · rw [if_pos q, if_pos ((o_lt hx hy).mpr q)]
    · rw [if_neg q, if_neg (fun z => q ((o_lt hx hy).mp z))]
  refine va_mmax C.1 C.2.1 (C.2.2.1.trans L.1.symm) C.2.2.2.1 (C.2.2.2.2.1 _ hl.2.1) (C.2.2.2.2.1 _ hl.2.2) (C.2.2.2.2.1 _ hl.1.2.1) (C.2.2.2.2.1 _ hl.1.1) hR.1 (by rw [cat_sum]; exact hR.2) hcs.1 hcs.2 hd ?_
  rw [e1]
  exact k'
end RowsG
