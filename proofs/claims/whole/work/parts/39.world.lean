/-! the world at the law's start -/
def adW (s : State) (ext : Nat → Nat) : Nat → Nat := fun k => if 1 ≤ k ∧ k ≤ NC then s.heap.size + (k - 1) else ext k
theorem adW_in {s : State} {ext : Nat → Nat} {k : Nat} (h : 1 ≤ k ∧ k ≤ NC) : adW s ext k = s.heap.size + (k - 1) := if_pos h
theorem adW_out {s : State} {ext : Nat → Nat} {k : Nat} (h : NC < k) : adW s ext k = ext k := if_neg (by omega)
set_option maxHeartbeats 4000000 in
theorem law_world {p : Program} {s : State} {m : MethodId} {meth : Method} {c : Code} {b L : Nat} {xs : Nat → Int32} (l : Launch) (hL : L ≤ 3072) (C0 : lw_At p s m meth c b L xs) :
    ∃ G : GG, G.1 = l ∧ KN G s ∧ G.2.2.1 1 = s.heap.size ∧ G.2.2.1 900 = b ∧ G.2.2.2.2.1 = L ∧ ∀ j, i32 (G.2.2.2.2.2 j) := by
  obtain ⟨hx, hb, hr, hml, hown, hts, hX, hbl, hlocks, hgv⟩ := id C0
  have hf : ∀ w ∈ fl0, w.before #[Value.ref b] s = true := flat_of_before _ hgv
  have hA : ∀ a : Nat, a < s.heap.size → ¬ (fun q : Nat => s.heap.size ≤ q) a := fun a h z => by omega
  obtain ⟨t1, e1, T1⟩ := va_Tof (f := fun j => .int (Int32.ofInt (xc 901 j))) (by decide) (hf _ arr901.1) (va_eqt (hf _ arr901.2.1)) (fun j hj => va_eqt (hf _ (arr901.2.2 j hj))) hA
  obtain ⟨t2, e2, T2⟩ := va_Tof (f := fun j => .int (Int32.ofInt (xc 902 j))) (by decide) (hf _ arr902.1) (va_eqt (hf _ arr902.2.1)) (fun j hj => va_eqt (hf _ (arr902.2.2 j hj))) hA
  obtain ⟨t3, e3, T3⟩ := va_Tof (f := fun j => .int (Int32.ofInt (xc 903 j))) (by decide) (hf _ arr903.1) (va_eqt (hf _ arr903.2.1)) (fun j hj => va_eqt (hf _ (arr903.2.2 j hj))) hA
  have Z1 := va_Zof (hts _ lay_MONTH_DAYS.1) (hts _ lay_MONTH_DAYS.2) e1 hA
  have Z2 := va_Zof (hts _ lay_DATA_PLACES.1) (hts _ lay_DATA_PLACES.2) e2 hA
  have Z3 := va_Zof (hts _ lay_LETTERS.1) (hts _ lay_LETTERS.2) e3 hA
  have Z4 := va_Zof (hts _ lay_COMPACT_STRINGS.1) (hts _ lay_COMPACT_STRINGS.2) (va_eqi (hf _ cmp0.1)) hA
  have Z5 := va_Zqof (hts _ lay_SIOOBE_FORMATTER.1) (hts _ lay_SIOOBE_FORMATTER.2) (hf _ cmp0.2) hA
  have hstr : ∀ i : Nat, ∃ q : Nat × Nat, i < NS → (tmS i).eval #[Value.ref b] s none [] s = some (.ref q.1) ∧ va_O "java/lang/String" q.1 (fun q : Nat => s.heap.size ≤ q) s s.heap ∧ va_OF "java/lang/String" "coder" "B" (.int 0) q.1 (fun q : Nat => s.heap.size ≤ q) s s.heap ∧ va_OF "java/lang/String" "value" "[B" (.ref q.2) q.1 (fun q : Nat => s.heap.size ≤ q) s s.heap ∧ va_T .byte q.2 (strB.getD i []).length (fun j => .int (Int32.ofInt ((strB.getD i []).getD j 0))) (fun q : Nat => s.heap.size ≤ q) s s.heap := by
    intro i
    by_cases hi : i < NS
    · have k := strC i hi
      have := (strB_ok i hi).1
      obtain ⟨a, t, h1, h2, h3, h4, h5⟩ := str_one (bl := strB.getD i []) (by omega) (hf _ k.1) (hf _ k.2.1) (hf _ k.2.2.1) (hf _ k.2.2.2.1) (fun j hj => hf _ (k.2.2.2.2 j hj)) hA
      exact ⟨(a, t), fun _ => ⟨h1, h2, h3, h4, h5⟩⟩
    · exact ⟨(0, 0), fun h => absurd h hi⟩
  obtain ⟨sa, hsa⟩ := Classical.axiomOfChoice hstr
  obtain ⟨dC, hdC⟩ := Classical.axiomOfChoice (cls_known hts)
  obtain ⟨dI, hdI⟩ := Classical.axiomOfChoice hdC
  obtain ⟨cI, kI, compI, i1, i2, i3⟩ := Cond.arrayClass_spec (hts (.arrayClass .int) (TB_lw arc_int))
  obtain ⟨cZ, kZ, compZ, z1, z2, z3⟩ := Cond.arrayClass_spec (hts (.arrayClass .boolean) (TB_lw arc_boolean))
  obtain ⟨compS, cS, kS, s1, s2, s3, s4, s5⟩ := Cond.arrayOver_spec (hts _ ao_in)
  let ext : Nat → Nat := fun k => if k = 900 then b else if k = 901 then t1 else if k = 902 then t2 else if k = 903 then t3 else if k < 2000 then (sa (k - 1000)).1 else (sa (k - 2000)).2
  let G : GG := (l, (dC, dI), adW s ext, (fun k => if k = 20 then cI else if k = 21 then cZ else cS), L, fun j => (xs j).toInt)
  have hGA : ∀ q, GA G q → (fun q : Nat => s.heap.size ≤ q) q := by
    rintro q ⟨k, k1, k2, rfl⟩
    show s.heap.size ≤ adW s ext k
    rw [adW_in ⟨k1, k2⟩]
    omega
  have NCe : NC = 152 := rfl
  have NSe : NS = 63 := rfl
  have a900 : G.2.2.1 900 = b := by show adW s ext 900 = b; rw [adW_out (by omega)]; rfl
  have a901 : G.2.2.1 901 = t1 := by show adW s ext 901 = t1; rw [adW_out (by omega)]; rfl
  have a902 : G.2.2.1 902 = t2 := by show adW s ext 902 = t2; rw [adW_out (by omega)]; rfl
  have a903 : G.2.2.1 903 = t3 := by show adW s ext 903 = t3; rw [adW_out (by omega)]; rfl
  have aS : ∀ i, i < NS → G.2.2.1 (1000 + i) = (sa i).1 := by
    intro i hi
    show adW s ext (1000 + i) = _
    rw [adW_out (by omega)]
    show (if 1000 + i = 900 then b else if 1000 + i = 901 then t1 else if 1000 + i = 902 then t2 else if 1000 + i = 903 then t3 else if 1000 + i < 2000 then (sa (1000 + i - 1000)).1 else (sa (1000 + i - 2000)).2) = _
    rw [if_neg (by omega), if_neg (by omega), if_neg (by omega), if_neg (by omega), if_pos (by omega), Nat.add_sub_cancel_left]
  have aV : ∀ i, i < NS → G.2.2.1 (2000 + i) = (sa i).2 := by
    intro i hi
    show adW s ext (2000 + i) = _
    rw [adW_out (by omega)]
    show (if 2000 + i = 900 then b else if 2000 + i = 901 then t1 else if 2000 + i = 902 then t2 else if 2000 + i = 903 then t3 else if 2000 + i < 2000 then (sa (2000 + i - 1000)).1 else (sa (2000 + i - 2000)).2) = _
    rw [if_neg (by omega), if_neg (by omega), if_neg (by omega), if_neg (by omega), if_neg (by omega), Nat.add_sub_cancel_left]
  refine ⟨G, rfl, ⟨⟨?_, ⟨?_, ?_⟩, ⟨?_, ?_⟩, ?_⟩, ?_, ?_, ?_⟩, ?_, a900, rfl, fun j => i32_t (xs j)⟩
  · intro i j h1 h2 h3 h4 e
    have e : adW s ext i = adW s ext j := e
    rw [adW_in ⟨h1, h2⟩, adW_in ⟨h3, h4⟩] at e
    omega
  · exact fun k q hq => hdI k q hq
  · intro k q hq
    match k, hq with
    | 0, hq => cases hq; exact ⟨fun n z => ⟨fun k h => (by cases h), kI, i2, compI, i3⟩, i1⟩
    | 1, hq => cases hq; exact ⟨fun n z => ⟨fun k h => (by cases h), kZ, z2, compZ, z3⟩, z1⟩
    | 2, hq => cases hq; exact ⟨fun n z => ⟨fun k h => (by cases h), kS, s3, compS, s4⟩, kS, compS, s3, s4, s1, s5⟩
    | k + 3, hq => simp [tysO] at hq
  · intro i q hq
    have hi : i < NS := by have := (List.getElem?_eq_some_iff.mp hq).1; exact this
    rw [aS i hi]
    have e9 : tmS i = Term.string q.1 q.2.1 := by unfold tmS; rw [hq]
    have h1 := (hsa i hi).1
    rw [e9] at h1
    exact vk_R.of (hts _ (strR i hi q hq)) h1
  · exact fun q hq => va_Nw.of rfl (hts _ (nest_in q hq))
  · refine ⟨⟨?_, ?_⟩, ⟨?_, ?_⟩, ⟨?_, ?_⟩, ?_, Z4.narrow hGA, Z5.narrow hGA, ?_⟩
    · rw [a901]; exact Z1.narrow hGA
    · rw [a901]; exact T1.narrow hGA
    · rw [a902]; exact Z2.narrow hGA
    · rw [a902]; exact T2.narrow hGA
    · rw [a903]; exact Z3.narrow hGA
    · rw [a903]; exact T3.narrow hGA
    · rw [a900]
      obtain ⟨scr, g1, g2, g3, g4, g5⟩ := hX
      refine ⟨scr, g1, g2, g3, by rw [g4]; exact Nat.le_refl _, by rw [g4], fun j hj => ?_, fun z => absurd (hGA b z) (hA b hbl)⟩
      rw [g5 j hj]
      show some (Value.int (xs j)) = some (Value.int (Int32.ofInt (xs j).toInt))
      rw [o_t32]
    · intro i hi
      obtain ⟨-, h2, h3, h4, h5⟩ := hsa i hi
      unfold stE
      rw [aS i hi, aV i hi]
      exact ⟨h2.narrow hGA, h3.narrow hGA, h4.narrow hGA, h5.narrow hGA⟩
  · intro k h1 h2
    show adW s ext k = adW s ext 1 + (k - 1)
    rw [adW_in ⟨h1, h2⟩, adW_in ⟨by omega, by omega⟩]
    omega
  · exact fun q hq => va_Nw.of rfl (hts _ (nestC_in q hq))
  · exact va_AO.of (hts _ ao_in)
  · show adW s ext 1 = s.heap.size
    rw [adW_in ⟨by omega, by omega⟩]
    omega
