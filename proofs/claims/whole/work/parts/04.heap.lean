/-! rows of the abstract machine: fields and arrays -/
def cOK (k ci N j r : Nat) : Bool := Nat.ble 1 k && Nat.ble k NC && Nat.beq (kd k) ci && Nat.blt ci 20 && Nat.beq (sz k) N && Nat.beq (rf k j) r && Nat.blt j N
def aOK (k kn N : Nat) : Bool := Nat.ble 1 k && Nat.ble k NC && Nat.beq (kd k) kn && Nat.beq (sz k) N
def CLS (ci : Nat) (C : String) (T : u_T) (N : Nat) (ty : Nat → FieldType) : Prop := classes[ci]? = some (C, T, N) ∧ (∀ w ∈ u_ws C T N, w ∈ TB) ∧ (∀ k, k < N → parseFieldDescriptor (T k).2.2.1 = some (ty k)) ∧ ∀ a, a < N → ∀ b, b < N → a ≠ b → (T a).2.1 ≠ (T b).2.1
def FLK (own : String) (idx : Nat) (T : u_T) (j : Nat) : Prop := Cond.fieldLink own idx (T j).1 (T j).2.1 (T j).2.2.1 ∈ TB
theorem cOK.s {k ci N j r : Nat} (h : cOK k ci N j r = true) : 1 ≤ k ∧ k ≤ NC ∧ kd k = ci ∧ ci < 20 ∧ sz k = N ∧ rf k j = r ∧ j < N := by
  simp only [cOK, Bool.and_eq_true] at h
  obtain ⟨⟨⟨⟨⟨⟨h1, h2⟩, h3⟩, h4⟩, h5⟩, h6⟩, h7⟩ := h
  exact ⟨Nat.le_of_ble_eq_true h1, Nat.le_of_ble_eq_true h2, Nat.eq_of_beq_eq_true h3, Nat.lt_of_succ_le (Nat.le_of_ble_eq_true h4), Nat.eq_of_beq_eq_true h5, Nat.eq_of_beq_eq_true h6, Nat.lt_of_succ_le (Nat.le_of_ble_eq_true h7)⟩
theorem aOK.s {k kn N : Nat} (h : aOK k kn N = true) : 1 ≤ k ∧ k ≤ NC ∧ kd k = kn ∧ sz k = N := by
  simp only [aOK, Bool.and_eq_true] at h
  obtain ⟨⟨⟨h1, h2⟩, h3⟩, h4⟩ := h
  exact ⟨Nat.le_of_ble_eq_true h1, Nat.le_of_ble_eq_true h2, Nat.eq_of_beq_eq_true h3, Nat.eq_of_beq_eq_true h4⟩
theorem ws_at {G : GG} {h : Hp} {k : Nat} (h1 : 1 ≤ k) (h2 : k ≤ NC) : (wsO G h)[k - 1]? = some (G.2.2.1 k, entO G h k) := by
  have : k - 1 < NC := by omega
  simp [wsO, List.getElem?_range, this, Nat.sub_add_cancel h1]
theorem ent_congr {G : GG} {h h' : Hp} {k : Nat} (e : h' k = h k) : entO G h' k = entO G h k := by simp [entO, fldO, e]
theorem ws_set {G : GG} {h h' : Hp} {k : Nat} (h1 : 1 ≤ k) (h2 : k ≤ NC) (hh : ∀ k', k' ≠ k → h' k' = h k') : (wsO G h).set (k - 1) (G.2.2.1 k, entO G h' k) = wsO G h' := by
  apply List.ext_getElem?
  intro i
  rw [List.getElem?_set]
  by_cases e : k - 1 = i
  · subst e
    have hl : k - 1 < (wsO G h).length := by simp [wsO]; omega
    rw [if_pos rfl, if_pos hl, ws_at h1 h2]
  · rw [if_neg e]
    simp only [wsO, List.getElem?_map]
    cases hr : (List.range NC)[i]? with
    | none => rfl
    | some j =>
      have hj : j = i := by
        rw [List.getElem?_range (by have := (List.getElem?_eq_some_iff.mp hr).1; simpa using this)] at hr
        exact (Option.some.inj hr).symm
      subst hj
      simp only [Option.map_some]
      rw [ent_congr (hh (j + 1) (by omega))]
theorem ws_D {G : GG} {h : Hp} (g : GOK G) : va_D (GA G) (wsO G h) := by
  have key : ∀ (i : Nat) (p : Nat × va_E), (wsO G h)[i]? = some p → i < NC ∧ p.1 = G.2.2.1 (i + 1) := by
    intro i p hp
    have hi : i < NC := by have := (List.getElem?_eq_some_iff.mp hp).1; simpa [wsO] using this
    have := ws_at (G := G) (h := h) (k := i + 1) (by omega) (by omega)
    rw [Nat.add_sub_cancel, hp] at this
    exact ⟨hi, by rw [Option.some.inj this]⟩
  refine ⟨fun i j p q hp hq e => ?_, fun k q hq => ?_⟩
  · obtain ⟨a1, a2⟩ := key i p hp
    obtain ⟨b1, b2⟩ := key j q hq
    rw [a2, b2] at e
    have := g (i + 1) (j + 1) (by omega) (by omega) (by omega) (by omega) e
    omega
  · obtain ⟨a1, a2⟩ := key k q hq
    exact ⟨k + 1, by omega, by omega, a2⟩
theorem up_ne {h : Hp} {k : Nat} {i v : Int} {k' : Nat} (e : k' ≠ k) : up h k i v k' = h k' := by funext j; simp [up, e]
theorem up_eq {h : Hp} {k : Nat} {i v : Int} : up h k i v k i = v := by simp [up]
theorem up_nei {h : Hp} {k k' : Nat} {i i' v : Int} (e : i' ≠ i) : up h k i v k' i' = h k' i' := by simp [up, e]
theorem ent_obj {G : GG} {h : Hp} {k : Nat} (e : kd k < 20) : entO G h k = .inr (kd k, fldO G h k) := by simp [entO, e]
theorem ent_arr {G : GG} {h : Hp} {k kn : Nat} (e : kd k = kn) (h1 : ¬ kn < 20) (h2 : kn ≠ 22) : entO G h k = .inl (G.2.2.2.1 kn, sz k, .inl (fun j => Int32.ofInt (h k j))) := by simp [entO, e, h1, h2]
theorem ent_str {G : GG} {h : Hp} {k : Nat} (e : kd k = 22) : entO G h k = .inl (G.2.2.2.1 22, sz k, .inr (.inr (.inr (.inr (fun j => some (G.2.2.1 (rf k j))))))) := by simp [entO, e]
theorem fld_at {G : GG} {h : Hp} {k j : Nat} (hj : j < sz k) : (fldO G h k)[j]? = some (if rf k j = 0 then .int (Int32.ofInt (h k j)) else .ref (G.2.2.1 (rf k j))) := by
  simp [fldO, List.getElem?_range, hj]
theorem okH_up {h : Hp} {k : Nat} {i v : Int} (o : okH h) (hv : i32 v) (hz : kd k = 21 → v = 0 ∨ v = 1) : okH (up h k i v) := by
  intro k' hk' i' h0 h1
  unfold up
  by_cases e : k' = k ∧ i' = i
  · rw [if_pos e]
    exact ⟨hv, fun z => hz (by rw [← e.1]; exact z)⟩
  · rw [if_neg e]
    exact o k' hk' i' h0 h1
theorem o_clamp {i : Int} (h0 : 0 ≤ i) (h1 : i ≤ 2147483647) : ((Int32.ofInt i).toNatClampNeg : Int) = i := by
  show (((Int32.ofInt i).toInt.toNat : Nat) : Int) = i
  rw [t_o32 ⟨by omega, h1⟩]
  omega
theorem o_in {i : Int} {n : Nat} (h0 : 0 ≤ i) (h1 : i < n) (h2 : i ≤ 2147483647) : vp_in (Int32.ofInt i) n := by
  rw [vp_in_iff, t_o32 ⟨by omega, h2⟩]
  exact ⟨h0, h1⟩
theorem nar_z {v : Int} (h : v = 0 ∨ v = 1) : narrow .boolean (.int (Int32.ofInt v)) = .int (Int32.ofInt v) ∧ fits .boolean (.int (Int32.ofInt v)) = true := by
  rcases h with rfl | rfl <;> decide
section RowsB
variable {G : GG} {M : MD} {R : Room} {cs sl : Nat} {QF : List Frame → Array Value → State → State → Prop} {pc : Nat} {ls : List (Nat × AV)} {st : List AV} {h : Hp}
theorem a_geti {k j ci N idx : Nat} {C : String} {T : u_T} {ty : Nat → FieldType} (hd : decode M.2.1 pc = .ok (.getfield idx, 3)) (hc : CLS ci C T N ty) (hf : FLK M.1.cls idx T j) (hk : cOK k ci N j 0 = true) (kk : ATW G M R cs sl QF (pc + 3) ls (iv (h k j) :: st) h) : ATW G M R cs sl QF pc ls (rv k :: st) h := by
  intro p e s m args below meth c H locs lc C K P S L ol os
  obtain ⟨k1, k2, k3, k4, k5, k6, k7⟩ := cOK.s hk
  have he := ws_at (G := G) (h := h) k1 k2
  rw [ent_obj (by omega)] at he
  have hv := fld_at (G := G) (h := h) (k := k) (j := j) (by omega)
  rw [if_pos k6] at hv
  rw [List.map_cons, cv_ref (by omega : 0 < k)]
  exact va_get C.1 C.2.1 C.2.2.2.2.1 hc.2.1 C.2.2.2.1 K.2.1 P.1 (k - 1) he (by rw [k3]; exact hc.1) j k7 (C.2.2.2.2.1 _ hf) (fun _ z => z) hv hd (kk p e s m args below meth c H locs lc C K P S L ol (ok_cons ((P.2 k k2 j (by omega) (by omega)).1) (ok_tl os)))
theorem a_getr {k j ci N idx r : Nat} {C : String} {T : u_T} {ty : Nat → FieldType} (hd : decode M.2.1 pc = .ok (.getfield idx, 3)) (hc : CLS ci C T N ty) (hf : FLK M.1.cls idx T j) (hk : cOK k ci N j (r + 1) = true) (kk : ATW G M R cs sl QF (pc + 3) ls (rv (r + 1) :: st) h) : ATW G M R cs sl QF pc ls (rv k :: st) h := by
  intro p e s m args below meth c H locs lc C K P S L ol os
  obtain ⟨k1, k2, k3, k4, k5, k6, k7⟩ := cOK.s hk
  have he := ws_at (G := G) (h := h) k1 k2
  rw [ent_obj (by omega)] at he
  have hv := fld_at (G := G) (h := h) (k := k) (j := j) (by omega)
  rw [if_neg (by omega), k6] at hv
  rw [List.map_cons, cv_ref (by omega : 0 < k)]
  exact va_get C.1 C.2.1 C.2.2.2.2.1 hc.2.1 C.2.2.2.1 K.2.1 P.1 (k - 1) he (by rw [k3]; exact hc.1) j k7 (C.2.2.2.2.1 _ hf) (fun _ z => z) hv hd (kk p e s m args below meth c H locs lc C K P S L ol (ok_cons trivial (ok_tl os)))
theorem fld_set {G : GG} {h : Hp} {k j : Nat} {v : Int} (hj : j < sz k) (hr : rf k j = 0) : (fldO G h k).set j (.int (Int32.ofInt v)) = fldO G (up h k j v) k := by
  apply List.ext_getElem?
  intro i
  rw [List.getElem?_set]
  by_cases e : j = i
  · subst e
    rw [if_pos rfl, if_pos (by simp [fldO]; exact hj), fld_at hj, if_pos hr, up_eq]
  · rw [if_neg e]
    by_cases hi : i < sz k
    · rw [fld_at hi, fld_at hi, up_nei (by omega)]
    · rw [List.getElem?_eq_none (by simp [fldO]; omega), List.getElem?_eq_none (by simp [fldO]; omega)]
theorem a_put {k j ci N idx : Nat} {v : Int} {C : String} {T : u_T} {ty : Nat → FieldType} (hd : decode M.2.1 pc = .ok (.putfield idx, 3)) (hc : CLS ci C T N ty) (hf : FLK M.1.cls idx T j) (hk : cOK k ci N j 0 = true) (hfin : (T j).2.2.2 = false) (hn : narrow (ty j) (.int (Int32.ofInt v)) = .int (Int32.ofInt v)) (hfit : fits (ty j) (.int (Int32.ofInt v)) = true) (kk : ATW G M R cs sl QF (pc + 3) ls st (up h k j v)) : ATW G M R cs sl QF pc ls (iv v :: rv k :: st) h := by
  intro p e s m args below meth c H locs lc C K P S L ol os
  obtain ⟨k1, k2, k3, k4, k5, k6, k7⟩ := cOK.s hk
  have he := ws_at (G := G) (h := h) k1 k2
  rw [ent_obj (by omega)] at he
  have hvv : i32 v := ok_hd os
  rw [List.map_cons, List.map_cons, cv_ref (by omega : 0 < k)]
  refine va_put C.1 C.2.1 C.2.2.2.2.1 hc.2.1 ty hc.2.2.1 hc.2.2.2 C.2.2.2.1 K.2.1 P.1 (ws_D K.1) S (k - 1) he (by rw [k3]; exact hc.1) j k7 (C.2.2.2.2.1 _ hf) (fun _ z => z) hfin (hc.2.2.1 j k7) hn hfit (by simp [fldO]; omega) hd fun H1 locs1 P1 _ S1 => ?_
  refine kk p e s m args below meth c H1 locs1 lc C K ⟨?_, okH_up P.2 hvv (by omega)⟩ S1 L ol (ok_tl (ok_tl os))
  rw [show cv G (iv v) = .int (Int32.ofInt v) from rfl, fld_set (by omega) k6, show (Sum.inr (kd k, fldO G (up h k j v) k) : va_E) = entO G (up h k j v) k from (ent_obj (by omega)).symm, ws_set k1 k2 (fun k' hk' => up_ne hk')] at P1
  exact P1
theorem a_puti {k j ci N idx : Nat} {v : Int} {C : String} {T : u_T} {ty : Nat → FieldType} (hd : decode M.2.1 pc = .ok (.putfield idx, 3)) (hc : CLS ci C T N ty) (hf : FLK M.1.cls idx T j) (hk : cOK k ci N j 0 = true) (hfin : (T j).2.2.2 = false) (hty : ty j = .int) (kk : ATW G M R cs sl QF (pc + 3) ls st (up h k j v)) : ATW G M R cs sl QF pc ls (iv v :: rv k :: st) h :=
  a_put hd hc hf hk hfin (by rw [hty]; rfl) (by rw [hty]; rfl) kk
theorem a_putz {k j ci N idx : Nat} {v : Int} {C : String} {T : u_T} {ty : Nat → FieldType} (hd : decode M.2.1 pc = .ok (.putfield idx, 3)) (hc : CLS ci C T N ty) (hf : FLK M.1.cls idx T j) (hk : cOK k ci N j 0 = true) (hfin : (T j).2.2.2 = false) (hty : ty j = .boolean) (kk : (v = 0 ∨ v = 1) ∧ ATW G M R cs sl QF (pc + 3) ls st (up h k j v)) : ATW G M R cs sl QF pc ls (iv v :: rv k :: st) h :=
  a_put hd hc hf hk hfin (by rw [hty]; exact (nar_z kk.1).1) (by rw [hty]; exact (nar_z kk.1).2) kk.2
theorem sz_ub {k : Nat} (hk : k ≤ NC) : sz k ≤ 2000 := by
  have : ∀ k, k ≤ NC → sz k ≤ 2000 := by decide +kernel
  exact this k hk
theorem a_iald {k N : Nat} {i : Int} (hd : decode M.2.1 pc = .ok (.iaload, 1)) (hk : aOK k 20 N = true) (kk : (0 ≤ i ∧ i < N) ∧ ATW G M R cs sl QF (pc + 1) ls (iv (h k i) :: st) h) : ATW G M R cs sl QF pc ls (iv i :: rv k :: st) h := by
  intro p e s m args below meth c H locs lc C K P S L ol os
  obtain ⟨k1, k2, k3, k4⟩ := aOK.s hk
  have hi : i32 i := ok_hd os
  have he := ws_at (G := G) (h := h) k1 k2
  rw [ent_arr k3 (by omega) (by omega)] at he
  obtain ⟨⟨b0, b1⟩, kk⟩ := kk
  rw [List.map_cons, List.map_cons, cv_ref (by omega : 0 < k)]
  refine va_iald C.1 C.2.1 K.2.1 P.1 (k - 1) 0 he rfl (o_in b0 (by omega) hi.2) hd ?_
  have := kk p e s m args below meth c H locs lc C K P S L ol (ok_cons ((P.2 k k2 i b0 (by omega)).1) (ok_tl (ok_tl os)))
  rw [← o_clamp b0 hi.2] at this
  exact this
theorem a_zald {k N : Nat} {i : Int} (hd : decode M.2.1 pc = .ok (.baload, 1)) (hk : aOK k 21 N = true) (kk : (0 ≤ i ∧ i < N) ∧ ATW G M R cs sl QF (pc + 1) ls (iv (h k i) :: st) h) : ATW G M R cs sl QF pc ls (iv i :: rv k :: st) h := by
  intro p e s m args below meth c H locs lc C K P S L ol os
  obtain ⟨k1, k2, k3, k4⟩ := aOK.s hk
  have hi : i32 i := ok_hd os
  have he := ws_at (G := G) (h := h) k1 k2
  rw [ent_arr k3 (by omega) (by omega)] at he
  obtain ⟨⟨b0, b1⟩, kk⟩ := kk
  rw [List.map_cons, List.map_cons, cv_ref (by omega : 0 < k)]
  refine va_zald C.1 C.2.1 K.2.1 P.1 (k - 1) 1 he rfl (o_in b0 (by omega) hi.2) hd ?_
  have := kk p e s m args below meth c H locs lc C K P S L ol (ok_cons ((P.2 k k2 i b0 (by omega)).1) (ok_tl (ok_tl os)))
  rw [← o_clamp b0 hi.2] at this
  exact this
theorem arr_upd {h : Hp} {k : Nat} {i v : Int} (b0 : 0 ≤ i) (b1 : i ≤ 2147483647) : (upd (fun j : Nat => Int32.ofInt (h k j)) (Int32.ofInt i).toNatClampNeg (Int32.ofInt v)) = fun j : Nat => Int32.ofInt (up h k i v k j) := by
  funext j
  have e := o_clamp b0 b1
  unfold upd up
  by_cases hj : j = (Int32.ofInt i).toNatClampNeg
  · rw [if_pos hj, if_pos ⟨rfl, by omega⟩]
  · rw [if_neg hj, if_neg (by omega)]
theorem a_iast {k N : Nat} {i v : Int} (hd : decode M.2.1 pc = .ok (.iastore, 1)) (hk : aOK k 20 N = true) (kk : (0 ≤ i ∧ i < N) ∧ ATW G M R cs sl QF (pc + 1) ls st (up h k i v)) : ATW G M R cs sl QF pc ls (iv v :: iv i :: rv k :: st) h := by
  intro p e s m args below meth c H locs lc C K P S L ol os
  obtain ⟨k1, k2, k3, k4⟩ := aOK.s hk
  have hv : i32 v := ok_hd os
  have hi : i32 i := ok_hd (ok_tl os)
  have he := ws_at (G := G) (h := h) k1 k2
  rw [ent_arr k3 (by omega) (by omega)] at he
  obtain ⟨⟨b0, b1⟩, kk⟩ := kk
  rw [List.map_cons, List.map_cons, List.map_cons, cv_ref (by omega : 0 < k)]
  refine va_iast C.1 C.2.1 K.2.1 P.1 (ws_D K.1) S (k - 1) 0 he rfl (o_in b0 (by omega) hi.2) hd fun H1 locs1 P1 _ S1 => ?_
  refine kk p e s m args below meth c H1 locs1 lc C K ⟨?_, okH_up P.2 hv (by omega)⟩ S1 L ol (ok_tl (ok_tl (ok_tl os)))
  rw [arr_upd b0 hi.2, show (Sum.inl (G.2.2.2.1 20, sz k, .inl (fun j : Nat => Int32.ofInt (up h k i v k j))) : va_E) = entO G (up h k i v) k from (ent_arr k3 (by omega) (by omega)).symm, ws_set k1 k2 (fun k' hk' => up_ne hk')] at P1
  exact P1
theorem nar_zz {v : Int} (h : v = 0 ∨ v = 1) : vp_nar .boolean (Int32.ofInt v) = Int32.ofInt v := by
  rcases h with rfl | rfl <;> decide
theorem a_zast {k N : Nat} {i v : Int} (hd : decode M.2.1 pc = .ok (.bastore, 1)) (hk : aOK k 21 N = true) (kk : (0 ≤ i ∧ i < N) ∧ (v = 0 ∨ v = 1) ∧ ATW G M R cs sl QF (pc + 1) ls st (up h k i v)) : ATW G M R cs sl QF pc ls (iv v :: iv i :: rv k :: st) h := by
  intro p e s m args below meth c H locs lc C K P S L ol os
  obtain ⟨k1, k2, k3, k4⟩ := aOK.s hk
  have hv : i32 v := ok_hd os
  have hi : i32 i := ok_hd (ok_tl os)
  have he := ws_at (G := G) (h := h) k1 k2
  rw [ent_arr k3 (by omega) (by omega)] at he
  obtain ⟨⟨b0, b1⟩, bz, kk⟩ := kk
  rw [List.map_cons, List.map_cons, List.map_cons, cv_ref (by omega : 0 < k)]
  refine va_zast C.1 C.2.1 K.2.1 P.1 (ws_D K.1) S (k - 1) 1 he rfl (o_in b0 (by omega) hi.2) hd fun H1 locs1 P1 _ S1 => ?_
  refine kk p e s m args below meth c H1 locs1 lc C K ⟨?_, okH_up P.2 hv (fun _ => bz)⟩ S1 L ol (ok_tl (ok_tl (ok_tl os)))
  rw [nar_zz bz, arr_upd b0 hi.2, show (Sum.inl (G.2.2.2.1 21, sz k, .inl (fun j : Nat => Int32.ofInt (up h k i v k j))) : va_E) = entO G (up h k i v) k from (ent_arr k3 (by omega) (by omega)).symm, ws_set k1 k2 (fun k' hk' => up_ne hk')] at P1
  exact P1
theorem a_alen {k kn N : Nat} (hd : decode M.2.1 pc = .ok (.arraylength, 1)) (hk : aOK k kn N = true) (hkn : kn = 20 ∨ kn = 21 ∨ kn = 22) (kk : ATW G M R cs sl QF (pc + 1) ls (iv N :: st) h) : ATW G M R cs sl QF pc ls (rv k :: st) h := by
  intro p e s m args below meth c H locs lc C K P S L ol os
  obtain ⟨k1, k2, k3, k4⟩ := aOK.s hk
  have hz := sz_ub k2
  have he := ws_at (G := G) (h := h) k1 k2
  have k' := kk p e s m args below meth c H locs lc C K P S L ol (ok_cons ⟨by omega, by omega⟩ (ok_tl os))
  rw [List.map_cons, cv_ref (by omega : 0 < k)]
  have e2 : Int32.ofNat N = Int32.ofInt N := (Int32.ofInt_eq_ofNat (n := N)).symm
  rcases hkn with rfl | rfl | rfl
  · rw [ent_arr k3 (by omega) (by omega)] at he
    exact va_alen C.1 C.2.1 K.2.1 P.1 (k - 1) 0 he rfl (by rw [k4]; exact e2) hd k'
  · rw [ent_arr k3 (by omega) (by omega)] at he
    exact va_alen C.1 C.2.1 K.2.1 P.1 (k - 1) 1 he rfl (by rw [k4]; exact e2) hd k'
  · rw [ent_str k3] at he
    exact va_alen C.1 C.2.1 K.2.1 P.1 (k - 1) 2 he rfl (by rw [k4]; exact e2) hd k'
theorem a_aald {k N : Nat} {i : Int} (hd : decode M.2.1 pc = .ok (.aaload, 1)) (hk : aOK k 22 N = true) (hr : ∀ j, j < N → 0 < rf k j) (kk : (0 ≤ i ∧ i < N) ∧ ATW G M R cs sl QF (pc + 1) ls (rv (rf k i.toNat) :: st) h) : ATW G M R cs sl QF pc ls (iv i :: rv k :: st) h := by
  intro p e s m args below meth c H locs lc C K P S L ol os
  obtain ⟨k1, k2, k3, k4⟩ := aOK.s hk
  have hi : i32 i := ok_hd os
  have he := ws_at (G := G) (h := h) k1 k2
  rw [ent_str k3] at he
  obtain ⟨⟨b0, b1⟩, kk⟩ := kk
  rw [List.map_cons, List.map_cons, cv_ref (by omega : 0 < k)]
  refine va_aldq C.1 C.2.1 K.2.1 P.1 (k - 1) 2 he rfl (o_in b0 (by omega) hi.2) hd ?_
  have := kk p e s m args below meth c H locs lc C K P S L ol (ok_cons trivial (ok_tl (ok_tl os)))
  have e1 : i.toNat = (Int32.ofInt i).toNatClampNeg := by have := o_clamp b0 hi.2; omega
  rw [List.map_cons, cv_ref (hr _ (by omega)), e1] at this
  exact this
end RowsB
