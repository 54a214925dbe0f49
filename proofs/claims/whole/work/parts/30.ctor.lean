/-! CONSTRUCTORS: the phase in which the cells are made, one by one, in the order of their numbers -/
abbrev N3 : Type := Nat × (Nat → Nat → Nat) × Hp
def fldN (G : GG) (z : N3) (k : Nat) : List Value := (List.range (sz k)).map fun j => if rf k j = 0 then .int (Int32.ofInt (z.2.2 k j)) else if z.2.1 k j = 0 then .null else .ref (G.2.2.1 (z.2.1 k j))
def entN (G : GG) (z : N3) (k : Nat) : va_E :=
  if kd k < 20 then .inr (kd k, fldN G z k)
  else if kd k = 22 then .inl (G.2.2.2.1 22, sz k, .inr (.inr (.inr (.inr (fun j => if z.2.1 k j = 0 then none else some (G.2.2.1 (z.2.1 k j)))))))
  else .inl (G.2.2.2.1 (kd k), sz k, .inl (fun j => Int32.ofInt (z.2.2 k j)))
def wsN (G : GG) (z : N3) : va_W := (List.range z.1).map fun i => (G.2.2.1 (i + 1), entN G z (i + 1))
def NOK (G : GG) : Prop := ∀ k : Nat, 1 ≤ k → k ≤ NC → G.2.2.1 k = G.2.2.1 1 + (k - 1)
def UB (z : N3) : Prop := ∀ k : Nat, z.1 < k → (∀ j, z.2.1 k j = 0) ∧ ∀ i, z.2.2 k i = 0
def RN (G : GG) (z : N3) (H : Heap) : Prop := (z.1 ≤ NC ∧ UB z) ∧ H.size = G.2.2.1 1 + z.1 ∧ va_P G.2.1 classes (wsN G z) H ∧ okH z.2.2
/-- calls of private constructors of nested classes -/
def nestC : List (Nat × MethodName) := [(9, yX10_init), (37, yX1_init), (44, yX6_init), (51, yX8_init), (58, yX5_init), (65, yX4_init), (81, yX2_init), (88, yX7_init), (93, yX9_init)]
def NWC (U : State) : Prop := ∀ q ∈ nestC, va_Nw (.methodLinkNest RX11 q.1 q.2 "MissionHouse") U
def KN (G : GG) (U : State) : Prop := KX G U ∧ NOK G ∧ NWC U ∧ va_AO "java/lang/String" U
def NTW (G : GG) (M : MD) (R : Room) (cs sl : Nat) (QF : List Frame → Array Value → State → State → Prop) (pc : Nat) (ls : List (Nat × AV)) (st : List AV) (h : N3) : Prop :=
  ∀ (p : Program) (e : Env) (s : State) (m : MethodId) (args : Array Value) (below : List Frame) (meth : Method) (c : Code) (H : Heap) (locs : List Loc) (lc : Array Slot),
    (CX M p s m args meth c ∧ meth.name = M.1.name) → KN G s → RN G h H → va_S (GA G) s.heap H locs → lv_has lc M.2.2.1 (ls.map fun q => (q.1, cv G q.2)) → (∀ q ∈ ls, okV q.2) → (∀ v ∈ st, okV v) →
    W p G.1 e R s m args below meth c H locs cs sl (QF below args s) (F0 m pc lc (st.map (cv G)))
def upN (z : N3) (k j r : Nat) : N3 := (z.1, (fun k' j' => if k' = k ∧ j' = j then r else z.2.1 k' j'), z.2.2)
def setN (z : N3) (k : Nat) (i v : Int) : N3 := (z.1, z.2.1, up z.2.2 k i v)
def newN (z : N3) : N3 := (z.1 + 1, z.2)
section RowsN
variable {G : GG} {M : MD} {R : Room} {cs sl : Nat} {QF : List Frame → Array Value → State → State → Prop} {pc : Nat} {ls : List (Nat × AV)} {st : List AV} {h : N3}
theorem n_iconst {n : Int} (hd : decode M.2.1 pc = .ok (.iconst n, 1)) (hn : i32 n) (k : NTW G M R cs sl QF (pc + 1) ls (iv n :: st) h) : NTW G M R cs sl QF pc ls st h := by
  intro p e s m args below meth c H locs lc C K P S L ol os
  exact lv_iconst C.1.1 C.1.2.1 hd rfl (k p e s m args below meth c H locs lc C K P S L ol (ok_cons hn os))
theorem n_bipush {n : Int} (hd : decode M.2.1 pc = .ok (.bipush n, 2)) (hn : i32 n) (hv : (Int8.ofInt n).toInt32 = Int32.ofInt n) (k : NTW G M R cs sl QF (pc + 2) ls (iv n :: st) h) : NTW G M R cs sl QF pc ls st h := by
  intro p e s m args below meth c H locs lc C K P S L ol os
  exact lv_bipush C.1.1 C.1.2.1 hd hv (k p e s m args below meth c H locs lc C K P S L ol (ok_cons hn os))
theorem n_sipush {n : Int} (hd : decode M.2.1 pc = .ok (.sipush n, 3)) (hn : i32 n) (hv : (Int16.ofInt n).toInt32 = Int32.ofInt n) (k : NTW G M R cs sl QF (pc + 3) ls (iv n :: st) h) : NTW G M R cs sl QF pc ls st h := by
  intro p e s m args below meth c H locs lc C K P S L ol os
  exact lv_sipush C.1.1 C.1.2.1 hd hv (k p e s m args below meth c H locs lc C K P S L ol (ok_cons hn os))
theorem n_iload_n {j : Fin 4} {x : Int} (hd : decode M.2.1 pc = .ok (.iload_n j, 1)) (hg : lget ls j = some (iv x)) (k : NTW G M R cs sl QF (pc + 1) ls (iv x :: st) h) : NTW G M R cs sl QF pc ls st h := by
  intro p e s m args below meth c H locs lc C K P S L ol os
  exact lv_iload_n C.1.1 C.1.2.1 hd rfl (lget_at L hg) (k p e s m args below meth c H locs lc C K P S L ol (ok_cons (lget_ok ol hg) os))
theorem n_iload {j : Nat} {x : Int} (hd : decode M.2.1 pc = .ok (.iload j, 2)) (hg : lget ls j = some (iv x)) (k : NTW G M R cs sl QF (pc + 2) ls (iv x :: st) h) : NTW G M R cs sl QF pc ls st h := by
  intro p e s m args below meth c H locs lc C K P S L ol os
  exact lv_iload C.1.1 C.1.2.1 hd (lget_at L hg) (k p e s m args below meth c H locs lc C K P S L ol (ok_cons (lget_ok ol hg) os))
theorem n_aload_n {j : Fin 4} {x : Nat} (hd : decode M.2.1 pc = .ok (.aload_n j, 1)) (hg : lget ls j = some (rv x)) (k : NTW G M R cs sl QF (pc + 1) ls (rv x :: st) h) : NTW G M R cs sl QF pc ls st h := by
  intro p e s m args below meth c H locs lc C K P S L ol os
  cases x with
  | zero => exact lv_aload_nN C.1.1 C.1.2.1 hd rfl (lget_at L hg) (k p e s m args below meth c H locs lc C K P S L ol (ok_cons trivial os))
  | succ x => exact lv_aload_n C.1.1 C.1.2.1 hd rfl (lget_at L hg) (k p e s m args below meth c H locs lc C K P S L ol (ok_cons trivial os))
theorem n_aload {j : Nat} {x : Nat} (hd : decode M.2.1 pc = .ok (.aload j, 2)) (hg : lget ls j = some (rv x)) (k : NTW G M R cs sl QF (pc + 2) ls (rv x :: st) h) : NTW G M R cs sl QF pc ls st h := by
  intro p e s m args below meth c H locs lc C K P S L ol os
  cases x with
  | zero => exact lv_aloadN C.1.1 C.1.2.1 hd (lget_at L hg) (k p e s m args below meth c H locs lc C K P S L ol (ok_cons trivial os))
  | succ x => exact lv_aload C.1.1 C.1.2.1 hd (lget_at L hg) (k p e s m args below meth c H locs lc C K P S L ol (ok_cons trivial os))
theorem n_istore_n {j : Fin 4} {x : Int} {ls' : List (Nat × AV)} (hd : decode M.2.1 pc = .ok (.istore_n j, 1)) (hj : (j : Nat) < M.2.2.1) (hJ : lnoJ ls = true) (hs : lset ls j (iv x) = ls') (k : NTW G M R cs sl QF (pc + 1) ls' st h) : NTW G M R cs sl QF pc ls (iv x :: st) h := by
  intro p e s m args below meth c H locs lc C K P S L ol os
  subst hs
  exact lv_istore_n C.1.1 C.1.2.1 hd rfl L hj rfl fun lc' L' => k p e s m args below meth c H locs lc' C K P S (lset_has hJ L') (lset_ok ol (ok_hd os)) (ok_tl os)
theorem n_iinc {j : Nat} {n x : Int} {ls' : List (Nat × AV)} (hd : decode M.2.1 pc = .ok (.iinc j n, 3)) (hj : j < M.2.2.1) (hJ : lnoJ ls = true) (hg : lget ls j = some (iv x)) (hs : lset ls j (iv (w32 (x + n))) = ls') (k : NTW G M R cs sl QF (pc + 3) ls' st h) : NTW G M R cs sl QF pc ls st h := by
  intro p e s m args below meth c H locs lc C K P S L ol os
  subst hs
  obtain ⟨i, hi⟩ := List.getElem?_of_mem (List.mem_map.mpr ⟨(j, iv x), lget_mem hg, rfl⟩ : (j, cv G (iv x)) ∈ ls.map fun q => (q.1, cv G q.2))
  exact lv_iinc (v := Int32.ofInt (w32 (x + n))) C.1.1 C.1.2.1 hd L hi (by rw [o_w32, Int32.ofInt_add]) hj rfl fun lc' L' => k p e s m args below meth c H locs lc' C K P S (lset_has (v := iv (w32 (x + n))) hJ L') (lset_ok ol (i32_w _)) os
theorem n_dup {v : AV} (hd : decode M.2.1 pc = .ok (.dup, 1)) (hc : catA v = 1) (k : NTW G M R cs sl QF (pc + 1) ls (v :: v :: st) h) : NTW G M R cs sl QF pc ls (v :: st) h := by
  intro p e s m args below meth c H locs lc C K P S L ol os
  have hc' : (cv G v).category = 1 := by
    rcases v with x | n | x
    · rfl
    · cases n <;> rfl
    · cases hc
  exact lv_dup C.1.1 C.1.2.1 hd hc' (k p e s m args below meth c H locs lc C K P S L ol (ok_cons (ok_hd os) os))
theorem n_goto {off : Int} {tgt : Nat} (hd : decode M.2.1 pc = .ok (.goto off, 3)) (ht : (pc : Int) + off = (tgt : Int)) (k : NTW G M R cs sl QF tgt ls st h) : NTW G M R cs sl QF pc ls st h := by
  intro p e s m args below meth c H locs lc C K P S L ol os
  exact lv_goto C.1.1 C.1.2.1 hd ht (k p e s m args below meth c H locs lc C K P S L ol os)

theorem n_icmp_ge {x y : Int} {off : Int} {tgt : Nat} (hd : decode M.2.1 pc = .ok (.if_icmp .ge off, 3)) (ht : (pc : Int) + off = (tgt : Int)) (k : (y ≤ x → NTW G M R cs sl QF tgt ls st h) ∧ (x < y → NTW G M R cs sl QF (pc + 3) ls st h)) : NTW G M R cs sl QF pc ls (iv y :: iv x :: st) h := by
  intro p e s m args below meth c H locs lc C K P S L ol os
  have hx : i32 x := ok_hd (ok_tl os)
  have hy : i32 y := ok_hd os
  exact lv_icmp_ge C.1.1 C.1.2.1 hd ht (fun q => k.1 ((o_le hy hx).mp q) p e s m args below meth c H locs lc C K P S L ol (ok_tl (ok_tl os))) (fun q => k.2 (Int.not_le.mp fun z => q ((o_le hy hx).mpr z)) p e s m args below meth c H locs lc C K P S L ol (ok_tl (ok_tl os)))
theorem n_ldcS {idx i : Nat} {tx : String} (hd : decode M.2.1 pc = .ok (.ldc idx, 2)) (hs : strT[i]? = some (M.1.cls, idx, tx)) (k : NTW G M R cs sl QF (pc + 2) ls (rv (1000 + i) :: st) h) : NTW G M R cs sl QF pc ls st h := by
  intro p e s m args below meth c H locs lc C K P S L ol os
  have k' := k p e s m args below meth c H locs lc C K P S L ol (ok_cons trivial os)
  rw [List.map_cons, cv_ref (by omega : 0 < 1000 + i)] at k'
  exact va_ldcS C.1.1 C.1.2.1 C.1.2.2.2.1 (K.1.2.2.1.1 i _ hs) hd k'
theorem wsN_at {z : N3} {k : Nat} (h1 : 1 ≤ k) (h2 : k ≤ z.1) : (wsN G z)[k - 1]? = some (G.2.2.1 k, entN G z k) := by
  have : k - 1 < z.1 := by omega
  simp [wsN, List.getElem?_range, this, Nat.sub_add_cancel h1]
theorem wsN_set {z z' : N3} {k : Nat} (h1 : 1 ≤ k) (h2 : k ≤ z.1) (hn : z'.1 = z.1) (hh : ∀ k', k' ≠ k → entN G z' k' = entN G z k') : (wsN G z).set (k - 1) (G.2.2.1 k, entN G z' k) = wsN G z' := by
  apply List.ext_getElem?
  intro i
  rw [List.getElem?_set]
  by_cases e : k - 1 = i
  · subst e
    have hl : k - 1 < (wsN G z).length := by simp [wsN]; omega
    rw [if_pos rfl, if_pos hl, wsN_at h1 (by omega)]
  · rw [if_neg e]
    simp only [wsN, List.getElem?_map, hn]
    cases hr : (List.range z.1)[i]? with
    | none => rfl
    | some j =>
      have hj : j = i := by
        rw [List.getElem?_range (by have := (List.getElem?_eq_some_iff.mp hr).1; simpa using this)] at hr
        exact (Option.some.inj hr).symm
      subst hj
      simp only [Option.map_some]
      rw [hh (j + 1) (by omega)]
theorem wsN_D {z : N3} (g : GOK G) (hz : z.1 ≤ NC) : va_D (GA G) (wsN G z) := by
  have key : ∀ (i : Nat) (p : Nat × va_E), (wsN G z)[i]? = some p → i < z.1 ∧ p.1 = G.2.2.1 (i + 1) := by
    intro i p hp
    have hi : i < z.1 := by have := (List.getElem?_eq_some_iff.mp hp).1; simpa [wsN] using this
    have := wsN_at (G := G) (z := z) (k := i + 1) (by omega) (by omega)
    rw [Nat.add_sub_cancel, hp] at this
    exact ⟨hi, by rw [Option.some.inj this]⟩
  refine ⟨fun i j p q hp hq e => ?_, fun k q hq => ?_⟩
  · obtain ⟨a1, a2⟩ := key i p hp
    obtain ⟨b1, b2⟩ := key j q hq
    rw [a2, b2] at e
    have := g (i + 1) (j + 1) (by omega) (by omega) (by omega) (by omega) e
    omega
  · obtain ⟨a1, a2⟩ := key k q hq
    exact ⟨k + 1, by omega, by omega, a2⟩
theorem wsN_new (z : N3) : wsN G (newN z) = wsN G z ++ [(G.2.2.1 (z.1 + 1), entN G z (z.1 + 1))] := by
  simp only [wsN, newN, List.range_succ, List.map_append, List.map_cons, List.map_nil]
  rfl
theorem UB_new {z : N3} (u : UB z) : UB (newN z) := fun k hk => u k (by unfold newN at hk; simp at hk; omega)
theorem UB_upN {z : N3} {k j r : Nat} (u : UB z) (hk : k ≤ z.1) : UB (upN z k j r) := fun k' h' => by
  have h' : z.1 < k' := h'
  refine ⟨fun j' => ?_, (u k' h').2⟩
  show (if k' = k ∧ j' = j then r else z.2.1 k' j') = 0
  rw [if_neg (by omega)]
  exact (u k' h').1 j'
theorem UB_setN {z : N3} {k : Nat} {i v : Int} (u : UB z) (hk : k ≤ z.1) : UB (setN z k i v) := fun k' h' => by
  have h' : z.1 < k' := h'
  refine ⟨(u k' h').1, fun i' => ?_⟩
  show up z.2.2 k i v k' i' = 0
  rw [up_ne (by omega)]
  exact (u k' h').2 i'
theorem ent_upN {z : N3} {k j r k' : Nat} (e : k' ≠ k) : entN G (upN z k j r) k' = entN G z k' := by simp [entN, fldN, upN, e]
theorem ent_setN {z : N3} {k : Nat} {i v : Int} {k' : Nat} (e : k' ≠ k) : entN G (setN z k i v) k' = entN G z k' := by
  have e1 : (setN z k i v).2.2 k' = z.2.2 k' := up_ne e
  have e2 : (setN z k i v).2.1 = z.2.1 := rfl
  unfold entN fldN
  rw [e1, e2]
theorem fldN_at {z : N3} {k j : Nat} (hj : j < sz k) : (fldN G z k)[j]? = some (if rf k j = 0 then .int (Int32.ofInt (z.2.2 k j)) else if z.2.1 k j = 0 then .null else .ref (G.2.2.1 (z.2.1 k j))) := by
  simp [fldN, List.getElem?_range, hj]
/-- a new cell is added to the world -/
theorem RN_new {z : N3} {H H1 : Heap} (K : NOK G) (P : RN G z H) (hz : z.1 + 1 ≤ NC) (e1 : H1.size = H.size + 1) (o1 : ∀ q, q < H.size → H1[q]? = H[q]?) (hat : va_at G.2.1 classes (G.2.2.1 (z.1 + 1), entN G z (z.1 + 1)) H1) : RN G (newN z) H1 := by
  obtain ⟨⟨a1, a2⟩, a3, a4, a5⟩ := P
  refine ⟨⟨hz, UB_new a2⟩, by rw [e1, a3]; rfl, ?_, a5⟩
  rw [wsN_new]
  refine va_P.app (a4.kept fun k x hx => o1 x.1 ((a4 k x hx).lt)) fun k x hx => ?_
  have hz : k < 1 := (List.getElem?_eq_some_iff.mp hx).1
  rw [show k = 0 by omega] at hx
  cases hx
  exact hat
theorem S_new {s : State} {H H1 : Heap} {locs : List Loc} (S : va_S (GA G) s.heap H locs) (e1 : H1.size = H.size + 1) (o1 : ∀ q, q < H.size → H1[q]? = H[q]?) : va_S (GA G) s.heap H1 locs :=
  ⟨Nat.le_trans S.1 (by omega), fun x h1 h2 => (o1 x (Nat.lt_of_lt_of_le h1 S.1)).trans (S.2.1 x h1 h2), S.2.2⟩
def CLN2 (own : String) (idx : Nat) (C : String) (N : Nat) : Prop := Cond.classLink own idx C ∈ TB ∧ Cond.instantiable C N ∈ TB ∧ Cond.initialized C ∈ TB
theorem n_new {idx ci N k : Nat} {C0 : String} {T : u_T} {ty : Nat → FieldType} (hd : decode M.2.1 pc = .ok (.new idx, 3)) (hw : CLN2 M.1.cls idx C0 N) (hc : CLS ci C0 T N ty) (hk : h.1 + 1 = k) (hkk : cOK k ci N 0 (rf k 0) = true) (hdf : ∀ j, j < N → defaultValue (ty j) = if rf k j = 0 then .int 0 else .null) (hr : cs + 1 ≤ R.cells ∧ sl + N ≤ R.slots)
    (kk : NTW G M R (cs + 1) (sl + N) QF (pc + 3) ls (rv k :: st) (newN h)) : NTW G M R cs sl QF pc ls st h := by
  intro p e s m args below meth c H locs lc C K P S L ol os
  obtain ⟨k1, k2, k3, k4, k5, k6, k7⟩ := cOK.s hkk
  subst hk
  have hKn := K.1.2.1.1 ci _ hc.1
  refine W.newcK C.1.1 C.1.2.1 C.1.2.2.2.1 (C.1.2.2.2.2.1 _ hw.1) (C.1.2.2.2.2.1 _ hw.2.1) (C.1.2.2.2.2.1 _ hw.2.2) rfl hd hr.1 hr.2 hKn.2.1 rfl fun H1 kC hkC e1 z1 o1 => ?_
  have had : H.size = G.2.2.1 (h.1 + 1) := by rw [P.2.1, K.2.1 (h.1 + 1) (by omega) k2]; omega
  have hat : va_at G.2.1 classes (G.2.2.1 (h.1 + 1), entN G h (h.1 + 1)) H1 := by
    rw [show entN G h (h.1 + 1) = .inr (ci, fldN G h (h.1 + 1)) by simp [entN, k3, k4]]
    refine ⟨_, hc.1, ?_⟩
    rw [← had]
    refine (u_born ty C.1.2.2.2.2.1 hc.2.1 hKn hkC e1 hc.2.2.1).to fun j hj => ?_
    rw [hdf j hj]
    have u := P.1.2 (h.1 + 1) (by omega)
    show _ = (fldN G h (h.1 + 1)).getD j .null
    rw [List.getD_eq_getElem?_getD, fldN_at (by omega), u.1, u.2]
    by_cases q : rf (h.1 + 1) j = 0
    · rw [if_pos q, if_pos q]; rfl
    · rw [if_neg q, if_neg q]; rfl
  have k' := kk p e s m args below meth c H1 locs lc C K (RN_new K.2.1 P k2 z1 o1 hat) (S_new S z1 o1) L ol (ok_cons trivial os)
  rw [List.map_cons, cv_ref (by omega : 0 < h.1 + 1), ← had] at k'
  exact k'
theorem n_newa {k N kn : Nat} {n : Int} {atype : ArrayType} (hd : decode M.2.1 pc = .ok (.newarray atype, 2)) (hw : Cond.arrayClass (newarray.typeOf atype) ∈ TB) (hat : (atype = .int ∧ kn = 20) ∨ (atype = .boolean ∧ kn = 21)) (hk : h.1 + 1 = k) (hkk : aOK k kn N = true) (hn : n = N) (hr : cs + 1 ≤ R.cells ∧ sl + N ≤ R.slots)
    (kk : NTW G M R (cs + 1) (sl + N) QF (pc + 2) ls (rv k :: st) (newN h)) : NTW G M R cs sl QF pc ls (iv n :: st) h := by
  intro p e s m args below meth c H locs lc C K P S L ol os
  obtain ⟨k1, k2, k3, k4⟩ := aOK.s hkk
  subst hk
  subst hn
  have hub := sz_ub k2
  have on : i32 (N : Int) := ok_hd os
  have cl := o_clamp (i := (N : Int)) (by omega) on.2
  have hb : N * componentBytes (newarray.typeOf atype) ≤ 536870912 := by
    rcases hat with ⟨rfl, -⟩ | ⟨rfl, -⟩
    · show N * 4 ≤ _; omega
    · show N * 1 ≤ _; omega
  refine va_newaK C.1.1 C.1.2.1 (C.1.2.2.2.2.1 _ hw) rfl hd rfl (fun q => ?_) (N := N) (by omega) hb hr.1 hr.2 rfl fun H1 cA e1 z1 o1 _ hNm => ?_
  · rw [show (0 : Int32) = Int32.ofInt 0 from rfl, o_lt on (by unfold i32; omega)] at q
    omega
  have had : H.size = G.2.2.1 (h.1 + 1) := by rw [P.2.1, K.2.1 (h.1 + 1) (by omega) k2]; omega
  have u := P.1.2 (h.1 + 1) (by omega)
  have hat2 : va_at G.2.1 classes (G.2.2.1 (h.1 + 1), entN G h (h.1 + 1)) H1 := by
    have e0 : entN G h (h.1 + 1) = .inl (G.2.2.2.1 kn, sz (h.1 + 1), .inl (fun j => Int32.ofInt (h.2.2 (h.1 + 1) j))) := by
      rcases hat with ⟨-, rfl⟩ | ⟨-, rfl⟩ <;> simp [entN, k3]
    rw [e0]
    show H1[G.2.2.1 (h.1 + 1)]? = some (vp_cell _ _)
    rw [← had, e1, k4, vp_cell_i]
    have ec : cA = G.2.2.2.1 kn := by
      rcases hat with ⟨rfl, rfl⟩ | ⟨rfl, rfl⟩
      · exact Option.some.inj (hNm.symm.trans (K.1.2.1.2 0 _ rfl).2)
      · exact Option.some.inj (hNm.symm.trans (K.1.2.1.2 1 _ rfl).2)
    rw [ec]
    congr 2
    funext j
    rw [u.2]
    rcases hat with ⟨rfl, -⟩ | ⟨rfl, -⟩ <;> rfl
  have k' := kk p e s m args below meth c H1 locs lc C K (RN_new K.2.1 P k2 z1 o1 hat2) (S_new S z1 o1) L ol (ok_cons trivial (ok_tl os))
  rw [List.map_cons, cv_ref (by omega : 0 < h.1 + 1), ← had] at k'
  exact k'
theorem n_newq {idx k N : Nat} {n : Int} (hd : decode M.2.1 pc = .ok (.anewarray idx, 3)) (hw : Cond.classLink M.1.cls idx "java/lang/String" ∈ TB) (hk : h.1 + 1 = k) (hkk : aOK k 22 N = true) (hn : n = N) (hr : cs + 1 ≤ R.cells ∧ sl + N ≤ R.slots)
    (kk : NTW G M R (cs + 1) (sl + N) QF (pc + 3) ls (rv k :: st) (newN h)) : NTW G M R cs sl QF pc ls (iv n :: st) h := by
  intro p e s m args below meth c H locs lc C K P S L ol os
  obtain ⟨k1, k2, k3, k4⟩ := aOK.s hkk
  subst hk
  subst hn
  have hub := sz_ub k2
  have on : i32 (N : Int) := ok_hd os
  have cl := o_clamp (i := (N : Int)) (by omega) on.2
  have cl2 : (Int32.ofInt (N : Int)).toNatClampNeg = N := by omega
  refine W.anew C.1.1 C.1.2.1 C.1.2.2.2.1 (C.1.2.2.2.2.1 _ hw) (va_AO.use K.2.2.2) rfl hd rfl (fun q => ?_) (by rw [cl2]; omega) hr.1 (by rw [cl2]; exact hr.2) fun cA kA comp f1 f2 f3 f4 => ?_
  · rw [show (0 : Int32) = Int32.ofInt 0 from rfl, o_lt on (by unfold i32; omega)] at q
    omega
  rw [cl2]
  generalize hH1 : H.push ({ cls := cA, slots := Array.replicate N .null, vm := .none } : Cell) = H1
  have z1 : H1.size = H.size + 1 := by rw [← hH1, Array.size_push]
  have e1 : H1[H.size]? = some (arrV cA N (fun _ => .null)) := by rw [← hH1, Array.getElem?_push_size, ← arrV_new]
  have o1 : ∀ q : Nat, q < H.size → H1[q]? = H[q]? := fun q hq => by rw [← hH1, Array.getElem?_push, if_neg (Nat.ne_of_lt hq)]
  have had : H.size = G.2.2.1 (h.1 + 1) := by rw [P.2.1, K.2.1 (h.1 + 1) (by omega) k2]; omega
  have u := P.1.2 (h.1 + 1) (by omega)
  have hat2 : va_at G.2.1 classes (G.2.2.1 (h.1 + 1), entN G h (h.1 + 1)) H1 := by
    have e0 : entN G h (h.1 + 1) = .inl (G.2.2.2.1 22, sz (h.1 + 1), .inr (.inr (.inr (.inr (fun j => if h.2.1 (h.1 + 1) j = 0 then none else some (G.2.2.1 (h.2.1 (h.1 + 1) j))))))) := by simp [entN, k3]
    rw [e0]
    show H1[G.2.2.1 (h.1 + 1)]? = some (vp_cell _ _)
    rw [← had, e1, k4, vp_cell_q]
    have ec : cA = G.2.2.2.1 22 := by
      obtain ⟨kA2, comp2, -, -, -, g4⟩ := (K.1.2.1.2 2 _ rfl).2
      exact Option.some.inj (f1.symm.trans g4)
    rw [ec]
    congr 2
    funext j
    rw [u.1]
    rfl
  have k' := kk p e s m args below meth c H1 locs lc C K (RN_new K.2.1 P k2 z1 o1 hat2) (S_new S z1 o1) L ol (ok_cons trivial (ok_tl os))
  rw [List.map_cons, cv_ref (by omega : 0 < h.1 + 1), ← had] at k'
  exact k'
/-- a field is set in a constructor: of any kind -/
theorem n_putw {k j ci N idx : Nat} {v : AV} {z' : N3} {C0 : String} {T : u_T} {ty : Nat → FieldType} (hd : decode M.2.1 pc = .ok (.putfield idx, 3)) (hc : CLS ci C0 T N ty) (hf : FLK M.1.cls idx T j) (hkk : cOK k ci N j (rf k j) = true) (hkz : k ≤ h.1) (hin : M.1.name = "<init>") (hT1 : (T j).1 = M.1.cls)
    (hn : narrow (ty j) (cv G v) = cv G v) (hfit : fits (ty j) (cv G v) = true) (hz : z'.1 = h.1) (hu : UB h → UB z') (ho : okH h.2.2 → okV v → okH z'.2.2) (he : ∀ k', k' ≠ k → entN G z' k' = entN G h k') (hset : (fldN G h k).set j (cv G v) = fldN G z' k)
    (kk : NTW G M R cs sl QF (pc + 3) ls st z') : NTW G M R cs sl QF pc ls (v :: rv k :: st) h := by
  intro p e s m args below meth c H locs lc C K P S L ol os
  obtain ⟨k1, k2, k3, k4, k5, k6, k7⟩ := cOK.s hkk
  have hen := wsN_at (G := G) (z := h) k1 hkz
  have eo : ∀ z : N3, entN G z k = .inr (ci, fldN G z k) := fun z => by simp [entN, k3, k4]
  rw [eo] at hen
  rw [List.map_cons, List.map_cons, cv_ref (by omega : 0 < k)]
  have D := wsN_D (G := G) (z := h) K.1.1 P.1.1
  have hl : j < (fldN G h k).length := by simp [fldN]; omega
  have hap := va_apart (own := M.1.cls) C.1.2.2.2.2.1 hc.2.1 ty hc.2.2.1 hc.2.2.2 K.1.2.1 hc.1
  obtain ⟨r, h1, cell, q1, q2, q3, q4⟩ := P.2.2.1 (k - 1) _ hen
  have hr : r = (C0, T, N) := Option.some.inj (h1.symm.trans hc.1)
  subst hr
  obtain ⟨hS, hfc, kC, hkC, hkind⟩ := K.1.2.1.1 ci _ hc.1
  obtain ⟨cf, kf, fi, f, hi, hsl⟩ := hS j k7
  have hlay := C.1.2.2.2.2.1 _ (hc.2.1 _ (u_in_lay k7))
  have hst := (u_facts hfc hkC (u_lays C.1.2.2.2.2.1 hc.2.1 k7) hi).1
  have go : ∀ H' : Heap, H'[G.2.2.1 k]? = some (cell.setSlot f.slot (cv G v)) → H'.size = H.size → (∀ q, q ≠ G.2.2.1 k → H'[q]? = H[q]?) → W p G.1 e R s m args below meth c H' (locs ++ [⟨G.2.2.1 k, f.slot⟩]) cs sl (QF below args s) (F0 m (pc + 3) lc (st.map (cv G))) := by
    intro H' e1 e2 e3
    rw [hsl] at e1 ⊢
    have P1 := P.2.2.1.set D hen (H1 := H') (e := .inr (ci, (fldN G h k).set j (cv G v))) ⟨_, hc.1, t_OB.to (V := updV (vp_V (fldN G h k)) j (cv G v)) ⟨_, e1, q2, q3, t_set q4 hap k7 (cv G v)⟩ (fun j _ => vp_updV_set hl (cv G v) j)⟩ e3
    rw [hset, ← eo z', wsN_set k1 hkz hz he] at P1
    exact kk p e s m args below meth c H' _ lc C K ⟨⟨by rw [hz]; exact P.1.1, hu P.1.2⟩, by rw [e2, hz]; exact P.2.1, P1, ho P.2.2.2 (ok_hd os)⟩ (S.put e2 e3 (D.2 (k - 1) _ hen)) L ol (ok_tl (ok_tl os))
  unfold u_lay at hlay
  by_cases hfin : (T j).2.2.2 = true
  · rw [if_pos hfin] at hlay
    have hcf : m.cls = cf := by
      obtain ⟨_, _, c', _, _, _, -, -, hf', -, -, -, hown2, -⟩ := Cond.laysFinal_spec hlay
      have e1 : c' = cf := by have := hi.symm.trans hf'; simp at this; exact this.1.symm
      rw [hT1] at hown2
      rw [← e1]; exact Option.some.inj (C.1.2.2.2.1.symm.trans hown2)
    have h6 := u_fits hfc hkC hkind (Or.inr hlay) hi (hc.2.2.1 j k7) hn hfit
    exact W.putFinK C.1.1 C.1.2.1 C.1.2.2.2.1 (C.1.2.2.2.2.1 _ hf) hi hst hcf (by rw [C.2]; exact hin) (by rw [q2]; exact h6) q1 q3 (by rw [hsl]; exact k2_hasslot (q4 j k7)) rfl rfl hd go
  · rw [if_neg hfin] at hlay
    have h6 := u_store hfc hkC hkind hlay hi (hc.2.2.1 j k7) hn hfit
    exact W.putK C.1.1 C.1.2.1 (f := f) ⟨C.1.2.2.2.1, C.1.2.2.2.2.1 _ hf, ⟨_, _, _, hi⟩, hst⟩ (by rw [q2]; exact h6) q1 q3 (by rw [hsl]; exact k2_hasslot (q4 j k7)) rfl rfl hd go
theorem n_puti {k j ci N idx : Nat} {v : Int} {C0 : String} {T : u_T} {ty : Nat → FieldType} (hd : decode M.2.1 pc = .ok (.putfield idx, 3)) (hc : CLS ci C0 T N ty) (hf : FLK M.1.cls idx T j) (hkk : cOK k ci N j 0 = true) (hkz : k ≤ h.1) (hin : M.1.name = "<init>") (hT1 : (T j).1 = M.1.cls) (hty : ty j = .int)
    (kk : NTW G M R cs sl QF (pc + 3) ls st (setN h k j v)) : NTW G M R cs sl QF pc ls (iv v :: rv k :: st) h := by
  obtain ⟨k1, k2, k3, k4, k5, k6, k7⟩ := cOK.s hkk
  refine n_putw (z' := setN h k j v) hd hc hf (by rw [k6]; exact hkk) hkz hin hT1 (by rw [hty]; rfl) (by rw [hty]; rfl) rfl (fun u => UB_setN u hkz) (fun o ov => okH_up o ov (by omega)) (fun k' e => ent_setN e) ?_ kk
  apply List.ext_getElem?
  intro i
  rw [List.getElem?_set]
  by_cases e : j = i
  · subst e
    rw [if_pos rfl, if_pos (by simp [fldN]; omega), fldN_at (by omega), if_pos k6]
    simp [setN, up_eq, cv]
  · rw [if_neg e]
    by_cases hi : i < sz k
    · have e1 : (setN h k j v).2.2 k i = h.2.2 k i := up_nei (by omega)
      rw [fldN_at hi, fldN_at hi, e1]
      rfl
    · rw [List.getElem?_eq_none (by simp [fldN]; omega), List.getElem?_eq_none (by simp [fldN]; omega)]
theorem n_putr {k j ci N idx r : Nat} {C0 : String} {T : u_T} {ty : Nat → FieldType} (hd : decode M.2.1 pc = .ok (.putfield idx, 3)) (hc : CLS ci C0 T N ty) (hf : FLK M.1.cls idx T j) (hkk : cOK k ci N j (r + 1) = true) (hkz : k ≤ h.1) (hin : M.1.name = "<init>") (hT1 : (T j).1 = M.1.cls) (hty : narrow (ty j) (.ref (G.2.2.1 (r + 1))) = .ref (G.2.2.1 (r + 1)) ∧ fits (ty j) (.ref (G.2.2.1 (r + 1))) = true)
    (kk : NTW G M R cs sl QF (pc + 3) ls st (upN h k j (r + 1))) : NTW G M R cs sl QF pc ls (rv (r + 1) :: rv k :: st) h := by
  obtain ⟨k1, k2, k3, k4, k5, k6, k7⟩ := cOK.s hkk
  refine n_putw (z' := upN h k j (r + 1)) hd hc hf (by rw [k6]; exact hkk) hkz hin hT1 hty.1 hty.2 rfl (fun u => UB_upN u hkz) (fun o _ => o) (fun k' e => ent_upN e) ?_ kk
  apply List.ext_getElem?
  intro i
  rw [List.getElem?_set]
  by_cases e : j = i
  · subst e
    rw [if_pos rfl, if_pos (by simp [fldN]; omega), fldN_at (by omega), if_neg (by omega)]
    simp [upN, cv]
  · rw [if_neg e]
    by_cases hi : i < sz k
    · have e1 : (upN h k j (r + 1)).2.1 k i = h.2.1 k i := if_neg (by omega)
      rw [fldN_at hi, fldN_at hi, e1]
      rfl
    · rw [List.getElem?_eq_none (by simp [fldN]; omega), List.getElem?_eq_none (by simp [fldN]; omega)]
theorem n_iast {k N : Nat} {i v : Int} (hd : decode M.2.1 pc = .ok (.iastore, 1)) (hk : aOK k 20 N = true) (hkz : k ≤ h.1) (hb : 0 ≤ i ∧ i < N) (kk : NTW G M R cs sl QF (pc + 1) ls st (setN h k i v)) : NTW G M R cs sl QF pc ls (iv v :: iv i :: rv k :: st) h := by
  intro p e s m args below meth c H locs lc C K P S L ol os
  obtain ⟨k1, k2, k3, k4⟩ := aOK.s hk
  have hv : i32 v := ok_hd os
  have hi : i32 i := ok_hd (ok_tl os)
  obtain ⟨b0, b1⟩ := hb
  have hen := wsN_at (G := G) (z := h) k1 hkz
  have eo : ∀ z : N3, entN G z k = .inl (G.2.2.2.1 20, sz k, .inl (fun j => Int32.ofInt (z.2.2 k j))) := fun z => by simp [entN, k3]
  rw [eo] at hen
  have D := wsN_D (G := G) (z := h) K.1.1 P.1.1
  rw [List.map_cons, List.map_cons, List.map_cons, cv_ref (by omega : 0 < k)]
  have hlt := o_in b0 (by omega : i < (sz k : Int)) hi.2
  refine W.iast C.1.1 C.1.2.1 (P.2.2.1 (k - 1) _ hen) ((K.1.2.1.2 0 _ rfl).1 (sz k) (fun j => .int (Int32.ofInt (h.2.2 k j)))) (fun q => by cases q) (by show ¬ (Int32.ofInt i < 0 ∨ (arrV _ _ _).slots.size ≤ _); rw [arrV_size]; exact hlt) rfl rfl hd fun H1 e1 z oq => ?_
  have P1 := P.2.2.1.set D hen (H1 := H1) (e := .inl (G.2.2.2.1 20, sz k, .inl (upd (fun j : Nat => Int32.ofInt (h.2.2 k j)) (Int32.ofInt i).toNatClampNeg (Int32.ofInt v)))) (by
    show H1[G.2.2.1 k]? = some (vp_cell _ _)
    rw [e1, vp_cell_i, vp_cell_i, arrV_store]
    congr 2
    funext q
    by_cases hq : q = (Int32.ofInt i).toNatClampNeg
    · subst hq; simp [updV, upd]
    · simp [updV, upd, hq]) oq
  rw [arr_upd b0 hi.2, show (Sum.inl (G.2.2.2.1 20, sz k, .inl (fun j : Nat => Int32.ofInt (up h.2.2 k i v k j))) : va_E) = entN G (setN h k i v) k from (eo (setN h k i v)).symm, wsN_set (z' := setN h k i v) k1 hkz rfl (fun k' e => ent_setN e)] at P1
  exact kk p e s m args below meth c H1 _ lc C K ⟨⟨P.1.1, UB_setN P.1.2 hkz⟩, by rw [z]; exact P.2.1, P1, okH_up P.2.2.2 hv (by omega)⟩ (S.put z oq (D.2 (k - 1) _ hen)) L ol (ok_tl (ok_tl (ok_tl os)))
theorem n_aast {k N t : Nat} {i : Int} (hd : decode M.2.1 pc = .ok (.aastore, 1)) (hk : aOK k 22 N = true) (hkz : k ≤ h.1) (hb : 0 ≤ i ∧ i < N) (ht : 1000 ≤ t ∧ t < 1000 + NS) (kk : NTW G M R cs sl QF (pc + 1) ls st (upN h k i.toNat t)) : NTW G M R cs sl QF pc ls (rv t :: iv i :: rv k :: st) h := by
  intro p e s m args below meth c H locs lc C K P S L ol os
  obtain ⟨k1, k2, k3, k4⟩ := aOK.s hk
  have hi : i32 i := ok_hd (ok_tl os)
  obtain ⟨b0, b1⟩ := hb
  have hen := wsN_at (G := G) (z := h) k1 hkz
  have eo : ∀ z : N3, entN G z k = .inl (G.2.2.2.1 22, sz k, .inr (.inr (.inr (.inr (fun j => if z.2.1 k j = 0 then none else some (G.2.2.1 (z.2.1 k j))))))) := fun z => by simp [entN, k3]
  rw [eo] at hen
  have D := wsN_D (G := G) (z := h) K.1.1 P.1.1
  rw [List.map_cons, List.map_cons, List.map_cons, cv_ref (by omega : 0 < k), cv_ref (by omega : 0 < t)]
  have hlt := o_in b0 (by omega : i < (sz k : Int)) hi.2
  have cl := o_clamp b0 hi.2
  have hlt2 : (Int32.ofInt i).toNatClampNeg < sz k := by omega
  obtain ⟨cellV, g1, g3, g5, -⟩ := (x_str ht K.1 S).1
  obtain ⟨kC, hkC, -⟩ := Vm.findClass_spec g5
  obtain ⟨kA, comp, y1, y2, y3, -⟩ := (K.1.2.1.2 2 _ rfl).2
  obtain ⟨kE, hkE, -⟩ := Vm.findClass_spec y3
  have hcc : cellV.cls = comp := Option.some.inj (g5.symm.trans y3)
  refine W.aast C.1.1 C.1.2.1 (P.2.2.1 (k - 1) _ hen) (fun q h => by cases h) (fun h => by cases h) y1 y2 rfl hkE ⟨fun q => hlt (Or.inl q), by show _ < (arrV _ _ _).slots.size; rw [arrV_size]; exact hlt2⟩ g1 (fun q h => by rw [h] at g3; cases g3) hkC (by rw [hcc]; exact va_asg _ _) rfl rfl hd fun H1 e1 z oq => ?_
  have P1 := P.2.2.1.set D hen (H1 := H1) (e := .inl (G.2.2.2.1 22, sz k, .inr (.inr (.inr (.inr (fun j => if (upN h k i.toNat t).2.1 k j = 0 then none else some (G.2.2.1 ((upN h k i.toNat t).2.1 k j)))))))) (by
    show H1[G.2.2.1 k]? = some (vp_cell _ _)
    rw [e1, vp_cell_q, vp_cell_q, arrV_store]
    congr 2
    funext q
    have e9 : i.toNat = (Int32.ofInt i).toNatClampNeg := by omega
    by_cases hq : q = (Int32.ofInt i).toNatClampNeg
    · subst hq
      have : ¬ t = 0 := by omega
      simp [updV, upN, e9, va_rf, this]
    · simp [updV, upN, e9, hq]) oq
  rw [← eo (upN h k i.toNat t), wsN_set (z' := upN h k i.toNat t) k1 hkz rfl (fun k' e => ent_upN e)] at P1
  exact kk p e s m args below meth c H1 _ lc C K ⟨⟨P.1.1, UB_upN P.1.2 hkz⟩, by rw [z]; exact P.2.1, P1, P.2.2.2⟩ (S.put z oq (D.2 (k - 1) _ hen)) L ol (ok_tl (ok_tl (ok_tl os)))
theorem n_getr {k j ci N idx r : Nat} {C0 : String} {T : u_T} {ty : Nat → FieldType} (hd : decode M.2.1 pc = .ok (.getfield idx, 3)) (hc : CLS ci C0 T N ty) (hf : FLK M.1.cls idx T j) (hk : cOK k ci N j (r + 1) = true) (hkz : k ≤ h.1) (hr : h.2.1 k j = r + 1) (kk : NTW G M R cs sl QF (pc + 3) ls (rv (r + 1) :: st) h) : NTW G M R cs sl QF pc ls (rv k :: st) h := by
  intro p e s m args below meth c H locs lc C K P S L ol os
  obtain ⟨k1, k2, k3, k4, k5, k6, k7⟩ := cOK.s hk
  have he := wsN_at (G := G) (z := h) k1 hkz
  rw [show entN G h k = .inr (ci, fldN G h k) by simp [entN, k3, k4]] at he
  have hv := fldN_at (G := G) (z := h) (k := k) (j := j) (by omega)
  rw [if_neg (by omega), if_neg (by omega), hr] at hv
  rw [List.map_cons, cv_ref (by omega : 0 < k)]
  exact va_get C.1.1 C.1.2.1 C.1.2.2.2.2.1 hc.2.1 C.1.2.2.2.1 K.1.2.1 P.2.2.1 (k - 1) he hc.1 j k7 (C.1.2.2.2.2.1 _ hf) (fun _ z => z) hv hd (kk p e s m args below meth c H locs lc C K P S L ol (ok_cons trivial (ok_tl os)))
theorem n_alen {k N : Nat} (hd : decode M.2.1 pc = .ok (.arraylength, 1)) (hk : aOK k 20 N = true) (hkz : k ≤ h.1) (kk : NTW G M R cs sl QF (pc + 1) ls (iv N :: st) h) : NTW G M R cs sl QF pc ls (rv k :: st) h := by
  intro p e s m args below meth c H locs lc C K P S L ol os
  obtain ⟨k1, k2, k3, k4⟩ := aOK.s hk
  have hz := sz_ub k2
  have he := wsN_at (G := G) (z := h) k1 hkz
  rw [show entN G h k = .inl (G.2.2.2.1 20, sz k, .inl (fun j => Int32.ofInt (h.2.2 k j))) by simp [entN, k3]] at he
  have k' := kk p e s m args below meth c H locs lc C K P S L ol (ok_cons ⟨by omega, by omega⟩ (ok_tl os))
  rw [List.map_cons, cv_ref (by omega : 0 < k)]
  exact va_alen C.1.1 C.1.2.1 K.1.2.1 P.2.2.1 (k - 1) 0 he rfl (by rw [k4]; exact (Int32.ofInt_eq_ofNat (n := N)).symm) hd k'
def OBI (own : String) (idx : Nat) : Prop := Cond.methodLink own idx objectInit ∈ TB ∧ Cond.instanceMethod objectInit ∈ TB ∧ Cond.code objectInit ⟨#[0xb1]⟩ 1 none ∈ TB
theorem n_obj {k idx : Nat} (hd : decode M.2.1 pc = .ok (.invokespecial idx, 3)) (hw : OBI M.1.cls idx) (hR : 1 ≤ R.frames ∧ (st.map catA).sum + 12 ≤ R.locals) (h0 : 0 < k) (kk : NTW G M R cs sl QF (pc + 3) ls st h) : NTW G M R cs sl QF pc ls (rv k :: st) h := by
  intro p e s m args below meth c H locs lc C K P S L ol os
  rw [List.map_cons, cv_ref h0]
  exact W.objInit C.1.1 C.1.2.1 C.1.2.2.2.1 (C.1.2.2.2.2.1 _ hw.1) (C.1.2.2.2.2.1 _ hw.2.1) (C.1.2.2.2.2.1 _ hw.2.2) rfl (by show lc.size = _; rw [C.1.2.2.1]; exact L.1) rfl hd hR.1 (by show 2 * 0 + _ + 12 ≤ _; rw [cat_sum]; omega) (kk p e s m args below meth c H locs lc C K P S L ol (ok_tl os))
/-! contracts in this phase: from world z to world z', so many cells and slots made -/
def rmN (r mc ms : Nat) : Room := { frames := r, cells := mc, slots := ms, locals := 40 * r }
def QN (G : GG) (z' : N3) : Array Value → State → Outcome → State → Prop := va_Qv (fun _ : Unit => True) (fun _ t => RN G z' t.heap) (GA G)
def NC2 (G : GG) (M : MD) (as : List AV) (z z' : N3) (mc ms : Nat) : Prop :=
  (∀ v ∈ as, okV v) → Met G.1 M.1 (TBM M) (rmN M.2.2.2.2 mc ms) (va_Pc (as.map (cv G)) (fun U => KN G U ∧ RN G z U.heap)) (QN G z') mc ms (GA G)
def QMN (G : GG) (z' : N3) (mc ms : Nat) : List Frame → Array Value → State → State → Prop := fun below args s => MQ below (QN G z') args s mc ms (GA G)
theorem n_vret {z' : N3} (hd : decode M.2.1 pc = .ok (.return_, 1)) (hr : M.2.2.2.1 = none) (hst : st = []) (hz : h = z') : NTW G M R cs sl (QMN G z' cs sl) pc ls st h := by
  intro p e s m args below meth c H locs lc C K P S L ol os
  subst hst
  subst hz
  refine W.vret C.1.1 C.1.2.1 (C.1.2.2.2.2.2.1.trans hr) (fun t ht _ => ?_) S.2.2 hd C.1.2.2.2.2.2.2
  exact ⟨⟨(), rfl, trivial, show RN G h t.heap by rw [ht]; exact P⟩, S.F ht⟩
theorem KN.next {s U : State} {H : Heap} {locs : List Loc} (K : KN G s) (S : va_S (GA G) s.heap H locs) (hU : U.heap = H) (hW : s.WarmedH U.vm) : KN G U :=
  ⟨K.1.next S hU hW, K.2.1, fun q hq => (K.2.2.1 q hq).warmM hW, va_AO.moved hW.alike K.2.2.2⟩
theorem KN.calling {U : State} {g : JFrame} {mk : MethodId} {a : Array Value} (K : KN G U) : KN G (U.calling g mk a) :=
  ⟨K.1.calling, K.2.1, fun q hq => va_Nw.same (u := U) (U := U.calling g mk a) rfl rfl (K.2.2.1 q hq), va_AO.moved (u := U) (U := U.calling g mk a) (Vm.Alike.refl U.vm) K.2.2.2⟩
theorem NC2.of {as : List AV} {z z' : N3} {mc ms : Nat} {ls : List (Nat × AV)} (hp : plainName M.1.cls = true) (hs : (as.map catA).sum ≤ M.2.2.1) (hl : alocs 0 as = ls) (k : NTW G M (rmN M.2.2.2.2 mc ms) 0 0 (QMN G z' mc ms) 0 ls [] z) : NC2 G M as z z' mc ms := by
  intro oa
  subst hl
  refine Met.ofW (cc := M.2.1) (maxL := M.2.2.1) (ret := M.2.2.2.1) hp rfl ?_
  intro p e s m args below meth c s₁ B hml hv
  obtain ⟨rfl, hK, hP⟩ := hv
  have hts := atoms_spec (ws := TBM M) B.pre
  have hown : s.vm.findClass M.1.cls = some m.cls := findClass_of_methodNamed B.named
  have hin : meth.name = M.1.name := (name_of_methodNamed B.named B.method).1
  have hl := lv_entry (as.map (cv G)) (n := M.2.2.1) (by rw [sl_len]; exact hs)
  rw [lg_entry_eq]
  rw [← alocs_cv] at hl
  exact k p e s m _ below meth c s.heap [] _ ⟨⟨B.exec, B.bytes, hml, hown, fun w hw => hts w (List.mem_cons_of_mem _ hw), B.returns, B.notSynchronized⟩, hin⟩ hK hP va_S.rf hl (alocs_ok as 0 oa) (fun v hv => by cases hv)
/-- going on behind a constructor -/
theorem call_N {M2 : MD} {z' : N3} {mc ms : Nat} {p : Program} {e : Env} {s : State} {m : MethodId} {args : Array Value} {below : List Frame} {meth : Method} {c : Code} {H : Heap} {locs : List Loc} {lc : Array Slot} {st0 : List Value}
    (C : CX M p s m args meth c ∧ meth.name = M.1.name) (K : KN G s) (S : va_S (GA G) s.heap H locs) (L : lv_has lc M.2.2.1 (ls.map fun q => (q.1, cv G q.2))) (ol : ∀ q ∈ ls, okV q.2) (os : ∀ v ∈ st, okV v) {a : Array Value}
    (hr : va_Run p G.1 e R s m args below meth c H locs cs sl mc ms (F0 m pc lc st0) (st.map (cv G)) (QN G z' a) (GA G)) (kk : NTW G M R (cs + mc) (sl + ms) QF (pc + 3) ls st z') :
    W p G.1 e R s m args below meth c H locs cs sl (QF below args s) (F0 m pc lc st0) := by
  refine va_callv hr S (fun q _ z => z) (fun q z => z) fun u t H1 locs1 ht _ hp hB _ _ S1 => ?_
  exact kk p e s m args below meth c H1 locs1 lc C K (show RN G z' H1 by rw [← ht]; exact hB) S1 L ol os
def RMN (R : Room) (M2 : MD) : Prop := M2.2.2.2.2 + 1 ≤ R.frames ∧ 8 + (M2.2.2.1 + 11) + 40 * M2.2.2.2.2 ≤ R.locals
def CLI (own : String) (idx : Nat) (M2 : MD) (n : Nat) : Prop := CLB M2 n ∧ Cond.methodLink own idx M2.1 ∈ TB ∧ Cond.instanceMethod M2.1 ∈ TB
def CLIN (own : String) (idx : Nat) (M2 : MD) (n : Nat) : Prop := CLB M2 n ∧ (own = RX11 ∧ (idx, M2.1) ∈ nestC) ∧ Cond.instanceMethod M2.1 ∈ TB
theorem n_callI {M2 : MD} {idx n k mc ms : Nat} {as st0 : List AV} {z' : N3} (hd : decode M.2.1 pc = .ok (.invokespecial idx, 3)) (hl : CLI M.1.cls idx M2 n) (hR : RMN R M2) (hcs : cs + mc ≤ R.cells ∧ sl + ms ≤ R.slots) (hin : M2.1.name = "<init>") (hrt : M2.2.2.2.1 = none) (h0 : 0 < k) (hst : as.reverse ++ rv k :: st = st0) (hn : as.length = n) (hcat : (st.map catA).sum ≤ 8)
    (kc : NC2 G M2 (rv k :: as) h z' mc ms) (kk : NTW G M R (cs + mc) (sl + ms) QF (pc + 3) ls st z') : NTW G M R cs sl QF pc ls st0 h := by
  intro p e s m args below meth c H locs lc C K P S L ol os
  subst hst
  have oa := (ok_app os).1
  have ot : ∀ v ∈ st, okV v := ok_tl (ok_app os).2
  refine call_N (M2 := M2) (a := ((rv k :: as).map (cv G)).toArray) C K S L ol ot ?_ kk
  have hM := kc (ok_cons trivial oa)
  have e1 : (rv k :: as).map (cv G) = Value.ref (G.2.2.1 k) :: as.map (cv G) := by rw [List.map_cons, cv_ref h0]
  rw [e1] at hM ⊢
  have cw : CallB R s args M.1.cls idx M2.1 M2.2.1 M2.2.2.1 none (TBM M2) (rmN M2.2.2.2.2 mc ms) mc ms n ∧ M2.1.name = "<init>" ∧ (Cond.instanceMethod M2.1).before args s = true :=
    ⟨callB_of n C.1.2.2.2.2.1 (good_M2 hl.1) (by unfold TBM; rw [hrt]) rfl rfl (C.1.2.2.2.2.1 _ hl.1.2.1) (C.1.2.2.2.2.1 _ hl.2.1) hl.1.2.2 hR, hin, C.1.2.2.2.2.1 _ hl.2.2⟩
  exact va_runI (As := as.map (cv G)) (cf C.1) hM cw ⟨fun a U g mk q => ⟨q.1, q.2.1.calling, q.2.2⟩, fun U hU hW => ⟨rfl, K.next S hU hW, by rw [hU]; exact P⟩⟩ rfl (by rw [List.length_map]; exact hn) L.1 (by show (as.reverse ++ rv k :: st).map (cv G) = _; rw [rev_map, cv_ref h0]) (lv_room (by rw [cat_sum]; exact hcat)) hd hcs
theorem n_callIN {M2 : MD} {idx n k mc ms : Nat} {as st0 : List AV} {z' : N3} (hd : decode M.2.1 pc = .ok (.invokespecial idx, 3)) (hl : CLIN M.1.cls idx M2 n) (hR : RMN R M2) (hcs : cs + mc ≤ R.cells ∧ sl + ms ≤ R.slots) (hin : M2.1.name = "<init>") (hrt : M2.2.2.2.1 = none) (h0 : 0 < k) (hst : as.reverse ++ rv k :: st = st0) (hn : as.length = n) (hcat : (st.map catA).sum ≤ 8)
    (kc : NC2 G M2 (rv k :: as) h z' mc ms) (kk : NTW G M R (cs + mc) (sl + ms) QF (pc + 3) ls st z') : NTW G M R cs sl QF pc ls st0 h := by
  intro p e s m args below meth c H locs lc C K P S L ol os
  subst hst
  have oa := (ok_app os).1
  have ot : ∀ v ∈ st, okV v := ok_tl (ok_app os).2
  refine call_N (M2 := M2) (a := ((rv k :: as).map (cv G)).toArray) C K S L ol ot ?_ kk
  have hM := kc (ok_cons trivial oa)
  have e1 : (rv k :: as).map (cv G) = Value.ref (G.2.2.1 k) :: as.map (cv G) := by rw [List.map_cons, cv_ref h0]
  rw [e1] at hM ⊢
  have cw : va_CN R s args M.1.cls idx M2.1 "MissionHouse" M2.2.1 M2.2.2.1 none (TBM M2) (rmN M2.2.2.2.2 mc ms) mc ms n ∧ M2.1.name = "<init>" ∧ (Cond.instanceMethod M2.1).before args s = true :=
    ⟨va_cnB n C.1.2.2.2.2.1 (good_M2 hl.1) (by unfold TBM; rw [hrt]) rfl rfl (by rw [hl.2.1.1]; exact K.2.2.1 _ hl.2.1.2) (C.1.2.2.2.2.1 _ hl.1.2.1) hl.1.2.2 hR, hin, C.1.2.2.2.2.1 _ hl.2.2⟩
  exact va_runIN (As := as.map (cv G)) (cf C.1) hM cw ⟨fun a U g mk q => ⟨q.1, q.2.1.calling, q.2.2⟩, fun U hU hW => ⟨rfl, K.next S hU hW, by rw [hU]; exact P⟩⟩ rfl (by rw [List.length_map]; exact hn) L.1 (by show (as.reverse ++ rv k :: st).map (cv G) = _; rw [rev_map, cv_ref h0]) (lv_room (by rw [cat_sum]; exact hcat)) hd hcs
theorem n_callS {M2 : MD} {idx n : Nat} {as st0 : List AV} {z' : N3} (hd : decode M.2.1 pc = .ok (.invokestatic idx, 3)) (hl : CLT M.1.cls idx M2 n) (hR : RMN R M2) (hcs : cs ≤ R.cells ∧ sl ≤ R.slots) (hst : as.reverse ++ st = st0) (hn : as.length = n) (hcat : (st.map catA).sum ≤ 8)
    (kc : NC2 G M2 as h z' 0 0) (kk : NTW G M R cs sl QF (pc + 3) ls st z') : NTW G M R cs sl QF pc ls st0 h := by
  intro p e s m args below meth c H locs lc C K P S L ol os
  subst hst
  have oa := (ok_app os).1
  have ot : ∀ v ∈ st, okV v := (ok_app os).2
  refine call_N (M2 := M2) (a := (as.map (cv G)).toArray) (mc := 0) (ms := 0) C K S L ol ot ?_ kk
  have hM := kc oa
  have cw : CallB R s args M.1.cls idx M2.1 M2.2.1 M2.2.2.1 M2.2.2.2.1 (TBM M2) (rmN M2.2.2.2.2 0 0) 0 0 n ∧ (Cond.static M2.1).before args s = true :=
    ⟨callB_of n C.1.2.2.2.2.1 (good_M2 hl.1) rfl rfl rfl (C.1.2.2.2.2.1 _ hl.1.2.1) (C.1.2.2.2.2.1 _ hl.2.1) hl.1.2.2 hR, C.1.2.2.2.2.1 _ hl.2.2⟩
  exact va_runS (As := as.map (cv G)) (cf C.1) hM cw ⟨fun a U g mk q => ⟨q.1, q.2.1.calling, q.2.2⟩, fun U hU hW => ⟨rfl, K.next S hU hW, by rw [hU]; exact P⟩⟩ rfl (by rw [List.length_map]; exact hn) L.1 (by show (as.reverse ++ st).map (cv G) = _; rw [rev_map0]) (lv_room (by rw [cat_sum]; exact hcat)) hd hcs
end RowsN
