/-! longs, ends, calls, copies, entry -/
theorem sz64 : ((Int64.size : Nat) : Int) = 18446744073709551616 := rfl
theorem t_o64 {z : Int} (h : i64 z) : (Int64.ofInt z).toInt = z := by
  rw [Int64.toInt_ofInt]
  have := h.1
  have := h.2
  have := sz64
  rw [Int.bmod_eq_of_le (by omega) (by omega)]
theorem o_w64 (z : Int) : Int64.ofInt (w64 z) = Int64.ofInt z := by
  rw [← Int64.toInt_inj, Int64.toInt_ofInt, Int64.toInt_ofInt]
  unfold w64
  simp only [Int.bmod_def, sz64]
  omega
theorem i64_of32 {z : Int} (h : i32 z) : i64 z := ⟨by have := h.1; omega, by have := h.2; omega⟩
section RowsD
variable {G : GG} {M : MD} {R : Room} {cs sl : Nat} {QF : List Frame → Array Value → State → State → Prop} {pc : Nat} {ls : List (Nat × AV)} {st : List AV} {h : Hp}
theorem a_i2l {x : Int} (hd : decode M.2.1 pc = .ok (.i2l, 1)) (k : ATW G M R cs sl QF (pc + 1) ls (jv x :: st) h) : ATW G M R cs sl QF pc ls (iv x :: st) h := by
  intro p e s m args below meth c H locs lc C K P S L ol os
  have hx : i32 x := ok_hd os
  exact lv_i2l (v := Int64.ofInt x) C.1 C.2.1 hd (by rw [← Int64.toInt_inj, t_o64 (i64_of32 hx), Int32.toInt_toInt64, t_o32 hx]) (k p e s m args below meth c H locs lc C K P S L ol (ok_cons (i64_of32 hx) (ok_tl os)))
theorem a_l2i {x : Int} (hd : decode M.2.1 pc = .ok (.l2i, 1)) (k : ATW G M R cs sl QF (pc + 1) ls (iv (w32 x) :: st) h) : ATW G M R cs sl QF pc ls (jv x :: st) h := by
  intro p e s m args below meth c H locs lc C K P S L ol os
  have k' := k p e s m args below meth c H locs lc C K P S L ol (ok_cons (i32_w _) (ok_tl os))
  rw [List.map_cons, show cv G (iv (w32 x)) = .int (Int32.ofInt (w32 x)) from rfl, o_w32] at k'
  exact lv_l2i (v := Int32.ofInt x) C.1 C.2.1 hd Int64.toInt32_ofInt k'
theorem a_lsub {x y : Int} (hd : decode M.2.1 pc = .ok (.lsub, 1)) (k : ATW G M R cs sl QF (pc + 1) ls (jv (w64 (x - y)) :: st) h) : ATW G M R cs sl QF pc ls (jv y :: jv x :: st) h := by
  intro p e s m args below meth c H locs lc C K P S L ol os
  have k' := k p e s m args below meth c H locs lc C K P S L ol (ok_cons (i64_w _) (ok_tl (ok_tl os)))
  simp only [List.map_cons, cv, o_w64, Int64.ofInt_sub] at k' ⊢
  exact lv_lsub C.1 C.2.1 hd k'
theorem a_ladd {x y : Int} (hd : decode M.2.1 pc = .ok (.ladd, 1)) (k : ATW G M R cs sl QF (pc + 1) ls (jv (w64 (x + y)) :: st) h) : ATW G M R cs sl QF pc ls (jv y :: jv x :: st) h := by
  intro p e s m args below meth c H locs lc C K P S L ol os
  have k' := k p e s m args below meth c H locs lc C K P S L ol (ok_cons (i64_w _) (ok_tl (ok_tl os)))
  simp only [List.map_cons, cv, o_w64, Int64.ofInt_add] at k' ⊢
  exact lv_ladd C.1 C.2.1 hd k'
theorem a_lmul {x y : Int} (hd : decode M.2.1 pc = .ok (.lmul, 1)) (k : ATW G M R cs sl QF (pc + 1) ls (jv (w64 (x * y)) :: st) h) : ATW G M R cs sl QF pc ls (jv y :: jv x :: st) h := by
  intro p e s m args below meth c H locs lc C K P S L ol os
  have k' := k p e s m args below meth c H locs lc C K P S L ol (ok_cons (i64_w _) (ok_tl (ok_tl os)))
  simp only [List.map_cons, cv, o_w64, Int64.ofInt_mul] at k' ⊢
  exact lv_lmul C.1 C.2.1 hd k'
theorem a_lrem {x y : Int} (hd : decode M.2.1 pc = .ok (.lrem, 1)) (hk : y ≠ 0 ∧ ATW G M R cs sl QF (pc + 1) ls (jv (x.tmod y) :: st) h) : ATW G M R cs sl QF pc ls (jv y :: jv x :: st) h := by
  intro p e s m args below meth c H locs lc C K P S L ol os
  have hx : i64 x := ok_hd (ok_tl os)
  have hy : i64 y := ok_hd os
  have e0 : x.tmod y = x - x.tdiv y * y := by rw [Int.tmod_def, Int.mul_comm]
  have e1 : Int64.ofInt x - Int64.ofInt x / Int64.ofInt y * Int64.ofInt y = Int64.ofInt (x.tmod y) := by
    have e2 : Int64.ofInt x / Int64.ofInt y = Int64.ofInt (x.tdiv y) := by
      rw [← Int64.toInt_inj, Int64.toInt_div, t_o64 hx, t_o64 hy, Int64.toInt_ofInt]
    rw [e2, e0, Int64.ofInt_sub, Int64.ofInt_mul]
  have ok : i64 (x.tmod y) := by
    have h1 := hy.1
    have h2 := hy.2
    rcases Int.lt_trichotomy y 0 with hn | h0 | hp
    · have a1 := tmod_bounds (a := x) (by omega : 0 < -y)
      rw [Int.tmod_neg] at a1
      exact ⟨by omega, by omega⟩
    · exact absurd h0 hk.1
    · have a1 := tmod_bounds (a := x) hp
      exact ⟨by omega, by omega⟩
  have k' := hk.2 p e s m args below meth c H locs lc C K P S L ol (ok_cons ok (ok_tl (ok_tl os)))
  have ne : ¬ Int64.ofInt y = 0 := fun z => hk.1 (by rw [← t_o64 hy, z]; rfl)
  refine lv_lrem C.1 C.2.1 hd ne ?_
  rw [e1]
  exact k'
theorem a_ldc2 {n : Int} {idx : Nat} (hd : decode M.2.1 pc = .ok (.ldc2_w idx, 3)) (hn : i64 n) (hw : Cond.constantLong M.1.cls idx (Int64.ofInt n) ∈ TB) (k : ATW G M R cs sl QF (pc + 3) ls (jv n :: st) h) : ATW G M R cs sl QF pc ls st h := by
  intro p e s m args below meth c H locs lc C K P S L ol os
  exact lv_ldc2 C.1 C.2.1 C.2.2.2.1 (C.2.2.2.2.1 _ hw) hd (k p e s m args below meth c H locs lc C K P S L ol (ok_cons hn os))
/-! ends -/
theorem a_iret {Φ : Int → Hp → Prop} {r : Int} {rest : List AV} (hd : decode M.2.1 pc = .ok (.ireturn, 1)) (hr : M.2.2.2.1 = some .int) (hst : rest = []) (k : Φ r h) : AT G M pc ls (iv r :: rest) h Φ := by
  intro p e s m args below meth c H locs lc C K P S L ol os
  subst hst
  have hx : i32 r := ok_hd os
  refine W.iret C.1 C.2.1 (C.2.2.2.2.2.1.trans hr) (fun t ht _ => ?_) S.2.2 hd C.2.2.2.2.2.2
  unfold QQ
  rw [hr]
  exact ⟨⟨Int32.ofInt r, h, rfl, show Φ (Int32.ofInt r).toInt h by rw [t_o32 hx]; exact k, show RH G h t.heap by rw [ht]; exact P⟩, S.F ht⟩
theorem a_nret {Φ : Int → Hp → Prop} {r : Int} {ty : FieldType} {rest : List AV} (hd : decode M.2.1 pc = .ok (.ireturn, 1)) (hr : M.2.2.2.1 = some ty) (hty : ty = .boolean ∨ ty = .byte ∨ ty = .char) (hst : rest = []) (k : narrow ty (.int (Int32.ofInt r)) = .int (Int32.ofInt r) ∧ Φ r h) : AT G M pc ls (iv r :: rest) h Φ := by
  intro p e s m args below meth c H locs lc C K P S L ol os
  subst hst
  have hx : i32 r := ok_hd os
  refine W.zret C.1 C.2.1 (C.2.2.2.2.2.1.trans hr) k.1 (fun t ht _ => ?_) S.2.2 hd C.2.2.2.2.2.2
  unfold QQ
  rw [hr]
  have key : (∃ (r' : Int32) (u : Hp), Outcome.returned (some (Value.int (Int32.ofInt r))) = .returned (some (.int r')) ∧ Φ r'.toInt u ∧ RH G u t.heap) ∧ va_F (GA G) s t :=
    ⟨⟨Int32.ofInt r, h, rfl, by rw [t_o32 hx]; exact k.2, by rw [ht]; exact P⟩, S.F ht⟩
  rcases hty with rfl | rfl | rfl <;> exact key
theorem a_zret {Φ : Int → Hp → Prop} {r : Int} {rest : List AV} (hd : decode M.2.1 pc = .ok (.ireturn, 1)) (hr : M.2.2.2.1 = some .boolean) (hst : rest = []) (k : (r = 0 ∨ r = 1) ∧ Φ r h) : AT G M pc ls (iv r :: rest) h Φ :=
  a_nret hd hr (Or.inl rfl) hst ⟨(nar_z k.1).1, k.2⟩
theorem a_vret {Φ : Int → Hp → Prop} (hd : decode M.2.1 pc = .ok (.return_, 1)) (hr : M.2.2.2.1 = none) (hst : st = []) (k : Φ 0 h) : AT G M pc ls st h Φ := by
  intro p e s m args below meth c H locs lc C K P S L ol os
  subst hst
  refine W.vret C.1 C.2.1 (C.2.2.2.2.2.1.trans hr) (fun t ht _ => ?_) S.2.2 hd C.2.2.2.2.2.2
  unfold QQ
  rw [hr]
  exact ⟨⟨h, rfl, k, show RH G h t.heap by rw [ht]; exact P⟩, S.F ht⟩
theorem a_aret {Φ : Int → Hp → Prop} {r : Nat} {cn : String} {rest : List AV} (hd : decode M.2.1 pc = .ok (.areturn, 1)) (hr : M.2.2.2.1 = some (.object cn)) (h0 : 0 < r) (hst : rest = []) (k : Φ r h) : AT G M pc ls (rv r :: rest) h Φ := by
  intro p e s m args below meth c H locs lc C K P S L ol os
  subst hst
  rw [List.map_cons, cv_ref h0]
  refine W.aret C.1 C.2.1 (C.2.2.2.2.2.1.trans hr) (Or.inl ⟨cn, rfl⟩) (Or.inr ⟨_, rfl⟩) (fun t ht _ => ?_) S.2.2 hd C.2.2.2.2.2.2
  unfold QQ
  rw [hr]
  exact ⟨⟨(r, h), _, rfl, k, rfl, h0, show RH G h t.heap by rw [ht]; exact P⟩, S.F ht⟩
/-! calls -/
def RTi (t : Option FieldType) : Bool := match t with
  | some .int => true
  | some .boolean => true
  | some .char => true
  | some .byte => true
  | _ => false
theorem QQ_i {M2 : MD} {Φ : Int → Hp → Prop} (h : RTi M2.2.2.2.1 = true) : QQ G M2 Φ = va_Qi (fun (r : Int32) (u : Hp) => Φ r.toInt u) (fun u t => RH G u t.heap) (GA G) := by
  unfold QQ
  unfold RTi at h
  split at h <;> first | (rename_i e; rw [e]; done) | (rename_i e; rw [e]) | cases h
def CLB (M2 : MD) (n : Nat) : Prop := Cond.code M2.1 M2.2.1 M2.2.2.1 M2.2.2.2.1 ∈ TB ∧ Cond.initialized M2.1.cls ∈ TB ∧ M2.1.cls ≠ "java/lang/invoke/MethodHandle" ∧ M2.1.cls ≠ "java/lang/invoke/VarHandle" ∧ (parseMethodDescriptor M2.1.desc).map (fun d => d.parameters.length) = some n
def CLV (own : String) (idx : Nat) (M2 : MD) (n : Nat) : Prop := CLB M2 n ∧ Cond.methodLink own idx M2.1 ∈ TB ∧ Cond.instanceMethod M2.1 ∈ TB ∧ Cond.selects M2.1.cls M2.1 M2.1 ∈ TB
def CLT (own : String) (idx : Nat) (M2 : MD) (n : Nat) : Prop := CLB M2 n ∧ Cond.methodLink own idx M2.1 ∈ TB ∧ Cond.static M2.1 ∈ TB
def CLN (own : String) (idx : Nat) (M2 : MD) (n : Nat) : Prop := CLB M2 n ∧ (own, idx, M2.1) ∈ nestL ∧ Cond.static M2.1 ∈ TB
theorem TB_good {w : Cond} (h : w ∈ TB) : w ∈ TB ∧ ((w.onTables && w.keeps) = true ∨ ∃ ty, w = .arrayClass ty) := ⟨h, good_of_word (List.mem_filter.mp h).2⟩
theorem good_M2 {M2 : MD} {n : Nat} (h : CLB M2 n) : GoodIn TB (TBM M2) := fun w hw => by
  rcases List.mem_cons.mp hw with rfl | hw
  · exact TB_good h.1
  · exact TB_good hw
theorem rev_map {as st : List AV} {k : AV} : (as.reverse ++ k :: st).map (cv G) = (as.map (cv G)).reverse ++ cv G k :: st.map (cv G) := by simp
theorem rev_map0 {as st : List AV} : (as.reverse ++ st).map (cv G) = (as.map (cv G)).reverse ++ st.map (cv G) := by simp
theorem cat_cv (v : AV) : (cv G v).category = catA v := by
  rcases v with x | k | x
  · rfl
  · cases k <;> rfl
  · rfl
theorem cat_sum (st : List AV) : (st.map (cv G)).map (fun v => v.category) = st.map catA := by
  rw [List.map_map]
  exact List.map_congr_left fun v _ => cat_cv v
theorem ok_app {as st : List AV} (o : ∀ w ∈ as.reverse ++ st, okV w) : (∀ w ∈ as, okV w) ∧ ∀ w ∈ st, okV w :=
  ⟨fun w hw => o w (List.mem_append_left _ (List.mem_reverse.mpr hw)), fun w hw => o w (List.mem_append_right _ hw)⟩
/-- the start of a callee, of any kind -/
theorem pre_call {M2 : MD} {as : List AV} {s : State} {H : Heap} {locs : List Loc} (K : KX G s) (P : RH G h H) (S : va_S (GA G) s.heap H locs) : PreS s H (va_Pc (as.map (cv G)) (fun U => KX G U ∧ RH G h U.heap)) (as.map (cv G)) :=
  ⟨fun a U g mk q => ⟨q.1, q.2.1.calling, q.2.2⟩, fun U hU hW => ⟨rfl, K.next S hU hW, by rw [hU]; exact P⟩⟩
theorem RH_of {h1 : Hp} {H1 : Heap} {t : State} (e : t.heap = H1) (r : RH G h1 t.heap) : RH G h1 H1 := e ▸ r
/-- going on behind a call that answers an int -/
theorem call_i {M2 : MD} {as : List AV} (hri : RTi M2.2.2.2.1 = true) {p : Program} {e : Env} {s : State} {m : MethodId} {args : Array Value} {below : List Frame} {meth : Method} {c : Code} {H : Heap} {locs : List Loc} {lc : Array Slot} {st0 : List Value}
    (C : CX M p s m args meth c) (K : KX G s) (S : va_S (GA G) s.heap H locs) (L : lv_has lc M.2.2.1 (ls.map fun q => (q.1, cv G q.2))) (ol : ∀ q ∈ ls, okV q.2) (os : ∀ v ∈ st, okV v) {a : Array Value}
    (hr : va_Run p G.1 e R s m args below meth c H locs cs sl 0 0 (F0 m pc lc st0) (st.map (cv G)) (QQ G M2 (fun r h1 => ATW G M R cs sl QF (pc + 3) ls (iv r :: st) h1) a) (GA G)) :
    W p G.1 e R s m args below meth c H locs cs sl (QF below args s) (F0 m pc lc st0) := by
  rw [QQ_i hri] at hr
  refine va_calli hr S (fun q _ z => z) (fun q z => z) fun r u t H1 locs1 ht _ hp hB _ _ S1 => ?_
  have k := hp p e s m args below meth c H1 locs1 lc C K (RH_of ht hB) S1 L ol (ok_cons (i32_t r) os)
  rw [List.map_cons, show cv G (iv r.toInt) = .int r from congrArg Value.int (o_t32 r)] at k
  exact k
theorem call_v {M2 : MD} {as : List AV} (hri : M2.2.2.2.1 = none) {p : Program} {e : Env} {s : State} {m : MethodId} {args : Array Value} {below : List Frame} {meth : Method} {c : Code} {H : Heap} {locs : List Loc} {lc : Array Slot} {st0 : List Value}
    (C : CX M p s m args meth c) (K : KX G s) (S : va_S (GA G) s.heap H locs) (L : lv_has lc M.2.2.1 (ls.map fun q => (q.1, cv G q.2))) (ol : ∀ q ∈ ls, okV q.2) (os : ∀ v ∈ st, okV v) {a : Array Value}
    (hr : va_Run p G.1 e R s m args below meth c H locs cs sl 0 0 (F0 m pc lc st0) (st.map (cv G)) (QQ G M2 (fun _ h1 => ATW G M R cs sl QF (pc + 3) ls st h1) a) (GA G)) :
    W p G.1 e R s m args below meth c H locs cs sl (QF below args s) (F0 m pc lc st0) := by
  have e1 : QQ G M2 (fun _ h1 => ATW G M R cs sl QF (pc + 3) ls st h1) = va_Qv (fun u : Hp => ATW G M R cs sl QF (pc + 3) ls st u) (fun u t => RH G u t.heap) (GA G) := by
    unfold QQ
    rw [hri]
  rw [e1] at hr
  refine va_callv hr S (fun q _ z => z) (fun q z => z) fun u t H1 locs1 ht _ hp hB _ _ S1 => ?_
  exact hp p e s m args below meth c H1 locs1 lc C K (RH_of ht hB) S1 L ol os
theorem call_r {M2 : MD} {as : List AV} {cn : String} (hri : M2.2.2.2.1 = some (.object cn)) {p : Program} {e : Env} {s : State} {m : MethodId} {args : Array Value} {below : List Frame} {meth : Method} {c : Code} {H : Heap} {locs : List Loc} {lc : Array Slot} {st0 : List Value}
    (C : CX M p s m args meth c) (K : KX G s) (S : va_S (GA G) s.heap H locs) (L : lv_has lc M.2.2.1 (ls.map fun q => (q.1, cv G q.2))) (ol : ∀ q ∈ ls, okV q.2) (os : ∀ v ∈ st, okV v) {a : Array Value}
    (hr : va_Run p G.1 e R s m args below meth c H locs cs sl 0 0 (F0 m pc lc st0) (st.map (cv G)) (QQ G M2 (fun r h1 => ATW G M R cs sl QF (pc + 3) ls (rv r.toNat :: st) h1) a) (GA G)) :
    W p G.1 e R s m args below meth c H locs cs sl (QF below args s) (F0 m pc lc st0) := by
  have e1 : QQ G M2 (fun r h1 => ATW G M R cs sl QF (pc + 3) ls (rv r.toNat :: st) h1) = va_Qr (fun u : Nat × Hp => ATW G M R cs sl QF (pc + 3) ls (rv (u.1 : Int).toNat :: st) u.2) (fun u a t => a = G.2.2.1 u.1 ∧ 0 < u.1 ∧ RH G u.2 t.heap) (GA G) := by
    unfold QQ
    rw [hri]
  rw [e1] at hr
  refine va_callr hr S (fun q _ z => z) (fun q z => z) fun u a t H1 locs1 ht _ hp hB _ _ S1 => ?_
  obtain ⟨rfl, h0, hB⟩ := hB
  have k := hp p e s m args below meth c H1 locs1 lc C K (RH_of ht hB) S1 L ol (ok_cons trivial os)
  rw [List.map_cons, show ((u.1 : Int).toNat) = u.1 from rfl, cv_ref h0] at k
  exact k
def RMs (R : Room) (M2 : MD) : Prop := M2.2.2.2.2 + 1 ≤ R.frames ∧ 8 + (M2.2.2.1 + 11) + 40 * M2.2.2.2.2 ≤ R.locals
theorem cf {p : Program} {s : State} {m : MethodId} {args : Array Value} {meth : Method} {c : Code} (C : CX M p s m args meth c) : CallFix p m c M.2.1 M.2.2.1 s args TB M.1.cls := ⟨C.1, C.2.1, C.2.2.1, C.2.2.2.1, C.2.2.2.2.1⟩
theorem run_V {M2 : MD} {idx k ci n : Nat} {as : List AV} {Ψ : Int → Hp → Prop} {C0 : String} {T : u_T} {N : Nat} {ty : Nat → FieldType} (hd : decode M.2.1 pc = .ok (.invokevirtual idx, 3)) (hl : CLV M.1.cls idx M2 n) (hR : RMs R M2) (hcs : cs ≤ R.cells ∧ sl ≤ R.slots) (hc : CLS ci C0 T N ty) (hC0 : C0 = M2.1.cls) (hk : cOK k ci N 0 (rf k 0) = true) (hn : as.length = n) (hcat : (st.map catA).sum ≤ 8)
    (kk : Call G M2 (rv k :: as) h Ψ) {p : Program} {e : Env} {s : State} {m : MethodId} {args : Array Value} {below : List Frame} {meth : Method} {c : Code} {H : Heap} {locs : List Loc} {lc : Array Slot} (C : CX M p s m args meth c) (K : KX G s) (P : RH G h H) (S : va_S (GA G) s.heap H locs) (L : lv_has lc M.2.2.1 (ls.map fun q => (q.1, cv G q.2))) (oa : ∀ w ∈ as, okV w) :
    va_Run p G.1 e R s m args below meth c H locs cs sl 0 0 (F0 m pc lc ((as.reverse ++ rv k :: st).map (cv G))) (st.map (cv G)) (QQ G M2 Ψ ((rv k :: as).map (cv G)).toArray) (GA G) := by
  obtain ⟨k1, k2, k3, k4, k5, k6, k7⟩ := cOK.s hk
  subst hC0
  have he := ws_at (G := G) (h := h) k1 k2
  rw [ent_obj (by omega), k3] at he
  have hM := kk (ok_cons trivial oa)
  have e1 : (rv k :: as).map (cv G) = Value.ref (G.2.2.1 k) :: as.map (cv G) := by rw [List.map_cons, cv_ref (by omega : 0 < k)]
  rw [e1] at hM ⊢
  have pre := pre_call (M2 := M2) (as := rv k :: as) (h := h) K P S
  rw [e1] at pre
  have cw : CallW R s args M.1.cls M2.1.cls idx M2.1 M2.2.1 M2.2.2.1 M2.2.2.2.1 (TBM M2) (rmK M2.2.2.2.2) 0 0 n :=
    ⟨callB_of n C.2.2.2.2.1 (good_M2 hl.1) rfl rfl rfl (C.2.2.2.2.1 _ hl.1.2.1) (C.2.2.2.2.1 _ hl.2.1) hl.1.2.2 hR, C.2.2.2.2.1 _ hl.2.2.1, C.2.2.2.2.1 _ hl.2.2.2⟩
  exact va_runV (cf C) hM cw ⟨pre.1, va_recv K.2.1 P.1 hc.1 he, pre.2⟩ rfl (by rw [List.length_map]; exact hn) L.1 (by show (as.reverse ++ rv k :: st).map (cv G) = _; rw [rev_map, cv_ref (by omega : 0 < k)]) (lv_room (by rw [cat_sum]; exact hcat)) hd hcs
theorem run_S {M2 : MD} {idx n : Nat} {as : List AV} {Ψ : Int → Hp → Prop} (hd : decode M.2.1 pc = .ok (.invokestatic idx, 3)) (hl : CLT M.1.cls idx M2 n) (hR : RMs R M2) (hcs : cs ≤ R.cells ∧ sl ≤ R.slots) (hn : as.length = n) (hcat : (st.map catA).sum ≤ 8)
    (kk : Call G M2 as h Ψ) {p : Program} {e : Env} {s : State} {m : MethodId} {args : Array Value} {below : List Frame} {meth : Method} {c : Code} {H : Heap} {locs : List Loc} {lc : Array Slot} (C : CX M p s m args meth c) (K : KX G s) (P : RH G h H) (S : va_S (GA G) s.heap H locs) (L : lv_has lc M.2.2.1 (ls.map fun q => (q.1, cv G q.2))) (oa : ∀ w ∈ as, okV w) :
    va_Run p G.1 e R s m args below meth c H locs cs sl 0 0 (F0 m pc lc ((as.reverse ++ st).map (cv G))) (st.map (cv G)) (QQ G M2 Ψ (as.map (cv G)).toArray) (GA G) := by
  have hM := kk oa
  have pre := pre_call (M2 := M2) (as := as) (h := h) K P S
  have cw : CallB R s args M.1.cls idx M2.1 M2.2.1 M2.2.2.1 M2.2.2.2.1 (TBM M2) (rmK M2.2.2.2.2) 0 0 n ∧ (Cond.static M2.1).before args s = true :=
    ⟨callB_of n C.2.2.2.2.1 (good_M2 hl.1) rfl rfl rfl (C.2.2.2.2.1 _ hl.1.2.1) (C.2.2.2.2.1 _ hl.2.1) hl.1.2.2 hR, C.2.2.2.2.1 _ hl.2.2⟩
  exact va_runS (cf C) hM cw pre rfl (by rw [List.length_map]; exact hn) L.1 (by show (as.reverse ++ st).map (cv G) = _; rw [rev_map0]) (lv_room (by rw [cat_sum]; exact hcat)) hd hcs
theorem run_N {M2 : MD} {idx n : Nat} {as : List AV} {Ψ : Int → Hp → Prop} (hd : decode M.2.1 pc = .ok (.invokestatic idx, 3)) (hl : CLN M.1.cls idx M2 n) (hR : RMs R M2) (hcs : cs ≤ R.cells ∧ sl ≤ R.slots) (hn : as.length = n) (hcat : (st.map catA).sum ≤ 8)
    (kk : Call G M2 as h Ψ) {p : Program} {e : Env} {s : State} {m : MethodId} {args : Array Value} {below : List Frame} {meth : Method} {c : Code} {H : Heap} {locs : List Loc} {lc : Array Slot} (C : CX M p s m args meth c) (K : KX G s) (P : RH G h H) (S : va_S (GA G) s.heap H locs) (L : lv_has lc M.2.2.1 (ls.map fun q => (q.1, cv G q.2))) (oa : ∀ w ∈ as, okV w) :
    va_Run p G.1 e R s m args below meth c H locs cs sl 0 0 (F0 m pc lc ((as.reverse ++ st).map (cv G))) (st.map (cv G)) (QQ G M2 Ψ (as.map (cv G)).toArray) (GA G) := by
  have hM := kk oa
  have pre := pre_call (M2 := M2) (as := as) (h := h) K P S
  have cw : va_CN R s args M.1.cls idx M2.1 "MissionHouse" M2.2.1 M2.2.2.1 M2.2.2.2.1 (TBM M2) (rmK M2.2.2.2.2) 0 0 n ∧ (Cond.static M2.1).before args s = true ∧ True :=
    ⟨va_cnB n C.2.2.2.2.1 (good_M2 hl.1) rfl rfl rfl (K.2.2.1.2 _ hl.2.1) (C.2.2.2.2.1 _ hl.1.2.1) hl.1.2.2 hR, C.2.2.2.2.1 _ hl.2.2, trivial⟩
  exact va_runSN (cf C) hM cw pre rfl (by rw [List.length_map]; exact hn) L.1 (by show (as.reverse ++ st).map (cv G) = _; rw [rev_map0]) (lv_room (by rw [cat_sum]; exact hcat)) hd hcs
theorem a_callVi {M2 : MD} {idx n : Nat} {as st0 : List AV} {k ci : Nat} {C0 : String} {T : u_T} {N : Nat} {ty : Nat → FieldType} (hd : decode M.2.1 pc = .ok (.invokevirtual idx, 3)) (hl : CLV M.1.cls idx M2 n) (hR : RMs R M2) (hcs : cs ≤ R.cells ∧ sl ≤ R.slots) (hc : CLS ci C0 T N ty) (hC0 : C0 = M2.1.cls) (hk : cOK k ci N 0 (rf k 0) = true) (hri : RTi M2.2.2.2.1 = true) (hst : as.reverse ++ rv k :: st = st0) (hn : as.length = n) (hcat : (st.map catA).sum ≤ 8)
    (kk : Call G M2 (rv k :: as) h (fun r h1 => ATW G M R cs sl QF (pc + 3) ls (iv r :: st) h1)) : ATW G M R cs sl QF pc ls st0 h := by
  intro p e s m args below meth c H locs lc C K P S L ol os
  subst hst
  have oa := (ok_app os).1
  have ot : ∀ v ∈ st, okV v := ok_tl (ok_app os).2
  exact call_i (as := as) hri C K S L ol ot (run_V hd hl hR hcs hc hC0 hk hn hcat kk C K P S L oa)
theorem a_callVv {M2 : MD} {idx n : Nat} {as st0 : List AV} {k ci : Nat} {C0 : String} {T : u_T} {N : Nat} {ty : Nat → FieldType} (hd : decode M.2.1 pc = .ok (.invokevirtual idx, 3)) (hl : CLV M.1.cls idx M2 n) (hR : RMs R M2) (hcs : cs ≤ R.cells ∧ sl ≤ R.slots) (hc : CLS ci C0 T N ty) (hC0 : C0 = M2.1.cls) (hk : cOK k ci N 0 (rf k 0) = true) (hri : M2.2.2.2.1 = none) (hst : as.reverse ++ rv k :: st = st0) (hn : as.length = n) (hcat : (st.map catA).sum ≤ 8)
    (kk : Call G M2 (rv k :: as) h (fun _ h1 => ATW G M R cs sl QF (pc + 3) ls st h1)) : ATW G M R cs sl QF pc ls st0 h := by
  intro p e s m args below meth c H locs lc C K P S L ol os
  subst hst
  have oa := (ok_app os).1
  have ot : ∀ v ∈ st, okV v := ok_tl (ok_app os).2
  exact call_v (as := as) hri C K S L ol ot (run_V hd hl hR hcs hc hC0 hk hn hcat kk C K P S L oa)
theorem a_callSi {M2 : MD} {idx n : Nat} {as st0 : List AV} (hd : decode M.2.1 pc = .ok (.invokestatic idx, 3)) (hl : CLT M.1.cls idx M2 n) (hR : RMs R M2) (hcs : cs ≤ R.cells ∧ sl ≤ R.slots) (hri : RTi M2.2.2.2.1 = true) (hst : as.reverse ++ st = st0) (hn : as.length = n) (hcat : (st.map catA).sum ≤ 8)
    (kk : Call G M2 as h (fun r h1 => ATW G M R cs sl QF (pc + 3) ls (iv r :: st) h1)) : ATW G M R cs sl QF pc ls st0 h := by
  intro p e s m args below meth c H locs lc C K P S L ol os
  subst hst
  have oa := (ok_app os).1
  have ot : ∀ v ∈ st, okV v := (ok_app os).2
  exact call_i (as := as) hri C K S L ol ot (run_S hd hl hR hcs hn hcat kk C K P S L oa)
theorem a_callSv {M2 : MD} {idx n : Nat} {as st0 : List AV} (hd : decode M.2.1 pc = .ok (.invokestatic idx, 3)) (hl : CLT M.1.cls idx M2 n) (hR : RMs R M2) (hcs : cs ≤ R.cells ∧ sl ≤ R.slots) (hri : M2.2.2.2.1 = none) (hst : as.reverse ++ st = st0) (hn : as.length = n) (hcat : (st.map catA).sum ≤ 8)
    (kk : Call G M2 as h (fun _ h1 => ATW G M R cs sl QF (pc + 3) ls st h1)) : ATW G M R cs sl QF pc ls st0 h := by
  intro p e s m args below meth c H locs lc C K P S L ol os
  subst hst
  have oa := (ok_app os).1
  have ot : ∀ v ∈ st, okV v := (ok_app os).2
  exact call_v (as := as) hri C K S L ol ot (run_S hd hl hR hcs hn hcat kk C K P S L oa)
theorem a_callSr {M2 : MD} {idx n : Nat} {as st0 : List AV} (hd : decode M.2.1 pc = .ok (.invokestatic idx, 3)) (hl : CLT M.1.cls idx M2 n) (hR : RMs R M2) (hcs : cs ≤ R.cells ∧ sl ≤ R.slots) {cn : String} (hri : M2.2.2.2.1 = some (.object cn)) (hst : as.reverse ++ st = st0) (hn : as.length = n) (hcat : (st.map catA).sum ≤ 8)
    (kk : Call G M2 as h (fun r h1 => ATW G M R cs sl QF (pc + 3) ls (rv r.toNat :: st) h1)) : ATW G M R cs sl QF pc ls st0 h := by
  intro p e s m args below meth c H locs lc C K P S L ol os
  subst hst
  have oa := (ok_app os).1
  have ot : ∀ v ∈ st, okV v := (ok_app os).2
  exact call_r (as := as) hri C K S L ol ot (run_S hd hl hR hcs hn hcat kk C K P S L oa)
theorem a_callNi {M2 : MD} {idx n : Nat} {as st0 : List AV} (hd : decode M.2.1 pc = .ok (.invokestatic idx, 3)) (hl : CLN M.1.cls idx M2 n) (hR : RMs R M2) (hcs : cs ≤ R.cells ∧ sl ≤ R.slots) (hri : RTi M2.2.2.2.1 = true) (hst : as.reverse ++ st = st0) (hn : as.length = n) (hcat : (st.map catA).sum ≤ 8)
    (kk : Call G M2 as h (fun r h1 => ATW G M R cs sl QF (pc + 3) ls (iv r :: st) h1)) : ATW G M R cs sl QF pc ls st0 h := by
  intro p e s m args below meth c H locs lc C K P S L ol os
  subst hst
  have oa := (ok_app os).1
  have ot : ∀ v ∈ st, okV v := (ok_app os).2
  exact call_i (as := as) hri C K S L ol ot (run_N hd hl hR hcs hn hcat kk C K P S L oa)
end RowsD

/-! an array copied into another -/
def cpy (h : Hp) (k0 : Nat) (sp : Int) (k1 : Nat) (dp n : Int) : Hp := fun k i => if k = k1 ∧ dp ≤ i ∧ i < dp + n then h k0 (sp + (i - dp)) else h k i
theorem cpy_ne {h : Hp} {k0 k1 : Nat} {sp dp n : Int} {k : Nat} (e : k ≠ k1) : cpy h k0 sp k1 dp n k = h k := by funext i; simp [cpy, e]
section RowsE
variable {G : GG} {M : MD} {R : Room} {cs sl : Nat} {QF : List Frame → Array Value → State → State → Prop} {pc : Nat} {ls : List (Nat × AV)} {st : List AV} {h : Hp}
def ACW (own : String) (idx : Nat) : Prop := Cond.methodLink own idx arraycopyName ∈ TB ∧ Cond.native arraycopyName ∈ TB ∧ Cond.static arraycopyName ∈ TB ∧ Cond.initialized "java/lang/System" ∈ TB
theorem a_copy {idx k0 k1 N0 N1 : Nat} {sp dp n : Int} (hd : decode M.2.1 pc = .ok (.invokestatic idx, 3)) (hw : ACW M.1.cls idx) (h0 : aOK k0 20 N0 = true) (h1 : aOK k1 20 N1 = true) (hR : 1 ≤ R.frames ∧ (st.map catA).sum + 18 ≤ R.locals)
    (kk : (0 ≤ sp ∧ 0 ≤ dp ∧ 0 ≤ n ∧ sp + n ≤ N0 ∧ dp + n ≤ N1) ∧ ATW G M R cs sl QF (pc + 3) ls st (cpy h k0 sp k1 dp n)) : ATW G M R cs sl QF pc ls (iv n :: iv dp :: rv k1 :: iv sp :: rv k0 :: st) h := by
  intro p e s m args below meth c H locs lc C K P S L ol os
  obtain ⟨a1, a2, a3, a4⟩ := aOK.s h0
  obtain ⟨b1, b2, b3, b4⟩ := aOK.s h1
  obtain ⟨⟨g1, g2, g3, g4, g5⟩, kk⟩ := kk
  have on : i32 n := ok_hd os
  have odp : i32 dp := ok_hd (ok_tl os)
  have osp : i32 sp := ok_hd (ok_tl (ok_tl (ok_tl os)))
  have he0 := ws_at (G := G) (h := h) a1 a2
  rw [ent_arr a3 (by omega) (by omega)] at he0
  have he1 := ws_at (G := G) (h := h) b1 b2
  rw [ent_arr b3 (by omega) (by omega)] at he1
  have c1 := o_clamp g1 osp.2
  have c2 := o_clamp g2 odp.2
  have c3 := o_clamp g3 on.2
  have nn : ∀ {z : Int}, i32 z → 0 ≤ z → ¬ Int32.ofInt z < 0 := fun hz h0 q => by
    rw [show (0 : Int32) = Int32.ofInt 0 from rfl, o_lt hz (by unfold i32; omega)] at q
    omega
  simp only [List.map_cons]
  rw [cv_ref (by omega : 0 < k0), cv_ref (by omega : 0 < k1)]
  refine va_copyi C.1 C.2.1 (C.2.2.1.trans L.1.symm) C.2.2.2.1 (C.2.2.2.2.1 _ hw.1) (C.2.2.2.2.1 _ hw.2.1) (C.2.2.2.2.1 _ hw.2.2.1) (C.2.2.2.2.1 _ hw.2.2.2) K.2.1 P.1 (ws_D K.1) S (k0 - 1) (k1 - 1) 0 0 he0 he1 rfl rfl rfl (nn osp g1) (nn odp g2) (nn on g3) (by omega) (by omega) (fun _ _ => rfl) hR.1 (by rw [cat_sum]; exact hR.2) hd fun H1 locs1 P1 _ S1 => ?_
  have okc : okH (cpy h k0 sp k1 dp n) := by
    intro k hk i i0 i1
    unfold cpy
    by_cases q : k = k1 ∧ dp ≤ i ∧ i < dp + n
    · rw [if_pos q]
      exact ⟨(P.2 k0 a2 _ (by omega) (by omega)).1, fun z => by rw [q.1, b3] at z; omega⟩
    · rw [if_neg q]
      exact P.2 k hk i i0 i1
  refine kk p e s m args below meth c H1 locs1 lc C K ⟨?_, okc⟩ S1 L ol (ok_tl (ok_tl (ok_tl (ok_tl (ok_tl os)))))
  have ef : va_cpy (fun j : Nat => Int32.ofInt (h k0 j)) (fun j : Nat => Int32.ofInt (h k1 j)) (Int32.ofInt sp).toNatClampNeg (Int32.ofInt dp).toNatClampNeg (Int32.ofInt n).toNatClampNeg = fun j : Nat => Int32.ofInt (cpy h k0 sp k1 dp n k1 j) := by
    funext j
    unfold va_cpy cpy
    by_cases q : (Int32.ofInt dp).toNatClampNeg ≤ j ∧ j < (Int32.ofInt dp).toNatClampNeg + (Int32.ofInt n).toNatClampNeg
    · rw [if_pos q, if_pos ⟨rfl, by omega, by omega⟩]
      exact congrArg (fun z => Int32.ofInt (h k0 z)) (by omega)
    · rw [if_neg q, if_neg (by omega)]
  rw [ef, show (Sum.inl (G.2.2.2.1 20, sz k1, .inl (fun j : Nat => Int32.ofInt (cpy h k0 sp k1 dp n k1 j))) : va_E) = entO G (cpy h k0 sp k1 dp n) k1 from (ent_arr b3 (by omega) (by omega)).symm, ws_set b1 b2 (fun k' hk' => cpy_ne hk')] at P1
  exact P1
end RowsE
/-! a method's contract out of a walk from its entry -/
def alocs : Nat → List AV → List (Nat × AV)
  | _, [] => []
  | i, v :: t => (i, v) :: alocs (i + catA v) t
theorem alocs_cv {G : GG} : ∀ (as : List AV) (i : Nat), (alocs i as).map (fun q => (q.1, cv G q.2)) = lv_args i (as.map (cv G))
  | [], _ => rfl
  | v :: t, i => by
    simp only [alocs, List.map_cons, lv_args]
    rw [alocs_cv t, cat_cv]
    rcases v with x | k | x
    · rfl
    · rfl
    · rfl
theorem alocs_ok : ∀ (as : List AV) (i : Nat), (∀ v ∈ as, okV v) → ∀ q ∈ alocs i as, okV q.2
  | [], _, _, q, h => by cases h
  | v :: t, i, o, q, h => by
    rcases List.mem_cons.mp h with rfl | h
    · exact o v List.mem_cons_self
    · exact alocs_ok t _ (fun w hw => o w (List.mem_cons_of_mem _ hw)) q h
theorem sl_len {G : GG} : ∀ as : List AV, (lg_sl (as.map (cv G))).length = (as.map catA).sum
  | [] => rfl
  | v :: t => by
    have ih := sl_len (G := G) t
    simp only [lg_sl, List.map_cons, List.flatMap_cons, List.length_append, List.sum_cons] at ih ⊢
    rw [cat_cv, ih]
    rcases v with x | k | x <;> rfl
theorem Call.of {G : GG} {M : MD} {as : List AV} {h : Hp} {Φ : Int → Hp → Prop} {ls : List (Nat × AV)} (hp : plainName M.1.cls = true) (hs : (as.map catA).sum ≤ M.2.2.1) (hl : alocs 0 as = ls) (k : AT G M 0 ls [] h Φ) : Call G M as h Φ := by
  intro oa
  subst hl
  refine Met.ofW (cc := M.2.1) (maxL := M.2.2.1) (ret := M.2.2.2.1) hp rfl ?_
  intro p e s m args below meth c s₁ B hml hv
  obtain ⟨rfl, hK, hP⟩ := hv
  have hts := atoms_spec (ws := TBM M) B.pre
  have hown : s.vm.findClass M.1.cls = some m.cls := findClass_of_methodNamed B.named
  have hl := lv_entry (as.map (cv G)) (n := M.2.2.1) (by rw [sl_len]; exact hs)
  rw [lg_entry_eq]
  rw [← alocs_cv] at hl
  exact k p e s m _ below meth c s.heap [] _ ⟨B.exec, B.bytes, hml, hown, fun w hw => hts w (List.mem_cons_of_mem _ hw), B.returns, B.notSynchronized⟩ hK hP va_S.rf hl (alocs_ok as 0 oa) (fun v hv => by cases hv)
/-- weaker ends -/
theorem QQ_mono {G : GG} {M : MD} {Φ Ψ : Int → Hp → Prop} (h : ∀ r u, Φ r u → Ψ r u) {a : Array Value} {s t : State} {o : Outcome} (q : QQ G M Φ a s o t) : QQ G M Ψ a s o t := by
  obtain ⟨y, b, n, rt, k⟩ := M
  have key1 : va_Qi (fun (r : Int32) (u : Hp) => Φ r.toInt u) (fun u t => RH G u t.heap) (GA G) a s o t → va_Qi (fun (r : Int32) (u : Hp) => Ψ r.toInt u) (fun u t => RH G u t.heap) (GA G) a s o t := fun q => by
    obtain ⟨⟨r, u, e1, e2, e3⟩, f⟩ := q
    exact ⟨⟨r, u, e1, h _ _ e2, e3⟩, f⟩
  rcases rt with _ | ty
  · obtain ⟨⟨u, e1, e2, e3⟩, f⟩ := q
    exact ⟨⟨u, e1, h _ _ e2, e3⟩, f⟩
  · cases ty with
    | object c =>
      obtain ⟨⟨u, a, e1, e2, e3⟩, f⟩ := q
      exact ⟨⟨u, a, e1, h _ _ e2, e3⟩, f⟩
    | _ => exact key1 q
theorem Call.mono {G : GG} {M : MD} {as : List AV} {h : Hp} {Φ Ψ : Int → Hp → Prop} (k : Call G M as h Φ) (i : ∀ r u, Φ r u → Ψ r u) : Call G M as h Ψ := fun oa =>
  MetFree.mono (k oa) (fun _ _ q => q) (fun _ _ _ _ _ _ => trivial) (fun _ _ _ _ _ q => ⟨QQ_mono i q.1, q.2⟩)

theorem a_ok {G : GG} {M : MD} {R : Room} {cs sl : Nat} {QF : List Frame → Array Value → State → State → Prop} {pc : Nat} {ls : List (Nat × AV)} {st : List AV} {h : Hp} (k : okH h → (∀ q ∈ ls, okV q.2) → ATW G M R cs sl QF pc ls st h) : ATW G M R cs sl QF pc ls st h := by
  intro p e s m args below meth c H locs lc C K P S L ol os
  exact k P.2 ol p e s m args below meth c H locs lc C K P S L ol os
theorem Call.ok {G : GG} {M : MD} {as : List AV} {h : Hp} {Φ : Int → Hp → Prop} (k : okH h → (∀ v ∈ as, okV v) → Call G M as h Φ) : Call G M as h Φ := by
  intro oa
  by_cases o : okH h
  · exact k o oa oa
  · intro p e ha hc hk s m args below hf happ hp _
    exact absurd hp.2.2.2 o
/-- one row of a method's decode rows -/
def dcs (b : ByteArray) (l : List (Nat × Instr × Nat)) : Bool := l.all fun e => decide (decode b e.1 = .ok (e.2.1, e.2.2))
theorem dk {b : ByteArray} {l : List (Nat × Instr × Nat)} (h : dcs b l = true) (i : Nat) {pc len : Nat} {ins : Instr} (hi : l[i]? = some (pc, ins, len)) : decode b pc = .ok (ins, len) := by
  have := List.all_eq_true.mp h _ (List.mem_of_getElem? hi)
  simpa using this
theorem tbm {w : Cond} (i : Nat) (h : tables_1[i]? = some w) (g : goodWord w = true) : w ∈ TB := List.mem_filter.mpr ⟨List.mem_append_right _ (List.mem_of_getElem? h), g⟩
theorem tbs {w : Cond} (h : w ∈ tables_1) (g : goodWord w = true) : w ∈ TB := List.mem_filter.mpr ⟨List.mem_append_right _ h, g⟩
theorem tb_1 {w : Cond} (i : Nat) (h : tables_1_1[i]? = some w) (g : goodWord w = true) : w ∈ TB := tbs (List.mem_append_left _ (List.mem_of_getElem? h)) g
theorem tb_2 {w : Cond} (i : Nat) (h : tables_1_2[i]? = some w) (g : goodWord w = true) : w ∈ TB := tbs (List.mem_append_right _ (List.mem_append_left _ (List.mem_of_getElem? h))) g
theorem tb_3 {w : Cond} (i : Nat) (h : tables_1_3[i]? = some w) (g : goodWord w = true) : w ∈ TB := tbs (List.mem_append_right _ (List.mem_append_right _ (List.mem_append_left _ (List.mem_of_getElem? h)))) g
theorem tb_4 {w : Cond} (i : Nat) (h : tables_1_4[i]? = some w) (g : goodWord w = true) : w ∈ TB := tbs (List.mem_append_right _ (List.mem_append_right _ (List.mem_append_right _ (List.mem_append_left _ (List.mem_of_getElem? h))))) g
theorem tb_5 {w : Cond} (i : Nat) (h : tables_1_5[i]? = some w) (g : goodWord w = true) : w ∈ TB := tbs (List.mem_append_right _ (List.mem_append_right _ (List.mem_append_right _ (List.mem_append_right _ (List.mem_append_left _ (List.mem_of_getElem? h)))))) g
theorem tb_6 {w : Cond} (i : Nat) (h : tables_1_6[i]? = some w) (g : goodWord w = true) : w ∈ TB := tbs (List.mem_append_right _ (List.mem_append_right _ (List.mem_append_right _ (List.mem_append_right _ (List.mem_append_right _ (List.mem_append_left _ (List.mem_of_getElem? h))))))) g
theorem tb_7 {w : Cond} (i : Nat) (h : tables_1_7[i]? = some w) (g : goodWord w = true) : w ∈ TB := tbs (List.mem_append_right _ (List.mem_append_right _ (List.mem_append_right _ (List.mem_append_right _ (List.mem_append_right _ (List.mem_append_right _ (List.mem_append_left _ (List.mem_of_getElem? h)))))))) g
theorem tb_8 {w : Cond} (i : Nat) (h : tables_1_8[i]? = some w) (g : goodWord w = true) : w ∈ TB := tbs (List.mem_append_right _ (List.mem_append_right _ (List.mem_append_right _ (List.mem_append_right _ (List.mem_append_right _ (List.mem_append_right _ (List.mem_append_right _ (List.mem_append_left _ (List.mem_of_getElem? h))))))))) g
theorem tb_9 {w : Cond} (i : Nat) (h : tables_1_9[i]? = some w) (g : goodWord w = true) : w ∈ TB := tbs (List.mem_append_right _ (List.mem_append_right _ (List.mem_append_right _ (List.mem_append_right _ (List.mem_append_right _ (List.mem_append_right _ (List.mem_append_right _ (List.mem_append_right _ (List.mem_of_getElem? h))))))))) g
theorem tbp {q : MethodName × Nat} (i : Nat) (h : lw_privs[i]? = some q) (g : goodWord (Cond.selects q.1.cls q.1 q.1) = true) : Cond.selects q.1.cls q.1 q.1 ∈ TB := List.mem_filter.mpr ⟨List.mem_append_left _ (List.mem_map.mpr ⟨q, List.mem_of_getElem? h, rfl⟩), g⟩
