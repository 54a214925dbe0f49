/-! rows of the abstract machine: constants, locals, stack, numbers, branches -/
section RowsA
variable {G : GG} {M : MD} {R : Room} {cs sl : Nat} {QF : List Frame → Array Value → State → State → Prop} {pc : Nat} {ls : List (Nat × AV)} {st : List AV} {h : Hp}
theorem a_pick {ls' : List (Nat × AV)} (ks : List Nat) (hl : lpick ls ks = ls') (k : ATW G M R cs sl QF pc ls' st h) : ATW G M R cs sl QF pc ls st h := by
  intro p e s m args below meth c H locs lc C K P S L ol os
  have sub : ∀ q ∈ ls', q ∈ ls := by
    intro q hq
    rw [← hl] at hq
    obtain ⟨i, -, hi⟩ := List.mem_filterMap.mp hq
    exact List.mem_of_getElem? hi
  refine k p e s m args below meth c H locs lc C K P S ⟨L.1, L.2.1, fun q hq => L.2.2 q ?_⟩ (fun q hq => ol q (sub q hq)) os
  obtain ⟨r, hr, rfl⟩ := List.mem_map.mp hq
  exact List.mem_map.mpr ⟨r, sub r hr, rfl⟩
theorem a_iconst {n : Int} (hd : decode M.2.1 pc = .ok (.iconst n, 1)) (hn : i32 n) (k : ATW G M R cs sl QF (pc + 1) ls (iv n :: st) h) : ATW G M R cs sl QF pc ls st h := by
  intro p e s m args below meth c H locs lc C K P S L ol os
  exact lv_iconst C.1 C.2.1 hd rfl (k p e s m args below meth c H locs lc C K P S L ol (ok_cons hn os))
theorem a_bipush {n : Int} (hd : decode M.2.1 pc = .ok (.bipush n, 2)) (hn : i32 n) (hv : (Int8.ofInt n).toInt32 = Int32.ofInt n) (k : ATW G M R cs sl QF (pc + 2) ls (iv n :: st) h) : ATW G M R cs sl QF pc ls st h := by
  intro p e s m args below meth c H locs lc C K P S L ol os
  exact lv_bipush C.1 C.2.1 hd hv (k p e s m args below meth c H locs lc C K P S L ol (ok_cons hn os))
theorem a_sipush {n : Int} (hd : decode M.2.1 pc = .ok (.sipush n, 3)) (hn : i32 n) (hv : (Int16.ofInt n).toInt32 = Int32.ofInt n) (k : ATW G M R cs sl QF (pc + 3) ls (iv n :: st) h) : ATW G M R cs sl QF pc ls st h := by
  intro p e s m args below meth c H locs lc C K P S L ol os
  exact lv_sipush C.1 C.2.1 hd hv (k p e s m args below meth c H locs lc C K P S L ol (ok_cons hn os))
theorem a_ldc {n : Int} {idx : Nat} (hd : decode M.2.1 pc = .ok (.ldc idx, 2)) (hn : i32 n) (hw : Cond.constant M.1.cls idx (Int32.ofInt n) ∈ TB) (k : ATW G M R cs sl QF (pc + 2) ls (iv n :: st) h) : ATW G M R cs sl QF pc ls st h := by
  intro p e s m args below meth c H locs lc C K P S L ol os
  exact lv_ldc C.1 C.2.1 C.2.2.2.1 (C.2.2.2.2.1 _ hw) hd (k p e s m args below meth c H locs lc C K P S L ol (ok_cons hn os))
theorem a_ldcw {n : Int} {idx : Nat} (hd : decode M.2.1 pc = .ok (.ldc_w idx, 3)) (hn : i32 n) (hw : Cond.constant M.1.cls idx (Int32.ofInt n) ∈ TB) (k : ATW G M R cs sl QF (pc + 3) ls (iv n :: st) h) : ATW G M R cs sl QF pc ls st h := by
  intro p e s m args below meth c H locs lc C K P S L ol os
  exact lv_ldcw C.1 C.2.1 C.2.2.2.1 (C.2.2.2.2.1 _ hw) hd (k p e s m args below meth c H locs lc C K P S L ol (ok_cons hn os))
theorem a_iload_n {j : Fin 4} {x : Int} (hd : decode M.2.1 pc = .ok (.iload_n j, 1)) (hg : lget ls j = some (iv x)) (k : ATW G M R cs sl QF (pc + 1) ls (iv x :: st) h) : ATW G M R cs sl QF pc ls st h := by
  intro p e s m args below meth c H locs lc C K P S L ol os
  exact lv_iload_n C.1 C.2.1 hd rfl (lget_at L hg) (k p e s m args below meth c H locs lc C K P S L ol (ok_cons (lget_ok ol hg) os))
theorem a_iload {j : Nat} {x : Int} (hd : decode M.2.1 pc = .ok (.iload j, 2)) (hg : lget ls j = some (iv x)) (k : ATW G M R cs sl QF (pc + 2) ls (iv x :: st) h) : ATW G M R cs sl QF pc ls st h := by
  intro p e s m args below meth c H locs lc C K P S L ol os
  exact lv_iload C.1 C.2.1 hd (lget_at L hg) (k p e s m args below meth c H locs lc C K P S L ol (ok_cons (lget_ok ol hg) os))
theorem a_aload_n {j : Fin 4} {x : Nat} (hd : decode M.2.1 pc = .ok (.aload_n j, 1)) (hg : lget ls j = some (rv x)) (k : ATW G M R cs sl QF (pc + 1) ls (rv x :: st) h) : ATW G M R cs sl QF pc ls st h := by
  intro p e s m args below meth c H locs lc C K P S L ol os
  cases x with
  | zero => exact lv_aload_nN C.1 C.2.1 hd rfl (lget_at L hg) (k p e s m args below meth c H locs lc C K P S L ol (ok_cons trivial os))
  | succ x => exact lv_aload_n C.1 C.2.1 hd rfl (lget_at L hg) (k p e s m args below meth c H locs lc C K P S L ol (ok_cons trivial os))
theorem a_aload {j : Nat} {x : Nat} (hd : decode M.2.1 pc = .ok (.aload j, 2)) (hg : lget ls j = some (rv x)) (k : ATW G M R cs sl QF (pc + 2) ls (rv x :: st) h) : ATW G M R cs sl QF pc ls st h := by
  intro p e s m args below meth c H locs lc C K P S L ol os
  cases x with
  | zero => exact lv_aloadN C.1 C.2.1 hd (lget_at L hg) (k p e s m args below meth c H locs lc C K P S L ol (ok_cons trivial os))
  | succ x => exact lv_aload C.1 C.2.1 hd (lget_at L hg) (k p e s m args below meth c H locs lc C K P S L ol (ok_cons trivial os))
theorem a_lload_n {j : Fin 4} {x : Int} (hd : decode M.2.1 pc = .ok (.lload_n j, 1)) (hg : lget ls j = some (jv x)) (k : ATW G M R cs sl QF (pc + 1) ls (jv x :: st) h) : ATW G M R cs sl QF pc ls st h := by
  intro p e s m args below meth c H locs lc C K P S L ol os
  exact lv_lload_n C.1 C.2.1 hd rfl (lget_at L hg) (k p e s m args below meth c H locs lc C K P S L ol (ok_cons (lget_ok ol hg) os))
theorem a_istore_n {j : Fin 4} {x : Int} {ls' : List (Nat × AV)} (hd : decode M.2.1 pc = .ok (.istore_n j, 1)) (hj : (j : Nat) < M.2.2.1) (hJ : lnoJ ls = true) (hs : lset ls j (iv x) = ls') (k : ATW G M R cs sl QF (pc + 1) ls' st h) : ATW G M R cs sl QF pc ls (iv x :: st) h := by
  intro p e s m args below meth c H locs lc C K P S L ol os
  subst hs
  exact lv_istore_n C.1 C.2.1 hd rfl L hj rfl fun lc' L' => k p e s m args below meth c H locs lc' C K P S (lset_has hJ L') (lset_ok ol (ok_hd os)) (ok_tl os)
theorem a_istore {j : Nat} {x : Int} {ls' : List (Nat × AV)} (hd : decode M.2.1 pc = .ok (.istore j, 2)) (hj : j < M.2.2.1) (hJ : lnoJ ls = true) (hs : lset ls j (iv x) = ls') (k : ATW G M R cs sl QF (pc + 2) ls' st h) : ATW G M R cs sl QF pc ls (iv x :: st) h := by
  intro p e s m args below meth c H locs lc C K P S L ol os
  subst hs
  exact lv_istore C.1 C.2.1 hd L hj rfl fun lc' L' => k p e s m args below meth c H locs lc' C K P S (lset_has hJ L') (lset_ok ol (ok_hd os)) (ok_tl os)
theorem a_astore_n {j : Fin 4} {x : Nat} {ls' : List (Nat × AV)} (hd : decode M.2.1 pc = .ok (.astore_n j, 1)) (hj : (j : Nat) < M.2.2.1) (hJ : lnoJ ls = true) (hs : lset ls j (rv x) = ls') (k : ATW G M R cs sl QF (pc + 1) ls' st h) : ATW G M R cs sl QF pc ls (rv x :: st) h := by
  intro p e s m args below meth c H locs lc C K P S L ol os
  subst hs
  cases x with
  | zero => exact lv_astore_nN C.1 C.2.1 hd rfl L hj rfl fun lc' L' => k p e s m args below meth c H locs lc' C K P S (lset_has (v := rv 0) hJ L') (lset_ok ol trivial) (ok_tl os)
  | succ x => exact lv_astore_n C.1 C.2.1 hd rfl L hj rfl fun lc' L' => k p e s m args below meth c H locs lc' C K P S (lset_has (v := rv (x + 1)) hJ L') (lset_ok ol trivial) (ok_tl os)
theorem a_iinc {j : Nat} {n x : Int} {ls' : List (Nat × AV)} (hd : decode M.2.1 pc = .ok (.iinc j n, 3)) (hj : j < M.2.2.1) (hJ : lnoJ ls = true) (hg : lget ls j = some (iv x)) (hs : lset ls j (iv (w32 (x + n))) = ls') (k : ATW G M R cs sl QF (pc + 3) ls' st h) : ATW G M R cs sl QF pc ls st h := by
  intro p e s m args below meth c H locs lc C K P S L ol os
  subst hs
  obtain ⟨i, hi⟩ := List.getElem?_of_mem (List.mem_map.mpr ⟨(j, iv x), lget_mem hg, rfl⟩ : (j, cv G (iv x)) ∈ ls.map fun q => (q.1, cv G q.2))
  exact lv_iinc (v := Int32.ofInt (w32 (x + n))) C.1 C.2.1 hd L hi (by rw [o_w32, Int32.ofInt_add]) hj rfl fun lc' L' => k p e s m args below meth c H locs lc' C K P S (lset_has (v := iv (w32 (x + n))) hJ L') (lset_ok ol (i32_w _)) os
theorem a_dup {v : AV} (hd : decode M.2.1 pc = .ok (.dup, 1)) (hc : catA v = 1) (k : ATW G M R cs sl QF (pc + 1) ls (v :: v :: st) h) : ATW G M R cs sl QF pc ls (v :: st) h := by
  intro p e s m args below meth c H locs lc C K P S L ol os
  have hc' : (cv G v).category = 1 := by
    rcases v with x | n | x
    · rfl
    · cases n <;> rfl
    · cases hc
  exact lv_dup C.1 C.2.1 hd hc' (k p e s m args below meth c H locs lc C K P S L ol (ok_cons (ok_hd os) os))
theorem a_pop {v : AV} (hd : decode M.2.1 pc = .ok (.pop, 1)) (hc : catA v = 1) (k : ATW G M R cs sl QF (pc + 1) ls st h) : ATW G M R cs sl QF pc ls (v :: st) h := by
  intro p e s m args below meth c H locs lc C K P S L ol os
  have hc' : (cv G v).category = 1 := by
    rcases v with x | n | x
    · rfl
    · cases n <;> rfl
    · cases hc
  exact lv_pop C.1 C.2.1 hd hc' (k p e s m args below meth c H locs lc C K P S L ol (ok_tl os))
theorem a_dup2 {v w : AV} (hd : decode M.2.1 pc = .ok (.dup2, 1)) (hc : catA v = 1) (hcw : catA w = 1) (k : ATW G M R cs sl QF (pc + 1) ls (v :: w :: v :: w :: st) h) : ATW G M R cs sl QF pc ls (v :: w :: st) h := by
  intro p e s m args below meth c H locs lc C K P S L ol os
  have hc' : (cv G v).category = 1 := by
    rcases v with x | n | x
    · rfl
    · cases n <;> rfl
    · cases hc
  have hcw' : (cv G w).category = 1 := by
    rcases w with x | n | x
    · rfl
    · cases n <;> rfl
    · cases hcw
  exact lv_dup2_11 C.1 C.2.1 hd hc' hcw' (k p e s m args below meth c H locs lc C K P S L ol (ok_cons (ok_hd os) (ok_cons (ok_hd (ok_tl os)) os)))
theorem a_iadd {x y : Int} (hd : decode M.2.1 pc = .ok (.iadd, 1)) (k : ATW G M R cs sl QF (pc + 1) ls (iv (w32 (x + y)) :: st) h) : ATW G M R cs sl QF pc ls (iv y :: iv x :: st) h := by
  intro p e s m args below meth c H locs lc C K P S L ol os
  have k' := k p e s m args below meth c H locs lc C K P S L ol (ok_cons (i32_w _) (ok_tl (ok_tl os)))
  simp only [List.map_cons, cv, o_w32, Int32.ofInt_add] at k' ⊢
  exact lv_iadd C.1 C.2.1 hd k'
theorem a_isub {x y : Int} (hd : decode M.2.1 pc = .ok (.isub, 1)) (k : ATW G M R cs sl QF (pc + 1) ls (iv (w32 (x - y)) :: st) h) : ATW G M R cs sl QF pc ls (iv y :: iv x :: st) h := by
  intro p e s m args below meth c H locs lc C K P S L ol os
  have k' := k p e s m args below meth c H locs lc C K P S L ol (ok_cons (i32_w _) (ok_tl (ok_tl os)))
  simp only [List.map_cons, cv, o_w32, Int32.ofInt_sub] at k' ⊢
  exact lv_isub C.1 C.2.1 hd k'
theorem a_imul {x y : Int} (hd : decode M.2.1 pc = .ok (.imul, 1)) (k : ATW G M R cs sl QF (pc + 1) ls (iv (w32 (x * y)) :: st) h) : ATW G M R cs sl QF pc ls (iv y :: iv x :: st) h := by
  intro p e s m args below meth c H locs lc C K P S L ol os
  have k' := k p e s m args below meth c H locs lc C K P S L ol (ok_cons (i32_w _) (ok_tl (ok_tl os)))
  simp only [List.map_cons, cv, o_w32, Int32.ofInt_mul] at k' ⊢
  exact lv_imul C.1 C.2.1 hd k'
theorem a_ineg {x : Int} (hd : decode M.2.1 pc = .ok (.ineg, 1)) (k : ATW G M R cs sl QF (pc + 1) ls (iv (w32 (-x)) :: st) h) : ATW G M R cs sl QF pc ls (iv x :: st) h := by
  intro p e s m args below meth c H locs lc C K P S L ol os
  have k' := k p e s m args below meth c H locs lc C K P S L ol (ok_cons (i32_w _) (ok_tl os))
  simp only [List.map_cons, cv, o_w32, Int32.ofInt_neg] at k' ⊢
  exact lv_ineg C.1 C.2.1 hd k'
theorem o_ne0 {y : Int} (hy : i32 y) (hne : y ≠ 0) : ¬ Int32.ofInt y = 0 := fun e => hne ((o_inj hy (by unfold i32; omega)).mp (e.trans rfl))
theorem a_idiv {x y : Int} (hd : decode M.2.1 pc = .ok (.idiv, 1)) (hk : y ≠ 0 ∧ ATW G M R cs sl QF (pc + 1) ls (iv (w32 (x.tdiv y)) :: st) h) : ATW G M R cs sl QF pc ls (iv y :: iv x :: st) h := by
  intro p e s m args below meth c H locs lc C K P S L ol os
  have hx : i32 x := ok_hd (ok_tl os)
  have hy : i32 y := ok_hd os
  have k' := hk.2 p e s m args below meth c H locs lc C K P S L ol (ok_cons (i32_w _) (ok_tl (ok_tl os)))
  have e1 : Int32.ofInt x / Int32.ofInt y = Int32.ofInt (w32 (x.tdiv y)) := by
    rw [o_w32, ← Int32.toInt_inj, Int32.toInt_div, t_o32 hx, t_o32 hy, Int32.toInt_ofInt]
  refine lv_idiv C.1 C.2.1 hd (o_ne0 hy hk.1) ?_
  rw [e1]
  exact k'
theorem a_irem {x y : Int} (hd : decode M.2.1 pc = .ok (.irem, 1)) (hk : y ≠ 0 ∧ ATW G M R cs sl QF (pc + 1) ls (iv (x.tmod y) :: st) h) : ATW G M R cs sl QF pc ls (iv y :: iv x :: st) h := by
  intro p e s m args below meth c H locs lc C K P S L ol os
  have hx : i32 x := ok_hd (ok_tl os)
  have hy : i32 y := ok_hd os
  have e0 : x.tmod y = x - x.tdiv y * y := by rw [Int.tmod_def, Int.mul_comm]
  have e1 : Int32.ofInt x - Int32.ofInt x / Int32.ofInt y * Int32.ofInt y = Int32.ofInt (x.tmod y) := by
    have e2 : Int32.ofInt x / Int32.ofInt y = Int32.ofInt (x.tdiv y) := by
      rw [← Int32.toInt_inj, Int32.toInt_div, t_o32 hx, t_o32 hy, Int32.toInt_ofInt]
    rw [e2, e0, Int32.ofInt_sub, Int32.ofInt_mul]
  have ok : i32 (x.tmod y) := by
    have h1 := hy.1
    have h2 := hy.2
    rcases Int.lt_trichotomy y 0 with hn | h0 | hp
    · have a1 := tmod_bounds (a := x) (by omega : 0 < -y)
      rw [Int.tmod_neg] at a1
      exact ⟨by omega, by omega⟩
    · exact absurd h0 hk.1
    · have a1 := tmod_bounds (a := x) hp
      exact ⟨by omega, by omega⟩
  have k' := hk.2 p e s m args below meth c H locs lc C K P S L ol (ok_cons ok (ok_tl (ok_tl os)))
  refine lv_irem C.1 C.2.1 hd (o_ne0 hy hk.1) ?_
  rw [e1]
  exact k'
theorem a_iand {x y : Int} (hd : decode M.2.1 pc = .ok (.iand, 1)) (k : ATW G M R cs sl QF (pc + 1) ls (iv (band x y) :: st) h) : ATW G M R cs sl QF pc ls (iv y :: iv x :: st) h := by
  intro p e s m args below meth c H locs lc C K P S L ol os
  have k' := k p e s m args below meth c H locs lc C K P S L ol (ok_cons (i32_t _) (ok_tl (ok_tl os)))
  simp only [List.map_cons, cv, band, o_t32] at k' ⊢
  exact lv_iand C.1 C.2.1 hd k'
theorem a_ior {x y : Int} (hd : decode M.2.1 pc = .ok (.ior, 1)) (k : ATW G M R cs sl QF (pc + 1) ls (iv (bor x y) :: st) h) : ATW G M R cs sl QF pc ls (iv y :: iv x :: st) h := by
  intro p e s m args below meth c H locs lc C K P S L ol os
  have k' := k p e s m args below meth c H locs lc C K P S L ol (ok_cons (i32_t _) (ok_tl (ok_tl os)))
  simp only [List.map_cons, cv, bor, o_t32] at k' ⊢
  exact lv_ior C.1 C.2.1 hd k'
theorem a_ixor {x y : Int} (hd : decode M.2.1 pc = .ok (.ixor, 1)) (k : ATW G M R cs sl QF (pc + 1) ls (iv (bxor x y) :: st) h) : ATW G M R cs sl QF pc ls (iv y :: iv x :: st) h := by
  intro p e s m args below meth c H locs lc C K P S L ol os
  have k' := k p e s m args below meth c H locs lc C K P S L ol (ok_cons (i32_t _) (ok_tl (ok_tl os)))
  simp only [List.map_cons, cv, bxor, o_t32] at k' ⊢
  exact lv_ixor C.1 C.2.1 hd k'
theorem a_ishl {x y : Int} (hd : decode M.2.1 pc = .ok (.ishl, 1)) (k : ATW G M R cs sl QF (pc + 1) ls (iv (bshl x y) :: st) h) : ATW G M R cs sl QF pc ls (iv y :: iv x :: st) h := by
  intro p e s m args below meth c H locs lc C K P S L ol os
  have k' := k p e s m args below meth c H locs lc C K P S L ol (ok_cons (i32_t _) (ok_tl (ok_tl os)))
  simp only [List.map_cons, cv, bshl, o_t32] at k' ⊢
  exact lv_ishl C.1 C.2.1 hd k'
theorem a_ishr {x y : Int} (hd : decode M.2.1 pc = .ok (.ishr, 1)) (k : ATW G M R cs sl QF (pc + 1) ls (iv (bshr x y) :: st) h) : ATW G M R cs sl QF pc ls (iv y :: iv x :: st) h := by
  intro p e s m args below meth c H locs lc C K P S L ol os
  have k' := k p e s m args below meth c H locs lc C K P S L ol (ok_cons (i32_t _) (ok_tl (ok_tl os)))
  simp only [List.map_cons, cv, bshr, o_t32] at k' ⊢
  exact lv_ishr C.1 C.2.1 hd k'
theorem a_iushr {x y : Int} (hd : decode M.2.1 pc = .ok (.iushr, 1)) (k : ATW G M R cs sl QF (pc + 1) ls (iv (bushr x y) :: st) h) : ATW G M R cs sl QF pc ls (iv y :: iv x :: st) h := by
  intro p e s m args below meth c H locs lc C K P S L ol os
  have k' := k p e s m args below meth c H locs lc C K P S L ol (ok_cons (i32_t _) (ok_tl (ok_tl os)))
  simp only [List.map_cons, cv, bushr, o_t32] at k' ⊢
  exact lv_iushr C.1 C.2.1 hd rfl k'
theorem a_goto {off : Int} {tgt : Nat} (hd : decode M.2.1 pc = .ok (.goto off, 3)) (ht : (pc : Int) + off = (tgt : Int)) (k : ATW G M R cs sl QF tgt ls st h) : ATW G M R cs sl QF pc ls st h := by
  intro p e s m args below meth c H locs lc C K P S L ol os
  exact lv_goto C.1 C.2.1 hd ht (k p e s m args below meth c H locs lc C K P S L ol os)
theorem a_icmp_eq {x y : Int} {off : Int} {tgt : Nat} (hd : decode M.2.1 pc = .ok (.if_icmp .eq off, 3)) (ht : (pc : Int) + off = (tgt : Int)) (k : (x = y → ATW G M R cs sl QF tgt ls st h) ∧ (x ≠ y → ATW G M R cs sl QF (pc + 3) ls st h)) : ATW G M R cs sl QF pc ls (iv y :: iv x :: st) h := by
  intro p e s m args below meth c H locs lc C K P S L ol os
  have hx : i32 x := ok_hd (ok_tl os)
  have hy : i32 y := ok_hd os
  exact lv_icmp_eq C.1 C.2.1 hd ht (fun q => k.1 ((o_inj hx hy).mp q) p e s m args below meth c H locs lc C K P S L ol (ok_tl (ok_tl os))) (fun q => k.2 (fun z => q ((o_inj hx hy).mpr z)) p e s m args below meth c H locs lc C K P S L ol (ok_tl (ok_tl os)))
theorem a_if_eq {x : Int} {off : Int} {tgt : Nat} (hd : decode M.2.1 pc = .ok (.ifCond .eq off, 3)) (ht : (pc : Int) + off = (tgt : Int)) (k : (x = 0 → ATW G M R cs sl QF tgt ls st h) ∧ (x ≠ 0 → ATW G M R cs sl QF (pc + 3) ls st h)) : ATW G M R cs sl QF pc ls (iv x :: st) h := by
  intro p e s m args below meth c H locs lc C K P S L ol os
  have hx : i32 x := ok_hd os
  have hy : i32 0 := by unfold i32; omega
  exact lv_if_eq C.1 C.2.1 hd ht (fun q => k.1 ((o_inj hx hy).mp q) p e s m args below meth c H locs lc C K P S L ol (ok_tl os)) (fun q => k.2 (fun z => q ((o_inj hx hy).mpr z)) p e s m args below meth c H locs lc C K P S L ol (ok_tl os))
theorem a_icmp_ne {x y : Int} {off : Int} {tgt : Nat} (hd : decode M.2.1 pc = .ok (.if_icmp .ne off, 3)) (ht : (pc : Int) + off = (tgt : Int)) (k : (x ≠ y → ATW G M R cs sl QF tgt ls st h) ∧ (x = y → ATW G M R cs sl QF (pc + 3) ls st h)) : ATW G M R cs sl QF pc ls (iv y :: iv x :: st) h := by
  intro p e s m args below meth c H locs lc C K P S L ol os
  have hx : i32 x := ok_hd (ok_tl os)
  have hy : i32 y := ok_hd os
  exact lv_icmp_ne C.1 C.2.1 hd ht (fun q => k.1 (fun z => q ((o_inj hx hy).mpr z)) p e s m args below meth c H locs lc C K P S L ol (ok_tl (ok_tl os))) (fun q => k.2 ((o_inj hx hy).mp q) p e s m args below meth c H locs lc C K P S L ol (ok_tl (ok_tl os)))
theorem a_if_ne {x : Int} {off : Int} {tgt : Nat} (hd : decode M.2.1 pc = .ok (.ifCond .ne off, 3)) (ht : (pc : Int) + off = (tgt : Int)) (k : (x ≠ 0 → ATW G M R cs sl QF tgt ls st h) ∧ (x = 0 → ATW G M R cs sl QF (pc + 3) ls st h)) : ATW G M R cs sl QF pc ls (iv x :: st) h := by
  intro p e s m args below meth c H locs lc C K P S L ol os
  have hx : i32 x := ok_hd os
  have hy : i32 0 := by unfold i32; omega
  exact lv_if_ne C.1 C.2.1 hd ht (fun q => k.1 (fun z => q ((o_inj hx hy).mpr z)) p e s m args below meth c H locs lc C K P S L ol (ok_tl os)) (fun q => k.2 ((o_inj hx hy).mp q) p e s m args below meth c H locs lc C K P S L ol (ok_tl os))
theorem a_icmp_lt {x y : Int} {off : Int} {tgt : Nat} (hd : decode M.2.1 pc = .ok (.if_icmp .lt off, 3)) (ht : (pc : Int) + off = (tgt : Int)) (k : (x < y → ATW G M R cs sl QF tgt ls st h) ∧ (y ≤ x → ATW G M R cs sl QF (pc + 3) ls st h)) : ATW G M R cs sl QF pc ls (iv y :: iv x :: st) h := by
  intro p e s m args below meth c H locs lc C K P S L ol os
  have hx : i32 x := ok_hd (ok_tl os)
  have hy : i32 y := ok_hd os
  exact lv_icmp_lt C.1 C.2.1 hd ht (fun q => k.1 ((o_lt hx hy).mp q) p e s m args below meth c H locs lc C K P S L ol (ok_tl (ok_tl os))) (fun q => k.2 (Int.not_lt.mp fun z => q ((o_lt hx hy).mpr z)) p e s m args below meth c H locs lc C K P S L ol (ok_tl (ok_tl os)))
theorem a_if_lt {x : Int} {off : Int} {tgt : Nat} (hd : decode M.2.1 pc = .ok (.ifCond .lt off, 3)) (ht : (pc : Int) + off = (tgt : Int)) (k : (x < 0 → ATW G M R cs sl QF tgt ls st h) ∧ (0 ≤ x → ATW G M R cs sl QF (pc + 3) ls st h)) : ATW G M R cs sl QF pc ls (iv x :: st) h := by
  intro p e s m args below meth c H locs lc C K P S L ol os
  have hx : i32 x := ok_hd os
  have hy : i32 0 := by unfold i32; omega
  exact lv_if_lt C.1 C.2.1 hd ht (fun q => k.1 ((o_lt hx hy).mp q) p e s m args below meth c H locs lc C K P S L ol (ok_tl os)) (fun q => k.2 (Int.not_lt.mp fun z => q ((o_lt hx hy).mpr z)) p e s m args below meth c H locs lc C K P S L ol (ok_tl os))
theorem a_icmp_ge {x y : Int} {off : Int} {tgt : Nat} (hd : decode M.2.1 pc = .ok (.if_icmp .ge off, 3)) (ht : (pc : Int) + off = (tgt : Int)) (k : (y ≤ x → ATW G M R cs sl QF tgt ls st h) ∧ (x < y → ATW G M R cs sl QF (pc + 3) ls st h)) : ATW G M R cs sl QF pc ls (iv y :: iv x :: st) h := by
  intro p e s m args below meth c H locs lc C K P S L ol os
  have hx : i32 x := ok_hd (ok_tl os)
  have hy : i32 y := ok_hd os
  exact lv_icmp_ge C.1 C.2.1 hd ht (fun q => k.1 ((o_le hy hx).mp q) p e s m args below meth c H locs lc C K P S L ol (ok_tl (ok_tl os))) (fun q => k.2 (Int.not_le.mp fun z => q ((o_le hy hx).mpr z)) p e s m args below meth c H locs lc C K P S L ol (ok_tl (ok_tl os)))
theorem a_if_ge {x : Int} {off : Int} {tgt : Nat} (hd : decode M.2.1 pc = .ok (.ifCond .ge off, 3)) (ht : (pc : Int) + off = (tgt : Int)) (k : (0 ≤ x → ATW G M R cs sl QF tgt ls st h) ∧ (x < 0 → ATW G M R cs sl QF (pc + 3) ls st h)) : ATW G M R cs sl QF pc ls (iv x :: st) h := by
  intro p e s m args below meth c H locs lc C K P S L ol os
  have hx : i32 x := ok_hd os
  have hy : i32 0 := by unfold i32; omega
  exact lv_if_ge C.1 C.2.1 hd ht (fun q => k.1 ((o_le hy hx).mp q) p e s m args below meth c H locs lc C K P S L ol (ok_tl os)) (fun q => k.2 (Int.not_le.mp fun z => q ((o_le hy hx).mpr z)) p e s m args below meth c H locs lc C K P S L ol (ok_tl os))
theorem a_icmp_gt {x y : Int} {off : Int} {tgt : Nat} (hd : decode M.2.1 pc = .ok (.if_icmp .gt off, 3)) (ht : (pc : Int) + off = (tgt : Int)) (k : (y < x → ATW G M R cs sl QF tgt ls st h) ∧ (x ≤ y → ATW G M R cs sl QF (pc + 3) ls st h)) : ATW G M R cs sl QF pc ls (iv y :: iv x :: st) h := by
  intro p e s m args below meth c H locs lc C K P S L ol os
  have hx : i32 x := ok_hd (ok_tl os)
  have hy : i32 y := ok_hd os
  exact lv_icmp_gt C.1 C.2.1 hd ht (fun q => k.1 ((o_lt hy hx).mp q) p e s m args below meth c H locs lc C K P S L ol (ok_tl (ok_tl os))) (fun q => k.2 (Int.not_lt.mp fun z => q ((o_lt hy hx).mpr z)) p e s m args below meth c H locs lc C K P S L ol (ok_tl (ok_tl os)))
theorem a_if_gt {x : Int} {off : Int} {tgt : Nat} (hd : decode M.2.1 pc = .ok (.ifCond .gt off, 3)) (ht : (pc : Int) + off = (tgt : Int)) (k : (0 < x → ATW G M R cs sl QF tgt ls st h) ∧ (x ≤ 0 → ATW G M R cs sl QF (pc + 3) ls st h)) : ATW G M R cs sl QF pc ls (iv x :: st) h := by
  intro p e s m args below meth c H locs lc C K P S L ol os
  have hx : i32 x := ok_hd os
  have hy : i32 0 := by unfold i32; omega
  exact lv_if_gt C.1 C.2.1 hd ht (fun q => k.1 ((o_lt hy hx).mp q) p e s m args below meth c H locs lc C K P S L ol (ok_tl os)) (fun q => k.2 (Int.not_lt.mp fun z => q ((o_lt hy hx).mpr z)) p e s m args below meth c H locs lc C K P S L ol (ok_tl os))
theorem a_icmp_le {x y : Int} {off : Int} {tgt : Nat} (hd : decode M.2.1 pc = .ok (.if_icmp .le off, 3)) (ht : (pc : Int) + off = (tgt : Int)) (k : (x ≤ y → ATW G M R cs sl QF tgt ls st h) ∧ (y < x → ATW G M R cs sl QF (pc + 3) ls st h)) : ATW G M R cs sl QF pc ls (iv y :: iv x :: st) h := by
  intro p e s m args below meth c H locs lc C K P S L ol os
  have hx : i32 x := ok_hd (ok_tl os)
  have hy : i32 y := ok_hd os
  exact lv_icmp_le C.1 C.2.1 hd ht (fun q => k.1 ((o_le hx hy).mp q) p e s m args below meth c H locs lc C K P S L ol (ok_tl (ok_tl os))) (fun q => k.2 (Int.not_le.mp fun z => q ((o_le hx hy).mpr z)) p e s m args below meth c H locs lc C K P S L ol (ok_tl (ok_tl os)))
theorem a_if_le {x : Int} {off : Int} {tgt : Nat} (hd : decode M.2.1 pc = .ok (.ifCond .le off, 3)) (ht : (pc : Int) + off = (tgt : Int)) (k : (x ≤ 0 → ATW G M R cs sl QF tgt ls st h) ∧ (0 < x → ATW G M R cs sl QF (pc + 3) ls st h)) : ATW G M R cs sl QF pc ls (iv x :: st) h := by
  intro p e s m args below meth c H locs lc C K P S L ol os
  have hx : i32 x := ok_hd os
  have hy : i32 0 := by unfold i32; omega
  exact lv_if_le C.1 C.2.1 hd ht (fun q => k.1 ((o_le hx hy).mp q) p e s m args below meth c H locs lc C K P S L ol (ok_tl os)) (fun q => k.2 (Int.not_le.mp fun z => q ((o_le hx hy).mpr z)) p e s m args below meth c H locs lc C K P S L ol (ok_tl os))
end RowsA
