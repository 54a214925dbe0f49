/-! rows of the law -/
def sx (G : GG) (i : Int) : Int := G.2.2.2.2.2 i.toNat
def QL (G : GG) : List Frame → Array Value → State → State → Prop := fun below args s t => (∀ k, 1 ≤ k → k ≤ NC → s.heap.size ≤ G.2.2.1 k) → lw_Z below args s t
abbrev LT (G : GG) (pc : Nat) (ls : List (Nat × AV)) (st : List AV) (h : Hp) : Prop := ATW G m_L_law room_1 600000 7302250 (QL G) pc ls st h
section RowsL
variable {G : GG} {M : MD} {R : Room} {cs sl : Nat} {QF : List Frame → Array Value → State → State → Prop} {pc : Nat} {ls : List (Nat × AV)} {st : List AV} {h : Hp}
theorem a_sld {i : Int} (hd : decode M.2.1 pc = .ok (.iaload, 1)) (hxs : ∀ j, i32 (G.2.2.2.2.2 j)) (kk : (0 ≤ i ∧ i < (G.2.2.2.2.1 : Int)) ∧ ATW G M R cs sl QF (pc + 1) ls (iv (sx G i) :: st) h) : ATW G M R cs sl QF pc ls (iv i :: rv 900 :: st) h := by
  intro p e s m args below meth c H locs lc C K P S L ol os
  obtain ⟨⟨b0, b1⟩, kk⟩ := kk
  have hi : i32 i := ok_hd os
  have cl := o_clamp b0 hi.2
  have k' := kk p e s m args below meth c H locs lc C K P S L ol (ok_cons (hxs _) (ok_tl (ok_tl os)))
  rw [List.map_cons, List.map_cons, cv_ref (by omega : 0 < 900)]
  obtain ⟨cell, h1, h2, h3, h4, h5, h6, -⟩ := x_T K.2.2.2.2.2.2.1 S
  refine W.iald C.1 C.2.1 h1 h2 h3 (fun q => ?_) (by rw [h6 _ (by omega)]; dsimp only [sx]; rw [show i.toNat = (Int32.ofInt i).toNatClampNeg by omega]; rfl) rfl rfl hd k'
  rcases q with q | q
  · rw [show (0 : Int32) = Int32.ofInt 0 from rfl, o_lt hi (by unfold i32; omega)] at q
    omega
  · omega
theorem a_slenL (hL : G.2.2.2.2.1 ≤ 3072) (hd : decode M.2.1 pc = .ok (.arraylength, 1)) (k : ATW G M R cs sl QF (pc + 1) ls (iv (G.2.2.2.2.1 : Int) :: st) h) : ATW G M R cs sl QF pc ls (rv 900 :: st) h := by
  intro p e s m args below meth c H locs lc C K P S L ol os
  have k' := k p e s m args below meth c H locs lc C K P S L ol (ok_cons ⟨by omega, by omega⟩ (ok_tl os))
  obtain ⟨cell, h1, h2, h3, h4, h5, h6, -⟩ := x_T K.2.2.2.2.2.2.1 S
  rw [List.map_cons, cv_ref (by omega : 0 < 900)]
  exact W.alen (n := Int32.ofInt (G.2.2.2.2.1 : Int)) C.1 C.2.1 h1 h2 (by rw [h5]; exact (Int32.ofInt_eq_ofNat).symm) rfl rfl hd k'
theorem a_widen {cs' sl' : Nat} (h1 : cs ≤ cs') (h2 : sl ≤ sl') (k : ATW G M R cs' sl' QF pc ls st h) : ATW G M R cs sl QF pc ls st h := by
  intro p e s m args below meth c H locs lc C K P S L ol os
  exact W.widen h1 h2 (k p e s m args below meth c H locs lc C K P S L ol os)
end RowsL
theorem lw_retA {p : Program} {l : Launch} {e : Env} {s : State} {m : MethodId} {args : Array Value} {below : List Frame} {meth : Method} {c : Code} (hx : p.tables.exec = Jvm.exec) (hb : c.code = code) (hr : meth.sig.returnType = ret) (hlocks : meth.locks = false) {pc : Nat} {H : Heap} {ls : Array Slot} (hdg : decode code pc = .ok (.ireturn, 1)) : W p l e room_1 s m args below meth c H [] 600000 7302250 (lw_Z below args s) (F0 m pc ls [.int 1]) := by
  intro T hT X
  obtain ⟨fs, hret, hrun, hended, hW, hframe⟩ := X.leave (v := some (.int 1)) (hlocks := hlocks) (fun h => by rw [hr] at h; cases h)
  have hmeth' : T.vm.method? m = some meth := X.method'
  refine ⟨T.setFrames fs, ?_, .returned (some (.int 1)), hrun, hended, rfl, ⟨_, rfl⟩, hW, hframe⟩
  jvm_step X.here [X.here.top, hx, hb, hdg, hmeth', hr, ret, narrow_b1]
  (try refine ⟨rfl, ?_⟩); (try refine ⟨rfl, ?_⟩)
  first | (intro acts; rw [hret _ acts rfl rfl rfl]) | rw [hret _ _ rfl rfl rfl]
  exact Steps.refl _
theorem law_end {G : GG} {ls : List (Nat × AV)} {h : Hp} : LT G 1284 ls [] h := by
  refine a_iconst (pc := 1284) (dk dt_L_law_19 43 rfl) (ik rfl) ?_
  intro p e s m args below meth c H locs lc C K P S L ol os
  by_cases hy : ∀ k, 1 ≤ k → k ≤ NC → s.heap.size ≤ G.2.2.1 k
  · intro T hT X
    have w := va_forget (s := s) (locs := locs) (fun q hq => by
      obtain ⟨k, k1, k2, k3⟩ := S.2.2 q hq
      rw [k3]
      exact hy k k1 k2) (lw_retA (l := G.1) (m := m) (s := s) (e := e) (args := args) (below := below) (H := H) (ls := lc) C.1 C.2.1 C.2.2.2.2.2.1 C.2.2.2.2.2.2 (pc := 1285) (dk dt_L_law_19 44 rfl))
    obtain ⟨t, a1, b1⟩ := w T hT X
    exact ⟨t, a1, fun _ => b1⟩
  · intro T hT X
    exact ⟨_, Steps.refl _, fun z => absurd z hy⟩
theorem law_next {G : GG} {i : Int} {h : Hp} (k : LT G 18 [(0, rv 900), (1, rv 1), (2, rv 85), (3, iv (w32 (i + 6)))] [] h) : LT G 1278 [(0, rv 900), (1, rv 1), (2, rv 85), (3, iv i)] [] h := by
  refine a_iinc (pc := 1278) (dk dt_L_law_19 41 rfl) (by decide) rfl rfl rfl ?_
  exact a_goto (pc := 1281) (dk dt_L_law_19 42 rfl) (tgt := 18) rfl k
