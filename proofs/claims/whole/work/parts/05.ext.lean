/-! rows of the abstract machine: externals, switches, longs, ends, calls -/
theorem GA_no {G : GG} {U : State} {H : Heap} {ty : FieldType} {t N : Nat} {f : Nat → Value} (h : va_T ty t N f (GA G) U H) : ¬ GA G t := va_T.out h
theorem EX.moved {G : GG} {u U : State} {H : Heap} (hv : u.vm.Alike U.vm) (h : EX G u H) : EX G U H := by
  obtain ⟨⟨a1, a2⟩, ⟨b1, b2⟩, ⟨c1, c2⟩, d, e, f, g⟩ := h
  exact ⟨⟨va_Z.moved hv a1, va_T.moved hv a2⟩, ⟨va_Z.moved hv b1, va_T.moved hv b2⟩, ⟨va_Z.moved hv c1, va_T.moved hv c2⟩, va_T.moved hv d, va_Z.moved hv e, va_Zq.moved hv f, fun i hi => ⟨va_O.moved hv (g i hi).1, va_OF.moved hv (g i hi).2.1, va_OF.moved hv (g i hi).2.2.1, va_T.moved hv (g i hi).2.2.2⟩⟩
theorem EX.kept {G : GG} {U : State} {H H1 : Heap} (h : EX G U H) (hq : ∀ a : Nat, a < H.size → ¬ GA G a → H1[a]? = H[a]?) : EX G U H1 := by
  obtain ⟨⟨a1, a2⟩, ⟨b1, b2⟩, ⟨c1, c2⟩, d, e, f, g⟩ := h
  exact ⟨⟨a1.kept hq, a2.kept hq⟩, ⟨b1.kept hq, b2.kept hq⟩, ⟨c1.kept hq, c2.kept hq⟩, d.kept hq, e.kept hq, f.kept hq, fun i hi => ⟨(g i hi).1.kept hq, (g i hi).2.1.kept hq, (g i hi).2.2.1.kept hq, (g i hi).2.2.2.kept hq⟩⟩
theorem KX.next {G : GG} {s U : State} {H : Heap} {locs : List Loc} (h : KX G s) (hS : va_S (GA G) s.heap H locs) (hU : U.heap = H) (hW : s.WarmedH U.vm) : KX G U :=
  ⟨h.1, va_K.moved hW.alike h.2.1, ⟨fun i q hq => (h.2.2.1.1 i q hq).warm hW, fun q hq => (h.2.2.1.2 q hq).warmM hW⟩, by rw [hU]; exact (h.2.2.2.kept hS.2.1).moved hW.alike⟩
theorem KX.calling {G : GG} {U : State} {g : JFrame} {mk : MethodId} {a : Array Value} (h : KX G U) : KX G (U.calling g mk a) :=
  ⟨h.1, va_K.moved (u := U) (U := U.calling g mk a) (Vm.Alike.refl U.vm) h.2.1, ⟨fun i q hq => vk_R.same (u := U) (U := U.calling g mk a) rfl (h.2.2.1.1 i q hq), fun q hq => va_Nw.same (u := U) (U := U.calling g mk a) rfl rfl (h.2.2.1.2 q hq)⟩, EX.moved (u := U) (U := U.calling g mk a) (Vm.Alike.refl U.vm) h.2.2.2⟩
section RowsC
variable {G : GG} {M : MD} {R : Room} {cs sl : Nat} {QF : List Frame → Array Value → State → State → Prop} {pc : Nat} {ls : List (Nat × AV)} {st : List AV} {h : Hp}
/-! static arrays -/
theorem x_T {s : State} {H : Heap} {locs : List Loc} {ty : FieldType} {t N : Nat} {f : Nat → Value} (h : va_T ty t N f (GA G) s s.heap) (S : va_S (GA G) s.heap H locs) : va_T ty t N f (GA G) s H := h.kept S.2.1
theorem a_gst901 {idx : Nat} (hd : decode M.2.1 pc = .ok (.getstatic idx, 3)) (hw : Cond.fieldLink M.1.cls idx "MissionHouse$Calendar" "MONTH_DAYS" "[I" ∈ TB) (k : ATW G M R cs sl QF (pc + 3) ls (rv 901 :: st) h) : ATW G M R cs sl QF pc ls st h := by
  intro p e s m args below meth c H locs lc C K P S L ol os
  have k' := k p e s m args below meth c H locs lc C K P S L ol (ok_cons trivial os)
  rw [List.map_cons, cv_ref (by omega : 0 < 901)] at k'
  exact va_gets C.1 C.2.1 K.2.2.2.1.1 S C.2.2.2.1 (C.2.2.2.2.1 _ hw) (fun _ z => z) hd k'
theorem a_gst902 {idx : Nat} (hd : decode M.2.1 pc = .ok (.getstatic idx, 3)) (hw : Cond.fieldLink M.1.cls idx "MissionHouse$Memory" "DATA_PLACES" "[I" ∈ TB) (k : ATW G M R cs sl QF (pc + 3) ls (rv 902 :: st) h) : ATW G M R cs sl QF pc ls st h := by
  intro p e s m args below meth c H locs lc C K P S L ol os
  have k' := k p e s m args below meth c H locs lc C K P S L ol (ok_cons trivial os)
  rw [List.map_cons, cv_ref (by omega : 0 < 902)] at k'
  exact va_gets C.1 C.2.1 K.2.2.2.2.1.1 S C.2.2.2.1 (C.2.2.2.2.1 _ hw) (fun _ z => z) hd k'
theorem a_gst903 {idx : Nat} (hd : decode M.2.1 pc = .ok (.getstatic idx, 3)) (hw : Cond.fieldLink M.1.cls idx "MissionHouse$Sky" "LETTERS" "[C" ∈ TB) (k : ATW G M R cs sl QF (pc + 3) ls (rv 903 :: st) h) : ATW G M R cs sl QF pc ls st h := by
  intro p e s m args below meth c H locs lc C K P S L ol os
  have k' := k p e s m args below meth c H locs lc C K P S L ol (ok_cons trivial os)
  rw [List.map_cons, cv_ref (by omega : 0 < 903)] at k'
  exact va_gets C.1 C.2.1 K.2.2.2.2.2.1.1 S C.2.2.2.1 (C.2.2.2.2.1 _ hw) (fun _ z => z) hd k'
theorem xc_ok (k : Nat) (i : Int) : i32 (xc k i) := by
  have key : ∀ l ∈ xcT, ∀ v ∈ l, -2147483648 ≤ v ∧ v ≤ 2147483647 := by decide
  unfold xc
  rw [List.getD_eq_getElem?_getD, List.getD_eq_getElem?_getD]
  cases h1 : xcT[k - 901]? with
  | none => simp [i32]
  | some l =>
    cases h2 : l[i.toNat]? with
    | none => simp [h2, i32]
    | some v => simpa [h2, i32] using key l (List.mem_of_getElem? h1) v (List.mem_of_getElem? h2)
theorem a_xlen {t : Nat} {N : Int} (hd : decode M.2.1 pc = .ok (.arraylength, 1)) (ht : (t = 901 ∧ N = 12) ∨ (t = 902 ∧ N = 8) ∨ (t = 903 ∧ N = 4)) (k : ATW G M R cs sl QF (pc + 1) ls (iv N :: st) h) : ATW G M R cs sl QF pc ls (rv t :: st) h := by
  intro p e s m args below meth c H locs lc C K P S L ol os
  have kk := k p e s m args below meth c H locs lc C K P S L ol (ok_cons (by unfold okV i32; omega) (ok_tl os))
  rw [List.map_cons, cv_ref (by omega : 0 < t)]
  rcases ht with ⟨rfl, rfl⟩ | ⟨rfl, rfl⟩ | ⟨rfl, rfl⟩
  · obtain ⟨cell, h1, h2, h3, h4, h5, h6, -⟩ := x_T K.2.2.2.1.2 S
    exact W.alen C.1 C.2.1 h1 h2 h5 rfl rfl hd kk
  · obtain ⟨cell, h1, h2, h3, h4, h5, h6, -⟩ := x_T K.2.2.2.2.1.2 S
    exact W.alen C.1 C.2.1 h1 h2 h5 rfl rfl hd kk
  · obtain ⟨cell, h1, h2, h3, h4, h5, h6, -⟩ := x_T K.2.2.2.2.2.1.2 S
    exact W.alen C.1 C.2.1 h1 h2 h5 rfl rfl hd kk
theorem a_xald {t N : Nat} {i : Int} (hd : decode M.2.1 pc = .ok (.iaload, 1)) (ht : (t = 901 ∧ N = 12) ∨ (t = 902 ∧ N = 8)) (kk : (0 ≤ i ∧ i < N) ∧ ATW G M R cs sl QF (pc + 1) ls (iv (xc t i) :: st) h) : ATW G M R cs sl QF pc ls (iv i :: rv t :: st) h := by
  intro p e s m args below meth c H locs lc C K P S L ol os
  obtain ⟨⟨b0, b1⟩, kk⟩ := kk
  have hi : i32 i := ok_hd os
  have cl := o_clamp b0 hi.2
  have k' := kk p e s m args below meth c H locs lc C K P S L ol (ok_cons (xc_ok t i) (ok_tl (ok_tl os)))
  have key : ∀ (cell : Cell), N ≤ cell.slots.size → ¬ (Int32.ofInt i < 0 ∨ cell.slots.size ≤ (Int32.ofInt i).toNatClampNeg) := by
    intro cell hz q
    rcases q with q | q
    · rw [show (0 : Int32) = Int32.ofInt 0 from rfl, o_lt hi (by unfold i32; omega)] at q
      omega
    · omega
  rw [List.map_cons, List.map_cons, cv_ref (by omega : 0 < t)]
  rcases ht with ⟨rfl, rfl⟩ | ⟨rfl, rfl⟩
  · obtain ⟨cell, h1, h2, h3, h4, h5, h6, -⟩ := x_T K.2.2.2.1.2 S
    exact W.iald C.1 C.2.1 h1 h2 h3 (key cell h4) (by rw [h6 _ (by omega)]; dsimp only; rw [cl]; rfl) rfl rfl hd k'
  · obtain ⟨cell, h1, h2, h3, h4, h5, h6, -⟩ := x_T K.2.2.2.2.1.2 S
    exact W.iald C.1 C.2.1 h1 h2 h3 (key cell h4) (by rw [h6 _ (by omega)]; dsimp only; rw [cl]; rfl) rfl rfl hd k'
theorem a_xcald {i : Int} (hd : decode M.2.1 pc = .ok (.caload, 1)) (kk : (0 ≤ i ∧ i < 4) ∧ ATW G M R cs sl QF (pc + 1) ls (iv (xc 903 i) :: st) h) : ATW G M R cs sl QF pc ls (iv i :: rv 903 :: st) h := by
  intro p e s m args below meth c H locs lc C K P S L ol os
  obtain ⟨⟨b0, b1⟩, kk⟩ := kk
  have hi : i32 i := ok_hd os
  have cl := o_clamp b0 hi.2
  have k' := kk p e s m args below meth c H locs lc C K P S L ol (ok_cons (xc_ok 903 i) (ok_tl (ok_tl os)))
  rw [List.map_cons, List.map_cons, cv_ref (by omega : 0 < 903)]
  obtain ⟨cell, h1, h2, h3, h4, h5, h6, -⟩ := x_T K.2.2.2.2.2.1.2 S
  refine W.cald C.1 C.2.1 h1 h2 h3 (fun q => ?_) (by rw [h6 _ (by omega)]; dsimp only; rw [cl]; rfl) rfl rfl hd k'
  rcases q with q | q
  · rw [show (0 : Int32) = Int32.ofInt 0 from rfl, o_lt hi (by unfold i32; omega)] at q
    omega
  · omega
/-! String constants -/
theorem a_ldcS {idx i : Nat} {tx : String} (hd : decode M.2.1 pc = .ok (.ldc idx, 2)) (hs : strT[i]? = some (M.1.cls, idx, tx)) (k : ATW G M R cs sl QF (pc + 2) ls (rv (1000 + i) :: st) h) : ATW G M R cs sl QF pc ls st h := by
  intro p e s m args below meth c H locs lc C K P S L ol os
  have k' := k p e s m args below meth c H locs lc C K P S L ol (ok_cons trivial os)
  rw [List.map_cons, cv_ref (by omega : 0 < 1000 + i)] at k'
  exact va_ldcS C.1 C.2.1 C.2.2.2.1 (K.2.2.1.1 i _ hs) hd k'
/-! null -/
theorem a_null (hd : decode M.2.1 pc = .ok (.aconst_null, 1)) (k : ATW G M R cs sl QF (pc + 1) ls (rv 0 :: st) h) : ATW G M R cs sl QF pc ls st h := by
  intro p e s m args below meth c H locs lc C K P S L ol os
  exact lv_null C.1 C.2.1 hd (k p e s m args below meth c H locs lc C K P S L ol (ok_cons trivial os))
theorem a_ifnull0 {off : Int} {tgt : Nat} (hd : decode M.2.1 pc = .ok (.ifnull off, 3)) (ht : (pc : Int) + off = (tgt : Int)) (k : ATW G M R cs sl QF tgt ls st h) : ATW G M R cs sl QF pc ls (rv 0 :: st) h := by
  intro p e s m args below meth c H locs lc C K P S L ol os
  exact lv_ifnullN C.1 C.2.1 hd ht (k p e s m args below meth c H locs lc C K P S L ol (ok_tl os))
theorem a_ifnullS {off : Int} {x : Nat} (hd : decode M.2.1 pc = .ok (.ifnull off, 3)) (k : ATW G M R cs sl QF (pc + 3) ls st h) : ATW G M R cs sl QF pc ls (rv (x + 1) :: st) h := by
  intro p e s m args below meth c H locs lc C K P S L ol os
  exact lv_ifnull C.1 C.2.1 hd (k p e s m args below meth c H locs lc C K P S L ol (ok_tl os))
theorem a_ifnonnull0 {off : Int} (hd : decode M.2.1 pc = .ok (.ifnonnull off, 3)) (k : ATW G M R cs sl QF (pc + 3) ls st h) : ATW G M R cs sl QF pc ls (rv 0 :: st) h := by
  intro p e s m args below meth c H locs lc C K P S L ol os
  exact lv_ifnonnullN C.1 C.2.1 hd (k p e s m args below meth c H locs lc C K P S L ol (ok_tl os))
theorem a_ifnonnullS {off : Int} {tgt x : Nat} (hd : decode M.2.1 pc = .ok (.ifnonnull off, 3)) (ht : (pc : Int) + off = (tgt : Int)) (k : ATW G M R cs sl QF tgt ls st h) : ATW G M R cs sl QF pc ls (rv (x + 1) :: st) h := by
  intro p e s m args below meth c H locs lc C K P S L ol os
  exact lv_ifnonnull C.1 C.2.1 hd ht (k p e s m args below meth c H locs lc C K P S L ol (ok_tl os))
/-! switches -/
def tswC (x : Int) (P : Nat → Prop) : Int → List Nat → Prop
  | _, [] => True
  | v, t :: ts => (x = v → P t) ∧ tswC x P (v + 1) ts
theorem tswC.at {x : Int} {P : Nat → Prop} : ∀ {ts : List Nat} {v : Int}, tswC x P v ts → ∀ (i t : Nat), ts[i]? = some t → x = v + i → P t
  | [], _, _, _, _, h, _ => by simp at h
  | t :: ts, v, H, 0, t', h, e => by
    simp at h
    subst h
    exact H.1 (by omega)
  | t :: ts, v, H, i + 1, t', h, e => tswC.at (ts := ts) (v := v + 1) H.2 i t' (by simpa using h) (by omega)
theorem a_tsw {dflt lo hi x : Int} {offs : Array Int} {len dt : Nat} (tg : List Nat) (hd : decode M.2.1 pc = .ok (.tableswitch dflt lo hi offs, len)) (ho : offs.toList = tg.map (fun t : Nat => (t : Int) - pc)) (hdt : (pc : Int) + dflt = (dt : Int)) (hl : hi + 1 = lo + tg.length)
    (k : tswC x (fun t => ATW G M R cs sl QF t ls st h) lo tg ∧ ((x < lo ∨ hi < x) → ATW G M R cs sl QF dt ls st h)) : ATW G M R cs sl QF pc ls (iv x :: st) h := by
  intro p e s m args below meth c H locs lc C K P S L ol os
  have hx : i32 x := ok_hd os
  have ex := t_o32 hx
  by_cases q : x < lo ∨ hi < x
  · exact lv_tableOut C.1 C.2.1 hd (by rw [ex]; exact q) hdt (k.2 q p e s m args below meth c H locs lc C K P S L ol (ok_tl os))
  · have hlt : (x - lo).toNat < tg.length := by omega
    obtain ⟨t, ht⟩ : ∃ t, tg[(x - lo).toNat]? = some t := ⟨_, List.getElem?_eq_getElem hlt⟩
    have ho2 : offs[(x - lo).toNat]? = some ((t : Int) - pc) := by
      rw [← Array.getElem?_toList, ho, List.getElem?_map, ht]
      rfl
    exact lv_tableIn C.1 C.2.1 hd (by rw [ex]; omega) (by rw [ex]; omega) (by rw [ex]; exact ho2) (by omega) (k.1.at _ _ ht (by omega) p e s m args below meth c H locs lc C K P S L ol (ok_tl os))
def lswC (x : Int) (P : Nat → Prop) (dt : Nat) : List (Int × Nat) → Prop
  | [] => P dt
  | (v, t) :: r => (x = v → P t) ∧ (x ≠ v → lswC x P dt r)
theorem lswC.at {x : Int} {P : Nat → Prop} {pc dt : Nat} {dflt : Int} (hdt : (pc : Int) + dflt = (dt : Int)) : ∀ {r : List (Int × Nat)}, lswC x P dt r → ∃ t : Nat, P t ∧ (pc : Int) + Op.lookupswitch.offset (r.map fun q => (q.1, (q.2 : Int) - pc)) dflt x = (t : Int)
  | [], H => ⟨dt, H, by rw [List.map_nil, Op.lookupswitch.offset_nil]; exact hdt⟩
  | (v, t) :: r, H => by
    rw [List.map_cons, Op.lookupswitch.offset_cons]
    by_cases q : x = v
    · exact ⟨t, H.1 q, by rw [if_pos (by omega)]; omega⟩
    · rw [if_neg (by omega)]
      exact lswC.at hdt (H.2 q)
theorem a_lsw {dflt x : Int} {ps : Array (Int × Int)} {len dt : Nat} (tg : List (Int × Nat)) (hd : decode M.2.1 pc = .ok (.lookupswitch dflt ps, len)) (ho : ps.toList = tg.map (fun q => (q.1, (q.2 : Int) - pc))) (hs : (ps.toList.zip (ps.toList.drop 1)).all (fun (a, next) => a.1 < next.1) = true) (hdt : (pc : Int) + dflt = (dt : Int))
    (k : lswC x (fun t => ATW G M R cs sl QF t ls st h) dt tg) : ATW G M R cs sl QF pc ls (iv x :: st) h := by
  intro p e s m args below meth c H locs lc C K P S L ol os
  have hx : i32 x := ok_hd os
  obtain ⟨t, ht, e1⟩ := lswC.at (pc := pc) hdt k
  rw [← ho] at e1
  exact lv_lookup C.1 C.2.1 hd hs (by rw [t_o32 hx]) e1 (ht p e s m args below meth c H locs lc C K P S L ol (ok_tl os))
end RowsC
