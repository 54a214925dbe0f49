/-! the JDK's own: Strings -/
def slen (t : Nat) : Int := ((strB.getD (t - 1000) []).length : Int)
def schr (t : Nat) (i : Int) : Int := (strB.getD (t - 1000) []).getD i.toNat 0
theorem strB_ok : ∀ i, i < NS → ((strB.getD i []).length < 10 ∧ ∀ j, j < (strB.getD i []).length → 48 ≤ (strB.getD i []).getD j 0 ∧ (strB.getD i []).getD j 0 ≤ 122) := by decide +kernel
section RowsS
variable {G : GG} {M : MD} {R : Room} {cs sl : Nat} {QF : List Frame → Array Value → State → State → Prop} {pc : Nat} {ls : List (Nat × AV)} {st : List AV} {h : Hp}
theorem x_str {s : State} {H : Heap} {locs : List Loc} {t : Nat} (ht : 1000 ≤ t ∧ t < 1000 + NS) (K : KX G s) (S : va_S (GA G) s.heap H locs) : va_O "java/lang/String" (G.2.2.1 t) (GA G) s H ∧ va_OF "java/lang/String" "coder" "B" (.int 0) (G.2.2.1 t) (GA G) s s.heap ∧
  va_OF "java/lang/String" "value" "[B" (.ref (G.2.2.1 (1000 + t))) (G.2.2.1 t) (GA G) s s.heap ∧
  va_T .byte (G.2.2.1 (1000 + t)) (strB.getD (t - 1000) []).length (fun j => .int (Int32.ofInt ((strB.getD (t - 1000) []).getD j 0))) (GA G) s H := by
  have h0 := K.2.2.2.2.2.2.2.2.2 (t - 1000) (by omega)
  unfold stE at h0
  rw [show 1000 + (t - 1000) = t by omega, show 2000 + (t - 1000) = 1000 + t by omega] at h0
  exact ⟨h0.1.kept S.2.1, h0.2.1, h0.2.2.1, h0.2.2.2.kept S.2.1⟩
theorem a_gstCS (hM : M.1.cls = "java/lang/String") (hd : decode M.2.1 pc = .ok (.getstatic 38, 3)) (k : ATW G M R cs sl QF (pc + 3) ls (iv 1 :: st) h) : ATW G M R cs sl QF pc ls st h := by
  intro p e s m args below meth c H locs lc C K P S L ol os
  have w : Cond.fieldLink M.1.cls 38 "java/lang/String" "COMPACT_STRINGS" "Z" ∈ TB := by rw [hM]; exact tb_4 39 (by decide +kernel) rfl
  exact va_gets C.1 C.2.1 K.2.2.2.2.2.2.2.1 S C.2.2.2.1 (C.2.2.2.2.1 _ w) (fun _ z => z) hd (k p e s m args below meth c H locs lc C K P S L ol (ok_cons (ik rfl) os))
theorem a_scoder {t : Nat} (hM : M.1.cls = "java/lang/String") (ht : 1000 ≤ t ∧ t < 1000 + NS) (hd : decode M.2.1 pc = .ok (.getfield 15, 3)) (k : ATW G M R cs sl QF (pc + 3) ls (iv 0 :: st) h) : ATW G M R cs sl QF pc ls (rv t :: st) h := by
  intro p e s m args below meth c H locs lc C K P S L ol os
  have w : Cond.fieldLink M.1.cls 15 "java/lang/String" "coder" "B" ∈ TB := by rw [hM]; exact tb_9 47 (by decide +kernel) rfl
  rw [List.map_cons, cv_ref (by omega : 0 < t)]
  exact vk_getf C.1 C.2.1 (x_str ht K S).2.1 S C.2.2.2.1 (C.2.2.2.2.1 _ w) (fun _ z => z) hd (k p e s m args below meth c H locs lc C K P S L ol (ok_cons (ik rfl) (ok_tl os)))
theorem a_svalue {t : Nat} (hM : M.1.cls = "java/lang/String") (ht : 1000 ≤ t ∧ t < 1000 + NS) (hd : decode M.2.1 pc = .ok (.getfield 9, 3)) (k : ATW G M R cs sl QF (pc + 3) ls (rv (1000 + t) :: st) h) : ATW G M R cs sl QF pc ls (rv t :: st) h := by
  intro p e s m args below meth c H locs lc C K P S L ol os
  have w : Cond.fieldLink M.1.cls 9 "java/lang/String" "value" "[B" ∈ TB := by rw [hM]; exact tb_9 46 (by decide +kernel) rfl
  have k' := k p e s m args below meth c H locs lc C K P S L ol (ok_cons trivial (ok_tl os))
  rw [List.map_cons, cv_ref (by omega : 0 < 1000 + t)] at k'
  rw [List.map_cons, cv_ref (by omega : 0 < t)]
  exact vk_getf C.1 C.2.1 (x_str ht K S).2.2.1 S C.2.2.2.1 (C.2.2.2.2.1 _ w) (fun _ z => z) hd k'
theorem slen_ok {t : Nat} (ht : 1000 ≤ t ∧ t < 1000 + NS) : 0 ≤ slen t ∧ slen t < 10 := by
  have := (strB_ok (t - 1000) (by omega)).1
  unfold slen
  omega
theorem schr_ok {t : Nat} {i : Int} (ht : 1000 ≤ t ∧ t < 1000 + NS) (h0 : 0 ≤ i) (h1 : i < slen t) : 48 ≤ schr t i ∧ schr t i ≤ 122 := by
  unfold slen at h1
  exact (strB_ok (t - 1000) (by omega)).2 i.toNat (by omega)
theorem a_slen {t : Nat} (ht : 1000 ≤ t ∧ t < 1000 + NS) (hd : decode M.2.1 pc = .ok (.arraylength, 1)) (k : ATW G M R cs sl QF (pc + 1) ls (iv (slen t) :: st) h) : ATW G M R cs sl QF pc ls (rv (1000 + t) :: st) h := by
  intro p e s m args below meth c H locs lc C K P S L ol os
  have b := slen_ok ht
  have k' := k p e s m args below meth c H locs lc C K P S L ol (ok_cons ⟨by omega, by omega⟩ (ok_tl os))
  obtain ⟨cell, h1, h2, h3, h4, h5, h6, -⟩ := (x_str ht K S).2.2.2
  rw [List.map_cons, cv_ref (by omega : 0 < 1000 + t)]
  exact W.alen (n := Int32.ofInt (slen t)) C.1 C.2.1 h1 h2 (by rw [h5]; exact (Int32.ofInt_eq_ofNat).symm) rfl rfl hd k'
theorem a_sald {t : Nat} {i : Int} (ht : 1000 ≤ t ∧ t < 1000 + NS) (h0 : 0 ≤ i) (h1 : i < slen t) (hd : decode M.2.1 pc = .ok (.baload, 1)) (k : ATW G M R cs sl QF (pc + 1) ls (iv (schr t i) :: st) h) : ATW G M R cs sl QF pc ls (iv i :: rv (1000 + t) :: st) h := by
  intro p e s m args below meth c H locs lc C K P S L ol os
  have hi : i32 i := ok_hd os
  have cl := o_clamp h0 hi.2
  have b := schr_ok ht h0 h1
  have k' := k p e s m args below meth c H locs lc C K P S L ol (ok_cons ⟨by omega, by omega⟩ (ok_tl (ok_tl os)))
  obtain ⟨cell, g1, g2, g3, g4, g5, g6, -⟩ := (x_str ht K S).2.2.2
  have h1' : i < ((strB.getD (t - 1000) []).length : Int) := h1
  rw [List.map_cons, List.map_cons, cv_ref (by omega : 0 < 1000 + t)]
  refine W.bald (v := .int (Int32.ofInt (schr t i))) C.1 C.2.1 g1 g2 g3 (fun q => ?_) ?_ rfl rfl hd k'
  · rcases q with q | q
    · rw [show (0 : Int32) = Int32.ofInt 0 from rfl, o_lt hi (by unfold i32; omega)] at q
      omega
    · omega
  · rw [g6 _ (by omega)]
    dsimp only [schr]
    rw [show i.toNat = (Int32.ofInt i).toNatClampNeg by omega]
theorem a_i2c {x : Int} (hx : 0 ≤ x ∧ x < 65536) (hd : decode M.2.1 pc = .ok (.i2c, 1)) (k : ATW G M R cs sl QF (pc + 1) ls (iv x :: st) h) : ATW G M R cs sl QF pc ls (iv x :: st) h := by
  intro p e s m args below meth c H locs lc C K P S L ol os
  refine lv_i2c C.1 C.2.1 hd ?_ (k p e s m args below meth c H locs lc C K P S L ol os)
  obtain ⟨n, rfl⟩ : ∃ n : Nat, x = n := ⟨x.toNat, by omega⟩
  have hn : n < 65536 := by omega
  rw [show Int32.ofInt (n : Int) = nI n from Int32.ofInt_eq_ofNat]
  rw [pk_char, pk_tn (by omega), Nat.mod_eq_of_lt hn]
end RowsS

theorem band_255 {x : Int} (h0 : 0 ≤ x) (h1 : x < 256) : band x 255 = x := by
  obtain ⟨n, rfl⟩ : ∃ n : Nat, x = n := ⟨x.toNat, by omega⟩
  unfold band
  rw [show Int32.ofInt (n : Int) = nI n from Int32.ofInt_eq_ofNat, show Int32.ofInt 255 = (255 : Int32) from rfl, pk_andN (by omega) 8 (by decide), Nat.mod_eq_of_lt (by omega), nI_toInt (by omega)]
theorem bshr_0 {x : Int} (h : i32 x) : bshr x 0 = x := by
  unfold bshr
  rw [show Int32.ofInt 0 = (0 : Int32) from rfl, sb_shr0, t_o32 h]
theorem sp_coder {G : GG} {t : Nat} {h : Hp} {Φ : Int → Hp → Prop} (ht : 1000 ≤ t ∧ t < 1000 + NS) (k : Φ 0 h) : Call G m_J0_coder_7d493 [rv t] h Φ := by
  have D := dt_J0_coder_7d493
  refine Call.of rfl (Nat.le_of_ble_eq_true rfl) rfl ?_
  refine a_gstCS (pc := 0) rfl (dk D 0 rfl) ?_
  refine a_if_eq (pc := 3) (dk D 1 rfl) (tgt := 13) rfl ⟨fun c => absurd c (by decide), fun _ => ?_⟩
  refine a_aload_n (pc := 6) (dk D 2 rfl) rfl ?_
  refine a_scoder (pc := 7) rfl ht (dk D 3 rfl) ?_
  refine a_goto (pc := 10) (dk D 4 rfl) (tgt := 14) rfl ?_
  exact a_nret (pc := 14) (dk D 6 rfl) rfl (Or.inr (Or.inl rfl)) rfl ⟨by decide, k⟩
theorem sp_isLatin1 {G : GG} {t : Nat} {h : Hp} {Φ : Int → Hp → Prop} (ht : 1000 ≤ t ∧ t < 1000 + NS) (k : Φ 1 h) : Call G m_J0_isLatin1_aae02 [rv t] h Φ := by
  have D := dt_J0_isLatin1_aae02
  refine Call.of rfl (Nat.le_of_ble_eq_true rfl) rfl ?_
  refine a_gstCS (pc := 0) rfl (dk D 0 rfl) ?_
  refine a_if_eq (pc := 3) (dk D 1 rfl) (tgt := 17) rfl ⟨fun c => absurd c (by decide), fun _ => ?_⟩
  refine a_aload_n (pc := 6) (dk D 2 rfl) rfl ?_
  refine a_scoder (pc := 7) rfl ht (dk D 3 rfl) ?_
  refine a_if_ne (pc := 10) (dk D 4 rfl) (tgt := 17) rfl ⟨fun c => absurd rfl c, fun _ => ?_⟩
  refine a_iconst (pc := 13) (dk D 5 rfl) (ik rfl) ?_
  refine a_goto (pc := 14) (dk D 6 rfl) (tgt := 18) rfl ?_
  exact a_zret (pc := 18) (dk D 8 rfl) rfl rfl ⟨by decide, k⟩
theorem sp_length {G : GG} {t : Nat} {h : Hp} {Φ : Int → Hp → Prop} (ht : 1000 ≤ t ∧ t < 1000 + NS) (k : Φ (slen t) h) : Call G m_J0_length_8abf5 [rv t] h Φ := by
  have D := dt_J0_length_8abf5
  have NLE : ∀ {a b : Nat}, Nat.ble a b = true → a ≤ b := Nat.le_of_ble_eq_true
  have b := slen_ok ht
  refine Call.of rfl (Nat.le_of_ble_eq_true rfl) rfl ?_
  refine a_aload_n (pc := 0) (dk D 0 rfl) rfl ?_
  refine a_svalue (pc := 1) rfl ht (dk D 1 rfl) ?_
  refine a_slen (pc := 4) ht (dk D 2 rfl) ?_
  refine a_aload_n (pc := 5) (dk D 3 rfl) rfl ?_
  refine a_callTi (as := []) (st := [iv (slen t)]) (pc := 6) (dk D 4 rfl) cl_RJ0_335 ⟨NLE rfl, NLE rfl⟩ ⟨NLE rfl, NLE rfl⟩ ht rfl rfl rfl rfl (NLE rfl) ?_
  refine sp_coder ht ?_
  refine a_ishr (pc := 9) (dk D 5 rfl) ?_
  rw [bshr_0 ⟨by omega, by omega⟩]
  exact a_iret (pc := 10) (dk D 6 rfl) rfl rfl k
/-- a method's contract out of a walk that looks at some of its arguments alone -/
theorem Met_ofV {G : GG} {M : MD} {as : List AV} {vs : List Value} {h : Hp} {Φ : Int → Hp → Prop} (hp : plainName M.1.cls = true) (oa : ∀ v ∈ as, okV v) (hs : (lg_sl (as.map (cv G) ++ vs)).length ≤ M.2.2.1) (k : AT G M 0 (alocs 0 as) [] h Φ) :
    Met G.1 M.1 (TBM M) (rmK M.2.2.2.2) (va_Pc (as.map (cv G) ++ vs) (fun U => KX G U ∧ RH G h U.heap)) (QQ G M Φ) 0 0 (GA G) := by
  refine Met.ofW (cc := M.2.1) (maxL := M.2.2.1) (ret := M.2.2.2.1) hp rfl ?_
  intro p e s m args below meth c s₁ B hml hv
  obtain ⟨rfl, hK, hP⟩ := hv
  have hts := atoms_spec (ws := TBM M) B.pre
  have hown : s.vm.findClass M.1.cls = some m.cls := findClass_of_methodNamed B.named
  have hl := lv_entry (as.map (cv G) ++ vs) (n := M.2.2.1) hs
  rw [lg_entry_eq]
  have pre : ∀ (l : List AV) (i : Nat), ∀ q ∈ lv_args i (l.map (cv G)), q ∈ lv_args i (l.map (cv G) ++ vs) := by
    intro l
    induction l with
    | nil => intro i q hq; cases hq
    | cons v t ih =>
      intro i q hq
      simp only [List.map_cons, List.cons_append, lv_args] at hq ⊢
      rcases List.mem_cons.mp hq with rfl | hq
      · exact List.mem_cons_self
      · exact List.mem_cons_of_mem _ (ih _ q hq)
  have hl2 : lv_has ((lg_sl (as.map (cv G) ++ vs) ++ List.replicate (M.2.2.1 - (lg_sl (as.map (cv G) ++ vs)).length) Slot.unset).toArray) M.2.2.1 ((alocs 0 as).map fun q => (q.1, cv G q.2)) :=
    ⟨hl.1, hl.2.1, fun q hq => hl.2.2 q (pre as 0 q (by rw [← alocs_cv]; exact hq))⟩
  exact k p e s m _ below meth c s.heap [] _ ⟨B.exec, B.bytes, hml, hown, fun w hw => hts w (List.mem_cons_of_mem _ hw), B.returns, B.notSynchronized⟩ hK hP va_S.rf hl2 (alocs_ok as 0 oa) (fun v hv => by cases hv)
theorem sp_check3 {G : GG} {i n : Int} {h : Hp} {Φ : Int → Hp → Prop} (h0 : 0 ≤ i) (h1 : i < n) (k : Φ i h) : AT G m_J3_checkIndex_8e157 0 (alocs 0 [iv i, iv n]) [] h Φ := by
  have D := dt_J3_checkIndex_8e157
  refine a_iload_n (pc := 0) (x := i) (dk D 0 rfl) rfl ?_
  refine a_if_lt (pc := 1) (dk D 1 rfl) (tgt := 9) rfl ⟨fun c => absurd c (by omega), fun _ => ?_⟩
  refine a_iload_n (pc := 4) (x := i) (dk D 2 rfl) rfl ?_
  refine a_iload_n (pc := 5) (x := n) (dk D 3 rfl) rfl ?_
  refine a_icmp_lt (pc := 6) (dk D 4 rfl) (tgt := 16) rfl ⟨fun _ => ?_, fun c => absurd c (by omega)⟩
  refine a_iload_n (pc := 16) (x := i) (dk D 10 rfl) rfl ?_
  exact a_iret (pc := 17) (dk D 11 rfl) rfl rfl k
theorem sp_check2 {G : GG} {i n : Int} {h : Hp} {Φ : Int → Hp → Prop} (h0 : 0 ≤ i) (h1 : i < n) (k : Φ 0 h) : Call G m_J0_checkIndex_df160 [iv i, iv n] h Φ := by
  have D := dt_J0_checkIndex_df160
  refine Call.of rfl (Nat.le_of_ble_eq_true rfl) rfl ?_
  refine a_iload_n (pc := 0) (dk D 0 rfl) rfl ?_
  refine a_iload_n (pc := 1) (dk D 1 rfl) rfl ?_
  have key : AT G m_J0_checkIndex_df160 8 [(0, iv i), (1, iv n)] [iv i] h Φ := by
    refine a_pop (pc := 8) (dk D 4 rfl) rfl ?_
    exact a_vret (pc := 9) (dk D 5 rfl) rfl rfl k
  intro p e s m args below meth c H locs lc C K P S L ol os
  have oi : i32 i := ok_hd (ok_tl os)
  have on : i32 n := ok_hd os
  have w : Cond.fieldLink RJ0 1053 "jdk/internal/util/Preconditions" "SIOOBE_FORMATTER" "Ljava/util/function/BiFunction;" ∈ TB := tb_4 55 (by decide +kernel) rfl
  have go : ∀ v : Value, va_Z "jdk/internal/util/Preconditions" "SIOOBE_FORMATTER" "Ljava/util/function/BiFunction;" v (GA G) s s.heap → v.category = 1 → W p G.1 e (rmK m_J0_checkIndex_df160.2.2.2.2) s m args below meth c H locs 0 0 (QM G m_J0_checkIndex_df160 Φ below args s) (F0 m 2 lc ([iv n, iv i].map (cv G))) := by
    intro v hZ hv
    refine va_gets C.1 C.2.1 hZ S C.2.2.2.1 (C.2.2.2.2.1 _ w) (fun _ z => z) (dk D 2 rfl) ?_
    refine call_i (M := m_J0_checkIndex_df160) (M2 := m_J3_checkIndex_8e157) (as := []) (st := []) (ls := [(0, iv i), (1, iv n)]) (pc := 5) rfl C K S L ol (fun v hv => by cases hv) (a := ([iv i, iv n].map (cv G) ++ [v]).toArray) ?_
    have hM := Met_ofV (G := G) (M := m_J3_checkIndex_8e157) (as := [iv i, iv n]) (vs := [v]) (h := h) (Φ := fun r h1 => ATW G m_J0_checkIndex_df160 (rmK m_J0_checkIndex_df160.2.2.2.2) 0 0 (QM G m_J0_checkIndex_df160 Φ) (5 + 3) [(0, iv i), (1, iv n)] (iv r :: []) h1) rfl (ok_cons oi (ok_cons on (fun v hv => by cases hv))) (by have e1 : (cv G (iv i)).category = 1 := rfl; have e2 : (cv G (iv n)).category = 1 := rfl; simp [lg_sl, e1, e2, hv]) (sp_check3 h0 h1 key)
    have cw : CallB (rmK m_J0_checkIndex_df160.2.2.2.2) s args RJ0 1059 m_J3_checkIndex_8e157.1 m_J3_checkIndex_8e157.2.1 m_J3_checkIndex_8e157.2.2.1 m_J3_checkIndex_8e157.2.2.2.1 (TBM m_J3_checkIndex_8e157) (rmK m_J3_checkIndex_8e157.2.2.2.2) 0 0 3 ∧ (Cond.static m_J3_checkIndex_8e157.1).before args s = true :=
      ⟨callB_of 3 C.2.2.2.2.1 (good_M2 clb_J3_checkIndex_8e157) rfl rfl rfl (C.2.2.2.2.1 _ clb_J3_checkIndex_8e157.2.1) (C.2.2.2.2.1 _ cl_RJ0_1059.2.1) clb_J3_checkIndex_8e157.2.2 ⟨Nat.le_of_ble_eq_true rfl, Nat.le_of_ble_eq_true rfl⟩, C.2.2.2.2.1 _ cl_RJ0_1059.2.2⟩
    exact va_runS (As := [iv i, iv n].map (cv G) ++ [v]) (cf C) hM cw ⟨fun a U g mk q => ⟨q.1, q.2.1.calling, q.2.2⟩, fun U hU hW => ⟨rfl, K.next S hU hW, by rw [hU]; exact P⟩⟩ rfl rfl L.1 rfl (lv_room (Nat.le_of_ble_eq_true rfl)) (dk D 3 rfl) ⟨Nat.le_refl _, Nat.le_refl _⟩
  rcases K.2.2.2.2.2.2.2.2.1 with hZ | ⟨t, hZ⟩
  · exact go .null hZ rfl
  · exact go (.ref t) hZ rfl
theorem sp_charAt1 {G : GG} {t : Nat} {i : Int} {h : Hp} {Φ : Int → Hp → Prop} (ht : 1000 ≤ t ∧ t < 1000 + NS) (h0 : 0 ≤ i) (h1 : i < slen t) (k : Φ (schr t i) h) : Call G m_J1_charAt_3b067 [rv (1000 + t), iv i] h Φ := by
  have D := dt_J1_charAt_3b067
  have NLE : ∀ {a b : Nat}, Nat.ble a b = true → a ≤ b := Nat.le_of_ble_eq_true
  have b := schr_ok ht h0 h1
  refine Call.of rfl (by simp [catA]) rfl ?_
  refine a_iload_n (pc := 0) (dk D 0 rfl) rfl ?_
  refine a_aload_n (pc := 1) (dk D 1 rfl) rfl ?_
  refine a_slen (pc := 2) ht (dk D 2 rfl) ?_
  refine a_callSv (as := [iv i, iv (slen t)]) (st := []) (pc := 3) (dk D 3 rfl) cl_RJ1_9 ⟨NLE rfl, NLE rfl⟩ ⟨NLE rfl, NLE rfl⟩ rfl rfl rfl (NLE rfl) ?_
  refine sp_check2 h0 h1 ?_
  refine a_aload_n (pc := 6) (dk D 4 rfl) rfl ?_
  refine a_iload_n (pc := 7) (dk D 5 rfl) rfl ?_
  refine a_sald (pc := 8) ht h0 h1 (dk D 6 rfl) ?_
  refine a_sipush (pc := 9) (dk D 7 rfl) (ik rfl) (spk rfl) ?_
  refine a_iand (pc := 12) (dk D 8 rfl) ?_
  rw [band_255 (by omega) (by omega)]
  refine a_i2c (pc := 13) (by omega) (dk D 9 rfl) ?_
  refine a_nret (pc := 14) (dk D 10 rfl) rfl (Or.inr (Or.inr rfl)) rfl ⟨?_, k⟩
  obtain ⟨n, hn⟩ : ∃ n : Nat, schr t i = n := ⟨(schr t i).toNat, by omega⟩
  rw [hn, show Int32.ofInt (n : Int) = nI n from Int32.ofInt_eq_ofNat]
  exact (pk_charN (by omega)).1
theorem sp_charAt {G : GG} {t : Nat} {i : Int} {h : Hp} {Φ : Int → Hp → Prop} (ht : 1000 ≤ t ∧ t < 1000 + NS) (h0 : 0 ≤ i) (h1 : i < slen t) (k : Φ (schr t i) h) : Call G m_J0_charAt_5068e [rv t, iv i] h Φ := by
  have D := dt_J0_charAt_5068e
  have NLE : ∀ {a b : Nat}, Nat.ble a b = true → a ≤ b := Nat.le_of_ble_eq_true
  have b := schr_ok ht h0 h1
  refine Call.of rfl (by simp [catA]) rfl ?_
  refine a_aload_n (pc := 0) (dk D 0 rfl) rfl ?_
  refine a_callTi (as := []) (st := []) (pc := 1) (dk D 1 rfl) cl_RJ0_492 ⟨NLE rfl, NLE rfl⟩ ⟨NLE rfl, NLE rfl⟩ ht rfl rfl rfl rfl (NLE rfl) ?_
  refine sp_isLatin1 ht ?_
  refine a_if_eq (pc := 4) (dk D 2 rfl) (tgt := 16) rfl ⟨fun c => absurd c (by decide), fun _ => ?_⟩
  refine a_aload_n (pc := 7) (dk D 3 rfl) rfl ?_
  refine a_svalue (pc := 8) rfl ht (dk D 4 rfl) ?_
  refine a_iload_n (pc := 11) (dk D 5 rfl) rfl ?_
  refine a_callSi (as := [rv (1000 + t), iv i]) (st := []) (pc := 12) (dk D 6 rfl) cl_RJ0_495 ⟨NLE rfl, NLE rfl⟩ ⟨NLE rfl, NLE rfl⟩ rfl rfl rfl (NLE rfl) ?_
  refine sp_charAt1 ht h0 h1 ?_
  refine a_nret (pc := 15) (dk D 7 rfl) rfl (Or.inr (Or.inr rfl)) rfl ⟨?_, k⟩
  obtain ⟨n, hn⟩ : ∃ n : Nat, schr t i = n := ⟨(schr t i).toNat, by omega⟩
  rw [hn, show Int32.ofInt (n : Int) = nI n from Int32.ofInt_eq_ofNat]
  exact (pk_charN (by omega)).1
set_option maxHeartbeats 40000000 in
theorem T_J9_max_7cf53_0 {G : GG} {Φ : Int → Hp → Prop} {h : Hp} {x0 : Int} {x1 : Int} (H : ((x0 < x1 → Φ x1 h) ∧ (x1 ≤ x0 → Φ x0 h))) : AT G m_J9_max_7cf53 0 [(0, iv x0), (1, iv x1)] [] h Φ := by
  have D := dt_J9_max_7cf53
  refine a_iload_n (pc := 0) (dk D 0 rfl) rfl ?_
  refine a_iload_n (pc := 1) (dk D 1 rfl) rfl ?_
  refine a_icmp_lt (pc := 2) (dk D 2 rfl) (tgt := 9) rfl ⟨fun c => ?_, fun c => ?_⟩
  · replace H := H.1 c
    refine a_iload_n (pc := 9) (dk D 5 rfl) rfl ?_
    exact a_iret (pc := 10) (dk D 6 rfl) rfl rfl H
  · replace H := H.2 c
    refine a_iload_n (pc := 5) (dk D 3 rfl) rfl ?_
    refine a_goto (pc := 6) (dk D 4 rfl) (tgt := 10) rfl ?_
    exact a_iret (pc := 10) (dk D 6 rfl) rfl rfl H
set_option maxHeartbeats 40000000 in
theorem T_J9_min_7cf53_0 {G : GG} {Φ : Int → Hp → Prop} {h : Hp} {x0 : Int} {x1 : Int} (H : ((x1 < x0 → Φ x1 h) ∧ (x0 ≤ x1 → Φ x0 h))) : AT G m_J9_min_7cf53 0 [(0, iv x0), (1, iv x1)] [] h Φ := by
  have D := dt_J9_min_7cf53
  refine a_iload_n (pc := 0) (dk D 0 rfl) rfl ?_
  refine a_iload_n (pc := 1) (dk D 1 rfl) rfl ?_
  refine a_icmp_gt (pc := 2) (dk D 2 rfl) (tgt := 9) rfl ⟨fun c => ?_, fun c => ?_⟩
  · replace H := H.1 c
    refine a_iload_n (pc := 9) (dk D 5 rfl) rfl ?_
    exact a_iret (pc := 10) (dk D 6 rfl) rfl rfl H
  · replace H := H.2 c
    refine a_iload_n (pc := 5) (dk D 3 rfl) rfl ?_
    refine a_goto (pc := 6) (dk D 4 rfl) (tgt := 10) rfl ?_
    exact a_iret (pc := 10) (dk D 6 rfl) rfl rfl H
set_option maxHeartbeats 40000000 in
theorem T_J6_bitCount_0f7a4_0 {G : GG} {Φ : Int → Hp → Prop} {h : Hp} {x0 : Int} (H : Φ (band (w32 ((w32 ((band (w32 ((w32 ((band (w32 (x0 - (band (bushr x0 1) 1431655765))) 858993459) + (band (bushr (w32 (x0 - (band (bushr x0 1) 1431655765))) 2) 858993459))) + (bushr (w32 ((band (w32 (x0 - (band (bushr x0 1) 1431655765))) 858993459) + (band (bushr (w32 (x0 - (band (bushr x0 1) 1431655765))) 2) 858993459))) 4))) 252645135) + (bushr (band (w32 ((w32 ((band (w32 (x0 - (band (bushr x0 1) 1431655765))) 858993459) + (band (bushr (w32 (x0 - (band (bushr x0 1) 1431655765))) 2) 858993459))) + (bushr (w32 ((band (w32 (x0 - (band (bushr x0 1) 1431655765))) 858993459) + (band (bushr (w32 (x0 - (band (bushr x0 1) 1431655765))) 2) 858993459))) 4))) 252645135) 8))) + (bushr (w32 ((band (w32 ((w32 ((band (w32 (x0 - (band (bushr x0 1) 1431655765))) 858993459) + (band (bushr (w32 (x0 - (band (bushr x0 1) 1431655765))) 2) 858993459))) + (bushr (w32 ((band (w32 (x0 - (band (bushr x0 1) 1431655765))) 858993459) + (band (bushr (w32 (x0 - (band (bushr x0 1) 1431655765))) 2) 858993459))) 4))) 252645135) + (bushr (band (w32 ((w32 ((band (w32 (x0 - (band (bushr x0 1) 1431655765))) 858993459) + (band (bushr (w32 (x0 - (band (bushr x0 1) 1431655765))) 2) 858993459))) + (bushr (w32 ((band (w32 (x0 - (band (bushr x0 1) 1431655765))) 858993459) + (band (bushr (w32 (x0 - (band (bushr x0 1) 1431655765))) 2) 858993459))) 4))) 252645135) 8))) 16))) 63) h) : AT G m_J6_bitCount_0f7a4 0 [(0, iv x0)] [] h Φ := by
  have D := dt_J6_bitCount_0f7a4
  refine a_iload_n (pc := 0) (dk D 0 rfl) rfl ?_
  refine a_iload_n (pc := 1) (dk D 1 rfl) rfl ?_
  refine a_iconst (pc := 2) (dk D 2 rfl) (ik rfl) ?_
  refine a_iushr (pc := 3) (dk D 3 rfl) ?_
  refine a_ldcw (n := 1431655765) (pc := 4) (dk D 4 rfl) (ik rfl) co_RJ6_265 ?_
  refine a_iand (pc := 7) (dk D 5 rfl) ?_
  refine a_isub (pc := 8) (dk D 6 rfl) ?_
  refine a_istore_n (pc := 9) (dk D 7 rfl) (by decide) rfl rfl ?_
  refine a_iload_n (pc := 10) (dk D 8 rfl) rfl ?_
  refine a_ldcw (n := 858993459) (pc := 11) (dk D 9 rfl) (ik rfl) co_RJ6_266 ?_
  refine a_iand (pc := 14) (dk D 10 rfl) ?_
  refine a_iload_n (pc := 15) (dk D 11 rfl) rfl ?_
  refine a_iconst (pc := 16) (dk D 12 rfl) (ik rfl) ?_
  refine a_iushr (pc := 17) (dk D 13 rfl) ?_
  refine a_ldcw (n := 858993459) (pc := 18) (dk D 14 rfl) (ik rfl) co_RJ6_266 ?_
  refine a_iand (pc := 21) (dk D 15 rfl) ?_
  refine a_iadd (pc := 22) (dk D 16 rfl) ?_
  refine a_istore_n (pc := 23) (dk D 17 rfl) (by decide) rfl rfl ?_
  refine a_iload_n (pc := 24) (dk D 18 rfl) rfl ?_
  refine a_iload_n (pc := 25) (dk D 19 rfl) rfl ?_
  refine a_iconst (pc := 26) (dk D 20 rfl) (ik rfl) ?_
  refine a_iushr (pc := 27) (dk D 21 rfl) ?_
  refine a_iadd (pc := 28) (dk D 22 rfl) ?_
  refine a_ldcw (n := 252645135) (pc := 29) (dk D 23 rfl) (ik rfl) co_RJ6_267 ?_
  refine a_iand (pc := 32) (dk D 24 rfl) ?_
  refine a_istore_n (pc := 33) (dk D 25 rfl) (by decide) rfl rfl ?_
  refine a_iload_n (pc := 34) (dk D 26 rfl) rfl ?_
  refine a_iload_n (pc := 35) (dk D 27 rfl) rfl ?_
  refine a_bipush (pc := 36) (dk D 28 rfl) (ik rfl) (bpk rfl) ?_
  refine a_iushr (pc := 38) (dk D 29 rfl) ?_
  refine a_iadd (pc := 39) (dk D 30 rfl) ?_
  refine a_istore_n (pc := 40) (dk D 31 rfl) (by decide) rfl rfl ?_
  refine a_iload_n (pc := 41) (dk D 32 rfl) rfl ?_
  refine a_iload_n (pc := 42) (dk D 33 rfl) rfl ?_
  refine a_bipush (pc := 43) (dk D 34 rfl) (ik rfl) (bpk rfl) ?_
  refine a_iushr (pc := 45) (dk D 35 rfl) ?_
  refine a_iadd (pc := 46) (dk D 36 rfl) ?_
  refine a_istore_n (pc := 47) (dk D 37 rfl) (by decide) rfl rfl ?_
  refine a_iload_n (pc := 48) (dk D 38 rfl) rfl ?_
  refine a_bipush (pc := 49) (dk D 39 rfl) (ik rfl) (bpk rfl) ?_
  refine a_iand (pc := 51) (dk D 40 rfl) ?_
  exact a_iret (pc := 52) (dk D 41 rfl) rfl rfl H
set_option maxHeartbeats 40000000 in
theorem T_J7_fill_53178_83_0 {G : GG} {Φ : Int → Hp → Prop} {h : Hp} {x1 : Int} (H : AT G m_J7_fill_53178 5 [(0, rv 83), (1, iv x1), (2, iv 0), (3, iv 288)] [] h Φ) : AT G m_J7_fill_53178 0 [(0, rv 83), (1, iv x1)] [] h Φ := by
  have D := dt_J7_fill_53178
  refine a_iconst (pc := 0) (dk D 0 rfl) (ik rfl) ?_
  refine a_istore_n (pc := 1) (dk D 1 rfl) (by decide) rfl rfl ?_
  refine a_aload_n (pc := 2) (dk D 2 rfl) rfl ?_
  refine a_alen (pc := 3) (dk D 3 rfl) ar_83 (by decide) ?_
  refine a_istore_n (pc := 4) (dk D 4 rfl) (by decide) rfl rfl ?_
  exact a_pick [0, 1, 2, 3] rfl H
set_option maxHeartbeats 40000000 in
theorem T_J7_fill_53178_83_5 {G : GG} {Φ : Int → Hp → Prop} {h : Hp} {x1 : Int} {x2 : Int} {x3 : Int} (H : ((x3 ≤ x2 → Φ 0 h) ∧ (x2 < x3 → (0 ≤ x2 ∧ x2 < 288) ∧ AT G m_J7_fill_53178 5 [(0, rv 83), (1, iv x1), (2, iv (w32 (x2 + 1))), (3, iv x3)] [] (up h 83 x2 x1) Φ))) : AT G m_J7_fill_53178 5 [(0, rv 83), (1, iv x1), (2, iv x2), (3, iv x3)] [] h Φ := by
  have D := dt_J7_fill_53178
  refine a_iload_n (pc := 5) (dk D 5 rfl) rfl ?_
  refine a_iload_n (pc := 6) (dk D 6 rfl) rfl ?_
  refine a_icmp_ge (pc := 7) (dk D 7 rfl) (tgt := 20) rfl ⟨fun c => ?_, fun c => ?_⟩
  · replace H := H.1 c
    exact a_vret (pc := 20) (dk D 14 rfl) rfl rfl H
  · replace H := H.2 c
    refine a_aload_n (pc := 10) (dk D 8 rfl) rfl ?_
    refine a_iload_n (pc := 11) (dk D 9 rfl) rfl ?_
    refine a_iload_n (pc := 12) (dk D 10 rfl) rfl ?_
    refine a_iast (pc := 13) (dk D 11 rfl) ar_83 ⟨H.1, ?_⟩
    replace H := H.2
    refine a_iinc (pc := 14) (dk D 12 rfl) (by decide) rfl rfl rfl ?_
    refine a_goto (pc := 17) (dk D 13 rfl) (tgt := 5) rfl ?_
    exact a_pick [0, 1, 2, 3] rfl H
