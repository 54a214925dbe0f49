/-! the start of the law: what the tables and the premises give -/
def fl0 : List Cond := flatC (Jvm.Cond.and given_1 narrow_1)
def tmS (i : Nat) : Term := match strT[i]? with
  | some q => Term.string q.1 q.2.1
  | none => Term.arg 0
theorem str_one {args : Array Value} {s : State} {A : Nat → Prop} {tm : Term} {bl : List Int} (hN : bl.length < 2 ^ 31) (hex : (Cond.exactly tm "java/lang/String").before args s = true) (hco : (Cond.eq (.field tm "java/lang/String" "coder" "B") (.int 0)).before args s = true)
    (har : (Cond.arrayOf (.field tm "java/lang/String" "value" "[B") .byte).before args s = true) (hle : (Cond.eq (.length (.field tm "java/lang/String" "value" "[B")) (.int (Int32.ofNat bl.length))).before args s = true)
    (hel : ∀ j : Nat, j < bl.length → (Cond.eq (.elem (.field tm "java/lang/String" "value" "[B") (.int (Int32.ofNat j))) (.int (Int32.ofInt (bl.getD j 0)))).before args s = true) (hA : ∀ a : Nat, a < s.heap.size → ¬ A a) :
    ∃ a t : Nat, tm.eval args s none [] s = some (.ref a) ∧ va_O "java/lang/String" a A s s.heap ∧ va_OF "java/lang/String" "coder" "B" (.int 0) a A s s.heap ∧ va_OF "java/lang/String" "value" "[B" (.ref t) a A s s.heap ∧ va_T .byte t bl.length (fun j => .int (Int32.ofInt (bl.getD j 0))) A s s.heap := by
  obtain ⟨a, c, cA, kA, q1, q2, q3, q4, q5, q6, -⟩ := Cond.exactly_spec (args := args) (first := s) (o := none) (s := s) (idx := []) (t := tm) (cls := "java/lang/String") hex
  obtain ⟨t, ht, hT⟩ := va_Tof (f := fun j => .int (Int32.ofInt (bl.getD j 0))) (A := A) hN har (va_eqt hle) (fun j hj => va_eqt (hel j hj)) hA
  exact ⟨a, t, q1, ⟨cA, q3, q5, by rw [q6]; exact q2, hA a (Array.getElem?_eq_some_iff.mp q3).1⟩, vk_OFof q1 (va_eqt hco) hA, vk_OFof q1 ht hA, hT⟩
theorem strR : ∀ i, i < NS → ∀ q, strT[i]? = some q → Cond.stringRef q.1 q.2.1 q.2.2 ∈ lw_tbl := by
  intro i hi q hq
  have e : strT.map (fun q => Cond.stringRef q.1 q.2.1 q.2.2) = ([712, 713, 714, 715, 716, 717, 718, 719, 720, 721, 722, 723, 724, 725, 726, 730, 731, 732, 733, 734, 735, 736, 737, 738, 739, 740, 741, 742, 743, 744, 745, 746, 1248, 1249, 1250, 1251, 1252, 1253, 1254, 1255, 1256, 1257, 1258, 1259, 1260, 1261, 1262, 1263, 1264, 1265, 1266, 1267, 1268, 1269, 1270, 1271, 1272, 1273, 1274, 1275, 1276, 1277, 1278] : List Nat).filterMap (fun i => tables_1[i]?) := by decide +kernel
  refine List.mem_append_right _ ?_
  have hm : Cond.stringRef q.1 q.2.1 q.2.2 ∈ strT.map (fun q => Cond.stringRef q.1 q.2.1 q.2.2) := List.mem_map.mpr ⟨q, List.mem_of_getElem? hq, rfl⟩
  rw [e] at hm
  obtain ⟨j, -, hj⟩ := List.mem_filterMap.mp hm
  exact List.mem_of_getElem? hj
theorem arr901 : Cond.arrayOf (.static "MissionHouse$Calendar" "MONTH_DAYS" "[I") .int ∈ fl0 ∧ Cond.eq (.length (.static "MissionHouse$Calendar" "MONTH_DAYS" "[I")) (.int (Int32.ofNat 12)) ∈ fl0 ∧ ∀ j, j < 12 → Cond.eq (.elem (.static "MissionHouse$Calendar" "MONTH_DAYS" "[I") (.int (Int32.ofNat j))) (.int (Int32.ofInt (xc 901 j))) ∈ fl0 := by decide +kernel
theorem arr902 : Cond.arrayOf (.static "MissionHouse$Memory" "DATA_PLACES" "[I") .int ∈ fl0 ∧ Cond.eq (.length (.static "MissionHouse$Memory" "DATA_PLACES" "[I")) (.int (Int32.ofNat 8)) ∈ fl0 ∧ ∀ j, j < 8 → Cond.eq (.elem (.static "MissionHouse$Memory" "DATA_PLACES" "[I") (.int (Int32.ofNat j))) (.int (Int32.ofInt (xc 902 j))) ∈ fl0 := by decide +kernel
theorem arr903 : Cond.arrayOf (.static "MissionHouse$Sky" "LETTERS" "[C") .char ∈ fl0 ∧ Cond.eq (.length (.static "MissionHouse$Sky" "LETTERS" "[C")) (.int (Int32.ofNat 4)) ∈ fl0 ∧ ∀ j, j < 4 → Cond.eq (.elem (.static "MissionHouse$Sky" "LETTERS" "[C") (.int (Int32.ofNat j))) (.int (Int32.ofInt (xc 903 j))) ∈ fl0 := by decide +kernel
theorem cmp0 : Cond.eq (.static "java/lang/String" "COMPACT_STRINGS" "Z") (.int 1) ∈ fl0 ∧ Cond.isRef (.static "jdk/internal/util/Preconditions" "SIOOBE_FORMATTER" "Ljava/util/function/BiFunction;") ∈ fl0 := by decide +kernel

theorem lay_MONTH_DAYS : Cond.laysStatic "MissionHouse$Calendar" "MONTH_DAYS" "[I" ∈ lw_tbl ∧ Cond.initialized "MissionHouse$Calendar" ∈ lw_tbl := ⟨List.mem_append_right _ (List.mem_of_getElem? (i := 536) (by decide +kernel)), List.mem_append_right _ (List.mem_of_getElem? (i := 4) (by decide +kernel))⟩
theorem lay_COMPACT_STRINGS : Cond.laysStatic "java/lang/String" "COMPACT_STRINGS" "Z" ∈ lw_tbl ∧ Cond.initialized "java/lang/String" ∈ lw_tbl := ⟨List.mem_append_right _ (List.mem_of_getElem? (i := 760) (by decide +kernel)), List.mem_append_right _ (List.mem_of_getElem? (i := 16) (by decide +kernel))⟩
theorem lay_SIOOBE_FORMATTER : Cond.laysStatic "jdk/internal/util/Preconditions" "SIOOBE_FORMATTER" "Ljava/util/function/BiFunction;" ∈ lw_tbl ∧ Cond.initialized "jdk/internal/util/Preconditions" ∈ lw_tbl := ⟨List.mem_append_right _ (List.mem_of_getElem? (i := 776) (by decide +kernel)), List.mem_append_right _ (List.mem_of_getElem? (i := 18) (by decide +kernel))⟩
theorem lay_DATA_PLACES : Cond.laysStatic "MissionHouse$Memory" "DATA_PLACES" "[I" ∈ lw_tbl ∧ Cond.initialized "MissionHouse$Memory" ∈ lw_tbl := ⟨List.mem_append_right _ (List.mem_of_getElem? (i := 950) (by decide +kernel)), List.mem_append_right _ (List.mem_of_getElem? (i := 7) (by decide +kernel))⟩
theorem lay_LETTERS : Cond.laysStatic "MissionHouse$Sky" "LETTERS" "[C" ∈ lw_tbl ∧ Cond.initialized "MissionHouse$Sky" ∈ lw_tbl := ⟨List.mem_append_right _ (List.mem_of_getElem? (i := 1239) (by decide +kernel)), List.mem_append_right _ (List.mem_of_getElem? (i := 13) (by decide +kernel))⟩
theorem nest_in : ∀ q ∈ nestL, Cond.methodLinkNest q.1 q.2.1 q.2.2 "MissionHouse" ∈ lw_tbl := by
  intro q hq
  refine List.mem_append_right _ ?_
  revert q
  decide +kernel
theorem nestC_in : ∀ q ∈ nestC, Cond.methodLinkNest RX11 q.1 q.2 "MissionHouse" ∈ lw_tbl := by
  intro q hq
  refine List.mem_append_right _ ?_
  revert q
  decide +kernel
theorem ao_in : Cond.arrayOver (.object "java/lang/String") ∈ lw_tbl := List.mem_append_right _ (List.mem_of_getElem? (i := 1247) (by decide +kernel))
theorem TB_lw {w : Cond} (h : w ∈ TB) : w ∈ lw_tbl := (List.mem_filter.mp h).1
theorem cls_known {args : Array Value} {s : State} (hts : ∀ w ∈ lw_tbl, w.before args s = true) : ∀ k : Nat, ∃ (c : ClassId) (iS : Nat → Nat), ∀ q : vw_C, classes[k]? = some q → u_Kn s q.1 q.2.1 q.2.2 c iS := by
  intro k
  match k with
  | 0 =>
    obtain ⟨c, iS, h⟩ := u_known (C := RX0) (T := TX0) (N := 20) (n := 20) hts (fun w hw => TB_lw (cls_0.2.1 w hw)) (hts (.instantiable RX0 20) (List.mem_append_right _ (List.mem_of_getElem? (i := 274) (by decide +kernel))))
    exact ⟨c, iS, fun q hq => by cases hq; exact h⟩
  | 1 =>
    obtain ⟨c, iS, h⟩ := u_known (C := RX1) (T := TX1) (N := 2) (n := 2) hts (fun w hw => TB_lw (cls_1.2.1 w hw)) (hts (.instantiable RX1 2) (List.mem_append_right _ (List.mem_of_getElem? (i := 86) (by decide +kernel))))
    exact ⟨c, iS, fun q hq => by cases hq; exact h⟩
  | 2 =>
    obtain ⟨c, iS, h⟩ := u_known (C := RX2) (T := TX2) (N := 12) (n := 12) hts (fun w hw => TB_lw (cls_2.2.1 w hw)) (hts (.instantiable RX2 12) (List.mem_append_right _ (List.mem_of_getElem? (i := 354) (by decide +kernel))))
    exact ⟨c, iS, fun q hq => by cases hq; exact h⟩
  | 3 =>
    obtain ⟨c, iS, h⟩ := u_known (C := RX3) (T := TX3) (N := 7) (n := 7) hts (fun w hw => TB_lw (cls_3.2.1 w hw)) (hts (.instantiable RX3 7) (List.mem_append_right _ (List.mem_of_getElem? (i := 52) (by decide +kernel))))
    exact ⟨c, iS, fun q hq => by cases hq; exact h⟩
  | 4 =>
    obtain ⟨c, iS, h⟩ := u_known (C := RX4) (T := TX4) (N := 15) (n := 15) hts (fun w hw => TB_lw (cls_4.2.1 w hw)) (hts (.instantiable RX4 15) (List.mem_append_right _ (List.mem_of_getElem? (i := 213) (by decide +kernel))))
    exact ⟨c, iS, fun q hq => by cases hq; exact h⟩
  | 5 =>
    obtain ⟨c, iS, h⟩ := u_known (C := RX5) (T := TX5) (N := 3) (n := 3) hts (fun w hw => TB_lw (cls_5.2.1 w hw)) (hts (.instantiable RX5 3) (List.mem_append_right _ (List.mem_of_getElem? (i := 193) (by decide +kernel))))
    exact ⟨c, iS, fun q hq => by cases hq; exact h⟩
  | 6 =>
    obtain ⟨c, iS, h⟩ := u_known (C := RX6) (T := TX6) (N := 9) (n := 9) hts (fun w hw => TB_lw (cls_6.2.1 w hw)) (hts (.instantiable RX6 9) (List.mem_append_right _ (List.mem_of_getElem? (i := 99) (by decide +kernel))))
    exact ⟨c, iS, fun q hq => by cases hq; exact h⟩
  | 7 =>
    obtain ⟨c, iS, h⟩ := u_known (C := RX7) (T := TX7) (N := 10) (n := 10) hts (fun w hw => TB_lw (cls_7.2.1 w hw)) (hts (.instantiable RX7 10) (List.mem_append_right _ (List.mem_of_getElem? (i := 406) (by decide +kernel))))
    exact ⟨c, iS, fun q hq => by cases hq; exact h⟩
  | 8 =>
    obtain ⟨c, iS, h⟩ := u_known (C := RX8) (T := TX8) (N := 10) (n := 10) hts (fun w hw => TB_lw (cls_8.2.1 w hw)) (hts (.instantiable RX8 10) (List.mem_append_right _ (List.mem_of_getElem? (i := 142) (by decide +kernel))))
    exact ⟨c, iS, fun q hq => by cases hq; exact h⟩
  | 9 =>
    obtain ⟨c, iS, h⟩ := u_known (C := RX9) (T := TX9) (N := 3) (n := 3) hts (fun w hw => TB_lw (cls_9.2.1 w hw)) (hts (.instantiable RX9 3) (List.mem_append_right _ (List.mem_of_getElem? (i := 448) (by decide +kernel))))
    exact ⟨c, iS, fun q hq => by cases hq; exact h⟩
  | 10 =>
    obtain ⟨c, iS, h⟩ := u_known (C := RX10) (T := TX10) (N := 4) (n := 4) hts (fun w hw => TB_lw (cls_10.2.1 w hw)) (hts (.instantiable RX10 4) (List.mem_append_right _ (List.mem_of_getElem? (i := 31) (by decide +kernel))))
    exact ⟨c, iS, fun q hq => by cases hq; exact h⟩
  | 11 =>
    obtain ⟨c, iS, h⟩ := u_known (C := RX11) (T := TX11) (N := 13) (n := 13) hts (fun w hw => TB_lw (cls_11.2.1 w hw)) (hts (.instantiable RX11 13) (List.mem_append_right _ (List.mem_of_getElem? (i := 23) (by decide +kernel))))
    exact ⟨c, iS, fun q hq => by cases hq; exact h⟩
  | 12 =>
    obtain ⟨c, iS, h⟩ := u_known (C := RX12) (T := TX12) (N := 106) (n := 106) hts (fun w hw => TB_lw (cls_12.2.1 w hw)) (hts (.instantiable RX12 106) (List.mem_append_right _ (List.mem_of_getElem? (i := 1241) (by decide +kernel))))
    exact ⟨c, iS, fun q hq => by cases hq; exact h⟩
  | k + 13 => exact ⟨0, fun _ => 0, fun q hq => by simp [classes] at hq⟩
