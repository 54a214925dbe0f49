/-! the layout of the world: cells 1 .. 152, their kinds (0 .. 12: an object of that class, 20: int[], 21: boolean[], 22: String[]), sizes, references -/
def kdT : List Nat := [99, 11, 10, 20, 3, 20, 20, 20, 20, 20, 20, 20, 1, 20, 6, 20, 20, 20, 8, 20, 20, 21, 21, 20, 5, 20, 4, 20, 20, 20, 20, 20, 20, 20, 0, 20, 3, 20, 20, 20, 20, 20, 20, 3, 20, 20, 20, 20, 20, 20, 20, 20, 20, 20, 3, 20, 20, 20, 20, 20, 20, 20, 20, 20, 20, 2, 20, 20, 3, 20, 20, 20, 20, 20, 20, 7, 20, 20, 20, 20, 20, 9, 21, 20, 20, 12, 20, 20, 20, 20, 20, 20, 20, 20, 20, 21, 21, 20, 22, 22, 22, 22, 22, 20, 20, 20, 20, 20, 20, 20, 20, 20, 20, 20, 20, 20, 20, 20, 20, 20, 20, 20, 20, 20, 20, 20, 20, 20, 20, 20, 20, 20, 21, 20, 20, 20, 20, 20, 20, 20, 20, 20, 20, 20, 20, 20, 20, 20, 20, 20, 20, 21, 20]
def szT : List Nat := [0, 13, 4, 1600, 7, 30, 30, 30, 30, 30, 30, 288, 2, 10, 9, 4, 4, 4, 10, 8, 8, 8, 8, 8, 3, 64, 15, 1800, 4, 4, 16, 9, 9, 744, 20, 8, 7, 240, 240, 240, 240, 240, 240, 7, 240, 240, 240, 240, 240, 240, 8, 8, 10, 10, 7, 8, 8, 8, 8, 8, 8, 8, 8, 8, 8, 12, 9, 540, 7, 8, 8, 8, 8, 8, 8, 10, 12, 12, 12, 12, 12, 3, 288, 288, 288, 106, 1600, 1600, 288, 10, 4, 4, 4, 8, 8, 8, 8, 64, 15, 13, 17, 8, 1, 260, 260, 260, 260, 260, 260, 240, 240, 240, 240, 240, 240, 8, 8, 8, 30, 30, 30, 30, 30, 30, 4, 4, 10, 10, 8, 8, 8, 8, 8, 450, 50, 16, 9, 9, 720, 24, 9, 540, 60, 9, 9, 9, 9, 12, 12, 12, 12, 288, 288]
def rfT : List (List Nat) := [[], [2, 4, 11, 0, 12, 14, 18, 24, 26, 34, 65, 75, 81], [3], [], [0, 5, 6, 7, 8, 9, 10], [], [], [], [], [], [], [], [13], [], [0, 0, 0, 0, 0, 0, 15, 16, 17], [], [], [], [0, 0, 0, 0, 0, 19, 20, 21, 22, 23], [], [], [], [], [], [25], [], [27, 28, 29, 0, 30, 31, 32, 0, 0, 33], [], [], [], [], [], [], [], [14, 18, 24, 26, 0, 0, 0, 35, 36, 43, 50, 51, 52, 53, 0, 54, 61, 62, 63, 64], [], [0, 37, 38, 39, 40, 41, 42], [], [], [], [], [], [], [0, 44, 45, 46, 47, 48, 49], [], [], [], [], [], [], [], [], [], [], [0, 55, 56, 57, 58, 59, 60], [], [], [], [], [], [], [], [], [], [], [0, 0, 0, 0, 66, 0, 67, 0, 68], [], [], [0, 69, 70, 71, 72, 73, 74], [], [], [], [], [], [], [76, 77, 78, 79, 80], [], [], [], [], [], [82, 83, 84], [], [], [], [86, 87, 88, 0, 0, 0, 0, 0, 89, 0, 0, 0, 0, 0, 0, 90, 91, 92, 0, 0, 0, 0, 0, 0, 93, 94, 95, 96, 97, 0, 0, 98, 99, 100, 101, 102, 103, 104, 105, 106, 107, 108, 109, 110, 111, 112, 113, 114, 115, 116, 117, 118, 119, 120, 121, 122, 123, 0, 124, 125, 126, 127, 0, 128, 129, 130, 131, 132, 133, 134, 135, 136, 0, 0, 0, 137, 138, 139, 0, 0, 0, 0, 0, 0, 0, 0, 0, 0, 0, 0, 0, 140, 141, 142, 143, 144, 145, 146, 147, 148, 149, 150, 0, 0, 151, 152], [], [], [], [], [], [], [], [], [], [], [], [], [1032, 1033, 1034, 1035, 1036, 1037, 1038, 1039, 1040, 1041, 1042, 1043, 1044, 1045, 1046], [1032, 1033, 1034, 1035, 1036, 1037, 1038, 1039, 1040, 1041, 1042, 1043, 1044], [1047, 1048, 1049, 1041, 1050, 1051, 1052, 1053, 1054, 1055, 1056, 1057, 1058, 1059, 1060, 1061, 1062], [1055, 1056, 1057, 1058, 1059, 1060, 1061, 1062], [1037], [], [], [], [], [], [], [], [], [], [], [], [], [], [], [], [], [], [], [], [], [], [], [], [], [], [], [], [], [], [], [], [], [], [], [], [], [], [], [], [], [], [], [], [], [], [], [], [], [], []]
def kd (k : Nat) : Nat := kdT.getD k 99
def sz (k : Nat) : Nat := szT.getD k 0
def rf (k j : Nat) : Nat := (rfT.getD k []).getD j 0
def NC : Nat := 152
abbrev classes : List vw_C := [(RX0, TX0, 20), (RX1, TX1, 2), (RX2, TX2, 12), (RX3, TX3, 7), (RX4, TX4, 15), (RX5, TX5, 3), (RX6, TX6, 9), (RX7, TX7, 10), (RX8, TX8, 10), (RX9, TX9, 3), (RX10, TX10, 4), (RX11, TX11, 13), (RX12, TX12, 106)]
/-- String constants: who names them, by which entry, their text; their codes are 1000 and on, those of their bytes 2000 and on -/
def strT : List (String × Nat × String) := [("MissionHouse$Lines", 34, "wait"), ("MissionHouse$Lines", 36, "until"), ("MissionHouse$Lines", 38, "if"), ("MissionHouse$Lines", 40, "go"), ("MissionHouse$Lines", 42, "end"), ("MissionHouse$Lines", 44, "on"), ("MissionHouse$Lines", 46, "off"), ("MissionHouse$Lines", 48, "set"), ("MissionHouse$Lines", 50, "add"), ("MissionHouse$Lines", 52, "emit"), ("MissionHouse$Lines", 54, "mode"), ("MissionHouse$Lines", 56, "run"), ("MissionHouse$Lines", 58, "kill"), ("MissionHouse$Lines", 60, "line"), ("MissionHouse$Lines", 62, "ready"), ("MissionHouse$Lines", 68, "bat"), ("MissionHouse$Lines", 70, "sun"), ("MissionHouse$Lines", 72, "used"), ("MissionHouse$Lines", 74, "rec"), ("MissionHouse$Lines", 76, "fix"), ("MissionHouse$Lines", 78, "ev"), ("MissionHouse$Lines", 80, "turn"), ("MissionHouse$Lines", 82, "seen"), ("MissionHouse$Lines", 84, "v0"), ("MissionHouse$Lines", 86, "v1"), ("MissionHouse$Lines", 88, "v2"), ("MissionHouse$Lines", 90, "v3"), ("MissionHouse$Lines", 92, "v4"), ("MissionHouse$Lines", 94, "v5"), ("MissionHouse$Lines", 96, "v6"), ("MissionHouse$Lines", 98, "v7"), ("MissionHouse$Lines", 100, ""), ("MissionHouseModel", 62, "on"), ("MissionHouseModel", 63, "off"), ("MissionHouseModel", 65, "wait"), ("MissionHouseModel", 67, "until"), ("MissionHouseModel", 69, "if"), ("MissionHouseModel", 71, "go"), ("MissionHouseModel", 73, "set"), ("MissionHouseModel", 75, "add"), ("MissionHouseModel", 77, "emit"), ("MissionHouseModel", 79, "mode"), ("MissionHouseModel", 81, "run"), ("MissionHouseModel", 83, "kill"), ("MissionHouseModel", 85, "end"), ("MissionHouseModel", 87, "line"), ("MissionHouseModel", 89, "ready"), ("MissionHouseModel", 98, "bat"), ("MissionHouseModel", 100, "sun"), ("MissionHouseModel", 101, "used"), ("MissionHouseModel", 103, "rec"), ("MissionHouseModel", 105, "fix"), ("MissionHouseModel", 107, "ev"), ("MissionHouseModel", 109, "turn"), ("MissionHouseModel", 111, "seen"), ("MissionHouseModel", 113, "v0"), ("MissionHouseModel", 115, "v1"), ("MissionHouseModel", 117, "v2"), ("MissionHouseModel", 119, "v3"), ("MissionHouseModel", 121, "v4"), ("MissionHouseModel", 123, "v5"), ("MissionHouseModel", 125, "v6"), ("MissionHouseModel", 127, "v7")]
def strB : List (List Int) := [[119, 97, 105, 116], [117, 110, 116, 105, 108], [105, 102], [103, 111], [101, 110, 100], [111, 110], [111, 102, 102], [115, 101, 116], [97, 100, 100], [101, 109, 105, 116], [109, 111, 100, 101], [114, 117, 110], [107, 105, 108, 108], [108, 105, 110, 101], [114, 101, 97, 100, 121], [98, 97, 116], [115, 117, 110], [117, 115, 101, 100], [114, 101, 99], [102, 105, 120], [101, 118], [116, 117, 114, 110], [115, 101, 101, 110], [118, 48], [118, 49], [118, 50], [118, 51], [118, 52], [118, 53], [118, 54], [118, 55], [], [111, 110], [111, 102, 102], [119, 97, 105, 116], [117, 110, 116, 105, 108], [105, 102], [103, 111], [115, 101, 116], [97, 100, 100], [101, 109, 105, 116], [109, 111, 100, 101], [114, 117, 110], [107, 105, 108, 108], [101, 110, 100], [108, 105, 110, 101], [114, 101, 97, 100, 121], [98, 97, 116], [115, 117, 110], [117, 115, 101, 100], [114, 101, 99], [102, 105, 120], [101, 118], [116, 117, 114, 110], [115, 101, 101, 110], [118, 48], [118, 49], [118, 50], [118, 51], [118, 52], [118, 53], [118, 54], [118, 55]]
def NS : Nat := 63
/-! the abstract machine: numbers are Int, the heap is a function of cell and place -/
abbrev Hp : Type := Nat → Int → Int
abbrev AV : Type := Int ⊕ (Nat ⊕ Int)
abbrev iv (x : Int) : AV := .inl x
abbrev rv (k : Nat) : AV := .inr (.inl k)
abbrev jv (x : Int) : AV := .inr (.inr x)
/-- a method: name, bytes, locals, answer's type, rank (how deep it calls) -/
abbrev MD : Type := MethodName × ByteArray × Nat × Option FieldType × Nat
/-- launch, class numbers and slots, addresses by codes, array classes, the script's length and ints -/
abbrev GG : Type := Launch × va_G × (Nat → Nat) × (Nat → ClassId) × Nat × (Nat → Int)
def w32 (z : Int) : Int := (z + 2147483648) % 4294967296 - 2147483648
def i32 (z : Int) : Prop := -2147483648 ≤ z ∧ z ≤ 2147483647
def i64 (z : Int) : Prop := -9223372036854775808 ≤ z ∧ z ≤ 9223372036854775807
def w64 (z : Int) : Int := (z + 9223372036854775808) % 18446744073709551616 - 9223372036854775808
def up (h : Hp) (k : Nat) (i v : Int) : Hp := fun k' i' => if k' = k ∧ i' = i then v else h k' i'
def band (x y : Int) : Int := (Int32.ofInt x &&& Int32.ofInt y).toInt
def bor (x y : Int) : Int := (Int32.ofInt x ||| Int32.ofInt y).toInt
def bxor (x y : Int) : Int := (Int32.ofInt x ^^^ Int32.ofInt y).toInt
def bshl (x y : Int) : Int := (Int32.ofInt x <<< (Int32.ofInt y &&& 31)).toInt
def bshr (x y : Int) : Int := (Int32.ofInt x >>> (Int32.ofInt y &&& 31)).toInt
def bushr (x y : Int) : Int := ((Int32.ofInt x).toUInt32 >>> ((Int32.ofInt y).toUInt32 &&& Int32.toUInt32 31)).toInt32.toInt
def cv (G : GG) : AV → Value
  | .inl x => .int (Int32.ofInt x)
  | .inr (.inl 0) => .null
  | .inr (.inl (k + 1)) => .ref (G.2.2.1 (k + 1))
  | .inr (.inr x) => .long (Int64.ofInt x)
def okV : AV → Prop
  | .inl x => i32 x
  | .inr (.inl _) => True
  | .inr (.inr x) => i64 x
def catA : AV → Nat
  | .inr (.inr _) => 2
  | _ => 1
/-! the world as the kit's list -/
def fldO (G : GG) (h : Hp) (k : Nat) : List Value := (List.range (sz k)).map fun j => if rf k j = 0 then .int (Int32.ofInt (h k j)) else .ref (G.2.2.1 (rf k j))
def entO (G : GG) (h : Hp) (k : Nat) : va_E :=
  if kd k < 20 then .inr (kd k, fldO G h k)
  else if kd k = 22 then .inl (G.2.2.2.1 22, sz k, .inr (.inr (.inr (.inr (fun j => some (G.2.2.1 (rf k j)))))))
  else .inl (G.2.2.2.1 (kd k), sz k, .inl (fun j => Int32.ofInt (h k j)))
def wsO (G : GG) (h : Hp) : va_W := (List.range NC).map fun i => (G.2.2.1 (i + 1), entO G h (i + 1))
def tysO (G : GG) : List (ClassId × FieldType) := [(G.2.2.2.1 20, .int), (G.2.2.2.1 21, .boolean), (G.2.2.2.1 22, .object "java/lang/String")]
/-- the cells that are ours -/
def GA (G : GG) : Nat → Prop := fun q => ∃ k : Nat, 1 ≤ k ∧ k ≤ NC ∧ q = G.2.2.1 k
def okH (h : Hp) : Prop := ∀ k : Nat, k ≤ NC → ∀ i : Int, 0 ≤ i → i < sz k → i32 (h k i) ∧ (kd k = 21 → h k i = 0 ∨ h k i = 1)
def GOK (G : GG) : Prop := ∀ i j : Nat, 1 ≤ i → i ≤ NC → 1 ≤ j → j ≤ NC → G.2.2.1 i = G.2.2.1 j → i = j
/-- static arrays: MONTH_DAYS 901, DATA_PLACES 902, LETTERS 903; the script is 900 -/
def xcT : List (List Int) := [[31, 28, 31, 30, 31, 30, 31, 31, 30, 31, 30, 31], [3, 5, 6, 7, 9, 10, 11, 12], [117, 108, 114, 100]]
def xc (k : Nat) (i : Int) : Int := (xcT.getD (k - 901) []).getD i.toNat 0
def stE (G : GG) (U : State) (H : Heap) (i : Nat) : Prop :=
  va_O "java/lang/String" (G.2.2.1 (1000 + i)) (GA G) U H ∧ va_OF "java/lang/String" "coder" "B" (.int 0) (G.2.2.1 (1000 + i)) (GA G) U H ∧
  va_OF "java/lang/String" "value" "[B" (.ref (G.2.2.1 (2000 + i))) (G.2.2.1 (1000 + i)) (GA G) U H ∧
  va_T .byte (G.2.2.1 (2000 + i)) (strB.getD i []).length (fun j => .int (Int32.ofInt ((strB.getD i []).getD j 0))) (GA G) U H
def EX (G : GG) (U : State) (H : Heap) : Prop :=
  (va_Z "MissionHouse$Calendar" "MONTH_DAYS" "[I" (.ref (G.2.2.1 901)) (GA G) U H ∧ va_T .int (G.2.2.1 901) 12 (fun j => .int (Int32.ofInt (xc 901 j))) (GA G) U H) ∧
  (va_Z "MissionHouse$Memory" "DATA_PLACES" "[I" (.ref (G.2.2.1 902)) (GA G) U H ∧ va_T .int (G.2.2.1 902) 8 (fun j => .int (Int32.ofInt (xc 902 j))) (GA G) U H) ∧
  (va_Z "MissionHouse$Sky" "LETTERS" "[C" (.ref (G.2.2.1 903)) (GA G) U H ∧ va_T .char (G.2.2.1 903) 4 (fun j => .int (Int32.ofInt (xc 903 j))) (GA G) U H) ∧
  va_T .int (G.2.2.1 900) G.2.2.2.2.1 (fun j => .int (Int32.ofInt (G.2.2.2.2.2 j))) (GA G) U H ∧
  va_Z "java/lang/String" "COMPACT_STRINGS" "Z" (.int 1) (GA G) U H ∧
  va_Zq "jdk/internal/util/Preconditions" "SIOOBE_FORMATTER" "Ljava/util/function/BiFunction;" (GA G) U H ∧
  ∀ i : Nat, i < NS → stE G U H i
def SR (G : GG) (U : State) : Prop := ∀ (i : Nat) (q : String × Nat × String), strT[i]? = some q → vk_R q.1 q.2.1 q.2.2 (G.2.2.1 (1000 + i)) U
/-- calls of MissionHouse's private static methods from its nested classes -/
def nestL : List (String × Nat × MethodName) := [(RX0, 191, yX11_bit), (RX1, 45, yX11_within), (RX1, 49, yX11_bit), (RX2, 62, yX11_within), (RX3, 102, yX11_within), (RX4, 96, yX11_bit), (RX10, 48, yX11_within)]
def NW (U : State) : Prop := ∀ q ∈ nestL, va_Nw (.methodLinkNest q.1 q.2.1 q.2.2 "MissionHouse") U
def KX (G : GG) (U : State) : Prop := GOK G ∧ va_K G.2.1 classes (tysO G) U ∧ (SR G U ∧ NW U) ∧ EX G U U.heap
def RH (G : GG) (h : Hp) (H : Heap) : Prop := va_P G.2.1 classes (wsO G h) H ∧ okH h
/-- the words: all of the tables' that stay -/
def TB : List Cond := lw_tbl.filter goodWord
def CX (M : MD) (p : Program) (s : State) (m : MethodId) (args : Array Value) (meth : Method) (c : Code) : Prop :=
  p.tables.exec = Jvm.exec ∧ c.code = M.2.1 ∧ c.maxLocals = M.2.2.1 ∧ s.vm.findClass M.1.cls = some m.cls ∧ (∀ w ∈ TB, w.before args s = true) ∧ meth.sig.returnType = M.2.2.2.1 ∧ meth.locks = false
def ATW (G : GG) (M : MD) (R : Room) (cs sl : Nat) (QF : List Frame → Array Value → State → State → Prop) (pc : Nat) (ls : List (Nat × AV)) (st : List AV) (h : Hp) : Prop :=
  ∀ (p : Program) (e : Env) (s : State) (m : MethodId) (args : Array Value) (below : List Frame) (meth : Method) (c : Code) (H : Heap) (locs : List Loc) (lc : Array Slot),
    CX M p s m args meth c → KX G s → RH G h H → va_S (GA G) s.heap H locs → lv_has lc M.2.2.1 (ls.map fun q => (q.1, cv G q.2)) → (∀ q ∈ ls, okV q.2) → (∀ v ∈ st, okV v) →
    W p G.1 e R s m args below meth c H locs cs sl (QF below args s) (F0 m pc lc (st.map (cv G)))
def rmK (r : Nat) : Room := { frames := r, cells := 0, slots := 0, locals := 40 * r }
/-- a method's end: its answer as an Int (void: 0; a reference: its code) -/
def QQ (G : GG) (M : MD) (Φ : Int → Hp → Prop) : Array Value → State → Outcome → State → Prop := match M.2.2.2.1 with
  | none => va_Qv (fun u : Hp => Φ 0 u) (fun u t => RH G u t.heap) (GA G)
  | some (.object _) => va_Qr (fun u : Nat × Hp => Φ u.1 u.2) (fun u a t => a = G.2.2.1 u.1 ∧ 0 < u.1 ∧ RH G u.2 t.heap) (GA G)
  | some _ => va_Qi (fun (r : Int32) (u : Hp) => Φ r.toInt u) (fun u t => RH G u t.heap) (GA G)
def QM (G : GG) (M : MD) (Φ : Int → Hp → Prop) : List Frame → Array Value → State → State → Prop := fun below args s => MQ below (QQ G M Φ) args s 0 0 (GA G)
abbrev AT (G : GG) (M : MD) (pc : Nat) (ls : List (Nat × AV)) (st : List AV) (h : Hp) (Φ : Int → Hp → Prop) : Prop := ATW G M (rmK M.2.2.2.2) 0 0 (QM G M Φ) pc ls st h
def TBM (M : MD) : List Cond := Cond.code M.1 M.2.1 M.2.2.1 M.2.2.2.1 :: TB
def Call (G : GG) (M : MD) (as : List AV) (h : Hp) (Φ : Int → Hp → Prop) : Prop :=
  (∀ v ∈ as, okV v) → Met G.1 M.1 (TBM M) (rmK M.2.2.2.2) (va_Pc (as.map (cv G)) (fun U => KX G U ∧ RH G h U.heap)) (QQ G M Φ) 0 0 (GA G)
/-! numbers -/
theorem i32_w (z : Int) : i32 (w32 z) := by unfold i32 w32; omega
theorem w32_of {z : Int} (h1 : -2147483648 ≤ z) (h2 : z ≤ 2147483647) : w32 z = z := by unfold w32; omega
theorem i64_w (z : Int) : i64 (w64 z) := by unfold i64 w64; omega
theorem w64_of {z : Int} (h1 : -9223372036854775808 ≤ z) (h2 : z ≤ 9223372036854775807) : w64 z = z := by unfold w64; omega
theorem sz32 : ((Int32.size : Nat) : Int) = 4294967296 := rfl
theorem i32_t (x : Int32) : i32 x.toInt := ⟨by have := x.minValue_le_toInt; simpa using this, by have h := x.toInt_le; rw [show Int32.maxValue.toInt = 2147483647 by decide] at h; exact h⟩
theorem t_o32 {z : Int} (h : i32 z) : (Int32.ofInt z).toInt = z := by
  rw [Int32.toInt_ofInt]
  have := h.1
  have := h.2
  have := sz32
  rw [Int.bmod_eq_of_le (by omega) (by omega)]
theorem o_w32 (z : Int) : Int32.ofInt (w32 z) = Int32.ofInt z := by
  rw [← Int32.toInt_inj, Int32.toInt_ofInt, Int32.toInt_ofInt]
  unfold w32
  simp only [Int.bmod_def, sz32]
  omega
theorem o_inj {x y : Int} (hx : i32 x) (hy : i32 y) : Int32.ofInt x = Int32.ofInt y ↔ x = y := ⟨fun e => by rw [← t_o32 hx, ← t_o32 hy, e], fun e => by rw [e]⟩
theorem o_lt {x y : Int} (hx : i32 x) (hy : i32 y) : Int32.ofInt x < Int32.ofInt y ↔ x < y := by rw [Int32.lt_iff_toInt_lt, t_o32 hx, t_o32 hy]
theorem o_le {x y : Int} (hx : i32 x) (hy : i32 y) : Int32.ofInt x ≤ Int32.ofInt y ↔ x ≤ y := by rw [Int32.le_iff_toInt_le, t_o32 hx, t_o32 hy]
theorem o_t32 (x : Int32) : Int32.ofInt x.toInt = x := by rw [← Int32.toInt_inj, t_o32 (i32_t x)]
/-! lists of locals -/
def lget : List (Nat × AV) → Nat → Option AV
  | [], _ => none
  | (j, v) :: t, i => cond (Nat.beq i j) (some v) (lget t i)
def lrem : List (Nat × AV) → Nat → List (Nat × AV)
  | [], _ => []
  | (j, v) :: t, i => cond (Nat.beq i j) (lrem t i) ((j, v) :: lrem t i)
def lins : List (Nat × AV) → Nat → AV → List (Nat × AV)
  | [], i, v => [(i, v)]
  | (j, w) :: t, i, v => cond (Nat.blt i j) ((i, v) :: (j, w) :: t) ((j, w) :: lins t i v)
def lset (l : List (Nat × AV)) (i : Nat) (v : AV) : List (Nat × AV) := lins (lrem l i) i v
def lpick (l : List (Nat × AV)) (ks : List Nat) : List (Nat × AV) := ks.filterMap (fun k => l[k]?)
def lnoJ : List (Nat × AV) → Bool
  | [] => true
  | (_, .inr (.inr _)) :: _ => false
  | _ :: t => lnoJ t
theorem lget_mem {l : List (Nat × AV)} {i : Nat} {v : AV} (h : lget l i = some v) : (i, v) ∈ l := by
  induction l with
  | nil => simp [lget] at h
  | cons q t ih =>
    obtain ⟨j, w⟩ := q
    simp only [lget] at h
    cases hb : Nat.beq i j with
    | true =>
      rw [hb] at h
      have e : i = j := Nat.eq_of_beq_eq_true hb
      subst e
      cases h
      exact List.mem_cons_self
    | false =>
      rw [hb] at h
      exact List.mem_cons_of_mem _ (ih h)
theorem lrem_mem {l : List (Nat × AV)} {i : Nat} {q : Nat × AV} (h : q ∈ lrem l i) : q ∈ l ∧ q.1 ≠ i := by
  induction l with
  | nil => simp [lrem] at h
  | cons p t ih =>
    obtain ⟨j, w⟩ := p
    simp only [lrem] at h
    cases hb : Nat.beq i j with
    | true =>
      rw [hb] at h
      exact ⟨List.mem_cons_of_mem _ (ih h).1, (ih h).2⟩
    | false =>
      rw [hb] at h
      rcases List.mem_cons.mp h with rfl | h
      · refine ⟨List.mem_cons_self, fun e => ?_⟩
        have e : j = i := e
        subst e
        rw [Nat.beq_refl] at hb
        cases hb
      · exact ⟨List.mem_cons_of_mem _ (ih h).1, (ih h).2⟩
theorem lins_mem {l : List (Nat × AV)} {i : Nat} {v : AV} {q : Nat × AV} (h : q ∈ lins l i v) : q = (i, v) ∨ q ∈ l := by
  induction l with
  | nil => exact Or.inl (List.mem_singleton.mp h)
  | cons p t ih =>
    obtain ⟨j, w⟩ := p
    simp only [lins] at h
    cases hb : Nat.blt i j with
    | true =>
      rw [hb] at h
      rcases List.mem_cons.mp h with rfl | h
      · exact Or.inl rfl
      · exact Or.inr h
    | false =>
      rw [hb] at h
      rcases List.mem_cons.mp h with rfl | h
      · exact Or.inr List.mem_cons_self
      · rcases ih h with h | h
        · exact Or.inl h
        · exact Or.inr (List.mem_cons_of_mem _ h)
theorem lset_mem {l : List (Nat × AV)} {i : Nat} {v : AV} {q : Nat × AV} (h : q ∈ lset l i v) : q = (i, v) ∨ (q ∈ l ∧ q.1 ≠ i) := by
  rcases lins_mem h with h | h
  · exact Or.inl h
  · exact Or.inr (lrem_mem h)
theorem lnoJ_cat {G : GG} {l : List (Nat × AV)} (h : lnoJ l = true) : ∀ q ∈ l, (cv G q.2).category = 1 := by
  induction l with
  | nil => intro q hq; cases hq
  | cons p t ih =>
    intro q hq
    obtain ⟨j, w⟩ := p
    rcases w with x | k | x
    · rcases List.mem_cons.mp hq with rfl | hq
      · rfl
      · exact ih h q hq
    · rcases List.mem_cons.mp hq with rfl | hq
      · cases k <;> rfl
      · exact ih h q hq
    · cases h
/-- locals behind a store -/
theorem lset_has {G : GG} {l : List (Nat × AV)} {lc' : Array Slot} {nL i : Nat} {v : AV} (hJ : lnoJ l = true) (h' : lv_has lc' nL ((i, cv G v) :: (l.map fun q => (q.1, cv G q.2)).filter (fun q => !(q.1 == i) && !(q.1 + 1 == i && q.2.category == 2)))) : lv_has lc' nL ((lset l i v).map fun q => (q.1, cv G q.2)) := by
  refine ⟨h'.1, h'.2.1, fun q hq => h'.2.2 q ?_⟩
  obtain ⟨r, hr, rfl⟩ := List.mem_map.mp hq
  rcases lset_mem hr with rfl | ⟨h1, h2⟩
  · exact List.mem_cons_self
  · refine List.mem_cons_of_mem _ (List.mem_filter.mpr ⟨List.mem_map.mpr ⟨r, h1, rfl⟩, ?_⟩)
    have := lnoJ_cat (G := G) hJ r h1
    simp [h2, this]
theorem lset_ok {l : List (Nat × AV)} {i : Nat} {v : AV} (hl : ∀ q ∈ l, okV q.2) (hv : okV v) : ∀ q ∈ lset l i v, okV q.2 := by
  intro q hq
  rcases lset_mem hq with rfl | ⟨h1, -⟩
  · exact hv
  · exact hl q h1
theorem lget_at {G : GG} {l : List (Nat × AV)} {lc : Array Slot} {nL i : Nat} {v : AV} (h : lv_has lc nL (l.map fun q => (q.1, cv G q.2))) (hg : lget l i = some v) : lc[i]? = some (.val (cv G v)) :=
  h.2.2 (i, cv G v) (List.mem_map.mpr ⟨(i, v), lget_mem hg, rfl⟩)
theorem lget_ok {l : List (Nat × AV)} {i : Nat} {v : AV} (hl : ∀ q ∈ l, okV q.2) (hg : lget l i = some v) : okV v := hl (i, v) (lget_mem hg)
theorem ok_cons {v : AV} {st : List AV} (hv : okV v) (hs : ∀ w ∈ st, okV w) : ∀ w ∈ v :: st, okV w := fun w hw => by
  rcases List.mem_cons.mp hw with rfl | h
  · exact hv
  · exact hs w h
theorem ok_tl {v : AV} {st : List AV} (hs : ∀ w ∈ v :: st, okV w) : ∀ w ∈ st, okV w := fun w hw => hs w (List.mem_cons_of_mem _ hw)
theorem ok_hd {v : AV} {st : List AV} (hs : ∀ w ∈ v :: st, okV w) : okV v := hs v List.mem_cons_self
theorem cv_ref {G : GG} {k : Nat} (h : 0 < k) : cv G (rv k) = .ref (G.2.2.1 k) := by cases k with
  | zero => omega
  | succ n => rfl

