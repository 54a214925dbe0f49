/-! bits (the first family is pasted from kit/laws/BITS.to-paste) -/
def bt (x : Int32) (i : Nat) : Bool := x.toBitVec.getLsbD i
theorem b_ext {x y : Int32} (h : ∀ i, i < 32 → bt x i = bt y i) : x = y := Int32.toBitVec_inj.mp (BitVec.eq_of_getLsbD_eq (fun i hi => h i hi))
theorem b_or (x y : Int32) (i : Nat) : bt (x ||| y) i = (bt x i || bt y i) := by unfold bt; rw [Int32.toBitVec_or, BitVec.getLsbD_or]
theorem b_and (x y : Int32) (i : Nat) : bt (x &&& y) i = (bt x i && bt y i) := by unfold bt; rw [Int32.toBitVec_and, BitVec.getLsbD_and]
theorem b_xor (x y : Int32) (i : Nat) : bt (x ^^^ y) i = (bt x i ^^ bt y i) := by unfold bt; rw [Int32.toBitVec_xor, BitVec.getLsbD_xor]
theorem b_big {x : Int32} {i : Nat} (h : 32 ≤ i) : bt x i = false := BitVec.getLsbD_of_ge _ _ h
theorem b_255 (i : Nat) : bt 255 i = decide (i < 8) := by
  rcases Nat.lt_or_ge i 32 with h | h
  · exact (by decide +kernel : ∀ i, i < 32 → bt 255 i = decide (i < 8)) i h
  · rw [b_big h, decide_eq_false (by omega)]
theorem b_65535 (i : Nat) : bt 65535 i = decide (i < 16) := by
  rcases Nat.lt_or_ge i 32 with h | h
  · exact (by decide +kernel : ∀ i, i < 32 → bt 65535 i = decide (i < 16)) i h
  · rw [b_big h, decide_eq_false (by omega)]
theorem b_m1 : ∀ i, i < 32 → bt (-1) i = true := by decide +kernel
theorem b_0 (i : Nat) : bt 0 i = false := BitVec.getLsbD_zero
theorem s_l : ∀ n, n < 32 → ((nI n &&& 31).toBitVec.smod 32).toNat = n := by decide +kernel
theorem s_u : ∀ n, n < 32 → (((nI n).toUInt32 &&& Int32.toUInt32 31).toBitVec % 32).toNat = n := by decide +kernel
theorem b_shl (n : Nat) (hn : n < 32) (x : Int32) {i : Nat} (hi : i < 32) : bt (x <<< (nI n &&& 31)) i = (decide (n ≤ i) && bt x (i - n)) := by
  unfold bt
  rw [Int32.toBitVec_shiftLeft]
  show (x.toBitVec <<< ((nI n &&& 31).toBitVec.smod 32).toNat).getLsbD i = _
  rw [s_l n hn, BitVec.getLsbD_shiftLeft]
  rcases Nat.lt_or_ge i n with h | h
  · simp [h, Nat.not_le.mpr h]
  · simp [hi, h, Nat.not_lt.mpr h]
theorem b_ushr (n : Nat) (hn : n < 32) (x : Int32) (i : Nat) : bt ((x.toUInt32 >>> ((nI n).toUInt32 &&& Int32.toUInt32 31)).toInt32) i = bt x (n + i) := by
  show (x.toUInt32 >>> ((nI n).toUInt32 &&& Int32.toUInt32 31)).toBitVec.getLsbD i = x.toUInt32.toBitVec.getLsbD (n + i)
  rw [UInt32.toBitVec_shiftRight]
  show (x.toUInt32.toBitVec >>> (((nI n).toUInt32 &&& Int32.toUInt32 31).toBitVec % 32).toNat).getLsbD i = _
  rw [s_u n hn, BitVec.getLsbD_ushiftRight]
theorem b_sshr (n : Nat) (hn : n < 32) (x : Int32) {i : Nat} (hi : i < 32) : bt (x >>> (nI n &&& 31)) i = if n + i < 32 then bt x (n + i) else bt x 31 := by
  unfold bt
  rw [Int32.toBitVec_shiftRight]
  show (x.toBitVec.sshiftRight ((nI n &&& 31).toBitVec.smod 32).toNat).getLsbD i = _
  rw [s_l n hn, BitVec.getLsbD_sshiftRight, BitVec.msb_eq_getLsbD_last]
  simp [hi]
theorem b_shl8 (x : Int32) {i : Nat} (hi : i < 32) : bt (x <<< ((8 : Int32) &&& 31)) i = (decide (8 ≤ i) && bt x (i - 8)) := b_shl 8 (by omega) x hi
theorem b_shl16 (x : Int32) {i : Nat} (hi : i < 32) : bt (x <<< ((16 : Int32) &&& 31)) i = (decide (16 ≤ i) && bt x (i - 16)) := b_shl 16 (by omega) x hi
theorem b_shl24 (x : Int32) {i : Nat} (hi : i < 32) : bt (x <<< ((24 : Int32) &&& 31)) i = (decide (24 ≤ i) && bt x (i - 24)) := b_shl 24 (by omega) x hi
theorem b_sshr8 (x : Int32) {i : Nat} (hi : i < 32) : bt (x >>> ((8 : Int32) &&& 31)) i = if 8 + i < 32 then bt x (8 + i) else bt x 31 := b_sshr 8 (by omega) x hi

theorem o_nI (n : Nat) : Int32.ofInt (n : Int) = nI n := Int32.ofInt_eq_ofNat
theorem bv_o (x : Int) : (Int32.ofInt x).toBitVec = BitVec.ofInt 32 x := rfl
theorem tn_o (x : Int) : ((Int32.ofInt x).toBitVec.toNat : Int) = x % 4294967296 := by
  rw [bv_o, BitVec.toNat_ofInt]
  have h1 : 0 ≤ x % ((2 ^ 32 : Nat) : Int) := Int.emod_nonneg _ (by decide)
  rw [Int.toNat_of_nonneg h1]
  rfl
theorem nI_Int {n : Nat} (h : n < 2147483648) : (nI n).toInt = (n : Int) := nI_toInt h
theorem band_mask {x m : Int} (k : Nat) (hk : k < 31) (hm : (Int32.ofInt m).toBitVec.toNat = 2 ^ k - 1) : band x m = x % ((2 ^ k : Nat) : Int) := by
  unfold band
  rw [pk_and _ k hm]
  have hlt : (Int32.ofInt x).toBitVec.toNat % 2 ^ k < 2 ^ k := Nat.mod_lt _ (Nat.two_pow_pos k)
  have h2 : 2 ^ k ≤ 2 ^ 30 := Nat.pow_le_pow_right (by omega) (by omega)
  rw [nI_Int (by omega), Int.natCast_emod, tn_o]
  have : ((2 ^ k : Nat) : Int) ∣ 4294967296 := by
    refine ⟨((2 ^ (32 - k) : Nat) : Int), ?_⟩
    rw [← Int.natCast_mul, ← Nat.pow_add, show k + (32 - k) = 32 by omega]
    rfl
  exact Int.emod_emod_of_dvd _ this
theorem band_255x {x : Int} : band x 255 = x % 256 := band_mask 8 (by omega) (by decide)
theorem band_63x {x : Int} : band x 63 = x % 64 := band_mask 6 (by omega) (by decide)
theorem band_1x {x : Int} : band x 1 = x % 2 := band_mask 1 (by omega) (by decide)
theorem bshr_n {x : Int} (n : Nat) (hn : n < 32) (h : i32 x) : bshr x n = x / ((2 ^ n : Nat) : Int) := by
  unfold bshr
  rw [o_nI, pk_shr _ _ n (s_l n hn), t_o32 h, Int.shiftRight_eq_div_pow]
theorem bushr_n {x : Int} (n : Nat) (h0 : 0 < n) (hn : n < 32) : bushr x n = (x % 4294967296) / ((2 ^ n : Nat) : Int) := by
  unfold bushr
  rw [o_nI]
  have e := pk_ushr (Int32.ofInt x) (nI n) n (s_u n hn)
  have hb : (Int32.ofInt x).toBitVec.toNat / 2 ^ n < 2147483648 := by
    have h1 := (Int32.ofInt x).toBitVec.isLt
    have h2 : 2 ≤ 2 ^ n := by
      calc 2 = 2 ^ 1 := rfl
        _ ≤ 2 ^ n := Nat.pow_le_pow_right (by omega) h0
    have h3 : (Int32.ofInt x).toBitVec.toNat / 2 ^ n ≤ (Int32.ofInt x).toBitVec.toNat / 2 := Nat.div_le_div_left h2 (by omega)
    omega
  generalize hz : ((Int32.ofInt x).toUInt32 >>> ((nI n).toUInt32 &&& Int32.toUInt32 31)).toInt32 = z at e ⊢
  have : z = nI ((Int32.ofInt x).toBitVec.toNat / 2 ^ n) := by
    apply Int32.toBitVec_inj.mp
    apply BitVec.eq_of_toNat_eq
    rw [e, pk_tn (by omega)]
  rw [this, nI_Int hb, Int.natCast_ediv, tn_o]
theorem bshl_n {x : Int} (n : Nat) (hn : n < 32) : bshl x n = w32 (x * ((2 ^ n : Nat) : Int)) := by
  unfold bshl
  rw [o_nI]
  have e := pk_shl (Int32.ofInt x) (nI n &&& 31) n (s_l n hn)
  have : Int32.ofInt x <<< (nI n &&& 31) = Int32.ofInt (x * ((2 ^ n : Nat) : Int)) := by
    apply Int32.toBitVec_inj.mp
    apply BitVec.eq_of_toNat_eq
    rw [e]
    have h1 := tn_o (x * ((2 ^ n : Nat) : Int))
    have h2 := tn_o x
    have h3 : (((Int32.ofInt x).toBitVec.toNat * 2 ^ n % 2 ^ 32 : Nat) : Int) = x * ((2 ^ n : Nat) : Int) % 4294967296 := by
      rw [Int.natCast_emod, Int.natCast_mul, h2, show ((2 ^ 32 : Nat) : Int) = 4294967296 from rfl, Int.mul_emod, Int.emod_emod_of_dvd _ (Int.dvd_refl _), ← Int.mul_emod]
    omega
  rw [this, ← o_w32, t_o32 (i32_w _)]
