/-- READING: none where it is lost -/
def readN (w : Nat) : Int := if oM w 13 ≠ 0 then (if pM w 12 ≤ 12 then ((plM (w ^^^ 2 ^ pM w 12) 10).1 : Int) else -1) else if pM w 12 ≠ 0 then -1 else ((plM w 10).1 : Int)
/-- class's READING -/
def byteN (w : Nat) : Int := if corrN w = -3 then -3 else (dD (corrN w).toNat 8 : Int)
def chkW (w : Nat) : Bool := if corrN w = -3 then decide (readN w = -1) else decide (0 ≤ corrN w ∧ corrN w < 8192 ∧ 0 ≤ readN w ∧ readN w < 256 ∧ byteN w = readN w ∧ (encM (readN w).toNat : Int) = corrN w)
theorem chk_all : ∀ a, a < 64 → ∀ b, b < 128 → chkW (128 * a + b) = true := by decide +kernel
theorem enc_all : ∀ v, v < 256 → encC v = encM v ∧ encM v < 8192 := by decide +kernel
theorem enc_0 : encM 0 = 0 := by decide +kernel
theorem chk {w : Nat} (h : w < 8192) : chkW w = true := by
  have := chk_all (w / 128) (by omega) (w % 128) (Nat.mod_lt _ (by omega))
  rw [Nat.div_add_mod] at this
  exact this
