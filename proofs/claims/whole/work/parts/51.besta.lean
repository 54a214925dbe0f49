/-! THE BEST CHOICE: numbers of sets -/
def c1 (x : Int) : Int := w32 (x - (band (bushr x 1) 1431655765))
def c2 (y : Int) : Int := w32 ((band y 858993459) + (band (bushr y 2) 858993459))
def c3 (y : Int) : Int := band (w32 (y + (bushr y 4))) 252645135
def c4 (y : Int) : Int := w32 (y + (bushr y 8))
def c5 (y : Int) : Int := band (w32 (y + (bushr y 16))) 63
def pcb (S : Nat) : Nat → Nat
  | 0 => 0
  | n + 1 => pcb S n + S / 2 ^ n % 2
theorem pc_all : ∀ a, a < 64 → ∀ b : Nat, b < 64 → c5 (c4 (c3 (c2 (c1 ((64 * a + b : Nat) : Int))))) = (pcb (64 * a + b) 12 : Int) := by decide +kernel
theorem sp_bitCount {G : GG} {h : Hp} {Φ : Int → Hp → Prop} {S : Nat} (hS : S < 4096) (k : Φ (pcb S 12 : Int) h) : Call G m_J6_bitCount_0f7a4 [iv (S : Int)] h Φ := by
  refine Call.of rfl (Nat.le_of_ble_eq_true rfl) rfl (T_J6_bitCount_0f7a4_0 ?_)
  have e := pc_all (S / 64) (by omega) (S % 64) (by omega)
  rw [Nat.div_add_mod] at e
  rw [← e] at k
  exact k
def lowT (D : Nat) : Bool := (List.range 12).any fun p => decide (band (D : Int) (w32 (-(D : Int))) = ((2 ^ p : Nat) : Int) ∧ D % 2 ^ p = 0 ∧ D / 2 ^ p % 2 = 1)
theorem low_all : ∀ a, a < 64 → ∀ b : Nat, b < 64 → 64 * a + b = 0 ∨ lowT (64 * a + b) = true := by decide +kernel
theorem low {D : Nat} (h0 : 0 < D) (h : D < 4096) : ∃ p, p < 12 ∧ band (D : Int) (w32 (-(D : Int))) = ((2 ^ p : Nat) : Int) ∧ D % 2 ^ p = 0 ∧ D / 2 ^ p % 2 = 1 := by
  have e := low_all (D / 64) (by omega) (D % 64) (by omega)
  rw [Nat.div_add_mod] at e
  rcases e with e | e
  · omega
  · unfold lowT at e
    rw [List.any_eq_true] at e
    obtain ⟨p, hp, e⟩ := e
    exact ⟨p, List.mem_range.mp hp, of_decide_eq_true e⟩
theorem band_assoc (x y z : Int) : band (band x y) z = band x (band y z) := by
  unfold band
  rw [o_t32, o_t32]
  congr 1
  apply b_ext
  intro i _
  rw [b_and, b_and, b_and, b_and, Bool.and_assoc]
