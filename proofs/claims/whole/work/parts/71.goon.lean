/-! a program goes on: the class's goOn, the model's goes -/
def LR (cv ct cs cx cg mv mw mx mt ms mn : Int) : Prop :=
  (cv = 1 ∧ mv = 2 ∧ mx = cx ∧ 1 ≤ cx ∧ cx ≤ 9999) ∨ (cv = 2 ∧ mv = 3 ∧ CND ct cs cx mt ms mn) ∨
  (cv = 3 ∧ mv = 4 ∧ CND ct cs cx mt ms mn ∧ mx = cg ∧ 0 ≤ cg ∧ cg ≤ 29) ∨ (cv = 4 ∧ mv = 5 ∧ mx = cg ∧ 0 ≤ cg ∧ cg ≤ 29) ∨
  (cv = 5 ∧ mv = 12) ∨ ACR cv ct cx mv mw mx
def LRc (h : Hp) (a : Nat) (i : Int) (b : Nat) (j : Int) : Prop := LR (h a i) (h (a + 1) i) (h (a + 2) i) (h (a + 3) i) (h (a + 4) i) (h b j) (h (b + 1) j) (h (b + 2) j) (h (b + 3) j) (h (b + 4) j) (h (b + 5) j)
def ILn (h : Hp) : Prop := h 36 0 = 240 ∧ ∀ k, 0 ≤ k → k < 8 → (0 ≤ h 115 k ∧ h 115 k ≤ 30) ∧ ∀ i, 0 ≤ i → i < 30 → (i < h 115 k → LRc h 37 (30 * k + i) 103 (30 * k + i)) ∧ (h 115 k ≤ i → h 37 (30 * k + i) = 0)
def DLn (k : Nat) (i : Int) : Prop := k = 36 ∧ i = 0 ∨ k = 37 ∨ k = 38 ∨ k = 39 ∨ k = 40 ∨ k = 41 ∨ (k = 103 ∨ k = 104 ∨ k = 105 ∨ k = 106 ∨ k = 107 ∨ k = 108) ∧ (0 ≤ i ∧ i < 240) ∨ k = 115
theorem LR_v {cv ct cs cx cg mv mw mx mt ms mn : Int} (l : LR cv ct cs cx cg mv mw mx mt ms mn) : 1 ≤ cv ∧ cv ≤ 13 := by
  rcases l with l | l | l | l | l | l
  · omega
  · omega
  · omega
  · omega
  · omega
  · have := ACR_v l; omega
theorem ILn_cg {h h' : Hp} (e : ∀ k i, DLn k i → h' k i = h k i) (I : ILn h) : ILn h' := by
  obtain ⟨a, b⟩ := I
  refine ⟨by rw [e 36 0 (by unfold DLn; omega)]; exact a, fun k k0 k1 => ?_⟩
  obtain ⟨c, d⟩ := b k k0 k1
  have e115 := e 115 k (by unfold DLn; omega)
  refine ⟨by rw [e115]; exact c, fun i i0 i1 => ⟨fun q => ?_, fun q => ?_⟩⟩
  · rw [e115] at q
    have z := (d i i0 i1).1 q
    unfold LRc at z ⊢
    rw [e 37 _ (by simp [DLn]), e (37 + 1) _ (by simp [DLn]), e (37 + 2) _ (by simp [DLn]), e (37 + 3) _ (by simp [DLn]), e (37 + 4) _ (by simp [DLn]),
      e 103 _ (by simp [DLn]; omega), e (103 + 1) _ (by simp [DLn]; omega), e (103 + 2) _ (by simp [DLn]; omega), e (103 + 3) _ (by simp [DLn]; omega), e (103 + 4) _ (by simp [DLn]; omega), e (103 + 5) _ (by simp [DLn]; omega)]
    exact z
  · rw [e115] at q
    rw [e 37 _ (by simp [DLn])]; exact (d i i0 i1).2 q
def TL (h : Hp) : Prop := MW h ∧ IEv h ∧ ILn h ∧ IB h ∧ ISk h
theorem dj_f1 : ∀ k i, DLn k i → ¬ PPf k i := by
  intro k i a b; unfold PPf at b; unfold DLn at a
  rcases a with ⟨rfl, rfl⟩ | rfl | rfl | rfl | rfl | rfl | ⟨rfl | rfl | rfl | rfl | rfl | rfl, _⟩ | rfl <;> simp at b
theorem dj_f2 : ∀ k i, DB k i → ¬ PPf k i := by
  intro k i a b; unfold PPf at b; unfold DB PB at a
  rcases a with ⟨rfl, _⟩ | rfl | rfl | rfl | ⟨rfl, rfl | rfl | rfl | rfl⟩ | rfl | rfl | rfl <;> simp at b
theorem dj_f3 : ∀ k i, DSk k i → ¬ PPf k i := by
  intro k i a b; unfold PPf at b; unfold DSk at a
  rcases a with ⟨rfl, _⟩ | rfl | rfl | rfl | ⟨rfl, _⟩ | ⟨rfl, rfl⟩ <;> simp at b
theorem TL.st {h h' : Hp} (T : TL h) (f : FR PPf h h') (m : MW h') (e : IEv h') : TL h' := by
  obtain ⟨_, _, c, d, g⟩ := T
  exact ⟨m, e, ILn_cg (dj f dj_f1) c, IB_cg (dj f dj_f2) d, ISk_cg (dj f dj_f3) g⟩
theorem mz_stop {G : GG} {h : Hp} {k n : Int} (hk : 0 ≤ k ∧ k < 8) (e : h 116 k = -1 ∨ h 117 k ≠ 0) : MZ G m_X12_goes 42 [(0, rv 85), (1, iv k), (2, iv n)] h 0 h := fun g Φ K => by
  refine U_X12_goes_85_42 ⟨fun _ => K, fun _ => ⟨hk, fun _ => K, fun z => ⟨hk, fun _ => K, fun w => ?_⟩⟩⟩
  have q1 : cb g h 116 k = h 116 k := rfl
  have q2 : cb g h 117 k = h 117 k := rfl
  rw [q1] at z; rw [q2] at w
  rcases e with e | e
  · exact absurd e z
  · exact absurd w e
/-- the programs' part, one program set anew -/
def RS (h : Hp) (k b w : Int) : Hp := up (up (up (up (up h 85 57 0) 50 k b) 51 k w) 116 k b) 117 k w
theorem ppf_rs (h : Hp) (k b w : Int) : FR PPf h (RS h k b w) := ((((FR.rf.up (by simp [PPf])).up (by simp [PPf])).up (by simp [PPf])).up (by simp [PPf])).up (by simp [PPf])
theorem MW_rs {h : Hp} {k b w : Int} (M : MW h) (hb : 0 ≤ b ∧ b ≤ 30) (hw : 0 ≤ w ∧ w ≤ 9999) : MW (RS h k b w) := by
  obtain ⟨hP, hW, hMo, hR, hRe, hKi, hCl⟩ := M
  have fr : FR (fun k i => k = 50 ∨ k = 51 ∨ k = 116 ∨ k = 117 ∨ k = 85 ∧ i = 57) h (RS h k b w) := ((((FR.rf.up (by omega)).up (by omega)).up (by omega)).up (by omega)).up (by omega)
  refine ⟨IP_cg (dj fr (by unfold DP; omega)) hP, IW_cg (dj fr (by unfold DW; omega)) hW, IMo_cg (dj fr (by unfold DMo; omega)) hMo, ?_, IRe_cg (dj fr (by unfold DRe; omega)) hRe, IKi_cg (dj fr (by unfold DKi; omega)) hKi, ICl_cg (dj fr (by unfold DCl; omega)) hCl⟩
  refine IRu_set (p := k) hR (fun j z => ?_) ?_
  · unfold RS; simp [up_ap, z]
  · unfold RUk RS; simp [up_ap]; omega
/-- and one stopped -/
def RX (h : Hp) (k : Int) : Hp := up (up (up h 50 k (-1)) 51 k 0) 116 k (-1)
theorem ppf_rx (h : Hp) (k : Int) : FR PPf h (RX h k) := ((FR.rf.up (by simp [PPf])).up (by simp [PPf])).up (by simp [PPf])
theorem MW_rx {h : Hp} {k : Int} (M : MW h) : MW (RX h k) := by
  obtain ⟨hP, hW, hMo, hR, hRe, hKi, hCl⟩ := M
  have fr : FR (fun k i => k = 50 ∨ k = 51 ∨ k = 116) h (RX h k) := (((FR.rf.up (by omega)).up (by omega)).up (by omega))
  exact ⟨IP_cg (dj fr (by unfold DP; omega)) hP, IW_cg (dj fr (by unfold DW; omega)) hW, IMo_cg (dj fr (by unfold DMo; omega)) hMo, IRu_stop hR, IRe_cg (dj fr (by unfold DRe; omega)) hRe, IKi_cg (dj fr (by unfold DKi; omega)) hKi, ICl_cg (dj fr (by unfold DCl; omega)) hCl⟩
theorem MW_ev {h : Hp} {a b c : Int} (M : MW h) : MW (up (up (up h 34 5 a) 85 57 c) 85 22 b) := by
  have fr : FR (fun k i => k = 34 ∧ i = 5 ∨ k = 85 ∧ (i = 22 ∨ i = 57)) h (up (up (up h 34 5 a) 85 57 c) 85 22 b) := (((FR.rf.up (by omega)).up (by omega)).up (by omega))
  exact MW_cg fr M (by unfold DP DW DMo DRu DRe DKi DCl; omega)
theorem cb_RXc {h g : Hp} {k : Int} : cb (RX h k) g = up (up (cb h g) 50 k (-1)) 51 k 0 := by unfold RX; rw [cb_uc' (by omega), cb_uc (by omega), cb_uc (by omega)]
theorem cb_RXm {h g : Hp} {k : Int} : cb g (RX h k) = up (cb g h) 116 k (-1) := by unfold RX; rw [cb_um (by omega), cb_um' (by omega), cb_um' (by omega)]
theorem cb_RSc {h g : Hp} {k b w : Int} : cb (RS h k b w) g = up (up (cb h g) 50 k b) 51 k w := by unfold RS; rw [cb_uc' (by omega), cb_uc' (by omega), cb_uc (by omega), cb_uc (by omega), cb_uc' (by omega)]
theorem cb_RSm {h g : Hp} {k b w : Int} : cb g (RS h k b w) = up (up (up (cb g h) 85 57 0) 116 k b) 117 k w := by unfold RS; rw [cb_um (by omega), cb_um (by omega), cb_um' (by omega), cb_um' (by omega), cb_um (by omega)]
theorem sim_doLine {G : GG} {h : Hp} {k : Int} (hk : 0 ≤ k ∧ k < 8) (T : TL h) (he : h 34 5 ≤ 999999000) (n1 : h 50 k ≠ -1) (n2 : h 51 k = 0) :
    ∃ h' r, CE G m_X0_doLine [rv 34, iv k] h r h' ∧ TL h' ∧ FR PPf h h' ∧ (h 34 5 ≤ h' 34 5 ∧ h' 34 5 ≤ h 34 5 + 3) ∧
      ((r = 1 ∧ h' 50 k ≠ -1 ∧ h' 51 k = 0 ∧ ∀ n : Nat, n < 8 → MR G m_X12_goes 42 [(0, rv 85), (1, iv k), (2, iv (n : Int))] h 42 [(0, rv 85), (1, iv k), (2, iv ((n : Int) + 1))] h') ∨ (r = 0 ∧ ∀ n : Nat, n < 8 → MZ G m_X12_goes 42 [(0, rv 85), (1, iv k), (2, iv (n : Int))] h 0 h')) := by
  obtain ⟨M, hE, hL, hB, hS⟩ := id T
  obtain ⟨hP, hW, hMo, hR, hRe, hKi, hCl⟩ := id M
  obtain ⟨r1, r2, r3, r4, r5, r6, r7⟩ := id (hR k hk.1 hk.2)
  have r7 := r7 n1
  obtain ⟨e1, e2⟩ := id hE
  obtain ⟨l0, l1⟩ := id hL
  obtain ⟨lb, lr⟩ := l1 k hk.1 hk.2
  have lb0 : 0 ≤ h 50 k := by omega
  have row_ : w32 (w32 (k * 30) + h 50 k) = 30 * k + h 50 k := by
    rw [w32_of (z := k * 30) (by omega) (by omega), w32_of (z := k * 30 + h 50 k) (by omega) (by omega)]; omega
  have rowm_ : w32 (w32 (30 * k) + h 50 k) = 30 * k + h 50 k := by
    rw [w32_of (z := 30 * k) (by omega) (by omega), w32_of (z := 30 * k + h 50 k) (by omega) (by omega)]
  -- the model at its loop's head
  have mh : ∀ (g : Hp) (Φ : Int → Hp → Prop) (n : Nat), n < 8 → (((h 115 k) ≤ (h 50 k) → AT G m_X12_goes 42 [(0, rv 85), (1, iv k), (2, iv ((n : Int) + 1))] [] (up (cb g h) 116 k (-1)) Φ) ∧ ((h 50 k) < (h 115 k) → (((h 103 (30 * k + h 50 k)) ≠ 12 → (((h 103 (30 * k + h 50 k)) = 3 → Call G m_X12_holds [rv 85, iv (30 * k + h 50 k)] (up (cb g h) 85 57 0) (fun r1 h2 => (((h2 85 57) = 0 → ((h2 103 (30 * k + h 50 k) = 3) ∧ ((r1 ≠ 0 → AT G m_X12_goes 42 [(0, rv 85), (1, iv k), (2, iv ((n : Int) + 1))] [] (up h2 116 k (h 50 k + 1)) Φ) ∧ (r1 = 0 → Φ 0 h2)))) ∧ ((h2 85 57) ≠ 0 → AT G m_X12_goes 42 [(0, rv 85), (1, iv k), (2, iv ((n : Int) + 1))] [] (up (up h2 85 22 (w32 ((h2 85 22) + 1))) 116 k (-1)) Φ)))) ∧ ((h 103 (30 * k + h 50 k)) ≠ 3 → (((h 103 (30 * k + h 50 k)) ≠ 4 → (((h 103 (30 * k + h 50 k)) = 2 → AT G m_X12_goes 42 [(0, rv 85), (1, iv k), (2, iv ((n : Int) + 1))] [] (up (up (up (cb g h) 85 57 0) 116 k (h 50 k + 1)) 117 k (h 105 (30 * k + h 50 k))) Φ) ∧ ((h 103 (30 * k + h 50 k)) = 5 → AT G m_X12_goes 42 [(0, rv 85), (1, iv k), (2, iv ((n : Int) + 1))] [] (up (up (cb g h) 85 57 0) 116 k (h 105 (30 * k + h 50 k))) Φ) ∧ ((h 103 (30 * k + h 50 k) < 2 ∨ 5 < h 103 (30 * k + h 50 k)) → Call G m_X12_act [rv 85, iv (30 * k + h 50 k)] (up (up (cb g h) 85 57 0) 116 k (h 50 k + 1)) (fun r5 h6 => ((r5 ≠ 0 → AT G m_X12_goes 42 [(0, rv 85), (1, iv k), (2, iv ((n : Int) + 1))] [] h6 Φ) ∧ (r5 = 0 → AT G m_X12_goes 42 [(0, rv 85), (1, iv k), (2, iv ((n : Int) + 1))] [] (up h6 116 k (-1)) Φ)))))) ∧ ((h 103 (30 * k + h 50 k)) = 4 → Call G m_X12_holds [rv 85, iv (30 * k + h 50 k)] (up (cb g h) 85 57 0) (fun r7 h8 => (((h8 85 57) = 0 → (h8 103 (30 * k + h 50 k) = 4) ∧ ((r7 = 0 → AT G m_X12_goes 42 [(0, rv 85), (1, iv k), (2, iv ((n : Int) + 1))] [] (up h8 116 k (h 50 k + 1)) Φ) ∧ (r7 ≠ 0 → AT G m_X12_goes 42 [(0, rv 85), (1, iv k), (2, iv ((n : Int) + 1))] [] (up h8 116 k (h8 105 (30 * k + h 50 k))) Φ))) ∧ ((h8 85 57) ≠ 0 → AT G m_X12_goes 42 [(0, rv 85), (1, iv k), (2, iv ((n : Int) + 1))] [] (up (up h8 85 22 (w32 ((h8 85 22) + 1))) 116 k (-1)) Φ)))))))) ∧ ((h 103 (30 * k + h 50 k)) = 12 → AT G m_X12_goes 42 [(0, rv 85), (1, iv k), (2, iv ((n : Int) + 1))] [] (up (cb g h) 116 k (-1)) Φ)))) → AT G m_X12_goes 42 [(0, rv 85), (1, iv k), (2, iv (n : Int))] [] (cb g h) Φ := fun g Φ n hn Q => by
    have q116 : cb g h 116 k = h 50 k := r1
    have q117 : cb g h 117 k = h 51 k := r7
    have q115 : cb g h 115 k = h 115 k := rfl
    have q103 : cb g h 103 (30 * k + h 50 k) = h 103 (30 * k + h 50 k) := rfl
    have q105 : cb g h 105 (30 * k + h 50 k) = h 105 (30 * k + h 50 k) := rfl
    have rb : 0 ≤ 30 * k + h 50 k ∧ 30 * k + h 50 k < 260 := by omega
    refine U_X12_goes_85_42 ⟨fun z => absurd z (by omega), fun _ => ⟨hk, ?_⟩⟩
    rw [q116, q117, q115, rowm_, q103, q105, w32_of (z := (n : Int) + 1) (by omega) (by omega), w32_of (z := h 50 k + 1) (by omega) (by omega)]
    clear row_ rowm_
    refine ⟨fun z => absurd z n1, fun _ => ⟨hk, fun z => absurd n2 z, fun _ => ⟨hk, hk, hk, fun z => ⟨hk, Q.1 z⟩, fun z => ⟨rb, fun z1 => ⟨hk, rb, fun z2 => ?_, fun z2 => ⟨rb, fun z3 => ⟨rb, ?_⟩, fun z3 => ?_⟩⟩, fun z1 => ⟨hk, (Q.2 z).2 z1⟩⟩⟩⟩⟩
    · refine Call.mono (((Q.2 z).1 z1).1 z2) (fun r1 h2 w => ⟨fun y => ⟨rb, ?_⟩, fun y => ⟨hk, w.2 y⟩⟩)
      obtain ⟨w1, w2, w3⟩ := w.1 y
      rw [w1]
      exact ⟨fun z => absurd z (by omega), fun _ => ⟨fun z => ⟨hk, w2 z⟩, w3⟩, fun z => absurd z (by omega), fun z => absurd z (by omega), fun z => absurd z (by omega)⟩
    · obtain ⟨w1, w2, w3⟩ := (((Q.2 z).1 z1).2 z2).1 z3
      exact ⟨fun y => ⟨hk, rb, hk, w1 y⟩, fun y => absurd y z2, fun y => absurd y z3, fun y => ⟨rb, hk, w2 y⟩, fun y => ⟨hk, Call.mono (w3 y) (fun r5 h6 w => ⟨w.1, fun z => ⟨hk, w.2 z⟩⟩)⟩⟩
    · refine Call.mono ((((Q.2 z).1 z1).2 z2).2 z3) (fun r1 h2 w => ⟨fun y => ⟨rb, ?_⟩, fun y => ⟨hk, w.2 y⟩⟩)
      obtain ⟨w1, w2, w3⟩ := w.1 y
      rw [w1]
      exact ⟨fun z => absurd z (by omega), fun z => absurd z (by omega), fun _ => ⟨fun z => ⟨hk, w2 z⟩, fun z => ⟨rb, hk, w3 z⟩⟩, fun z => absurd z (by omega), fun z => absurd z (by omega)⟩
  clear rowm_
  have stopM : ∀ (g : Hp) (Φ : Int → Hp → Prop) (n : Nat), Φ 0 (cb g (RX h k)) → AT G m_X12_goes 42 [(0, rv 85), (1, iv k), (2, iv ((n : Int) + 1))] [] (up (cb g h) 116 k (-1)) Φ := fun g Φ n K => by
    have t := mz_stop (G := G) (h := RX h k) (n := (n : Int) + 1) hk (Or.inl (up_at)) g Φ K
    rw [cb_RXm] at t; exact t
  have tlx : TL (RX h k) := T.st (ppf_rx h k) (MW_rx M) ⟨e1, e2⟩
  by_cases cA : h 115 k ≤ h 50 k
  · refine ⟨RX h k, 0, fun g Φ K => ?_, tlx, ppf_rx h k, ⟨Int.le_refl _, show h 34 5 ≤ h 34 5 + 3 by omega⟩, Or.inr ⟨rfl, fun n hn g Φ K => mh g Φ n hn ⟨fun _ => stopM g Φ n K, fun z => absurd z (by omega)⟩⟩⟩
    rw [cb_RXc] at K
    have q50 : cb h g 50 k = h 50 k := rfl
    refine Call.of rfl (Nat.le_of_ble_eq_true rfl) rfl (U_X0_doLine_34_0 ⟨hk, ?_⟩)
    rw [q50, row_]
    clear row_
    refine ⟨fun _ => ⟨hk, hk, K⟩, fun z => ?_⟩
    refine Call.of rfl (Nat.le_of_ble_eq_true rfl) rfl (U_X3_isThere_36_0 ?_)
    have q36 : cb h g 36 0 = 240 := l0
    have q37 : cb h g 37 (30 * k + h 50 k) = 0 := (lr (h 50 k) lb0 z).2 cA
    rw [q36, q37, w32_of (z := 240 - 1) (by omega) (by omega)]
    exact ⟨fun y => absurd y (by omega), fun _ => ⟨fun y => absurd y (by omega), fun _ => ⟨by omega, fun _ => ⟨fun y => absurd rfl y, fun _ => ⟨hk, hk, K⟩⟩, fun y => absurd rfl y⟩⟩⟩
  have line : LRc h 37 (30 * k + h 50 k) 103 (30 * k + h 50 k) := (lr (h 50 k) lb0 (by omega)).1 (by omega)
  unfold LRc at line
  simp only [Nat.reduceAdd] at line
  have vb := LR_v line
  have rb : 0 ≤ 30 * k + h 50 k ∧ 30 * k + h 50 k < 240 := by omega
  have rb2 : 0 ≤ 30 * k + h 50 k ∧ 30 * k + h 50 k < 260 := by omega
  have ch : ∀ (g : Hp) (Φ : Int → Hp → Prop), ((h 37 (30 * k + h 50 k) = 1 → Φ 0 (up (up (cb h g) 50 k (h 50 k + 1)) 51 k (h 40 (30 * k + h 50 k)))) ∧ ((h 37 (30 * k + h 50 k) = 2 ∨ h 37 (30 * k + h 50 k) = 3) → Call G m_X0_judge [rv 34, rv 36, iv (30 * k + h 50 k)] (cb h g) (fun r3 h4 => Call G m_X0_decide [rv 34, iv k, iv (30 * k + h 50 k), iv r3] h4 (fun r5 h6 => (r5 = 0 ∨ r5 = 1) ∧ Φ r5 h6))) ∧ (h 37 (30 * k + h 50 k) = 4 → Φ 1 (up (cb h g) 50 k (h 41 (30 * k + h 50 k)))) ∧ (h 37 (30 * k + h 50 k) = 5 → Φ 0 (up (up (cb h g) 50 k (-1)) 51 k 0)) ∧ (5 < h 37 (30 * k + h 50 k) → Call G m_X0_perform [rv 34, rv 36, iv (30 * k + h 50 k)] (up (cb h g) 50 k (h 50 k + 1)) (fun r7 h8 => ((r7 ≠ 0 → (0 ≤ k ∧ k < 8) ∧ (((h8 50 k) = (-1) → Φ 0 h8) ∧ ((h8 50 k) ≠ (-1) → Φ 1 h8))) ∧ (r7 = 0 → Call G m_X0_failOf [rv 34, iv k] h8 (fun _ h10 => (0 ≤ k ∧ k < 8) ∧ (((h10 50 k) = (-1) → Φ 0 h10) ∧ ((h10 50 k) ≠ (-1) → Φ 1 h10)))))))) → Call G m_X0_doLine [rv 34, iv k] (cb h g) Φ := fun g Φ Q => by
    have q50 : cb h g 50 k = h 50 k := rfl
    refine Call.of rfl (Nat.le_of_ble_eq_true rfl) rfl (U_X0_doLine_34_0 ⟨hk, ?_⟩)
    rw [q50, row_]
    clear row_
    refine ⟨fun z => absurd z (by omega), fun z => ?_⟩
    refine Call.of rfl (Nat.le_of_ble_eq_true rfl) rfl (U_X3_isThere_36_0 ?_)
    have q36 : cb h g 36 0 = 240 := l0
    have q37 : cb h g 37 (30 * k + h 50 k) = h 37 (30 * k + h 50 k) := rfl
    have q40 : cb h g 40 (30 * k + h 50 k) = h 40 (30 * k + h 50 k) := rfl
    have q41 : cb h g 41 (30 * k + h 50 k) = h 41 (30 * k + h 50 k) := rfl
    rw [q36, q37, q40, q41, w32_of (z := 240 - 1) (by omega) (by omega), w32_of (z := h 50 k + 1) (by omega) (by omega)]
    refine ⟨fun y => absurd y (by omega), fun _ => ⟨fun y => absurd y (by omega), fun _ => ⟨rb, fun y => absurd y (by omega), fun _ => ⟨fun _ => ⟨rb, fun y => ⟨hk, rb, hk, Q.1 y⟩, fun y => Q.2.1 y, fun y => ⟨rb, hk, Q.2.2.1 y⟩, fun y => ⟨hk, hk, Q.2.2.2.1 y⟩, fun y => ⟨hk, Q.2.2.2.2 (by omega)⟩⟩, fun y => absurd y (by omega)⟩⟩⟩⟩
  clear row_
  have goon1 : ∀ b, (0 ≤ b ∧ b ≤ 30) → (∀ (g : Hp) (Φ : Int → Hp → Prop), Φ 1 (up (cb h g) 50 k b) → Call G m_X0_doLine [rv 34, iv k] (cb h g) Φ) → (∀ (g : Hp) (Φ : Int → Hp → Prop) (n : Nat), n < 8 → AT G m_X12_goes 42 [(0, rv 85), (1, iv k), (2, iv ((n : Int) + 1))] [] (up (up (cb g h) 85 57 0) 116 k b) Φ → AT G m_X12_goes 42 [(0, rv 85), (1, iv k), (2, iv (n : Int))] [] (cb g h) Φ) →
      ∃ h' r, CE G m_X0_doLine [rv 34, iv k] h r h' ∧ TL h' ∧ FR PPf h h' ∧ (h 34 5 ≤ h' 34 5 ∧ h' 34 5 ≤ h 34 5 + 3) ∧
      ((r = 1 ∧ h' 50 k ≠ -1 ∧ h' 51 k = 0 ∧ ∀ n : Nat, n < 8 → MR G m_X12_goes 42 [(0, rv 85), (1, iv k), (2, iv (n : Int))] h 42 [(0, rv 85), (1, iv k), (2, iv ((n : Int) + 1))] h') ∨ (r = 0 ∧ ∀ n : Nat, n < 8 → MZ G m_X12_goes 42 [(0, rv 85), (1, iv k), (2, iv (n : Int))] h 0 h')) := fun b hb hc hm => by
    refine ⟨RS h k b 0, 1, fun g Φ K => hc g Φ ?_, T.st (ppf_rs _ _ _ _) (MW_rs M hb (by omega)) ⟨e1, e2⟩, ppf_rs _ _ _ _, ⟨Int.le_refl _, show h 34 5 ≤ h 34 5 + 3 by omega⟩, Or.inl ⟨rfl, ?_, ?_, fun n hn g Φ K => hm g Φ n hn ?_⟩⟩
    · rw [cb_RSc] at K
      have e : up (up (cb h g) 50 k b) 51 k 0 = up (cb h g) 50 k b := up_id (by rw [up_nk (by omega)]; exact n2)
      rw [e] at K; exact K
    · have : RS h k b 0 50 k = b := by unfold RS; simp [up]
      rw [this]; omega
    · unfold RS; simp [up]
    · rw [cb_RSm] at K
      have e : up (up (up (cb g h) 85 57 0) 116 k b) 117 k 0 = up (up (cb g h) 85 57 0) 116 k b := up_id (by rw [up_nk (by omega), up_nk (by omega)]; exact r7.trans n2)
      rw [e] at K; exact K
  -- a lost V in a condition
  have lost : (∀ (g : Hp) (Φ : Int → Hp → Prop), Call G m_X0_failOf [rv 34, iv k] (cb h g) (fun _ h2 => Φ 0 h2) → Call G m_X0_doLine [rv 34, iv k] (cb h g) Φ) → (∀ (g : Hp) (Φ : Int → Hp → Prop) (n : Nat), n < 8 → AT G m_X12_goes 42 [(0, rv 85), (1, iv k), (2, iv ((n : Int) + 1))] [] (up (up (up (cb g h) 85 57 1) 85 22 (h 34 5 + 1)) 116 k (-1)) Φ → AT G m_X12_goes 42 [(0, rv 85), (1, iv k), (2, iv (n : Int))] [] (cb g h) Φ) →
      ∃ h' r, CE G m_X0_doLine [rv 34, iv k] h r h' ∧ TL h' ∧ FR PPf h h' ∧ (h 34 5 ≤ h' 34 5 ∧ h' 34 5 ≤ h 34 5 + 3) ∧
      ((r = 1 ∧ h' 50 k ≠ -1 ∧ h' 51 k = 0 ∧ ∀ n : Nat, n < 8 → MR G m_X12_goes 42 [(0, rv 85), (1, iv k), (2, iv (n : Int))] h 42 [(0, rv 85), (1, iv k), (2, iv ((n : Int) + 1))] h') ∨ (r = 0 ∧ ∀ n : Nat, n < 8 → MZ G m_X12_goes 42 [(0, rv 85), (1, iv k), (2, iv (n : Int))] h 0 h')) := fun hc hm => by
    have fr : FR PPf h (RX (up (up (up h 34 5 (h 34 5 + 1)) 85 57 1) 85 22 (h 34 5 + 1)) k) := (((FR.rf.up (by simp [PPf])).up (by simp [PPf])).up (by simp [PPf])).trans (ppf_rx _ _)
    refine ⟨RX (up (up (up h 34 5 (h 34 5 + 1)) 85 57 1) 85 22 (h 34 5 + 1)) k, 0, fun g Φ K => hc g Φ ?_, T.st fr (MW_rx (MW_ev M)) ⟨rfl, show 0 ≤ h 34 5 + 1 by omega⟩, fr, ⟨show h 34 5 ≤ h 34 5 + 1 by omega, show h 34 5 + 1 ≤ h 34 5 + 3 by omega⟩, Or.inr ⟨rfl, fun n hn g Φ K => hm g Φ n hn ?_⟩⟩
    · rw [cb_RXc, cb_uc' (by omega), cb_uc' (by omega), cb_uc (by omega)] at K
      refine Call.of rfl (Nat.le_of_ble_eq_true rfl) rfl (U_X0_failOf_34_0 ⟨hk, hk, ?_⟩)
      have q : cb h g 34 5 = h 34 5 := rfl
      rw [q, w32_of (z := h 34 5 + 1) (by omega) (by omega)]; exact K
    · have t := mz_stop (G := G) (h := RX (up (up (up h 34 5 (h 34 5 + 1)) 85 57 1) 85 22 (h 34 5 + 1)) k) (n := (n : Int) + 1) hk (Or.inl (up_at)) g Φ K
      rw [cb_RXm, cb_um (by omega), cb_um (by omega), cb_um' (by omega)] at t; exact t
  rcases line with ⟨c, c1, c2, c3⟩ | ⟨c, c1, c2⟩ | ⟨c, c1, c2, c3⟩ | ⟨c, c1, c2, c3⟩ | ⟨c, c1⟩ | ac
  · -- wait
    refine ⟨RS h k (h 50 k + 1) (h 40 (30 * k + h 50 k)), 0, fun g Φ K => ?_, T.st (ppf_rs _ _ _ _) (MW_rs M (by omega) (by omega)) ⟨e1, e2⟩, ppf_rs _ _ _ _, ⟨Int.le_refl _, show h 34 5 ≤ h 34 5 + 3 by omega⟩, Or.inr ⟨rfl, fun n hn g Φ K => mh g Φ n hn ⟨fun z => absurd z cA, fun _ => ⟨fun _ => ⟨fun z => absurd z (by omega), fun _ => ⟨fun _ => ⟨fun _ => ?_, fun z => absurd z (by omega), fun z => absurd z (by omega)⟩, fun z => absurd z (by omega)⟩⟩, fun z => absurd z (by omega)⟩⟩⟩⟩
    · rw [cb_RSc] at K
      exact ch g Φ ⟨fun _ => K, fun z => absurd z (by omega), fun z => absurd z (by omega), fun z => absurd z (by omega), fun z => absurd z (by omega)⟩
    · have t := mz_stop (G := G) (h := RS h k (h 50 k + 1) (h 40 (30 * k + h 50 k))) (n := (n : Int) + 1) hk (Or.inr (by
        have : RS h k (h 50 k + 1) (h 40 (30 * k + h 50 k)) 117 k = h 40 (30 * k + h 50 k) := up_at
        rw [this]; omega)) g Φ K
      rw [cb_RSm] at t
      rw [c2]; exact t
  · -- until
    obtain ⟨r, b, l, cj, mj, oc⟩ := sim_judge_36 (G := G) rb rb2 c2 hB hP hW hMo hRe hS hE hCl
    have cj' : ∀ (g : Hp) (Φ : Int → Hp → Prop), Call G m_X0_decide [rv 34, iv k, iv (30 * k + h 50 k), iv r] (cb h g) (fun r5 h6 => (r5 = 0 ∨ r5 = 1) ∧ Φ r5 h6) → Call G m_X0_doLine [rv 34, iv k] (cb h g) Φ := fun g Φ Q => ch g Φ ⟨fun z => absurd z (by omega), fun _ => cj g _ Q, fun z => absurd z (by omega), fun z => absurd z (by omega), fun z => absurd z (by omega)⟩
    have mj' : ∀ (g : Hp) (Φ : Int → Hp → Prop) (n : Nat), n < 8 → ((l = 0 → ((b ≠ 0 → AT G m_X12_goes 42 [(0, rv 85), (1, iv k), (2, iv ((n : Int) + 1))] [] (up (up (cb g h) 85 57 l) 116 k (h 50 k + 1)) Φ) ∧ (b = 0 → Φ 0 (up (cb g h) 85 57 l)))) ∧ (l ≠ 0 → AT G m_X12_goes 42 [(0, rv 85), (1, iv k), (2, iv ((n : Int) + 1))] [] (up (up (up (cb g h) 85 57 l) 85 22 (h 34 5 + 1)) 116 k (-1)) Φ)) → AT G m_X12_goes 42 [(0, rv 85), (1, iv k), (2, iv (n : Int))] [] (cb g h) Φ := fun g Φ n hn Q => mh g Φ n hn ⟨fun z => absurd z cA, fun _ => ⟨fun _ => ⟨fun _ => by
      have t := mj g (fun r1 h2 => (((h2 85 57) = 0 → ((h2 103 (30 * k + h 50 k) = 3) ∧ ((r1 ≠ 0 → AT G m_X12_goes 42 [(0, rv 85), (1, iv k), (2, iv ((n : Int) + 1))] [] (up h2 116 k (h 50 k + 1)) Φ) ∧ (r1 = 0 → Φ 0 h2)))) ∧ ((h2 85 57) ≠ 0 → AT G m_X12_goes 42 [(0, rv 85), (1, iv k), (2, iv ((n : Int) + 1))] [] (up (up h2 85 22 (w32 ((h2 85 22) + 1))) 116 k (-1)) Φ))) (by
        have q1 : cb g (up h 85 57 l) 85 57 = l := rfl
        have q2 : cb g (up h 85 57 l) 103 (30 * k + h 50 k) = 3 := c1
        have q3 : cb g (up h 85 57 l) 85 22 = h 34 5 := e1
        simp only [q1, q2, q3]
        rw [w32_of (z := h 34 5 + 1) (by omega) (by omega), cb_um (by omega)]
        exact ⟨fun z => ⟨trivial, Q.1 z⟩, Q.2⟩)
      rw [cb_um (by omega)] at t
      exact t, fun z => absurd c1 z⟩, fun z => absurd z (by omega)⟩⟩
    rcases oc with ⟨o1, o2⟩ | ⟨o1, o2, o3⟩
    · subst o1 o2
      refine lost (fun g Φ Q => cj' g Φ ?_) (fun g Φ n hn Q => mj' g Φ n hn ⟨fun z => absurd z (by omega), fun _ => Q⟩)
      exact Call.of rfl (Nat.le_of_ble_eq_true rfl) rfl (U_X0_decide_34_0 ⟨fun z => absurd rfl z, fun _ => Call.mono Q (fun r5 h6 w => ⟨Or.inl rfl, w⟩)⟩)
    · subst o2 o3
      have q37 : ∀ g, cb h g 37 (30 * k + h 50 k) = 2 := fun g => c
      rcases o1 with o1 | o1
      · subst o1
        have fr : FR PPf h (up h 85 57 0) := FR.rf.up (by simp [PPf])
        have fr' : FR (fun k i => k = 85 ∧ i = 57) h (up h 85 57 0) := FR.rf.up (by omega)
        refine ⟨up h 85 57 0, 0, fun g Φ K => cj' g Φ ?_, T.st fr (MW_cg fr' M (by unfold DP DW DMo DRu DRe DKi DCl; omega)) ⟨e1, e2⟩, fr, ⟨Int.le_refl _, show h 34 5 ≤ h 34 5 + 3 by omega⟩, Or.inr ⟨rfl, fun n hn g Φ K => mj' g Φ n hn ⟨fun _ => ⟨fun z => absurd rfl z, fun _ => ?_⟩, fun z => absurd rfl z⟩⟩⟩
        · rw [cb_uc' (by omega)] at K
          refine Call.of rfl (Nat.le_of_ble_eq_true rfl) rfl (U_X0_decide_34_0 ⟨fun _ => ⟨rb, fun _ => ⟨hk, hk, fun _ => ⟨Or.inl rfl, ?_⟩, fun z => absurd z (by omega)⟩, fun z => absurd z (by rw [q37]; omega)⟩, fun z => absurd z (by omega)⟩)
          have q : cb h g 50 k = h 50 k := rfl
          rw [q, w32_of (z := h 50 k + 0) (by omega) (by omega), up_id (by rw [q]; omega)]; exact K
        · rw [cb_um (by omega)] at K; exact K
      · subst o1
        refine goon1 (h 50 k + 1) (by omega) (fun g Φ K => cj' g Φ ?_) (fun g Φ n hn K => mj' g Φ n hn ⟨fun _ => ⟨fun _ => K, fun z => absurd z (by omega)⟩, fun z => absurd rfl z⟩)
        refine Call.of rfl (Nat.le_of_ble_eq_true rfl) rfl (U_X0_decide_34_0 ⟨fun _ => ⟨rb, fun _ => ⟨hk, hk, fun z => absurd rfl z, fun _ => ⟨Or.inr rfl, ?_⟩⟩, fun z => absurd z (by rw [q37]; omega)⟩, fun z => absurd z (by omega)⟩)
        have q : cb h g 50 k = h 50 k := rfl
        rw [q, w32_of (z := h 50 k + 1) (by omega) (by omega)]; exact K
  · -- if
    obtain ⟨r, b, l, cj, mj, oc⟩ := sim_judge_36 (G := G) rb rb2 c2 hB hP hW hMo hRe hS hE hCl
    have cj' : ∀ (g : Hp) (Φ : Int → Hp → Prop), Call G m_X0_decide [rv 34, iv k, iv (30 * k + h 50 k), iv r] (cb h g) (fun r5 h6 => (r5 = 0 ∨ r5 = 1) ∧ Φ r5 h6) → Call G m_X0_doLine [rv 34, iv k] (cb h g) Φ := fun g Φ Q => ch g Φ ⟨fun z => absurd z (by omega), fun _ => cj g _ Q, fun z => absurd z (by omega), fun z => absurd z (by omega), fun z => absurd z (by omega)⟩
    have mj' : ∀ (g : Hp) (Φ : Int → Hp → Prop) (n : Nat), n < 8 → ((l = 0 → ((b = 0 → AT G m_X12_goes 42 [(0, rv 85), (1, iv k), (2, iv ((n : Int) + 1))] [] (up (up (cb g h) 85 57 l) 116 k (h 50 k + 1)) Φ) ∧ (b ≠ 0 → AT G m_X12_goes 42 [(0, rv 85), (1, iv k), (2, iv ((n : Int) + 1))] [] (up (up (cb g h) 85 57 l) 116 k (h 41 (30 * k + h 50 k))) Φ))) ∧ (l ≠ 0 → AT G m_X12_goes 42 [(0, rv 85), (1, iv k), (2, iv ((n : Int) + 1))] [] (up (up (up (cb g h) 85 57 l) 85 22 (h 34 5 + 1)) 116 k (-1)) Φ)) → AT G m_X12_goes 42 [(0, rv 85), (1, iv k), (2, iv (n : Int))] [] (cb g h) Φ := fun g Φ n hn Q => mh g Φ n hn ⟨fun z => absurd z cA, fun _ => ⟨fun _ => ⟨fun z => absurd z (by omega), fun _ => ⟨fun z => absurd c1 z, fun _ => by
      have t := mj g (fun r7 h8 => (((h8 85 57) = 0 → (h8 103 (30 * k + h 50 k) = 4) ∧ ((r7 = 0 → AT G m_X12_goes 42 [(0, rv 85), (1, iv k), (2, iv ((n : Int) + 1))] [] (up h8 116 k (h 50 k + 1)) Φ) ∧ (r7 ≠ 0 → AT G m_X12_goes 42 [(0, rv 85), (1, iv k), (2, iv ((n : Int) + 1))] [] (up h8 116 k (h8 105 (30 * k + h 50 k))) Φ))) ∧ ((h8 85 57) ≠ 0 → AT G m_X12_goes 42 [(0, rv 85), (1, iv k), (2, iv ((n : Int) + 1))] [] (up (up h8 85 22 (w32 ((h8 85 22) + 1))) 116 k (-1)) Φ))) (by
        have q1 : cb g (up h 85 57 l) 85 57 = l := rfl
        have q2 : cb g (up h 85 57 l) 103 (30 * k + h 50 k) = 4 := c1
        have q3 : cb g (up h 85 57 l) 85 22 = h 34 5 := e1
        have q4 : cb g (up h 85 57 l) 105 (30 * k + h 50 k) = h 41 (30 * k + h 50 k) := c3.1
        simp only [q1, q2, q3, q4]
        rw [w32_of (z := h 34 5 + 1) (by omega) (by omega), cb_um (by omega)]
        exact ⟨fun z => ⟨trivial, Q.1 z⟩, Q.2⟩)
      rw [cb_um (by omega)] at t
      exact t⟩⟩, fun z => absurd z (by omega)⟩⟩
    rcases oc with ⟨o1, o2⟩ | ⟨o1, o2, o3⟩
    · subst o1 o2
      refine lost (fun g Φ Q => cj' g Φ ?_) (fun g Φ n hn Q => mj' g Φ n hn ⟨fun z => absurd z (by omega), fun _ => Q⟩)
      exact Call.of rfl (Nat.le_of_ble_eq_true rfl) rfl (U_X0_decide_34_0 ⟨fun z => absurd rfl z, fun _ => Call.mono Q (fun r5 h6 w => ⟨Or.inl rfl, w⟩)⟩)
    · subst o2 o3
      have q37 : ∀ g, cb h g 37 (30 * k + h 50 k) = 3 := fun g => c
      rcases o1 with o1 | o1
      · subst o1
        refine goon1 (h 50 k + 1) (by omega) (fun g Φ K => cj' g Φ ?_) (fun g Φ n hn K => mj' g Φ n hn ⟨fun _ => ⟨fun _ => K, fun z => absurd rfl z⟩, fun z => absurd rfl z⟩)
        refine Call.of rfl (Nat.le_of_ble_eq_true rfl) rfl (U_X0_decide_34_0 ⟨fun _ => ⟨rb, fun z => absurd (q37 g) z, fun _ => ⟨fun _ => ⟨hk, hk, Or.inr rfl, ?_⟩, fun z => absurd z (by omega)⟩⟩, fun z => absurd z (by omega)⟩)
        have q : cb h g 50 k = h 50 k := rfl
        rw [q, w32_of (z := h 50 k + 1) (by omega) (by omega)]; exact K
      · subst o1
        refine goon1 (h 41 (30 * k + h 50 k)) (by omega) (fun g Φ K => cj' g Φ ?_) (fun g Φ n hn K => mj' g Φ n hn ⟨fun _ => ⟨fun z => absurd z (by omega), fun _ => K⟩, fun z => absurd rfl z⟩)
        exact Call.of rfl (Nat.le_of_ble_eq_true rfl) rfl (U_X0_decide_34_0 ⟨fun _ => ⟨rb, fun z => absurd (q37 g) z, fun _ => ⟨fun z => absurd rfl z, fun _ => ⟨rb, hk, Or.inr rfl, K⟩⟩⟩, fun z => absurd z (by omega)⟩)
  · -- go
    refine ⟨RS h k (h 41 (30 * k + h 50 k)) 0, 1, fun g Φ K => ?_, T.st (ppf_rs _ _ _ _) (MW_rs M (by omega) (by omega)) ⟨e1, e2⟩, ppf_rs _ _ _ _, ⟨Int.le_refl _, show h 34 5 ≤ h 34 5 + 3 by omega⟩, Or.inl ⟨rfl, ?_, ?_, fun n hn g Φ K => mh g Φ n hn ⟨fun z => absurd z cA, fun _ => ⟨fun _ => ⟨fun z => absurd z (by omega), fun _ => ⟨fun _ => ⟨fun z => absurd z (by omega), fun _ => ?_, fun z => absurd z (by omega)⟩, fun z => absurd z (by omega)⟩⟩, fun z => absurd z (by omega)⟩⟩⟩⟩
    · rw [cb_RSc] at K
      refine ch g Φ ⟨fun z => absurd z (by omega), fun z => absurd z (by omega), fun _ => ?_, fun z => absurd z (by omega), fun z => absurd z (by omega)⟩
      have e : up (up (cb h g) 50 k (h 41 (30 * k + h 50 k))) 51 k 0 = up (cb h g) 50 k (h 41 (30 * k + h 50 k)) := up_id (by rw [up_nk (by omega)]; exact n2)
      rw [e] at K; exact K
    · have : RS h k (h 41 (30 * k + h 50 k)) 0 50 k = h 41 (30 * k + h 50 k) := by unfold RS; simp [up]
      rw [this]; omega
    · unfold RS; simp [up]
    · rw [cb_RSm] at K
      have e : up (up (up (cb g h) 85 57 0) 116 k (h 41 (30 * k + h 50 k))) 117 k 0 = up (up (cb g h) 85 57 0) 116 k (h 41 (30 * k + h 50 k)) := up_id (by rw [up_nk (by omega), up_nk (by omega)]; exact r7.trans n2)
      rw [e] at K
      rw [c2]; exact K
  · -- end
    refine ⟨RX h k, 0, fun g Φ K => ?_, tlx, ppf_rx h k, ⟨Int.le_refl _, show h 34 5 ≤ h 34 5 + 3 by omega⟩, Or.inr ⟨rfl, fun n hn g Φ K => mh g Φ n hn ⟨fun z => absurd z cA, fun _ => ⟨fun z => absurd c1 z, fun _ => stopM g Φ n K⟩⟩⟩⟩
    rw [cb_RXc] at K
    exact ch g Φ ⟨fun z => absurd z (by omega), fun z => absurd z (by omega), fun z => absurd z (by omega), fun _ => K, fun z => absurd z (by omega)⟩
  · -- a command's line
    have av := ACR_v ac
    have M0 : MW (RS h k (h 50 k + 1) 0) := MW_rs M (by omega) (by omega)
    have z51 : RS h k (h 50 k + 1) 0 51 k = 0 := by unfold RS; simp [up]
    obtain ⟨h', r, e, pt, me, mw, fr, rr, eb, ev1, ev2, w51⟩ := sim_perf (G := G) (h := RS h k (h 50 k + 1) 0) (a := 30 * k + h 50 k) (v := h 37 (30 * k + h 50 k)) (t := h 38 (30 * k + h 50 k)) (x := h 40 (30 * k + h 50 k)) rb2 ac M0 ⟨e1, e2⟩ (show h 34 5 ≤ 999999990 by omega)
    have v5 : RS h k (h 50 k + 1) 0 34 5 = h 34 5 := rfl
    rw [v5] at ev1 ev2
    have ce := ce_perf_36 (G := G) (h := RS h k (h 50 k + 1) 0) (h' := h') (i := 30 * k + h 50 k) rb (show 6 ≤ h 37 (30 * k + h 50 k) ∧ h 37 (30 * k + h 50 k) ≤ 13 by omega) pt
    have frT : FR PPf h h' := (ppf_rs h k (h 50 k + 1) 0).trans fr
    have cpf : ∀ (g : Hp) (Ψ : Int → Hp → Prop), Ψ r (cb h' g) → Call G m_X0_perform [rv 34, rv 36, iv (30 * k + h 50 k)] (up (cb h g) 50 k (h 50 k + 1)) Ψ := fun g Ψ K => by
      have t := ce g Ψ K
      rw [cb_RSc] at t
      have q : up (up (cb h g) 50 k (h 50 k + 1)) 51 k 0 = up (cb h g) 50 k (h 50 k + 1) := up_id (by rw [up_nk (by omega)]; exact n2)
      rw [q] at t; exact t
    have mpf : ∀ (g : Hp) (Ψ : Int → Hp → Prop), Ψ r (cb g h') → Call G m_X12_act [rv 85, iv (30 * k + h 50 k)] (up (up (cb g h) 85 57 0) 116 k (h 50 k + 1)) Ψ := fun g Ψ K => by
      have t := me g Ψ K
      rw [cb_RSm] at t
      have q : up (up (up (cb g h) 85 57 0) 116 k (h 50 k + 1)) 117 k 0 = up (up (cb g h) 85 57 0) 116 k (h 50 k + 1) := up_id (by rw [up_nk (by omega), up_nk (by omega)]; exact r7.trans n2)
      rw [q] at t; exact t
    have rk := mw.2.2.2.1 k hk.1 hk.2
    have ma : ∀ (g : Hp) (Φ : Int → Hp → Prop) (n : Nat), n < 8 → ((r ≠ 0 → AT G m_X12_goes 42 [(0, rv 85), (1, iv k), (2, iv ((n : Int) + 1))] [] (cb g h') Φ) ∧ (r = 0 → AT G m_X12_goes 42 [(0, rv 85), (1, iv k), (2, iv ((n : Int) + 1))] [] (up (cb g h') 116 k (-1)) Φ)) → AT G m_X12_goes 42 [(0, rv 85), (1, iv k), (2, iv (n : Int))] [] (cb g h) Φ := fun g Φ n hn Q => mh g Φ n hn ⟨fun z => absurd z cA, fun _ => ⟨fun _ => ⟨fun z => absurd z (by omega), fun _ => ⟨fun _ => ⟨fun z => absurd z (by omega), fun z => absurd z (by omega), fun _ => mpf g _ Q⟩, fun z => absurd z (by omega)⟩⟩, fun z => absurd z (by omega)⟩⟩
    rcases rr with rr | rr
    · subst rr
      have fr2 : FR PPf h (RX (up h' 34 5 (h' 34 5 + 1)) k) := (frT.up (by simp [PPf])).trans (ppf_rx _ _)
      have mw2 : MW (up h' 34 5 (h' 34 5 + 1)) := MW_cg (P := fun k i => k = 34 ∧ i = 5) (FR.rf.up (by omega)) mw (by unfold DP DW DMo DRu DRe DKi DCl; omega)
      refine ⟨RX (up h' 34 5 (h' 34 5 + 1)) k, 0, fun g Φ K => ?_, T.st fr2 (MW_rx mw2) ⟨show h' 85 22 = h' 34 5 + 1 by omega, show 0 ≤ h' 34 5 + 1 by omega⟩, fr2, ⟨show h 34 5 ≤ h' 34 5 + 1 by omega, show h' 34 5 + 1 ≤ h 34 5 + 3 by omega⟩, Or.inr ⟨rfl, fun n hn g Φ K => ma g Φ n hn ⟨fun z => absurd rfl z, fun _ => ?_⟩⟩⟩
      · rw [cb_RXc, cb_uc (by omega)] at K
        refine ch g Φ ⟨fun z => absurd z (by omega), fun z => absurd z (by omega), fun z => absurd z (by omega), fun z => absurd z (by omega), fun _ => cpf g _ ⟨fun z => absurd rfl z, fun _ => ?_⟩⟩
        refine Call.of rfl (Nat.le_of_ble_eq_true rfl) rfl (U_X0_failOf_34_0 ⟨hk, hk, hk, ?_⟩)
        have q : cb h' g 34 5 = h' 34 5 := rfl
        rw [q, w32_of (z := h' 34 5 + 1) (by omega) (by omega)]
        exact ⟨fun _ => K, fun z => absurd (by rw [up_nk (by omega), up_at]) z⟩
      · have t := mz_stop (G := G) (h := RX (up h' 34 5 (h' 34 5 + 1)) k) (n := (n : Int) + 1) hk (Or.inl (up_at)) g Φ K
        rw [cb_RXm, cb_um' (by omega)] at t; exact t
    · subst rr
      by_cases c50 : h' 50 k = -1
      · refine ⟨h', 0, fun g Φ K => ?_, T.st frT mw ⟨by omega, by omega⟩, frT, by omega, Or.inr ⟨rfl, fun n hn g Φ K => ma g Φ n hn ⟨fun _ => ?_, fun z => absurd z (by omega)⟩⟩⟩
        · exact ch g Φ ⟨fun z => absurd z (by omega), fun z => absurd z (by omega), fun z => absurd z (by omega), fun z => absurd z (by omega), fun _ => cpf g _ ⟨fun _ => ⟨hk, fun _ => K, fun z => absurd c50 z⟩, fun z => absurd z (by omega)⟩⟩
        · exact mz_stop (G := G) (h := h') (n := (n : Int) + 1) hk (Or.inl (by rw [rk.1]; exact c50)) g Φ K
      · refine ⟨h', 1, fun g Φ K => ?_, T.st frT mw ⟨by omega, by omega⟩, frT, by omega, Or.inl ⟨rfl, c50, ?_, fun n hn g Φ K => ma g Φ n hn ⟨fun _ => K, fun z => absurd z (by omega)⟩⟩⟩
        · exact ch g Φ ⟨fun z => absurd z (by omega), fun z => absurd z (by omega), fun z => absurd z (by omega), fun z => absurd z (by omega), fun _ => cpf g _ ⟨fun _ => ⟨hk, fun z => absurd z c50, fun _ => K⟩, fun z => absurd z (by omega)⟩⟩
        · rcases w51 k with q | q
          · rw [q]; exact z51
          · exact q
