def PWy (k : Nat) (i : Int) : Prop := k = 83 ∨ k = 84 ∨ k = 11 ∨ k = 1 ∧ i = 3 ∨ k = 152 ∨ k = 85 ∧ i = 7 ∨ k = 88
/-- the model's way, letter by letter -/
theorem sp_path {G : GG} {g : Hp} {Φ : Int → Hp → Prop} {bar F : Int → Int} {to : Int} {n : Nat} (hn : n ≤ 287) (hb : ∀ f, fld f → g 151 f = bar f) (hF : g 152 = F) (hto : fld to) (hbt : bar to = 0) (he : ∀ (j : Nat) f, fld f → (F f = j ↔ Ds bar to j f)) : ∀ (r : Nat) (f : Int) (w : Nat) (o : Int → Int), w + r = n → fld f → Ds bar to r f → (∀ p, (∀ j : Int, 0 ≤ j → j < w → p j = o j) → Pth bar to r f p w → Φ (n : Int) (szr 85 7 88 g (n : Int) p)) → AT G m_X12_way 238 [(0, rv 85), (5, iv f), (6, iv to), (8, iv (n : Int))] [] (szr 85 7 88 g (w : Int) o) Φ := by
  have e151 : ∀ (w : Int) (o : Int → Int) f, fld f → szr 85 7 88 g w o 151 f = bar f := fun w o f hf => by rw [szr_o (by decide) (Or.inl (by decide))]; exact hb f hf
  have e152 : ∀ (w : Int) (o : Int → Int) f, szr 85 7 88 g w o 152 f = F f := fun w o f => by rw [szr_o (by decide) (Or.inl (by decide)), hF]
  intro r
  induction r with
  | zero =>
    intro f w o hw hf hD kk
    have e : f = to := hD.1
    have ew : w = n := by omega
    subst ew
    refine U_X12_way_85_238 ⟨fun _ => kk o (fun _ _ _ => rfl) trivial, fun z => absurd e z⟩
  | succ r ih =>
    intro f w o hw hf hD kk
    obtain ⟨t0, f1⟩ := first_ex hD
    obtain ⟨⟨fa0, fa1⟩, fb, fc⟩ := id f1
    have fF : F f = ((r + 1 : Nat) : Int) := (he (r + 1) f hf).mpr hD
    have nto : f ≠ to := fun z => hD.2 0 (by omega) z
    refine U_X12_way_85_238 ⟨fun z => absurd z nto, fun _ => ?_⟩
    have fin : ∀ p : Int, p = ltr t0 → Call G m_X12_add [rv 85, iv p] (szr 85 7 88 g (w : Int) o) (fun _ h8 => Call G m_X12_beside [iv f, iv t0] h8 (fun r9 h10 => AT G m_X12_way 238 [(0, rv 85), (5, iv r9), (6, iv to), (8, iv (n : Int))] [] h10 Φ)) := by
      intro p hp
      subst hp
      refine sp_add (by omega) (by omega) (sp_beside hf ⟨fa0, fa1⟩ ?_)
      have t := ih (nbI f t0) (w + 1) (put o w (ltr t0)) (by omega) fb.1 fb.2 (fun p p1 p2 => kk p (fun j j0 j1 => ?_) ⟨t0, f1, ?_, ?_⟩)
      · rw [Int.natCast_add] at t
        exact t
      · rw [p1 j j0 (by omega)]; unfold put; rw [if_neg (by omega)]
      · rw [p1 w (by omega) (by omega)]; unfold put; rw [if_pos rfl]
      · rw [Int.natCast_add] at p2; exact p2
    have loop : ∀ (e : Nat) (t : Int), t + e = t0 → 0 ≤ t → AT G m_X12_way 248 [(0, rv 85), (5, iv f), (6, iv to), (8, iv (n : Int)), (9, iv t)] [] (szr 85 7 88 g (w : Int) o) Φ := by
      intro e
      induction e with
      | zero =>
        intro t ht h0
        have et : t = t0 := by omega
        subst et
        refine U_X12_way_85_248 (sp_beside hf ⟨fa0, fa1⟩ ⟨fun z => absurd z (by have := fb.1.1; omega), fun _ => sp_beside hf ⟨fa0, fa1⟩ ⟨fb.1, hf, ?_⟩⟩)
        have e1 : F (nbI f t) = (r : Int) := (he r _ fb.1).mpr fb.2
        rw [e152, e152, fF, e1, w32_of (z := ((r + 1 : Nat) : Int) - 1) (by omega) (by omega)]
        refine ⟨fun z => absurd z (by omega), fun _ => sp_beside hf ⟨fa0, fa1⟩ ⟨fb.1, ?_⟩⟩
        rw [e151 _ _ _ fb.1]
        have nb0 : bar (nbI f t) = 0 := (ball_bar hbt hto r _ fb.2.1).1
        refine ⟨fun _ => ⟨fun c0 => ⟨fun c1 => ⟨fun c2 => fin 100 ?_, fun c2 => fin 114 ?_⟩, fun c1 => fin 108 ?_⟩, fun c0 => fin 117 ?_⟩, fun z => absurd nb0 z⟩
        · unfold ltr; rw [if_neg c0, if_neg c1, if_neg c2]
        · unfold ltr; rw [if_neg c0, if_neg c1, if_pos c2]
        · unfold ltr; rw [if_neg c0, if_pos c1]
        · unfold ltr; rw [if_pos c0]
      | succ e ih2 =>
        intro t ht h0
        have go := ih2 (t + 1) (by omega) (by omega)
        have nt := fc t h0 (by omega)
        refine U_X12_way_85_248 ?_
        rw [w32_of (z := t + 1) (by omega) (by omega)]
        refine sp_beside hf (by omega) ⟨fun _ => go, fun c => ?_⟩
        have hg : fld (nbI f t) := by
          rcases nb_f (t := t) hf with y | y
          · exact absurd y c
          · exact y
        refine sp_beside hf (by omega) ⟨hg, hf, ?_⟩
        rw [e152, e152, fF, w32_of (z := ((r + 1 : Nat) : Int) - 1) (by omega) (by omega)]
        refine ⟨fun _ => go, fun c2 => ?_⟩
        exact absurd ⟨hg, (he r _ hg).mp (by omega)⟩ nt
    exact loop t0.toNat 0 (by omega) (by omega)
theorem IO_cg {h g : Hp} (e : ∀ k i, (k = 1 ∨ k = 11 ∨ k = 85 ∨ k = 88) → g k i = h k i) (hO : IO h) : IO g := by
  obtain ⟨i0, i1, i2, i3⟩ := hO
  unfold IO
  rw [e 1 3 (by omega), e 85 7 (by omega)]
  refine ⟨i0, i1, i2, fun i a b => ?_⟩
  rw [e 88 i (by omega), e 11 i (by omega)]
  exact i3 i a b
theorem op_way {G : GG} {h : Hp} {a b c d : Int} (hI : ISb h) (hO : IO h) : BOTH G m_X11_way m_X12_way [iv a, iv b, iv c, iv d] h (fun h' => IO h' ∧ FR PWy h h') := by
  have hN : IO h ∧ FR PWy h h := ⟨hO, FR.rf⟩
  unfold BOTH
  refine Call.of rfl (Nat.le_of_ble_eq_true rfl) rfl (U_X11_way_1_0 ?_)
  by_cases ok : (0 ≤ a ∧ a ≤ 23) ∧ (0 ≤ b ∧ b ≤ 11) ∧ (0 ≤ c ∧ c ≤ 23) ∧ (0 ≤ d ∧ d ≤ 11)
  · rw [w32_of (z := b * 24) (by omega) (by omega), w32_of (z := d * 24) (by omega) (by omega), w32_of (z := b * 24 + a) (by omega) (by omega), w32_of (z := d * 24 + c) (by omega) (by omega)]
    obtain ⟨fr, hfr⟩ : ∃ fr, fr = b * 24 + a := ⟨_, rfl⟩
    obtain ⟨to, hto⟩ : ∃ to, to = d * 24 + c := ⟨_, rfl⟩
    have f1 : fld fr := by unfold fld; omega
    have f2 : fld to := by unfold fld; omega
    have enter : ∀ (g : Hp) (Ψ : Int → Hp → Prop), g 151 = h 151 → ((h 82 fr ≠ 0 ∨ h 82 to ≠ 0) → Ψ (-1) g) → (h 82 fr = 0 → h 82 to = 0 → AT G m_X12_way 61 [(0, rv 85), (5, iv fr), (6, iv to), (7, iv 0)] [] g Ψ) → Call G m_X12_way [rv 85, iv a, iv b, iv c, iv d] g Ψ := by
      intro g Ψ g1 k1 k2
      refine Call.of rfl (Nat.le_of_ble_eq_true rfl) rfl (U_X12_way_85_0 ?_)
      rw [w32_of (z := 24 * b) (by omega) (by omega), w32_of (z := 24 * d) (by omega) (by omega), w32_of (z := 24 * b + a) (by omega) (by omega), w32_of (z := 24 * d + c) (by omega) (by omega), show 24 * b + a = fr by omega, show 24 * d + c = to by omega, g1, (hI fr f1.1 f1.2).2, (hI to f2.1 f2.2).2]
      refine ⟨fun z => absurd z (by omega), fun _ => ⟨fun z => absurd z (by omega), fun _ => ⟨fun z => absurd z (by omega), fun _ => ⟨fun z => absurd z (by omega), fun _ => ⟨fun z => absurd z (by omega), fun _ => ⟨fun z => absurd z (by omega), fun _ => ⟨fun z => absurd z (by omega), fun _ => ⟨fun z => absurd z (by omega), fun _ => ?_⟩⟩⟩⟩⟩⟩⟩⟩
      exact ⟨f1, fun c1 => k1 (Or.inl c1), fun c1 => ⟨f2, fun c2 => k2 c1 c2, fun c2 => k1 (Or.inr c2)⟩⟩
    have key : Call G m_X9_turnsTo [rv 81, iv fr, iv to] h (fun r1 h2 => ((r1 ≠ (-1) → Call G m_X9_writeTurns [rv 81, iv fr, iv r1, rv 11] h2 (fun _ h4 => Call G m_X12_way [rv 85, iv a, iv b, iv c, iv d] (up h4 1 3 r1) (fun r2 h2 => r1 = r2 ∧ IO h2 ∧ FR PWy h h2))) ∧ (r1 = (-1) → Call G m_X12_way [rv 85, iv a, iv b, iv c, iv d] h2 (fun r2 h2 => -1 = r2 ∧ IO h2 ∧ FR PWy h h2)))) := by
      have search : ∀ (g : Hp) (Ψ : Int → Hp → Prop), g 151 = h 151 → h 82 to = 0 → (∀ F, tells (h 82) to F → (∀ m f, ball (h 82) to m f → F f ≠ -1) → F fr = -1 → Ψ (-1) (row g 152 F)) → (∀ (F : Int → Int) (n : Nat), tells (h 82) to F → (∀ m f, ball (h 82) to m f → F f ≠ -1) → F fr = n → AT G m_X12_way 238 [(0, rv 85), (5, iv fr), (6, iv to), (8, iv (n : Int))] [] (up (row g 152 F) 85 7 0) Ψ) → AT G m_X12_way 61 [(0, rv 85), (5, iv fr), (6, iv to), (7, iv 0)] [] g Ψ := by
        intro g Ψ g1 hb0 k1 k2
        have ent : ∀ F x8, tells (h 82) to F → (∀ m f, ball (h 82) to m f → F f ≠ -1) → AT G m_X12_way 97 [(0, rv 85), (5, iv fr), (6, iv to), (7, iv 0), (8, iv x8)] [] (row g 152 F) Ψ := by
          intro F x8 T cm
          refine U_X12_way_85_97 ⟨fun _ => ⟨f1, ?_⟩, fun z => absurd rfl z⟩
          rw [row_eq]
          refine ⟨fun c1 => ⟨f1, ?_⟩, fun c1 => k1 F T cm c1⟩
          rcases T fr f1 with y | ⟨n, y1, y2⟩
          · exact absurd y c1
          · rw [y1]; exact k2 F n T cm y1
        exact sp_search97 (bar := h 82) (fun f hf => by rw [g1]; exact (hI f hf.1 hf.2).2) f2 hb0 f1 (fun F x8 T cm => ent F x8 T cm)
      refine sp_turnsTo f1 f2 (fun i hi => (hI i hi.1 hi.2).1) (fun bad C => ⟨fun z => absurd rfl z, fun _ => ?_⟩) (fun c1 c2 C Q T hno hyes => ?_)
      · refine enter _ _ (row_ne (by decide)) (fun _ => ⟨rfl, IO_cg ?_ hO, FR.row FR.rf (fun i => Or.inl rfl)⟩) (fun z1 z2 => ?_)
        · intro k i hk
          rw [row_ne (by omega)]
        · rcases bad with y | y
          · exact absurd z1 y
          · exact absurd z2 y
      · have fQ : FR PWy h (hQ h C Q) := FR.row (FR.row FR.rf (fun i => Or.inl rfl)) (fun i => Or.inr (Or.inl rfl))
        refine ⟨fun c3 => ?_, fun c3 => ?_⟩
        · rcases T fr f1 with y | ⟨r, y1, y2⟩
          · exact absurd y c3
          · obtain ⟨r287, cmp⟩ := hyes r y1
            rw [y1]
            have he : ∀ j : Nat, j < r → ∀ f, fld f → (C f = j ↔ Ds (h 82) to j f) := fun j hj f hf => by
              constructor
              · intro e
                rcases T f hf with z | ⟨k, k1, k2⟩
                · omega
                · have : k = j := by omega
                  subst this; exact k2
              · intro e
                rcases T f hf with z | ⟨k, k1, k2⟩
                · exact absurd z (cmp j hj f e.1)
                · have := Ds_uniq k2 e
                  omega
            refine sp_writeTurns r287 hQ_83 he f1 y2 (fun o ho => ?_)
            generalize hg : up (row (hQ h C Q) 11 o) 1 3 (r : Int) = g
            have fg : FR PWy h g := by
              rw [← hg]
              exact FR.up (FR.row fQ (fun i => by simp [PWy])) (by simp [PWy])
            have g151 : g 151 = h 151 := by funext i; exact fg 151 i (by simp [PWy])
            refine enter g _ g151 (fun z => z.elim (absurd c1) (absurd c2)) (fun _ _ => ?_)
            refine search g _ g151 c2 (fun F TF cF eF => absurd eF (cF r fr y2.1)) (fun F n TF cF eF => ?_)
            have en : n = r := by
              rcases TF fr f1 with z | ⟨k, k1, k2⟩
              · omega
              · have := Ds_uniq k2 y2; omega
            subst en
            rw [szr_of (c := 88) (by decide)]
            have heF : ∀ (j : Nat) f, fld f → (F f = j ↔ Ds (h 82) to j f) := fun j f hf => by
              constructor
              · intro e
                rcases TF f hf with z | ⟨k, k1, k2⟩
                · omega
                · have : k = j := by omega
                  subst this; exact k2
              · intro e
                rcases TF f hf with z | ⟨k, k1, k2⟩
                · exact absurd z (cF j f e.1)
                · have := Ds_uniq k2 e
                  omega
            refine sp_path (bar := h 82) (F := F) r287 (fun f hf => ?_) row_eq f2 c2 heF n fr 0 _ (by omega) f1 y2 (fun p _ hp => ⟨rfl, ?_, ?_⟩)
            · rw [row_ne (by decide), g151]; exact (hI f hf.1 hf.2).2
            · have e13 : szr 85 7 88 (row g 152 F) (n : Int) p 1 3 = n := by
                rw [szr_o (by decide) (Or.inl (by decide)), row_ne (by decide), ← hg]; simp [up]
              have e11 : ∀ i, szr 85 7 88 (row g 152 F) (n : Int) p 11 i = o i := fun i => by
                rw [szr_o (by decide) (Or.inl (by decide)), row_ne (by decide), ← hg]; simp [up, row]
              refine ⟨by rw [e13]; omega, by rw [e13]; omega, by rw [e13, szr_n (by decide)], fun i q0 q1 => ?_⟩
              rw [e13] at q1
              rw [szr_f, e11]
              exact (Pth_uniq n fr 0 ho hp i q0 (by omega)).symm
            · intro k i hk
              have n88 : k ≠ 88 := fun z => hk (by simp [PWy, z])
              have n152 : k ≠ 152 := fun z => hk (by simp [PWy, z])
              have n857 : k ≠ 85 ∨ i ≠ 7 := by
                by_cases z : k = 85
                · exact Or.inr fun z2 => hk (by simp [PWy, z, z2])
                · exact Or.inl z
              rw [szr_o n88 n857, row_ne n152]
              exact fg k i hk
        · refine enter _ _ (hQ_o (by decide) (by decide)) (fun z => z.elim (absurd c1) (absurd c2)) (fun _ _ => ?_)
          refine search _ _ (hQ_o (by decide) (by decide)) c2 (fun F TF cF eF => ⟨rfl, IO_cg ?_ hO, FR.row fQ (fun i => by simp [PWy])⟩) (fun F n TF cF eF => ?_)
          · intro k i hk
            rw [row_ne (by omega), hQ_o (by omega) (by omega)]
          · exfalso
            rcases TF fr f1 with z | ⟨k, k1, k2⟩
            · omega
            · exact hno c3 k k2.1
    exact ⟨fun z => absurd z (by omega), fun _ => ⟨fun z => absurd z (by omega), fun _ => ⟨fun z => absurd z (by omega), fun _ => ⟨fun z => absurd z (by omega), fun _ => ⟨fun z => absurd z (by omega), fun _ => ⟨fun z => absurd z (by omega), fun _ => ⟨fun z => absurd z (by omega), fun _ => ⟨fun z => absurd z (by omega), fun _ => by rw [← hfr, ← hto]; exact key⟩⟩⟩⟩⟩⟩⟩⟩
  · have key : Call G m_X12_way [rv 85, iv a, iv b, iv c, iv d] h (fun r2 h2 => -1 = r2 ∧ IO h2 ∧ FR PWy h h2) := by
      refine Call.of rfl (Nat.le_of_ble_eq_true rfl) rfl (U_X12_way_85_0 ?_)
      exact ⟨fun _ => ⟨rfl, hN⟩, fun _ => ⟨fun _ => ⟨rfl, hN⟩, fun _ => ⟨fun _ => ⟨rfl, hN⟩, fun _ => ⟨fun _ => ⟨rfl, hN⟩, fun _ => ⟨fun _ => ⟨rfl, hN⟩, fun _ => ⟨fun _ => ⟨rfl, hN⟩, fun _ => ⟨fun _ => ⟨rfl, hN⟩, fun _ => ⟨fun _ => ⟨rfl, hN⟩, fun _ => absurd ok (by omega)⟩⟩⟩⟩⟩⟩⟩⟩
    exact ⟨fun _ => key, fun _ => ⟨fun _ => key, fun _ => ⟨fun _ => key, fun _ => ⟨fun _ => key, fun _ => ⟨fun _ => key, fun _ => ⟨fun _ => key, fun _ => ⟨fun _ => key, fun _ => ⟨fun _ => key, fun _ => absurd ok (by omega)⟩⟩⟩⟩⟩⟩⟩⟩
