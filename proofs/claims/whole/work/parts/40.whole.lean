/-! the law as a whole: constructors, then the loop, over an invariant INV n h (n calls done) -/
section RowsW
variable {G : GG} {M : MD} {R : Room} {cs sl : Nat} {QF : List Frame → Array Value → State → State → Prop} {pc : Nat} {ls : List (Nat × AV)} {st : List AV} {h : N3}
theorem n_astore_n {j : Fin 4} {x : Nat} {ls' : List (Nat × AV)} (hd : decode M.2.1 pc = .ok (.astore_n j, 1)) (hj : (j : Nat) < M.2.2.1) (hJ : lnoJ ls = true) (hs : lset ls j (rv x) = ls') (k : NTW G M R cs sl QF (pc + 1) ls' st h) : NTW G M R cs sl QF pc ls (rv x :: st) h := by
  intro p e s m args below meth c H locs lc C K P S L ol os
  subst hs
  cases x with
  | zero => exact lv_astore_nN C.1.1 C.1.2.1 hd rfl L hj rfl fun lc' L' => k p e s m args below meth c H locs lc' C K P S (lset_has (v := rv 0) hJ L') (lset_ok ol trivial) (ok_tl os)
  | succ x => exact lv_astore_n C.1.1 C.1.2.1 hd rfl L hj rfl fun lc' L' => k p e s m args below meth c H locs lc' C K P S (lset_has (v := rv (x + 1)) hJ L') (lset_ok ol trivial) (ok_tl os)
theorem arrV_cg {c : ClassId} {n : Nat} {f g : Nat → Value} (h : ∀ j, j < n → f j = g j) : arrV c n f = arrV c n g := by
  unfold arrV
  congr 1
  apply Array.ext
  · simp
  · intro i h1 h2
    simp at h1 ⊢
    exact h i h1
theorem n_toA (h1 : h.1 = NC) (h2 : ∀ k, k < 153 → kd k ≠ 20 → kd k ≠ 21 → ∀ j, j < sz k → rf k j ≠ 0 → h.2.1 k j = rf k j) (h3 : ∀ k, k < 153 → kd k = 22 → ∀ j, j < sz k → rf k j ≠ 0) (k : ATW G M R cs sl QF pc ls st h.2.2) : NTW G M R cs sl QF pc ls st h := by
  intro p e s m args below meth c H locs lc C K P S L ol os
  refine k p e s m args below meth c H locs lc C.1 K.1 ⟨?_, P.2.2.2⟩ S L ol os
  intro i q hq
  have hi : i < NC := by have := (List.getElem?_eq_some_iff.mp hq).1; simpa [wsO] using this
  have NCe : NC = 152 := rfl
  have e0 := ws_at (G := G) (h := h.2.2) (k := i + 1) (by omega) (by omega)
  rw [Nat.add_sub_cancel, hq] at e0
  have e0 := Option.some.inj e0
  subst e0
  have e1 := wsN_at (G := G) (z := h) (k := i + 1) (by omega) (by omega)
  rw [Nat.add_sub_cancel] at e1
  have a := P.2.2.1 i _ e1
  by_cases q1 : kd (i + 1) < 20
  · rw [show entN G h (i + 1) = .inr (kd (i + 1), fldN G h (i + 1)) by simp [entN, q1]] at a
    rw [ent_obj q1]
    have : fldN G h (i + 1) = fldO G h.2.2 (i + 1) := by
      unfold fldN fldO
      apply List.map_congr_left
      intro j hj
      have hj : j < sz (i + 1) := List.mem_range.mp hj
      by_cases z : rf (i + 1) j = 0
      · rw [if_pos z, if_pos z]
      · have := h2 (i + 1) (by omega) (by omega) (by omega) j hj z
        rw [if_neg z, if_neg z, this, if_neg z]
    rw [this] at a
    exact a
  · by_cases q2 : kd (i + 1) = 22
    · rw [show entN G h (i + 1) = .inl (G.2.2.2.1 22, sz (i + 1), .inr (.inr (.inr (.inr (fun j => if h.2.1 (i + 1) j = 0 then none else some (G.2.2.1 (h.2.1 (i + 1) j))))))) by simp [entN, q2]] at a
      rw [ent_str q2]
      have a : H[G.2.2.1 (i + 1)]? = some (vp_cell _ _) := a
      show H[G.2.2.1 (i + 1)]? = some (vp_cell _ _)
      rw [a, vp_cell_q, vp_cell_q]
      refine congrArg some (arrV_cg fun j hj => ?_)
      have z := h3 (i + 1) (by omega) q2 j hj
      rw [h2 (i + 1) (by omega) (by omega) (by omega) j hj z, if_neg z]
    · rw [show entN G h (i + 1) = .inl (G.2.2.2.1 (kd (i + 1)), sz (i + 1), .inl (fun j => Int32.ofInt (h.2.2 (i + 1) j))) by simp [entN, q1, q2]] at a
      rw [show entO G h.2.2 (i + 1) = .inl (G.2.2.2.1 (kd (i + 1)), sz (i + 1), .inl (fun j => Int32.ofInt (h.2.2 (i + 1) j))) by simp [entO, q1, q2]]
      exact a
end RowsW
def zN0 : N3 := (0, fun _ _ => 0, fun _ _ => 0)
def zNB : N3 := z_X11_init_1 (newN zN0)
def zND : N3 := zT (z_X12_s (newN zNB))
/-- the heap with which the first call begins -/
def hInit : Hp := zND.2.2
theorem zND_1 : zND.1 = NC := by decide +kernel
theorem zND_r : ∀ k, k < 153 → kd k ≠ 20 → kd k ≠ 21 → ∀ j, j < sz k → rf k j ≠ 0 → zND.2.1 k j = rf k j := by decide +kernel
theorem rf_22 : ∀ k, k < 153 → kd k = 22 → ∀ j, j < sz k → rf k j ≠ 0 := by decide +kernel
set_option maxHeartbeats 4000000 in
set_option maxRecDepth 100000 in
theorem law_ctor {G : GG} (k : ATW G m_L_law room_1 152 19026 (QL G) 18 [(0, rv 900), (1, rv 1), (2, rv 85), (3, iv 0)] [] hInit) : NTW G m_L_law room_1 0 0 (QL G) 0 [(0, rv 900)] [] zN0 := by
  refine n_new (k := 1) (pc := 0) (dk dt_L_law_0 0 rfl) cn_RL_7 cls_11 rfl cc_1 df_1 ⟨Nat.le_of_ble_eq_true rfl, Nat.le_of_ble_eq_true rfl⟩ ?_
  refine n_dup (pc := 3) (dk dt_L_law_0 1 rfl) rfl ?_
  refine n_callI (as := []) (st := [rv 1]) (mc := 83) (ms := 9428) (z' := zNB) (pc := 4) (dk dt_L_law_0 2 rfl) cli_RL_9 ⟨Nat.le_of_ble_eq_true rfl, Nat.le_of_ble_eq_true rfl⟩ ⟨Nat.le_of_ble_eq_true rfl, Nat.le_of_ble_eq_true rfl⟩ rfl rfl (by decide) rfl rfl (Nat.le_of_ble_eq_true rfl) nc_X11_init_1 ?_
  refine n_astore_n (pc := 7) (dk dt_L_law_0 3 rfl) (by decide) rfl rfl ?_
  refine n_new (k := 85) (pc := 8) (dk dt_L_law_0 4 rfl) cn_RL_10 cls_12 rfl cc_85 df_85 ⟨Nat.le_of_ble_eq_true rfl, Nat.le_of_ble_eq_true rfl⟩ ?_
  refine n_dup (pc := 11) (dk dt_L_law_0 5 rfl) rfl ?_
  refine n_callI (as := []) (st := [rv 85]) (mc := 67) (ms := 9479) (z' := zND) (pc := 12) (dk dt_L_law_0 6 rfl) cli_RL_12 ⟨Nat.le_of_ble_eq_true rfl, Nat.le_of_ble_eq_true rfl⟩ ⟨Nat.le_of_ble_eq_true rfl, Nat.le_of_ble_eq_true rfl⟩ rfl rfl (by decide) rfl rfl (Nat.le_of_ble_eq_true rfl) nc_X12_init ?_
  refine n_astore_n (pc := 15) (dk dt_L_law_0 7 rfl) (by decide) rfl rfl ?_
  refine n_iconst (pc := 16) (dk dt_L_law_0 8 rfl) (ik rfl) ?_
  refine n_istore_n (pc := 17) (dk dt_L_law_0 9 rfl) (by decide) rfl rfl ?_
  exact n_toA zND_1 zND_r rf_22 k

