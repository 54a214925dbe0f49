set_option maxHeartbeats 40000000 in
theorem LC_head {G : GG} {h : Hp} {i : Int} (hxs : ∀ j, i32 (G.2.2.2.2.2 j)) (hL : G.2.2.2.2.1 ≤ 3072) (H : (((w32 ((G.2.2.2.2.1 : Int) - 6)) < i → LT G 1284 [] [] h) ∧ (i ≤ (w32 ((G.2.2.2.2.1 : Int) - 6)) → (0 ≤ i ∧ i < (G.2.2.2.2.1 : Int)) ∧ ((((band (sx G i) 63) = 0) → LT G 184 [(0, rv 900), (1, rv 1), (2, rv 85), (3, iv i)] [] h) ∧ (((band (sx G i) 63) = 1) → LT G 247 [(0, rv 900), (1, rv 1), (2, rv 85), (3, iv i)] [] h) ∧ (((band (sx G i) 63) = 2) → LT G 270 [(0, rv 900), (1, rv 1), (2, rv 85), (3, iv i)] [] h) ∧ (((band (sx G i) 63) = 3) → LT G 293 [(0, rv 900), (1, rv 1), (2, rv 85), (3, iv i)] [] h) ∧ (((band (sx G i) 63) = 4) → LT G 326 [(0, rv 900), (1, rv 1), (2, rv 85), (3, iv i)] [] h) ∧ (((band (sx G i) 63) = 5) → LT G 339 [(0, rv 900), (1, rv 1), (2, rv 85), (3, iv i)] [] h) ∧ (((band (sx G i) 63) = 6) → LT G 362 [(0, rv 900), (1, rv 1), (2, rv 85), (3, iv i)] [] h) ∧ (((band (sx G i) 63) = 7) → LT G 415 [(0, rv 900), (1, rv 1), (2, rv 85), (3, iv i)] [] h) ∧ (((band (sx G i) 63) = 8) → LT G 468 [(0, rv 900), (1, rv 1), (2, rv 85), (3, iv i)] [] h) ∧ (((band (sx G i) 63) = 9) → LT G 517 [(0, rv 900), (1, rv 1), (2, rv 85), (3, iv i)] [] h) ∧ (((band (sx G i) 63) = 10) → LT G 550 [(0, rv 900), (1, rv 1), (2, rv 85), (3, iv i)] [] h) ∧ (((band (sx G i) 63) = 11) → LT G 593 [(0, rv 900), (1, rv 1), (2, rv 85), (3, iv i)] [] h) ∧ (((band (sx G i) 63) = 12) → LT G 616 [(0, rv 900), (1, rv 1), (2, rv 85), (3, iv i)] [] h) ∧ (((band (sx G i) 63) = 13) → LT G 649 [(0, rv 900), (1, rv 1), (2, rv 85), (3, iv i)] [] h) ∧ (((band (sx G i) 63) = 14) → LT G 692 [(0, rv 900), (1, rv 1), (2, rv 85), (3, iv i)] [] h) ∧ (((band (sx G i) 63) = 15) → LT G 735 [(0, rv 900), (1, rv 1), (2, rv 85), (3, iv i)] [] h) ∧ (((band (sx G i) 63) = 16) → LT G 768 [(0, rv 900), (1, rv 1), (2, rv 85), (3, iv i)] [] h) ∧ (((band (sx G i) 63) = 17) → LT G 791 [(0, rv 900), (1, rv 1), (2, rv 85), (3, iv i)] [] h) ∧ (((band (sx G i) 63) = 18) → LT G 814 [(0, rv 900), (1, rv 1), (2, rv 85), (3, iv i)] [] h) ∧ (((band (sx G i) 63) = 19) → LT G 847 [(0, rv 900), (1, rv 1), (2, rv 85), (3, iv i)] [] h) ∧ (((band (sx G i) 63) = 20) → LT G 880 [(0, rv 900), (1, rv 1), (2, rv 85), (3, iv i)] [] h) ∧ (((band (sx G i) 63) = 21) → LT G 913 [(0, rv 900), (1, rv 1), (2, rv 85), (3, iv i)] [] h) ∧ (((band (sx G i) 63) = 22) → LT G 946 [(0, rv 900), (1, rv 1), (2, rv 85), (3, iv i)] [] h) ∧ (((band (sx G i) 63) = 23) → LT G 959 [(0, rv 900), (1, rv 1), (2, rv 85), (3, iv i)] [] h) ∧ (((band (sx G i) 63) = 24) → LT G 972 [(0, rv 900), (1, rv 1), (2, rv 85), (3, iv i)] [] h) ∧ (((band (sx G i) 63) = 25) → LT G 995 [(0, rv 900), (1, rv 1), (2, rv 85), (3, iv i)] [] h) ∧ (((band (sx G i) 63) = 26) → LT G 1008 [(0, rv 900), (1, rv 1), (2, rv 85), (3, iv i)] [] h) ∧ (((band (sx G i) 63) = 27) → LT G 1031 [(0, rv 900), (1, rv 1), (2, rv 85), (3, iv i)] [] h) ∧ (((band (sx G i) 63) = 28) → LT G 1054 [(0, rv 900), (1, rv 1), (2, rv 85), (3, iv i)] [] h) ∧ (((band (sx G i) 63) = 29) → LT G 1107 [(0, rv 900), (1, rv 1), (2, rv 85), (3, iv i)] [] h) ∧ (((band (sx G i) 63) = 30) → LT G 1130 [(0, rv 900), (1, rv 1), (2, rv 85), (3, iv i)] [] h) ∧ (((band (sx G i) 63) = 31) → LT G 1143 [(0, rv 900), (1, rv 1), (2, rv 85), (3, iv i)] [] h) ∧ (((band (sx G i) 63) = 32) → LT G 1166 [(0, rv 900), (1, rv 1), (2, rv 85), (3, iv i)] [] h) ∧ (((band (sx G i) 63) = 33) → LT G 1225 [(0, rv 900), (1, rv 1), (2, rv 85), (3, iv i)] [] h) ∧ ((((band (sx G i) 63) < 0 ∨ 33 < (band (sx G i) 63))) → LT G 1278 [(0, rv 900), (1, rv 1), (2, rv 85), (3, iv i)] [] h))))) : LT G 18 [(0, rv 900), (1, rv 1), (2, rv 85), (3, iv i)] [] h := by
  refine a_iload_n (pc := 18) (dk dt_L_law_0 10 rfl) rfl ?_
  refine a_aload_n (pc := 19) (dk dt_L_law_0 11 rfl) rfl ?_
  refine a_slenL hL (pc := 20) (dk dt_L_law_0 12 rfl) ?_
  refine a_bipush (pc := 21) (dk dt_L_law_0 13 rfl) (ik rfl) (bpk rfl) ?_
  refine a_isub (pc := 23) (dk dt_L_law_0 14 rfl) ?_
  refine a_icmp_gt (pc := 24) (dk dt_L_law_0 15 rfl) (tgt := 1284) rfl ⟨fun c => ?_, fun c => ?_⟩
  · replace H := H.1 c
    exact a_pick [] rfl H
  · replace H := H.2 c
    refine a_aload_n (pc := 27) (dk dt_L_law_0 16 rfl) rfl ?_
    refine a_iload_n (pc := 28) (dk dt_L_law_0 17 rfl) rfl ?_
    refine a_sld (hxs := hxs) (pc := 29) (dk dt_L_law_0 18 rfl) ⟨H.1, ?_⟩
    replace H := H.2
    refine a_bipush (pc := 30) (dk dt_L_law_0 19 rfl) (ik rfl) (bpk rfl) ?_
    refine a_iand (pc := 32) (dk dt_L_law_0 20 rfl) ?_
    have B0 : ((band (sx G i) 63) = 0) → LT G 184 [(0, rv 900), (1, rv 1), (2, rv 85), (3, iv i)] [] h := by
      intro c
      replace H := H.1 c
      exact a_pick [0, 1, 2, 3] rfl H
    have B1 : ((band (sx G i) 63) = 1) → LT G 247 [(0, rv 900), (1, rv 1), (2, rv 85), (3, iv i)] [] h := by
      intro c
      replace H := H.2.1 c
      exact a_pick [0, 1, 2, 3] rfl H
    have B2 : ((band (sx G i) 63) = 2) → LT G 270 [(0, rv 900), (1, rv 1), (2, rv 85), (3, iv i)] [] h := by
      intro c
      replace H := H.2.2.1 c
      exact a_pick [0, 1, 2, 3] rfl H
    have B3 : ((band (sx G i) 63) = 3) → LT G 293 [(0, rv 900), (1, rv 1), (2, rv 85), (3, iv i)] [] h := by
      intro c
      replace H := H.2.2.2.1 c
      exact a_pick [0, 1, 2, 3] rfl H
    have B4 : ((band (sx G i) 63) = 4) → LT G 326 [(0, rv 900), (1, rv 1), (2, rv 85), (3, iv i)] [] h := by
      intro c
      replace H := H.2.2.2.2.1 c
      exact a_pick [0, 1, 2, 3] rfl H
    have B5 : ((band (sx G i) 63) = 5) → LT G 339 [(0, rv 900), (1, rv 1), (2, rv 85), (3, iv i)] [] h := by
      intro c
      replace H := H.2.2.2.2.2.1 c
      exact a_pick [0, 1, 2, 3] rfl H
    have B6 : ((band (sx G i) 63) = 6) → LT G 362 [(0, rv 900), (1, rv 1), (2, rv 85), (3, iv i)] [] h := by
      intro c
      replace H := H.2.2.2.2.2.2.1 c
      exact a_pick [0, 1, 2, 3] rfl H
    have B7 : ((band (sx G i) 63) = 7) → LT G 415 [(0, rv 900), (1, rv 1), (2, rv 85), (3, iv i)] [] h := by
      intro c
      replace H := H.2.2.2.2.2.2.2.1 c
      exact a_pick [0, 1, 2, 3] rfl H
    have B8 : ((band (sx G i) 63) = 8) → LT G 468 [(0, rv 900), (1, rv 1), (2, rv 85), (3, iv i)] [] h := by
      intro c
      replace H := H.2.2.2.2.2.2.2.2.1 c
      exact a_pick [0, 1, 2, 3] rfl H
    have B9 : ((band (sx G i) 63) = 9) → LT G 517 [(0, rv 900), (1, rv 1), (2, rv 85), (3, iv i)] [] h := by
      intro c
      replace H := H.2.2.2.2.2.2.2.2.2.1 c
      exact a_pick [0, 1, 2, 3] rfl H
    have B10 : ((band (sx G i) 63) = 10) → LT G 550 [(0, rv 900), (1, rv 1), (2, rv 85), (3, iv i)] [] h := by
      intro c
      replace H := H.2.2.2.2.2.2.2.2.2.2.1 c
      exact a_pick [0, 1, 2, 3] rfl H
    have B11 : ((band (sx G i) 63) = 11) → LT G 593 [(0, rv 900), (1, rv 1), (2, rv 85), (3, iv i)] [] h := by
      intro c
      replace H := H.2.2.2.2.2.2.2.2.2.2.2.1 c
      exact a_pick [0, 1, 2, 3] rfl H
    have B12 : ((band (sx G i) 63) = 12) → LT G 616 [(0, rv 900), (1, rv 1), (2, rv 85), (3, iv i)] [] h := by
      intro c
      replace H := H.2.2.2.2.2.2.2.2.2.2.2.2.1 c
      exact a_pick [0, 1, 2, 3] rfl H
    have B13 : ((band (sx G i) 63) = 13) → LT G 649 [(0, rv 900), (1, rv 1), (2, rv 85), (3, iv i)] [] h := by
      intro c
      replace H := H.2.2.2.2.2.2.2.2.2.2.2.2.2.1 c
      exact a_pick [0, 1, 2, 3] rfl H
    have B14 : ((band (sx G i) 63) = 14) → LT G 692 [(0, rv 900), (1, rv 1), (2, rv 85), (3, iv i)] [] h := by
      intro c
      replace H := H.2.2.2.2.2.2.2.2.2.2.2.2.2.2.1 c
      exact a_pick [0, 1, 2, 3] rfl H
    have B15 : ((band (sx G i) 63) = 15) → LT G 735 [(0, rv 900), (1, rv 1), (2, rv 85), (3, iv i)] [] h := by
      intro c
      replace H := H.2.2.2.2.2.2.2.2.2.2.2.2.2.2.2.1 c
      exact a_pick [0, 1, 2, 3] rfl H
    have B16 : ((band (sx G i) 63) = 16) → LT G 768 [(0, rv 900), (1, rv 1), (2, rv 85), (3, iv i)] [] h := by
      intro c
      replace H := H.2.2.2.2.2.2.2.2.2.2.2.2.2.2.2.2.1 c
      exact a_pick [0, 1, 2, 3] rfl H
    have B17 : ((band (sx G i) 63) = 17) → LT G 791 [(0, rv 900), (1, rv 1), (2, rv 85), (3, iv i)] [] h := by
      intro c
      replace H := H.2.2.2.2.2.2.2.2.2.2.2.2.2.2.2.2.2.1 c
      exact a_pick [0, 1, 2, 3] rfl H
    have B18 : ((band (sx G i) 63) = 18) → LT G 814 [(0, rv 900), (1, rv 1), (2, rv 85), (3, iv i)] [] h := by
      intro c
      replace H := H.2.2.2.2.2.2.2.2.2.2.2.2.2.2.2.2.2.2.1 c
      exact a_pick [0, 1, 2, 3] rfl H
    have B19 : ((band (sx G i) 63) = 19) → LT G 847 [(0, rv 900), (1, rv 1), (2, rv 85), (3, iv i)] [] h := by
      intro c
      replace H := H.2.2.2.2.2.2.2.2.2.2.2.2.2.2.2.2.2.2.2.1 c
      exact a_pick [0, 1, 2, 3] rfl H
    have B20 : ((band (sx G i) 63) = 20) → LT G 880 [(0, rv 900), (1, rv 1), (2, rv 85), (3, iv i)] [] h := by
      intro c
      replace H := H.2.2.2.2.2.2.2.2.2.2.2.2.2.2.2.2.2.2.2.2.1 c
      exact a_pick [0, 1, 2, 3] rfl H
    have B21 : ((band (sx G i) 63) = 21) → LT G 913 [(0, rv 900), (1, rv 1), (2, rv 85), (3, iv i)] [] h := by
      intro c
      replace H := H.2.2.2.2.2.2.2.2.2.2.2.2.2.2.2.2.2.2.2.2.2.1 c
      exact a_pick [0, 1, 2, 3] rfl H
    have B22 : ((band (sx G i) 63) = 22) → LT G 946 [(0, rv 900), (1, rv 1), (2, rv 85), (3, iv i)] [] h := by
      intro c
      replace H := H.2.2.2.2.2.2.2.2.2.2.2.2.2.2.2.2.2.2.2.2.2.2.1 c
      exact a_pick [0, 1, 2, 3] rfl H
    have B23 : ((band (sx G i) 63) = 23) → LT G 959 [(0, rv 900), (1, rv 1), (2, rv 85), (3, iv i)] [] h := by
      intro c
      replace H := H.2.2.2.2.2.2.2.2.2.2.2.2.2.2.2.2.2.2.2.2.2.2.2.1 c
      exact a_pick [0, 1, 2, 3] rfl H
    have B24 : ((band (sx G i) 63) = 24) → LT G 972 [(0, rv 900), (1, rv 1), (2, rv 85), (3, iv i)] [] h := by
      intro c
      replace H := H.2.2.2.2.2.2.2.2.2.2.2.2.2.2.2.2.2.2.2.2.2.2.2.2.1 c
      exact a_pick [0, 1, 2, 3] rfl H
    have B25 : ((band (sx G i) 63) = 25) → LT G 995 [(0, rv 900), (1, rv 1), (2, rv 85), (3, iv i)] [] h := by
      intro c
      replace H := H.2.2.2.2.2.2.2.2.2.2.2.2.2.2.2.2.2.2.2.2.2.2.2.2.2.1 c
      exact a_pick [0, 1, 2, 3] rfl H
    have B26 : ((band (sx G i) 63) = 26) → LT G 1008 [(0, rv 900), (1, rv 1), (2, rv 85), (3, iv i)] [] h := by
      intro c
      replace H := H.2.2.2.2.2.2.2.2.2.2.2.2.2.2.2.2.2.2.2.2.2.2.2.2.2.2.1 c
      exact a_pick [0, 1, 2, 3] rfl H
    have B27 : ((band (sx G i) 63) = 27) → LT G 1031 [(0, rv 900), (1, rv 1), (2, rv 85), (3, iv i)] [] h := by
      intro c
      replace H := H.2.2.2.2.2.2.2.2.2.2.2.2.2.2.2.2.2.2.2.2.2.2.2.2.2.2.2.1 c
      exact a_pick [0, 1, 2, 3] rfl H
    have B28 : ((band (sx G i) 63) = 28) → LT G 1054 [(0, rv 900), (1, rv 1), (2, rv 85), (3, iv i)] [] h := by
      intro c
      replace H := H.2.2.2.2.2.2.2.2.2.2.2.2.2.2.2.2.2.2.2.2.2.2.2.2.2.2.2.2.1 c
      exact a_pick [0, 1, 2, 3] rfl H
    have B29 : ((band (sx G i) 63) = 29) → LT G 1107 [(0, rv 900), (1, rv 1), (2, rv 85), (3, iv i)] [] h := by
      intro c
      replace H := H.2.2.2.2.2.2.2.2.2.2.2.2.2.2.2.2.2.2.2.2.2.2.2.2.2.2.2.2.2.1 c
      exact a_pick [0, 1, 2, 3] rfl H
    have B30 : ((band (sx G i) 63) = 30) → LT G 1130 [(0, rv 900), (1, rv 1), (2, rv 85), (3, iv i)] [] h := by
      intro c
      replace H := H.2.2.2.2.2.2.2.2.2.2.2.2.2.2.2.2.2.2.2.2.2.2.2.2.2.2.2.2.2.2.1 c
      exact a_pick [0, 1, 2, 3] rfl H
    have B31 : ((band (sx G i) 63) = 31) → LT G 1143 [(0, rv 900), (1, rv 1), (2, rv 85), (3, iv i)] [] h := by
      intro c
      replace H := H.2.2.2.2.2.2.2.2.2.2.2.2.2.2.2.2.2.2.2.2.2.2.2.2.2.2.2.2.2.2.2.1 c
      exact a_pick [0, 1, 2, 3] rfl H
    have B32 : ((band (sx G i) 63) = 32) → LT G 1166 [(0, rv 900), (1, rv 1), (2, rv 85), (3, iv i)] [] h := by
      intro c
      replace H := H.2.2.2.2.2.2.2.2.2.2.2.2.2.2.2.2.2.2.2.2.2.2.2.2.2.2.2.2.2.2.2.2.1 c
      exact a_pick [0, 1, 2, 3] rfl H
    have B33 : ((band (sx G i) 63) = 33) → LT G 1225 [(0, rv 900), (1, rv 1), (2, rv 85), (3, iv i)] [] h := by
      intro c
      replace H := H.2.2.2.2.2.2.2.2.2.2.2.2.2.2.2.2.2.2.2.2.2.2.2.2.2.2.2.2.2.2.2.2.2.1 c
      exact a_pick [0, 1, 2, 3] rfl H
    have BD : (((band (sx G i) 63) < 0 ∨ 33 < (band (sx G i) 63))) → LT G 1278 [(0, rv 900), (1, rv 1), (2, rv 85), (3, iv i)] [] h := by
      intro c
      replace H := H.2.2.2.2.2.2.2.2.2.2.2.2.2.2.2.2.2.2.2.2.2.2.2.2.2.2.2.2.2.2.2.2.2.2 c
      exact a_pick [0, 1, 2, 3] rfl H
    exact a_tsw [184, 247, 270, 293, 326, 339, 362, 415, 468, 517, 550, 593, 616, 649, 692, 735, 768, 791, 814, 847, 880, 913, 946, 959, 972, 995, 1008, 1031, 1054, 1107, 1130, 1143, 1166, 1225] (pc := 33) (dk dt_L_law_0 21 rfl) (by decide) (dt := 1278) rfl (by decide) ⟨⟨fun c => B0 (c), fun c => B1 (c), fun c => B2 (c), fun c => B3 (c), fun c => B4 (c), fun c => B5 (c), fun c => B6 (c), fun c => B7 (c), fun c => B8 (c), fun c => B9 (c), fun c => B10 (c), fun c => B11 (c), fun c => B12 (c), fun c => B13 (c), fun c => B14 (c), fun c => B15 (c), fun c => B16 (c), fun c => B17 (c), fun c => B18 (c), fun c => B19 (c), fun c => B20 (c), fun c => B21 (c), fun c => B22 (c), fun c => B23 (c), fun c => B24 (c), fun c => B25 (c), fun c => B26 (c), fun c => B27 (c), fun c => B28 (c), fun c => B29 (c), fun c => B30 (c), fun c => B31 (c), fun c => B32 (c), fun c => B33 (c), trivial⟩, fun c => BD (c)⟩
set_option maxHeartbeats 40000000 in
theorem LC_0 {G : GG} {h : Hp} {i : Int} (hxs : ∀ j, i32 (G.2.2.2.2.2 j)) (hL : G.2.2.2.2.1 ≤ 3072) (H : (0 ≤ (w32 (i + 1)) ∧ (w32 (i + 1)) < (G.2.2.2.2.1 : Int)) ∧ (0 ≤ (w32 (i + 2)) ∧ (w32 (i + 2)) < (G.2.2.2.2.1 : Int)) ∧ (0 ≤ (w32 (i + 3)) ∧ (w32 (i + 3)) < (G.2.2.2.2.1 : Int)) ∧ (0 ≤ (w32 (i + 4)) ∧ (w32 (i + 4)) < (G.2.2.2.2.1 : Int)) ∧ (0 ≤ (w32 (i + 5)) ∧ (w32 (i + 5)) < (G.2.2.2.2.1 : Int)) ∧ Call G m_X11_feed [rv 1, iv (sx G (w32 (i + 1))), iv (sx G (w32 (i + 2))), iv (sx G (w32 (i + 3))), iv (sx G (w32 (i + 4))), iv (sx G (w32 (i + 5)))] h (fun r1 h2 => (0 ≤ (w32 (i + 1)) ∧ (w32 (i + 1)) < (G.2.2.2.2.1 : Int)) ∧ (0 ≤ (w32 (i + 2)) ∧ (w32 (i + 2)) < (G.2.2.2.2.1 : Int)) ∧ (0 ≤ (w32 (i + 3)) ∧ (w32 (i + 3)) < (G.2.2.2.2.1 : Int)) ∧ (0 ≤ (w32 (i + 4)) ∧ (w32 (i + 4)) < (G.2.2.2.2.1 : Int)) ∧ (0 ≤ (w32 (i + 5)) ∧ (w32 (i + 5)) < (G.2.2.2.2.1 : Int)) ∧ Call G m_X12_feed [rv 85, iv (sx G (w32 (i + 1))), iv (sx G (w32 (i + 2))), iv (sx G (w32 (i + 3))), iv (sx G (w32 (i + 4))), iv (sx G (w32 (i + 5)))] h2 (fun r3 h4 => ((r1 = r3 → LT G 1278 [(0, rv 900), (1, rv 1), (2, rv 85), (3, iv i)] [] h4) ∧ (r1 ≠ r3 → LT G 245 [] [] h4))))) : LT G 184 [(0, rv 900), (1, rv 1), (2, rv 85), (3, iv i)] [] h := by
  refine a_aload_n (pc := 184) (dk dt_L_law_0 22 rfl) rfl ?_
  refine a_aload_n (pc := 185) (dk dt_L_law_0 23 rfl) rfl ?_
  refine a_iload_n (pc := 186) (dk dt_L_law_0 24 rfl) rfl ?_
  refine a_iconst (pc := 187) (dk dt_L_law_0 25 rfl) (ik rfl) ?_
  refine a_iadd (pc := 188) (dk dt_L_law_0 26 rfl) ?_
  refine a_sld (hxs := hxs) (pc := 189) (dk dt_L_law_0 27 rfl) ⟨H.1, ?_⟩
  replace H := H.2
  refine a_aload_n (pc := 190) (dk dt_L_law_0 28 rfl) rfl ?_
  refine a_iload_n (pc := 191) (dk dt_L_law_0 29 rfl) rfl ?_
  refine a_iconst (pc := 192) (dk dt_L_law_0 30 rfl) (ik rfl) ?_
  refine a_iadd (pc := 193) (dk dt_L_law_0 31 rfl) ?_
  refine a_sld (hxs := hxs) (pc := 194) (dk dt_L_law_0 32 rfl) ⟨H.1, ?_⟩
  replace H := H.2
  refine a_aload_n (pc := 195) (dk dt_L_law_0 33 rfl) rfl ?_
  refine a_iload_n (pc := 196) (dk dt_L_law_0 34 rfl) rfl ?_
  refine a_iconst (pc := 197) (dk dt_L_law_0 35 rfl) (ik rfl) ?_
  refine a_iadd (pc := 198) (dk dt_L_law_0 36 rfl) ?_
  refine a_sld (hxs := hxs) (pc := 199) (dk dt_L_law_0 37 rfl) ⟨H.1, ?_⟩
  replace H := H.2
  refine a_aload_n (pc := 200) (dk dt_L_law_0 38 rfl) rfl ?_
  refine a_iload_n (pc := 201) (dk dt_L_law_0 39 rfl) rfl ?_
  refine a_iconst (pc := 202) (dk dt_L_law_0 40 rfl) (ik rfl) ?_
  refine a_iadd (pc := 203) (dk dt_L_law_0 41 rfl) ?_
  refine a_sld (hxs := hxs) (pc := 204) (dk dt_L_law_0 42 rfl) ⟨H.1, ?_⟩
  replace H := H.2
  refine a_aload_n (pc := 205) (dk dt_L_law_0 43 rfl) rfl ?_
  refine a_iload_n (pc := 206) (dk dt_L_law_0 44 rfl) rfl ?_
  refine a_iconst (pc := 207) (dk dt_L_law_1 0 rfl) (ik rfl) ?_
  refine a_iadd (pc := 208) (dk dt_L_law_1 1 rfl) ?_
  refine a_sld (hxs := hxs) (pc := 209) (dk dt_L_law_1 2 rfl) ⟨H.1, ?_⟩
  replace H := H.2
  refine a_callVi (as := [iv (sx G (w32 (i + 1))), iv (sx G (w32 (i + 2))), iv (sx G (w32 (i + 3))), iv (sx G (w32 (i + 4))), iv (sx G (w32 (i + 5)))]) (st := []) (pc := 210) (dk dt_L_law_1 3 rfl) cl_RL_13 ⟨Nat.le_of_ble_eq_true rfl, Nat.le_of_ble_eq_true rfl⟩ ⟨Nat.le_of_ble_eq_true rfl, Nat.le_of_ble_eq_true rfl⟩ cls_11 rfl cc_1 rfl rfl rfl (Nat.le_of_ble_eq_true rfl) (Call.mono H fun r1 h2 H => ?_)
  refine a_aload_n (pc := 213) (dk dt_L_law_1 4 rfl) rfl ?_
  refine a_aload_n (pc := 214) (dk dt_L_law_1 5 rfl) rfl ?_
  refine a_iload_n (pc := 215) (dk dt_L_law_1 6 rfl) rfl ?_
  refine a_iconst (pc := 216) (dk dt_L_law_1 7 rfl) (ik rfl) ?_
  refine a_iadd (pc := 217) (dk dt_L_law_1 8 rfl) ?_
  refine a_sld (hxs := hxs) (pc := 218) (dk dt_L_law_1 9 rfl) ⟨H.1, ?_⟩
  replace H := H.2
  refine a_aload_n (pc := 219) (dk dt_L_law_1 10 rfl) rfl ?_
  refine a_iload_n (pc := 220) (dk dt_L_law_1 11 rfl) rfl ?_
  refine a_iconst (pc := 221) (dk dt_L_law_1 12 rfl) (ik rfl) ?_
  refine a_iadd (pc := 222) (dk dt_L_law_1 13 rfl) ?_
  refine a_sld (hxs := hxs) (pc := 223) (dk dt_L_law_1 14 rfl) ⟨H.1, ?_⟩
  replace H := H.2
  refine a_aload_n (pc := 224) (dk dt_L_law_1 15 rfl) rfl ?_
  refine a_iload_n (pc := 225) (dk dt_L_law_1 16 rfl) rfl ?_
  refine a_iconst (pc := 226) (dk dt_L_law_1 17 rfl) (ik rfl) ?_
  refine a_iadd (pc := 227) (dk dt_L_law_1 18 rfl) ?_
  refine a_sld (hxs := hxs) (pc := 228) (dk dt_L_law_1 19 rfl) ⟨H.1, ?_⟩
  replace H := H.2
  refine a_aload_n (pc := 229) (dk dt_L_law_1 20 rfl) rfl ?_
  refine a_iload_n (pc := 230) (dk dt_L_law_1 21 rfl) rfl ?_
  refine a_iconst (pc := 231) (dk dt_L_law_1 22 rfl) (ik rfl) ?_
  refine a_iadd (pc := 232) (dk dt_L_law_1 23 rfl) ?_
  refine a_sld (hxs := hxs) (pc := 233) (dk dt_L_law_1 24 rfl) ⟨H.1, ?_⟩
  replace H := H.2
  refine a_aload_n (pc := 234) (dk dt_L_law_1 25 rfl) rfl ?_
  refine a_iload_n (pc := 235) (dk dt_L_law_1 26 rfl) rfl ?_
  refine a_iconst (pc := 236) (dk dt_L_law_1 27 rfl) (ik rfl) ?_
  refine a_iadd (pc := 237) (dk dt_L_law_1 28 rfl) ?_
  refine a_sld (hxs := hxs) (pc := 238) (dk dt_L_law_1 29 rfl) ⟨H.1, ?_⟩
  replace H := H.2
  refine a_callVi (as := [iv (sx G (w32 (i + 1))), iv (sx G (w32 (i + 2))), iv (sx G (w32 (i + 3))), iv (sx G (w32 (i + 4))), iv (sx G (w32 (i + 5)))]) (st := [iv r1]) (pc := 239) (dk dt_L_law_1 30 rfl) cl_RL_17 ⟨Nat.le_of_ble_eq_true rfl, Nat.le_of_ble_eq_true rfl⟩ ⟨Nat.le_of_ble_eq_true rfl, Nat.le_of_ble_eq_true rfl⟩ cls_12 rfl cc_85 rfl rfl rfl (Nat.le_of_ble_eq_true rfl) (Call.mono H fun r3 h4 H => ?_)
  refine a_icmp_eq (pc := 242) (dk dt_L_law_1 31 rfl) (tgt := 1278) rfl ⟨fun c => ?_, fun c => ?_⟩
  · replace H := H.1 c
    exact a_pick [0, 1, 2, 3] rfl H
  · replace H := H.2 c
    exact a_pick [] rfl H
set_option maxHeartbeats 40000000 in
theorem LC_1 {G : GG} {h : Hp} {i : Int} (hxs : ∀ j, i32 (G.2.2.2.2.2 j)) (hL : G.2.2.2.2.1 ≤ 3072) (H : (0 ≤ (w32 (i + 1)) ∧ (w32 (i + 1)) < (G.2.2.2.2.1 : Int)) ∧ Call G m_X11_end [rv 1, iv (sx G (w32 (i + 1)))] h (fun r1 h2 => (0 ≤ (w32 (i + 1)) ∧ (w32 (i + 1)) < (G.2.2.2.2.1 : Int)) ∧ Call G m_X12_end [rv 85, iv (sx G (w32 (i + 1)))] h2 (fun r3 h4 => ((r1 = r3 → LT G 1278 [(0, rv 900), (1, rv 1), (2, rv 85), (3, iv i)] [] h4) ∧ (r1 ≠ r3 → LT G 268 [] [] h4))))) : LT G 247 [(0, rv 900), (1, rv 1), (2, rv 85), (3, iv i)] [] h := by
  refine a_aload_n (pc := 247) (dk dt_L_law_1 34 rfl) rfl ?_
  refine a_aload_n (pc := 248) (dk dt_L_law_1 35 rfl) rfl ?_
  refine a_iload_n (pc := 249) (dk dt_L_law_1 36 rfl) rfl ?_
  refine a_iconst (pc := 250) (dk dt_L_law_1 37 rfl) (ik rfl) ?_
  refine a_iadd (pc := 251) (dk dt_L_law_1 38 rfl) ?_
  refine a_sld (hxs := hxs) (pc := 252) (dk dt_L_law_1 39 rfl) ⟨H.1, ?_⟩
  replace H := H.2
  refine a_callVi (as := [iv (sx G (w32 (i + 1)))]) (st := []) (pc := 253) (dk dt_L_law_1 40 rfl) cl_RL_18 ⟨Nat.le_of_ble_eq_true rfl, Nat.le_of_ble_eq_true rfl⟩ ⟨Nat.le_of_ble_eq_true rfl, Nat.le_of_ble_eq_true rfl⟩ cls_11 rfl cc_1 rfl rfl rfl (Nat.le_of_ble_eq_true rfl) (Call.mono H fun r1 h2 H => ?_)
  refine a_aload_n (pc := 256) (dk dt_L_law_1 41 rfl) rfl ?_
  refine a_aload_n (pc := 257) (dk dt_L_law_1 42 rfl) rfl ?_
  refine a_iload_n (pc := 258) (dk dt_L_law_1 43 rfl) rfl ?_
  refine a_iconst (pc := 259) (dk dt_L_law_1 44 rfl) (ik rfl) ?_
  refine a_iadd (pc := 260) (dk dt_L_law_2 0 rfl) ?_
  refine a_sld (hxs := hxs) (pc := 261) (dk dt_L_law_2 1 rfl) ⟨H.1, ?_⟩
  replace H := H.2
  refine a_callVi (as := [iv (sx G (w32 (i + 1)))]) (st := [iv r1]) (pc := 262) (dk dt_L_law_2 2 rfl) cl_RL_22 ⟨Nat.le_of_ble_eq_true rfl, Nat.le_of_ble_eq_true rfl⟩ ⟨Nat.le_of_ble_eq_true rfl, Nat.le_of_ble_eq_true rfl⟩ cls_12 rfl cc_85 rfl rfl rfl (Nat.le_of_ble_eq_true rfl) (Call.mono H fun r3 h4 H => ?_)
  refine a_icmp_eq (pc := 265) (dk dt_L_law_2 3 rfl) (tgt := 1278) rfl ⟨fun c => ?_, fun c => ?_⟩
  · replace H := H.1 c
    exact a_pick [0, 1, 2, 3] rfl H
  · replace H := H.2 c
    exact a_pick [] rfl H
set_option maxHeartbeats 40000000 in
theorem LC_2 {G : GG} {h : Hp} {i : Int} (hxs : ∀ j, i32 (G.2.2.2.2.2 j)) (hL : G.2.2.2.2.1 ≤ 3072) (H : (0 ≤ (w32 (i + 1)) ∧ (w32 (i + 1)) < (G.2.2.2.2.1 : Int)) ∧ Call G m_X11_out [rv 1, iv (sx G (w32 (i + 1)))] h (fun r1 h2 => (0 ≤ (w32 (i + 1)) ∧ (w32 (i + 1)) < (G.2.2.2.2.1 : Int)) ∧ Call G m_X12_out [rv 85, iv (sx G (w32 (i + 1)))] h2 (fun r3 h4 => ((r1 = r3 → LT G 1278 [(0, rv 900), (1, rv 1), (2, rv 85), (3, iv i)] [] h4) ∧ (r1 ≠ r3 → LT G 291 [] [] h4))))) : LT G 270 [(0, rv 900), (1, rv 1), (2, rv 85), (3, iv i)] [] h := by
  refine a_aload_n (pc := 270) (dk dt_L_law_2 6 rfl) rfl ?_
  refine a_aload_n (pc := 271) (dk dt_L_law_2 7 rfl) rfl ?_
  refine a_iload_n (pc := 272) (dk dt_L_law_2 8 rfl) rfl ?_
  refine a_iconst (pc := 273) (dk dt_L_law_2 9 rfl) (ik rfl) ?_
  refine a_iadd (pc := 274) (dk dt_L_law_2 10 rfl) ?_
  refine a_sld (hxs := hxs) (pc := 275) (dk dt_L_law_2 11 rfl) ⟨H.1, ?_⟩
  replace H := H.2
  refine a_callVi (as := [iv (sx G (w32 (i + 1)))]) (st := []) (pc := 276) (dk dt_L_law_2 12 rfl) cl_RL_23 ⟨Nat.le_of_ble_eq_true rfl, Nat.le_of_ble_eq_true rfl⟩ ⟨Nat.le_of_ble_eq_true rfl, Nat.le_of_ble_eq_true rfl⟩ cls_11 rfl cc_1 rfl rfl rfl (Nat.le_of_ble_eq_true rfl) (Call.mono H fun r1 h2 H => ?_)
  refine a_aload_n (pc := 279) (dk dt_L_law_2 13 rfl) rfl ?_
  refine a_aload_n (pc := 280) (dk dt_L_law_2 14 rfl) rfl ?_
  refine a_iload_n (pc := 281) (dk dt_L_law_2 15 rfl) rfl ?_
  refine a_iconst (pc := 282) (dk dt_L_law_2 16 rfl) (ik rfl) ?_
  refine a_iadd (pc := 283) (dk dt_L_law_2 17 rfl) ?_
  refine a_sld (hxs := hxs) (pc := 284) (dk dt_L_law_2 18 rfl) ⟨H.1, ?_⟩
  replace H := H.2
  refine a_callVi (as := [iv (sx G (w32 (i + 1)))]) (st := [iv r1]) (pc := 285) (dk dt_L_law_2 19 rfl) cl_RL_26 ⟨Nat.le_of_ble_eq_true rfl, Nat.le_of_ble_eq_true rfl⟩ ⟨Nat.le_of_ble_eq_true rfl, Nat.le_of_ble_eq_true rfl⟩ cls_12 rfl cc_85 rfl rfl rfl (Nat.le_of_ble_eq_true rfl) (Call.mono H fun r3 h4 H => ?_)
  refine a_icmp_eq (pc := 288) (dk dt_L_law_2 20 rfl) (tgt := 1278) rfl ⟨fun c => ?_, fun c => ?_⟩
  · replace H := H.1 c
    exact a_pick [0, 1, 2, 3] rfl H
  · replace H := H.2 c
    exact a_pick [] rfl H
set_option maxHeartbeats 40000000 in
theorem LC_3 {G : GG} {h : Hp} {i : Int} (hxs : ∀ j, i32 (G.2.2.2.2.2 j)) (hL : G.2.2.2.2.1 ≤ 3072) (H : (0 ≤ (w32 (i + 1)) ∧ (w32 (i + 1)) < (G.2.2.2.2.1 : Int)) ∧ (0 ≤ (w32 (i + 2)) ∧ (w32 (i + 2)) < (G.2.2.2.2.1 : Int)) ∧ Call G m_X11_leap [rv 1, iv (sx G (w32 (i + 1))), iv (sx G (w32 (i + 2)))] h (fun r1 h2 => (0 ≤ (w32 (i + 1)) ∧ (w32 (i + 1)) < (G.2.2.2.2.1 : Int)) ∧ (0 ≤ (w32 (i + 2)) ∧ (w32 (i + 2)) < (G.2.2.2.2.1 : Int)) ∧ Call G m_X12_leap [rv 85, iv (sx G (w32 (i + 1))), iv (sx G (w32 (i + 2)))] h2 (fun r3 h4 => ((r1 = r3 → LT G 1278 [(0, rv 900), (1, rv 1), (2, rv 85), (3, iv i)] [] h4) ∧ (r1 ≠ r3 → LT G 324 [] [] h4))))) : LT G 293 [(0, rv 900), (1, rv 1), (2, rv 85), (3, iv i)] [] h := by
  refine a_aload_n (pc := 293) (dk dt_L_law_2 23 rfl) rfl ?_
  refine a_aload_n (pc := 294) (dk dt_L_law_2 24 rfl) rfl ?_
  refine a_iload_n (pc := 295) (dk dt_L_law_2 25 rfl) rfl ?_
  refine a_iconst (pc := 296) (dk dt_L_law_2 26 rfl) (ik rfl) ?_
  refine a_iadd (pc := 297) (dk dt_L_law_2 27 rfl) ?_
  refine a_sld (hxs := hxs) (pc := 298) (dk dt_L_law_2 28 rfl) ⟨H.1, ?_⟩
  replace H := H.2
  refine a_aload_n (pc := 299) (dk dt_L_law_2 29 rfl) rfl ?_
  refine a_iload_n (pc := 300) (dk dt_L_law_2 30 rfl) rfl ?_
  refine a_iconst (pc := 301) (dk dt_L_law_2 31 rfl) (ik rfl) ?_
  refine a_iadd (pc := 302) (dk dt_L_law_2 32 rfl) ?_
  refine a_sld (hxs := hxs) (pc := 303) (dk dt_L_law_2 33 rfl) ⟨H.1, ?_⟩
  replace H := H.2
  refine a_callVi (as := [iv (sx G (w32 (i + 1))), iv (sx G (w32 (i + 2)))]) (st := []) (pc := 304) (dk dt_L_law_2 34 rfl) cl_RL_27 ⟨Nat.le_of_ble_eq_true rfl, Nat.le_of_ble_eq_true rfl⟩ ⟨Nat.le_of_ble_eq_true rfl, Nat.le_of_ble_eq_true rfl⟩ cls_11 rfl cc_1 rfl rfl rfl (Nat.le_of_ble_eq_true rfl) (Call.mono H fun r1 h2 H => ?_)
  refine a_aload_n (pc := 307) (dk dt_L_law_2 35 rfl) rfl ?_
  refine a_aload_n (pc := 308) (dk dt_L_law_2 36 rfl) rfl ?_
  refine a_iload_n (pc := 309) (dk dt_L_law_2 37 rfl) rfl ?_
  refine a_iconst (pc := 310) (dk dt_L_law_2 38 rfl) (ik rfl) ?_
  refine a_iadd (pc := 311) (dk dt_L_law_2 39 rfl) ?_
  refine a_sld (hxs := hxs) (pc := 312) (dk dt_L_law_2 40 rfl) ⟨H.1, ?_⟩
  replace H := H.2
  refine a_aload_n (pc := 313) (dk dt_L_law_2 41 rfl) rfl ?_
  refine a_iload_n (pc := 314) (dk dt_L_law_2 42 rfl) rfl ?_
  refine a_iconst (pc := 315) (dk dt_L_law_2 43 rfl) (ik rfl) ?_
  refine a_iadd (pc := 316) (dk dt_L_law_2 44 rfl) ?_
  refine a_sld (hxs := hxs) (pc := 317) (dk dt_L_law_3 0 rfl) ⟨H.1, ?_⟩
  replace H := H.2
  refine a_callVi (as := [iv (sx G (w32 (i + 1))), iv (sx G (w32 (i + 2)))]) (st := [iv r1]) (pc := 318) (dk dt_L_law_3 1 rfl) cl_RL_31 ⟨Nat.le_of_ble_eq_true rfl, Nat.le_of_ble_eq_true rfl⟩ ⟨Nat.le_of_ble_eq_true rfl, Nat.le_of_ble_eq_true rfl⟩ cls_12 rfl cc_85 rfl rfl rfl (Nat.le_of_ble_eq_true rfl) (Call.mono H fun r3 h4 H => ?_)
  refine a_icmp_eq (pc := 321) (dk dt_L_law_3 2 rfl) (tgt := 1278) rfl ⟨fun c => ?_, fun c => ?_⟩
  · replace H := H.1 c
    exact a_pick [0, 1, 2, 3] rfl H
  · replace H := H.2 c
    exact a_pick [] rfl H
set_option maxHeartbeats 40000000 in
theorem LC_4 {G : GG} {h : Hp} {i : Int} (hxs : ∀ j, i32 (G.2.2.2.2.2 j)) (hL : G.2.2.2.2.1 ≤ 3072) (H : Call G m_X11_date [rv 1] h (fun r1 h2 => Call G m_X12_date [rv 85] h2 (fun r3 h4 => ((r1 = r3 → LT G 1278 [(0, rv 900), (1, rv 1), (2, rv 85), (3, iv i)] [] h4) ∧ (r1 ≠ r3 → LT G 337 [] [] h4))))) : LT G 326 [(0, rv 900), (1, rv 1), (2, rv 85), (3, iv i)] [] h := by
  refine a_aload_n (pc := 326) (dk dt_L_law_3 5 rfl) rfl ?_
  refine a_callVi (as := []) (st := []) (pc := 327) (dk dt_L_law_3 6 rfl) cl_RL_32 ⟨Nat.le_of_ble_eq_true rfl, Nat.le_of_ble_eq_true rfl⟩ ⟨Nat.le_of_ble_eq_true rfl, Nat.le_of_ble_eq_true rfl⟩ cls_11 rfl cc_1 rfl rfl rfl (Nat.le_of_ble_eq_true rfl) (Call.mono H fun r1 h2 H => ?_)
  refine a_aload_n (pc := 330) (dk dt_L_law_3 7 rfl) rfl ?_
  refine a_callVi (as := []) (st := [iv r1]) (pc := 331) (dk dt_L_law_3 8 rfl) cl_RL_36 ⟨Nat.le_of_ble_eq_true rfl, Nat.le_of_ble_eq_true rfl⟩ ⟨Nat.le_of_ble_eq_true rfl, Nat.le_of_ble_eq_true rfl⟩ cls_12 rfl cc_85 rfl rfl rfl (Nat.le_of_ble_eq_true rfl) (Call.mono H fun r3 h4 H => ?_)
  refine a_icmp_eq (pc := 334) (dk dt_L_law_3 9 rfl) (tgt := 1278) rfl ⟨fun c => ?_, fun c => ?_⟩
  · replace H := H.1 c
    exact a_pick [0, 1, 2, 3] rfl H
  · replace H := H.2 c
    exact a_pick [] rfl H
set_option maxHeartbeats 40000000 in
theorem LC_5 {G : GG} {h : Hp} {i : Int} (hxs : ∀ j, i32 (G.2.2.2.2.2 j)) (hL : G.2.2.2.2.1 ≤ 3072) (H : (0 ≤ (w32 (i + 1)) ∧ (w32 (i + 1)) < (G.2.2.2.2.1 : Int)) ∧ Call G m_X11_written [rv 1, iv (sx G (w32 (i + 1)))] h (fun r1 h2 => (0 ≤ (w32 (i + 1)) ∧ (w32 (i + 1)) < (G.2.2.2.2.1 : Int)) ∧ Call G m_X12_written [rv 85, iv (sx G (w32 (i + 1)))] h2 (fun r3 h4 => ((r1 = r3 → LT G 1278 [(0, rv 900), (1, rv 1), (2, rv 85), (3, iv i)] [] h4) ∧ (r1 ≠ r3 → LT G 360 [] [] h4))))) : LT G 339 [(0, rv 900), (1, rv 1), (2, rv 85), (3, iv i)] [] h := by
  refine a_aload_n (pc := 339) (dk dt_L_law_3 12 rfl) rfl ?_
  refine a_aload_n (pc := 340) (dk dt_L_law_3 13 rfl) rfl ?_
  refine a_iload_n (pc := 341) (dk dt_L_law_3 14 rfl) rfl ?_
  refine a_iconst (pc := 342) (dk dt_L_law_3 15 rfl) (ik rfl) ?_
  refine a_iadd (pc := 343) (dk dt_L_law_3 16 rfl) ?_
  refine a_sld (hxs := hxs) (pc := 344) (dk dt_L_law_3 17 rfl) ⟨H.1, ?_⟩
  replace H := H.2
  refine a_callVi (as := [iv (sx G (w32 (i + 1)))]) (st := []) (pc := 345) (dk dt_L_law_3 18 rfl) cl_RL_37 ⟨Nat.le_of_ble_eq_true rfl, Nat.le_of_ble_eq_true rfl⟩ ⟨Nat.le_of_ble_eq_true rfl, Nat.le_of_ble_eq_true rfl⟩ cls_11 rfl cc_1 rfl rfl rfl (Nat.le_of_ble_eq_true rfl) (Call.mono H fun r1 h2 H => ?_)
  refine a_aload_n (pc := 348) (dk dt_L_law_3 19 rfl) rfl ?_
  refine a_aload_n (pc := 349) (dk dt_L_law_3 20 rfl) rfl ?_
  refine a_iload_n (pc := 350) (dk dt_L_law_3 21 rfl) rfl ?_
  refine a_iconst (pc := 351) (dk dt_L_law_3 22 rfl) (ik rfl) ?_
  refine a_iadd (pc := 352) (dk dt_L_law_3 23 rfl) ?_
  refine a_sld (hxs := hxs) (pc := 353) (dk dt_L_law_3 24 rfl) ⟨H.1, ?_⟩
  replace H := H.2
  refine a_callVi (as := [iv (sx G (w32 (i + 1)))]) (st := [iv r1]) (pc := 354) (dk dt_L_law_3 25 rfl) cl_RL_40 ⟨Nat.le_of_ble_eq_true rfl, Nat.le_of_ble_eq_true rfl⟩ ⟨Nat.le_of_ble_eq_true rfl, Nat.le_of_ble_eq_true rfl⟩ cls_12 rfl cc_85 rfl rfl rfl (Nat.le_of_ble_eq_true rfl) (Call.mono H fun r3 h4 H => ?_)
  refine a_icmp_eq (pc := 357) (dk dt_L_law_3 26 rfl) (tgt := 1278) rfl ⟨fun c => ?_, fun c => ?_⟩
  · replace H := H.1 c
    exact a_pick [0, 1, 2, 3] rfl H
  · replace H := H.2 c
    exact a_pick [] rfl H
set_option maxHeartbeats 40000000 in
theorem LC_6 {G : GG} {h : Hp} {i : Int} (hxs : ∀ j, i32 (G.2.2.2.2.2 j)) (hL : G.2.2.2.2.1 ≤ 3072) (H : (0 ≤ (w32 (i + 1)) ∧ (w32 (i + 1)) < (G.2.2.2.2.1 : Int)) ∧ (0 ≤ (w32 (i + 2)) ∧ (w32 (i + 2)) < (G.2.2.2.2.1 : Int)) ∧ (0 ≤ (w32 (i + 3)) ∧ (w32 (i + 3)) < (G.2.2.2.2.1 : Int)) ∧ (0 ≤ (w32 (i + 4)) ∧ (w32 (i + 4)) < (G.2.2.2.2.1 : Int)) ∧ Call G m_X11_orbit [rv 1, iv (sx G (w32 (i + 1))), iv (sx G (w32 (i + 2))), iv (sx G (w32 (i + 3))), iv (sx G (w32 (i + 4)))] h (fun r1 h2 => (0 ≤ (w32 (i + 1)) ∧ (w32 (i + 1)) < (G.2.2.2.2.1 : Int)) ∧ (0 ≤ (w32 (i + 2)) ∧ (w32 (i + 2)) < (G.2.2.2.2.1 : Int)) ∧ (0 ≤ (w32 (i + 3)) ∧ (w32 (i + 3)) < (G.2.2.2.2.1 : Int)) ∧ (0 ≤ (w32 (i + 4)) ∧ (w32 (i + 4)) < (G.2.2.2.2.1 : Int)) ∧ Call G m_X12_orbit [rv 85, iv (sx G (w32 (i + 1))), iv (sx G (w32 (i + 2))), iv (sx G (w32 (i + 3))), iv (sx G (w32 (i + 4)))] h2 (fun r3 h4 => ((r1 = r3 → LT G 1278 [(0, rv 900), (1, rv 1), (2, rv 85), (3, iv i)] [] h4) ∧ (r1 ≠ r3 → LT G 413 [] [] h4))))) : LT G 362 [(0, rv 900), (1, rv 1), (2, rv 85), (3, iv i)] [] h := by
  refine a_aload_n (pc := 362) (dk dt_L_law_3 29 rfl) rfl ?_
  refine a_aload_n (pc := 363) (dk dt_L_law_3 30 rfl) rfl ?_
  refine a_iload_n (pc := 364) (dk dt_L_law_3 31 rfl) rfl ?_
  refine a_iconst (pc := 365) (dk dt_L_law_3 32 rfl) (ik rfl) ?_
  refine a_iadd (pc := 366) (dk dt_L_law_3 33 rfl) ?_
  refine a_sld (hxs := hxs) (pc := 367) (dk dt_L_law_3 34 rfl) ⟨H.1, ?_⟩
  replace H := H.2
  refine a_aload_n (pc := 368) (dk dt_L_law_3 35 rfl) rfl ?_
  refine a_iload_n (pc := 369) (dk dt_L_law_3 36 rfl) rfl ?_
  refine a_iconst (pc := 370) (dk dt_L_law_3 37 rfl) (ik rfl) ?_
  refine a_iadd (pc := 371) (dk dt_L_law_3 38 rfl) ?_
  refine a_sld (hxs := hxs) (pc := 372) (dk dt_L_law_3 39 rfl) ⟨H.1, ?_⟩
  replace H := H.2
  refine a_aload_n (pc := 373) (dk dt_L_law_3 40 rfl) rfl ?_
  refine a_iload_n (pc := 374) (dk dt_L_law_3 41 rfl) rfl ?_
  refine a_iconst (pc := 375) (dk dt_L_law_3 42 rfl) (ik rfl) ?_
  refine a_iadd (pc := 376) (dk dt_L_law_3 43 rfl) ?_
  refine a_sld (hxs := hxs) (pc := 377) (dk dt_L_law_3 44 rfl) ⟨H.1, ?_⟩
  replace H := H.2
  refine a_aload_n (pc := 378) (dk dt_L_law_4 0 rfl) rfl ?_
  refine a_iload_n (pc := 379) (dk dt_L_law_4 1 rfl) rfl ?_
  refine a_iconst (pc := 380) (dk dt_L_law_4 2 rfl) (ik rfl) ?_
  refine a_iadd (pc := 381) (dk dt_L_law_4 3 rfl) ?_
  refine a_sld (hxs := hxs) (pc := 382) (dk dt_L_law_4 4 rfl) ⟨H.1, ?_⟩
  replace H := H.2
  refine a_callVi (as := [iv (sx G (w32 (i + 1))), iv (sx G (w32 (i + 2))), iv (sx G (w32 (i + 3))), iv (sx G (w32 (i + 4)))]) (st := []) (pc := 383) (dk dt_L_law_4 5 rfl) cl_RL_41 ⟨Nat.le_of_ble_eq_true rfl, Nat.le_of_ble_eq_true rfl⟩ ⟨Nat.le_of_ble_eq_true rfl, Nat.le_of_ble_eq_true rfl⟩ cls_11 rfl cc_1 rfl rfl rfl (Nat.le_of_ble_eq_true rfl) (Call.mono H fun r1 h2 H => ?_)
  refine a_aload_n (pc := 386) (dk dt_L_law_4 6 rfl) rfl ?_
  refine a_aload_n (pc := 387) (dk dt_L_law_4 7 rfl) rfl ?_
  refine a_iload_n (pc := 388) (dk dt_L_law_4 8 rfl) rfl ?_
  refine a_iconst (pc := 389) (dk dt_L_law_4 9 rfl) (ik rfl) ?_
  refine a_iadd (pc := 390) (dk dt_L_law_4 10 rfl) ?_
  refine a_sld (hxs := hxs) (pc := 391) (dk dt_L_law_4 11 rfl) ⟨H.1, ?_⟩
  replace H := H.2
  refine a_aload_n (pc := 392) (dk dt_L_law_4 12 rfl) rfl ?_
  refine a_iload_n (pc := 393) (dk dt_L_law_4 13 rfl) rfl ?_
  refine a_iconst (pc := 394) (dk dt_L_law_4 14 rfl) (ik rfl) ?_
  refine a_iadd (pc := 395) (dk dt_L_law_4 15 rfl) ?_
  refine a_sld (hxs := hxs) (pc := 396) (dk dt_L_law_4 16 rfl) ⟨H.1, ?_⟩
  replace H := H.2
  refine a_aload_n (pc := 397) (dk dt_L_law_4 17 rfl) rfl ?_
  refine a_iload_n (pc := 398) (dk dt_L_law_4 18 rfl) rfl ?_
  refine a_iconst (pc := 399) (dk dt_L_law_4 19 rfl) (ik rfl) ?_
  refine a_iadd (pc := 400) (dk dt_L_law_4 20 rfl) ?_
  refine a_sld (hxs := hxs) (pc := 401) (dk dt_L_law_4 21 rfl) ⟨H.1, ?_⟩
  replace H := H.2
  refine a_aload_n (pc := 402) (dk dt_L_law_4 22 rfl) rfl ?_
  refine a_iload_n (pc := 403) (dk dt_L_law_4 23 rfl) rfl ?_
  refine a_iconst (pc := 404) (dk dt_L_law_4 24 rfl) (ik rfl) ?_
  refine a_iadd (pc := 405) (dk dt_L_law_4 25 rfl) ?_
  refine a_sld (hxs := hxs) (pc := 406) (dk dt_L_law_4 26 rfl) ⟨H.1, ?_⟩
  replace H := H.2
  refine a_callVi (as := [iv (sx G (w32 (i + 1))), iv (sx G (w32 (i + 2))), iv (sx G (w32 (i + 3))), iv (sx G (w32 (i + 4)))]) (st := [iv r1]) (pc := 407) (dk dt_L_law_4 27 rfl) cl_RL_45 ⟨Nat.le_of_ble_eq_true rfl, Nat.le_of_ble_eq_true rfl⟩ ⟨Nat.le_of_ble_eq_true rfl, Nat.le_of_ble_eq_true rfl⟩ cls_12 rfl cc_85 rfl rfl rfl (Nat.le_of_ble_eq_true rfl) (Call.mono H fun r3 h4 H => ?_)
  refine a_icmp_eq (pc := 410) (dk dt_L_law_4 28 rfl) (tgt := 1278) rfl ⟨fun c => ?_, fun c => ?_⟩
  · replace H := H.1 c
    exact a_pick [0, 1, 2, 3] rfl H
  · replace H := H.2 c
    exact a_pick [] rfl H
set_option maxHeartbeats 40000000 in
theorem LC_7 {G : GG} {h : Hp} {i : Int} (hxs : ∀ j, i32 (G.2.2.2.2.2 j)) (hL : G.2.2.2.2.1 ≤ 3072) (H : (0 ≤ (w32 (i + 1)) ∧ (w32 (i + 1)) < (G.2.2.2.2.1 : Int)) ∧ (0 ≤ (w32 (i + 2)) ∧ (w32 (i + 2)) < (G.2.2.2.2.1 : Int)) ∧ (0 ≤ (w32 (i + 3)) ∧ (w32 (i + 3)) < (G.2.2.2.2.1 : Int)) ∧ (0 ≤ (w32 (i + 4)) ∧ (w32 (i + 4)) < (G.2.2.2.2.1 : Int)) ∧ Call G m_X11_station [rv 1, iv (sx G (w32 (i + 1))), iv (sx G (w32 (i + 2))), iv (sx G (w32 (i + 3))), iv (sx G (w32 (i + 4)))] h (fun r1 h2 => (0 ≤ (w32 (i + 1)) ∧ (w32 (i + 1)) < (G.2.2.2.2.1 : Int)) ∧ (0 ≤ (w32 (i + 2)) ∧ (w32 (i + 2)) < (G.2.2.2.2.1 : Int)) ∧ (0 ≤ (w32 (i + 3)) ∧ (w32 (i + 3)) < (G.2.2.2.2.1 : Int)) ∧ (0 ≤ (w32 (i + 4)) ∧ (w32 (i + 4)) < (G.2.2.2.2.1 : Int)) ∧ Call G m_X12_station [rv 85, iv (sx G (w32 (i + 1))), iv (sx G (w32 (i + 2))), iv (sx G (w32 (i + 3))), iv (sx G (w32 (i + 4)))] h2 (fun r3 h4 => ((r1 = r3 → LT G 1278 [(0, rv 900), (1, rv 1), (2, rv 85), (3, iv i)] [] h4) ∧ (r1 ≠ r3 → LT G 466 [] [] h4))))) : LT G 415 [(0, rv 900), (1, rv 1), (2, rv 85), (3, iv i)] [] h := by
  refine a_aload_n (pc := 415) (dk dt_L_law_4 31 rfl) rfl ?_
  refine a_aload_n (pc := 416) (dk dt_L_law_4 32 rfl) rfl ?_
  refine a_iload_n (pc := 417) (dk dt_L_law_4 33 rfl) rfl ?_
  refine a_iconst (pc := 418) (dk dt_L_law_4 34 rfl) (ik rfl) ?_
  refine a_iadd (pc := 419) (dk dt_L_law_4 35 rfl) ?_
  refine a_sld (hxs := hxs) (pc := 420) (dk dt_L_law_4 36 rfl) ⟨H.1, ?_⟩
  replace H := H.2
  refine a_aload_n (pc := 421) (dk dt_L_law_4 37 rfl) rfl ?_
  refine a_iload_n (pc := 422) (dk dt_L_law_4 38 rfl) rfl ?_
  refine a_iconst (pc := 423) (dk dt_L_law_4 39 rfl) (ik rfl) ?_
  refine a_iadd (pc := 424) (dk dt_L_law_4 40 rfl) ?_
  refine a_sld (hxs := hxs) (pc := 425) (dk dt_L_law_4 41 rfl) ⟨H.1, ?_⟩
  replace H := H.2
  refine a_aload_n (pc := 426) (dk dt_L_law_4 42 rfl) rfl ?_
  refine a_iload_n (pc := 427) (dk dt_L_law_4 43 rfl) rfl ?_
  refine a_iconst (pc := 428) (dk dt_L_law_4 44 rfl) (ik rfl) ?_
  refine a_iadd (pc := 429) (dk dt_L_law_5 0 rfl) ?_
  refine a_sld (hxs := hxs) (pc := 430) (dk dt_L_law_5 1 rfl) ⟨H.1, ?_⟩
  replace H := H.2
  refine a_aload_n (pc := 431) (dk dt_L_law_5 2 rfl) rfl ?_
  refine a_iload_n (pc := 432) (dk dt_L_law_5 3 rfl) rfl ?_
  refine a_iconst (pc := 433) (dk dt_L_law_5 4 rfl) (ik rfl) ?_
  refine a_iadd (pc := 434) (dk dt_L_law_5 5 rfl) ?_
  refine a_sld (hxs := hxs) (pc := 435) (dk dt_L_law_5 6 rfl) ⟨H.1, ?_⟩
  replace H := H.2
  refine a_callVi (as := [iv (sx G (w32 (i + 1))), iv (sx G (w32 (i + 2))), iv (sx G (w32 (i + 3))), iv (sx G (w32 (i + 4)))]) (st := []) (pc := 436) (dk dt_L_law_5 7 rfl) cl_RL_46 ⟨Nat.le_of_ble_eq_true rfl, Nat.le_of_ble_eq_true rfl⟩ ⟨Nat.le_of_ble_eq_true rfl, Nat.le_of_ble_eq_true rfl⟩ cls_11 rfl cc_1 rfl rfl rfl (Nat.le_of_ble_eq_true rfl) (Call.mono H fun r1 h2 H => ?_)
  refine a_aload_n (pc := 439) (dk dt_L_law_5 8 rfl) rfl ?_
  refine a_aload_n (pc := 440) (dk dt_L_law_5 9 rfl) rfl ?_
  refine a_iload_n (pc := 441) (dk dt_L_law_5 10 rfl) rfl ?_
  refine a_iconst (pc := 442) (dk dt_L_law_5 11 rfl) (ik rfl) ?_
  refine a_iadd (pc := 443) (dk dt_L_law_5 12 rfl) ?_
  refine a_sld (hxs := hxs) (pc := 444) (dk dt_L_law_5 13 rfl) ⟨H.1, ?_⟩
  replace H := H.2
  refine a_aload_n (pc := 445) (dk dt_L_law_5 14 rfl) rfl ?_
  refine a_iload_n (pc := 446) (dk dt_L_law_5 15 rfl) rfl ?_
  refine a_iconst (pc := 447) (dk dt_L_law_5 16 rfl) (ik rfl) ?_
  refine a_iadd (pc := 448) (dk dt_L_law_5 17 rfl) ?_
  refine a_sld (hxs := hxs) (pc := 449) (dk dt_L_law_5 18 rfl) ⟨H.1, ?_⟩
  replace H := H.2
  refine a_aload_n (pc := 450) (dk dt_L_law_5 19 rfl) rfl ?_
  refine a_iload_n (pc := 451) (dk dt_L_law_5 20 rfl) rfl ?_
  refine a_iconst (pc := 452) (dk dt_L_law_5 21 rfl) (ik rfl) ?_
  refine a_iadd (pc := 453) (dk dt_L_law_5 22 rfl) ?_
  refine a_sld (hxs := hxs) (pc := 454) (dk dt_L_law_5 23 rfl) ⟨H.1, ?_⟩
  replace H := H.2
  refine a_aload_n (pc := 455) (dk dt_L_law_5 24 rfl) rfl ?_
  refine a_iload_n (pc := 456) (dk dt_L_law_5 25 rfl) rfl ?_
  refine a_iconst (pc := 457) (dk dt_L_law_5 26 rfl) (ik rfl) ?_
  refine a_iadd (pc := 458) (dk dt_L_law_5 27 rfl) ?_
  refine a_sld (hxs := hxs) (pc := 459) (dk dt_L_law_5 28 rfl) ⟨H.1, ?_⟩
  replace H := H.2
  refine a_callVi (as := [iv (sx G (w32 (i + 1))), iv (sx G (w32 (i + 2))), iv (sx G (w32 (i + 3))), iv (sx G (w32 (i + 4)))]) (st := [iv r1]) (pc := 460) (dk dt_L_law_5 29 rfl) cl_RL_49 ⟨Nat.le_of_ble_eq_true rfl, Nat.le_of_ble_eq_true rfl⟩ ⟨Nat.le_of_ble_eq_true rfl, Nat.le_of_ble_eq_true rfl⟩ cls_12 rfl cc_85 rfl rfl rfl (Nat.le_of_ble_eq_true rfl) (Call.mono H fun r3 h4 H => ?_)
  refine a_icmp_eq (pc := 463) (dk dt_L_law_5 30 rfl) (tgt := 1278) rfl ⟨fun c => ?_, fun c => ?_⟩
  · replace H := H.1 c
    exact a_pick [0, 1, 2, 3] rfl H
  · replace H := H.2 c
    exact a_pick [] rfl H
set_option maxHeartbeats 40000000 in
theorem LC_8 {G : GG} {h : Hp} {i : Int} (hxs : ∀ j, i32 (G.2.2.2.2.2 j)) (hL : G.2.2.2.2.1 ≤ 3072) (H : (0 ≤ (w32 (i + 1)) ∧ (w32 (i + 1)) < (G.2.2.2.2.1 : Int)) ∧ (0 ≤ (w32 (i + 2)) ∧ (w32 (i + 2)) < (G.2.2.2.2.1 : Int)) ∧ (((sx G (w32 (i + 2))) = 0 → Call G m_X11_sight [rv 1, iv (sx G (w32 (i + 1))), iv 0] h (fun r1 h2 => (0 ≤ (w32 (i + 1)) ∧ (w32 (i + 1)) < (G.2.2.2.2.1 : Int)) ∧ (0 ≤ (w32 (i + 2)) ∧ (w32 (i + 2)) < (G.2.2.2.2.1 : Int)) ∧ (((sx G (w32 (i + 2))) = 0 → Call G m_X12_sight [rv 85, iv (sx G (w32 (i + 1))), iv 0] h2 (fun r3 h4 => ((r1 = r3 → LT G 1278 [(0, rv 900), (1, rv 1), (2, rv 85), (3, iv i)] [] h4) ∧ (r1 ≠ r3 → LT G 515 [] [] h4)))) ∧ ((sx G (w32 (i + 2))) ≠ 0 → Call G m_X12_sight [rv 85, iv (sx G (w32 (i + 1))), iv 1] h2 (fun r5 h6 => ((r1 = r5 → LT G 1278 [(0, rv 900), (1, rv 1), (2, rv 85), (3, iv i)] [] h6) ∧ (r1 ≠ r5 → LT G 515 [] [] h6))))))) ∧ ((sx G (w32 (i + 2))) ≠ 0 → Call G m_X11_sight [rv 1, iv (sx G (w32 (i + 1))), iv 1] h (fun r7 h8 => (0 ≤ (w32 (i + 1)) ∧ (w32 (i + 1)) < (G.2.2.2.2.1 : Int)) ∧ (0 ≤ (w32 (i + 2)) ∧ (w32 (i + 2)) < (G.2.2.2.2.1 : Int)) ∧ (((sx G (w32 (i + 2))) = 0 → Call G m_X12_sight [rv 85, iv (sx G (w32 (i + 1))), iv 0] h8 (fun r9 h10 => ((r7 = r9 → LT G 1278 [(0, rv 900), (1, rv 1), (2, rv 85), (3, iv i)] [] h10) ∧ (r7 ≠ r9 → LT G 515 [] [] h10)))) ∧ ((sx G (w32 (i + 2))) ≠ 0 → Call G m_X12_sight [rv 85, iv (sx G (w32 (i + 1))), iv 1] h8 (fun r11 h12 => ((r7 = r11 → LT G 1278 [(0, rv 900), (1, rv 1), (2, rv 85), (3, iv i)] [] h12) ∧ (r7 ≠ r11 → LT G 515 [] [] h12))))))))) : LT G 468 [(0, rv 900), (1, rv 1), (2, rv 85), (3, iv i)] [] h := by
  refine a_aload_n (pc := 468) (dk dt_L_law_5 33 rfl) rfl ?_
  refine a_aload_n (pc := 469) (dk dt_L_law_5 34 rfl) rfl ?_
  refine a_iload_n (pc := 470) (dk dt_L_law_5 35 rfl) rfl ?_
  refine a_iconst (pc := 471) (dk dt_L_law_5 36 rfl) (ik rfl) ?_
  refine a_iadd (pc := 472) (dk dt_L_law_5 37 rfl) ?_
  refine a_sld (hxs := hxs) (pc := 473) (dk dt_L_law_5 38 rfl) ⟨H.1, ?_⟩
  replace H := H.2
  refine a_aload_n (pc := 474) (dk dt_L_law_5 39 rfl) rfl ?_
  refine a_iload_n (pc := 475) (dk dt_L_law_5 40 rfl) rfl ?_
  refine a_iconst (pc := 476) (dk dt_L_law_5 41 rfl) (ik rfl) ?_
  refine a_iadd (pc := 477) (dk dt_L_law_5 42 rfl) ?_
  refine a_sld (hxs := hxs) (pc := 478) (dk dt_L_law_5 43 rfl) ⟨H.1, ?_⟩
  replace H := H.2
  refine a_if_eq (pc := 479) (dk dt_L_law_5 44 rfl) (tgt := 486) rfl ⟨fun c => ?_, fun c => ?_⟩
  · replace H := H.1 c
    refine a_iconst (pc := 486) (dk dt_L_law_6 2 rfl) (ik rfl) ?_
    refine a_callVi (as := [iv (sx G (w32 (i + 1))), iv 0]) (st := []) (pc := 487) (dk dt_L_law_6 3 rfl) cl_RL_50 ⟨Nat.le_of_ble_eq_true rfl, Nat.le_of_ble_eq_true rfl⟩ ⟨Nat.le_of_ble_eq_true rfl, Nat.le_of_ble_eq_true rfl⟩ cls_11 rfl cc_1 rfl rfl rfl (Nat.le_of_ble_eq_true rfl) (Call.mono H fun r1 h2 H => ?_)
    refine a_aload_n (pc := 490) (dk dt_L_law_6 4 rfl) rfl ?_
    refine a_aload_n (pc := 491) (dk dt_L_law_6 5 rfl) rfl ?_
    refine a_iload_n (pc := 492) (dk dt_L_law_6 6 rfl) rfl ?_
    refine a_iconst (pc := 493) (dk dt_L_law_6 7 rfl) (ik rfl) ?_
    refine a_iadd (pc := 494) (dk dt_L_law_6 8 rfl) ?_
    refine a_sld (hxs := hxs) (pc := 495) (dk dt_L_law_6 9 rfl) ⟨H.1, ?_⟩
    replace H := H.2
    refine a_aload_n (pc := 496) (dk dt_L_law_6 10 rfl) rfl ?_
    refine a_iload_n (pc := 497) (dk dt_L_law_6 11 rfl) rfl ?_
    refine a_iconst (pc := 498) (dk dt_L_law_6 12 rfl) (ik rfl) ?_
    refine a_iadd (pc := 499) (dk dt_L_law_6 13 rfl) ?_
    refine a_sld (hxs := hxs) (pc := 500) (dk dt_L_law_6 14 rfl) ⟨H.1, ?_⟩
    replace H := H.2
    refine a_if_eq (pc := 501) (dk dt_L_law_6 15 rfl) (tgt := 508) rfl ⟨fun c => ?_, fun c => ?_⟩
    · replace H := H.1 c
      refine a_iconst (pc := 508) (dk dt_L_law_6 18 rfl) (ik rfl) ?_
      refine a_callVi (as := [iv (sx G (w32 (i + 1))), iv 0]) (st := [iv r1]) (pc := 509) (dk dt_L_law_6 19 rfl) cl_RL_54 ⟨Nat.le_of_ble_eq_true rfl, Nat.le_of_ble_eq_true rfl⟩ ⟨Nat.le_of_ble_eq_true rfl, Nat.le_of_ble_eq_true rfl⟩ cls_12 rfl cc_85 rfl rfl rfl (Nat.le_of_ble_eq_true rfl) (Call.mono H fun r3 h4 H => ?_)
      refine a_icmp_eq (pc := 512) (dk dt_L_law_6 20 rfl) (tgt := 1278) rfl ⟨fun c => ?_, fun c => ?_⟩
      · replace H := H.1 c
        exact a_pick [0, 1, 2, 3] rfl H
      · replace H := H.2 c
        exact a_pick [] rfl H
    · replace H := H.2 c
      refine a_iconst (pc := 504) (dk dt_L_law_6 16 rfl) (ik rfl) ?_
      refine a_goto (pc := 505) (dk dt_L_law_6 17 rfl) (tgt := 509) rfl ?_
      refine a_callVi (as := [iv (sx G (w32 (i + 1))), iv 1]) (st := [iv r1]) (pc := 509) (dk dt_L_law_6 19 rfl) cl_RL_54 ⟨Nat.le_of_ble_eq_true rfl, Nat.le_of_ble_eq_true rfl⟩ ⟨Nat.le_of_ble_eq_true rfl, Nat.le_of_ble_eq_true rfl⟩ cls_12 rfl cc_85 rfl rfl rfl (Nat.le_of_ble_eq_true rfl) (Call.mono H fun r5 h6 H => ?_)
      refine a_icmp_eq (pc := 512) (dk dt_L_law_6 20 rfl) (tgt := 1278) rfl ⟨fun c => ?_, fun c => ?_⟩
      · replace H := H.1 c
        exact a_pick [0, 1, 2, 3] rfl H
      · replace H := H.2 c
        exact a_pick [] rfl H
  · replace H := H.2 c
    refine a_iconst (pc := 482) (dk dt_L_law_6 0 rfl) (ik rfl) ?_
    refine a_goto (pc := 483) (dk dt_L_law_6 1 rfl) (tgt := 487) rfl ?_
    refine a_callVi (as := [iv (sx G (w32 (i + 1))), iv 1]) (st := []) (pc := 487) (dk dt_L_law_6 3 rfl) cl_RL_50 ⟨Nat.le_of_ble_eq_true rfl, Nat.le_of_ble_eq_true rfl⟩ ⟨Nat.le_of_ble_eq_true rfl, Nat.le_of_ble_eq_true rfl⟩ cls_11 rfl cc_1 rfl rfl rfl (Nat.le_of_ble_eq_true rfl) (Call.mono H fun r7 h8 H => ?_)
    refine a_aload_n (pc := 490) (dk dt_L_law_6 4 rfl) rfl ?_
    refine a_aload_n (pc := 491) (dk dt_L_law_6 5 rfl) rfl ?_
    refine a_iload_n (pc := 492) (dk dt_L_law_6 6 rfl) rfl ?_
    refine a_iconst (pc := 493) (dk dt_L_law_6 7 rfl) (ik rfl) ?_
    refine a_iadd (pc := 494) (dk dt_L_law_6 8 rfl) ?_
    refine a_sld (hxs := hxs) (pc := 495) (dk dt_L_law_6 9 rfl) ⟨H.1, ?_⟩
    replace H := H.2
    refine a_aload_n (pc := 496) (dk dt_L_law_6 10 rfl) rfl ?_
    refine a_iload_n (pc := 497) (dk dt_L_law_6 11 rfl) rfl ?_
    refine a_iconst (pc := 498) (dk dt_L_law_6 12 rfl) (ik rfl) ?_
    refine a_iadd (pc := 499) (dk dt_L_law_6 13 rfl) ?_
    refine a_sld (hxs := hxs) (pc := 500) (dk dt_L_law_6 14 rfl) ⟨H.1, ?_⟩
    replace H := H.2
    refine a_if_eq (pc := 501) (dk dt_L_law_6 15 rfl) (tgt := 508) rfl ⟨fun c => ?_, fun c => ?_⟩
    · replace H := H.1 c
      refine a_iconst (pc := 508) (dk dt_L_law_6 18 rfl) (ik rfl) ?_
      refine a_callVi (as := [iv (sx G (w32 (i + 1))), iv 0]) (st := [iv r7]) (pc := 509) (dk dt_L_law_6 19 rfl) cl_RL_54 ⟨Nat.le_of_ble_eq_true rfl, Nat.le_of_ble_eq_true rfl⟩ ⟨Nat.le_of_ble_eq_true rfl, Nat.le_of_ble_eq_true rfl⟩ cls_12 rfl cc_85 rfl rfl rfl (Nat.le_of_ble_eq_true rfl) (Call.mono H fun r9 h10 H => ?_)
      refine a_icmp_eq (pc := 512) (dk dt_L_law_6 20 rfl) (tgt := 1278) rfl ⟨fun c => ?_, fun c => ?_⟩
      · replace H := H.1 c
        exact a_pick [0, 1, 2, 3] rfl H
      · replace H := H.2 c
        exact a_pick [] rfl H
    · replace H := H.2 c
      refine a_iconst (pc := 504) (dk dt_L_law_6 16 rfl) (ik rfl) ?_
      refine a_goto (pc := 505) (dk dt_L_law_6 17 rfl) (tgt := 509) rfl ?_
      refine a_callVi (as := [iv (sx G (w32 (i + 1))), iv 1]) (st := [iv r7]) (pc := 509) (dk dt_L_law_6 19 rfl) cl_RL_54 ⟨Nat.le_of_ble_eq_true rfl, Nat.le_of_ble_eq_true rfl⟩ ⟨Nat.le_of_ble_eq_true rfl, Nat.le_of_ble_eq_true rfl⟩ cls_12 rfl cc_85 rfl rfl rfl (Nat.le_of_ble_eq_true rfl) (Call.mono H fun r11 h12 H => ?_)
      refine a_icmp_eq (pc := 512) (dk dt_L_law_6 20 rfl) (tgt := 1278) rfl ⟨fun c => ?_, fun c => ?_⟩
      · replace H := H.1 c
        exact a_pick [0, 1, 2, 3] rfl H
      · replace H := H.2 c
        exact a_pick [] rfl H
set_option maxHeartbeats 40000000 in
theorem LC_9 {G : GG} {h : Hp} {i : Int} (hxs : ∀ j, i32 (G.2.2.2.2.2 j)) (hL : G.2.2.2.2.1 ≤ 3072) (H : (0 ≤ (w32 (i + 1)) ∧ (w32 (i + 1)) < (G.2.2.2.2.1 : Int)) ∧ (0 ≤ (w32 (i + 2)) ∧ (w32 (i + 2)) < (G.2.2.2.2.1 : Int)) ∧ Call G m_X11_power [rv 1, iv (sx G (w32 (i + 1))), iv (sx G (w32 (i + 2)))] h (fun r1 h2 => (0 ≤ (w32 (i + 1)) ∧ (w32 (i + 1)) < (G.2.2.2.2.1 : Int)) ∧ (0 ≤ (w32 (i + 2)) ∧ (w32 (i + 2)) < (G.2.2.2.2.1 : Int)) ∧ Call G m_X12_power [rv 85, iv (sx G (w32 (i + 1))), iv (sx G (w32 (i + 2)))] h2 (fun r3 h4 => ((r1 = r3 → LT G 1278 [(0, rv 900), (1, rv 1), (2, rv 85), (3, iv i)] [] h4) ∧ (r1 ≠ r3 → LT G 548 [] [] h4))))) : LT G 517 [(0, rv 900), (1, rv 1), (2, rv 85), (3, iv i)] [] h := by
  refine a_aload_n (pc := 517) (dk dt_L_law_6 23 rfl) rfl ?_
  refine a_aload_n (pc := 518) (dk dt_L_law_6 24 rfl) rfl ?_
  refine a_iload_n (pc := 519) (dk dt_L_law_6 25 rfl) rfl ?_
  refine a_iconst (pc := 520) (dk dt_L_law_6 26 rfl) (ik rfl) ?_
  refine a_iadd (pc := 521) (dk dt_L_law_6 27 rfl) ?_
  refine a_sld (hxs := hxs) (pc := 522) (dk dt_L_law_6 28 rfl) ⟨H.1, ?_⟩
  replace H := H.2
  refine a_aload_n (pc := 523) (dk dt_L_law_6 29 rfl) rfl ?_
  refine a_iload_n (pc := 524) (dk dt_L_law_6 30 rfl) rfl ?_
  refine a_iconst (pc := 525) (dk dt_L_law_6 31 rfl) (ik rfl) ?_
  refine a_iadd (pc := 526) (dk dt_L_law_6 32 rfl) ?_
  refine a_sld (hxs := hxs) (pc := 527) (dk dt_L_law_6 33 rfl) ⟨H.1, ?_⟩
  replace H := H.2
  refine a_callVi (as := [iv (sx G (w32 (i + 1))), iv (sx G (w32 (i + 2)))]) (st := []) (pc := 528) (dk dt_L_law_6 34 rfl) cl_RL_55 ⟨Nat.le_of_ble_eq_true rfl, Nat.le_of_ble_eq_true rfl⟩ ⟨Nat.le_of_ble_eq_true rfl, Nat.le_of_ble_eq_true rfl⟩ cls_11 rfl cc_1 rfl rfl rfl (Nat.le_of_ble_eq_true rfl) (Call.mono H fun r1 h2 H => ?_)
  refine a_aload_n (pc := 531) (dk dt_L_law_6 35 rfl) rfl ?_
  refine a_aload_n (pc := 532) (dk dt_L_law_6 36 rfl) rfl ?_
  refine a_iload_n (pc := 533) (dk dt_L_law_6 37 rfl) rfl ?_
  refine a_iconst (pc := 534) (dk dt_L_law_6 38 rfl) (ik rfl) ?_
  refine a_iadd (pc := 535) (dk dt_L_law_6 39 rfl) ?_
  refine a_sld (hxs := hxs) (pc := 536) (dk dt_L_law_6 40 rfl) ⟨H.1, ?_⟩
  replace H := H.2
  refine a_aload_n (pc := 537) (dk dt_L_law_6 41 rfl) rfl ?_
  refine a_iload_n (pc := 538) (dk dt_L_law_6 42 rfl) rfl ?_
  refine a_iconst (pc := 539) (dk dt_L_law_6 43 rfl) (ik rfl) ?_
  refine a_iadd (pc := 540) (dk dt_L_law_6 44 rfl) ?_
  refine a_sld (hxs := hxs) (pc := 541) (dk dt_L_law_7 0 rfl) ⟨H.1, ?_⟩
  replace H := H.2
  refine a_callVi (as := [iv (sx G (w32 (i + 1))), iv (sx G (w32 (i + 2)))]) (st := [iv r1]) (pc := 542) (dk dt_L_law_7 1 rfl) cl_RL_58 ⟨Nat.le_of_ble_eq_true rfl, Nat.le_of_ble_eq_true rfl⟩ ⟨Nat.le_of_ble_eq_true rfl, Nat.le_of_ble_eq_true rfl⟩ cls_12 rfl cc_85 rfl rfl rfl (Nat.le_of_ble_eq_true rfl) (Call.mono H fun r3 h4 H => ?_)
  refine a_icmp_eq (pc := 545) (dk dt_L_law_7 2 rfl) (tgt := 1278) rfl ⟨fun c => ?_, fun c => ?_⟩
  · replace H := H.1 c
    exact a_pick [0, 1, 2, 3] rfl H
  · replace H := H.2 c
    exact a_pick [] rfl H
set_option maxHeartbeats 40000000 in
theorem LC_10 {G : GG} {h : Hp} {i : Int} (hxs : ∀ j, i32 (G.2.2.2.2.2 j)) (hL : G.2.2.2.2.1 ≤ 3072) (H : (0 ≤ (w32 (i + 1)) ∧ (w32 (i + 1)) < (G.2.2.2.2.1 : Int)) ∧ (0 ≤ (w32 (i + 2)) ∧ (w32 (i + 2)) < (G.2.2.2.2.1 : Int)) ∧ (0 ≤ (w32 (i + 3)) ∧ (w32 (i + 3)) < (G.2.2.2.2.1 : Int)) ∧ Call G m_X11_load [rv 1, iv (sx G (w32 (i + 1))), iv (sx G (w32 (i + 2))), iv (sx G (w32 (i + 3)))] h (fun r1 h2 => (0 ≤ (w32 (i + 1)) ∧ (w32 (i + 1)) < (G.2.2.2.2.1 : Int)) ∧ (0 ≤ (w32 (i + 2)) ∧ (w32 (i + 2)) < (G.2.2.2.2.1 : Int)) ∧ (0 ≤ (w32 (i + 3)) ∧ (w32 (i + 3)) < (G.2.2.2.2.1 : Int)) ∧ Call G m_X12_load [rv 85, iv (sx G (w32 (i + 1))), iv (sx G (w32 (i + 2))), iv (sx G (w32 (i + 3)))] h2 (fun r3 h4 => ((r1 = r3 → LT G 1278 [(0, rv 900), (1, rv 1), (2, rv 85), (3, iv i)] [] h4) ∧ (r1 ≠ r3 → LT G 591 [] [] h4))))) : LT G 550 [(0, rv 900), (1, rv 1), (2, rv 85), (3, iv i)] [] h := by
  refine a_aload_n (pc := 550) (dk dt_L_law_7 5 rfl) rfl ?_
  refine a_aload_n (pc := 551) (dk dt_L_law_7 6 rfl) rfl ?_
  refine a_iload_n (pc := 552) (dk dt_L_law_7 7 rfl) rfl ?_
  refine a_iconst (pc := 553) (dk dt_L_law_7 8 rfl) (ik rfl) ?_
  refine a_iadd (pc := 554) (dk dt_L_law_7 9 rfl) ?_
  refine a_sld (hxs := hxs) (pc := 555) (dk dt_L_law_7 10 rfl) ⟨H.1, ?_⟩
  replace H := H.2
  refine a_aload_n (pc := 556) (dk dt_L_law_7 11 rfl) rfl ?_
  refine a_iload_n (pc := 557) (dk dt_L_law_7 12 rfl) rfl ?_
  refine a_iconst (pc := 558) (dk dt_L_law_7 13 rfl) (ik rfl) ?_
  refine a_iadd (pc := 559) (dk dt_L_law_7 14 rfl) ?_
  refine a_sld (hxs := hxs) (pc := 560) (dk dt_L_law_7 15 rfl) ⟨H.1, ?_⟩
  replace H := H.2
  refine a_aload_n (pc := 561) (dk dt_L_law_7 16 rfl) rfl ?_
  refine a_iload_n (pc := 562) (dk dt_L_law_7 17 rfl) rfl ?_
  refine a_iconst (pc := 563) (dk dt_L_law_7 18 rfl) (ik rfl) ?_
  refine a_iadd (pc := 564) (dk dt_L_law_7 19 rfl) ?_
  refine a_sld (hxs := hxs) (pc := 565) (dk dt_L_law_7 20 rfl) ⟨H.1, ?_⟩
  replace H := H.2
  refine a_callVi (as := [iv (sx G (w32 (i + 1))), iv (sx G (w32 (i + 2))), iv (sx G (w32 (i + 3)))]) (st := []) (pc := 566) (dk dt_L_law_7 21 rfl) cl_RL_59 ⟨Nat.le_of_ble_eq_true rfl, Nat.le_of_ble_eq_true rfl⟩ ⟨Nat.le_of_ble_eq_true rfl, Nat.le_of_ble_eq_true rfl⟩ cls_11 rfl cc_1 rfl rfl rfl (Nat.le_of_ble_eq_true rfl) (Call.mono H fun r1 h2 H => ?_)
  refine a_aload_n (pc := 569) (dk dt_L_law_7 22 rfl) rfl ?_
  refine a_aload_n (pc := 570) (dk dt_L_law_7 23 rfl) rfl ?_
  refine a_iload_n (pc := 571) (dk dt_L_law_7 24 rfl) rfl ?_
  refine a_iconst (pc := 572) (dk dt_L_law_7 25 rfl) (ik rfl) ?_
  refine a_iadd (pc := 573) (dk dt_L_law_7 26 rfl) ?_
  refine a_sld (hxs := hxs) (pc := 574) (dk dt_L_law_7 27 rfl) ⟨H.1, ?_⟩
  replace H := H.2
  refine a_aload_n (pc := 575) (dk dt_L_law_7 28 rfl) rfl ?_
  refine a_iload_n (pc := 576) (dk dt_L_law_7 29 rfl) rfl ?_
  refine a_iconst (pc := 577) (dk dt_L_law_7 30 rfl) (ik rfl) ?_
  refine a_iadd (pc := 578) (dk dt_L_law_7 31 rfl) ?_
  refine a_sld (hxs := hxs) (pc := 579) (dk dt_L_law_7 32 rfl) ⟨H.1, ?_⟩
  replace H := H.2
  refine a_aload_n (pc := 580) (dk dt_L_law_7 33 rfl) rfl ?_
  refine a_iload_n (pc := 581) (dk dt_L_law_7 34 rfl) rfl ?_
  refine a_iconst (pc := 582) (dk dt_L_law_7 35 rfl) (ik rfl) ?_
  refine a_iadd (pc := 583) (dk dt_L_law_7 36 rfl) ?_
  refine a_sld (hxs := hxs) (pc := 584) (dk dt_L_law_7 37 rfl) ⟨H.1, ?_⟩
  replace H := H.2
  refine a_callVi (as := [iv (sx G (w32 (i + 1))), iv (sx G (w32 (i + 2))), iv (sx G (w32 (i + 3)))]) (st := [iv r1]) (pc := 585) (dk dt_L_law_7 38 rfl) cl_RL_63 ⟨Nat.le_of_ble_eq_true rfl, Nat.le_of_ble_eq_true rfl⟩ ⟨Nat.le_of_ble_eq_true rfl, Nat.le_of_ble_eq_true rfl⟩ cls_12 rfl cc_85 rfl rfl rfl (Nat.le_of_ble_eq_true rfl) (Call.mono H fun r3 h4 H => ?_)
  refine a_icmp_eq (pc := 588) (dk dt_L_law_7 39 rfl) (tgt := 1278) rfl ⟨fun c => ?_, fun c => ?_⟩
  · replace H := H.1 c
    exact a_pick [0, 1, 2, 3] rfl H
  · replace H := H.2 c
    exact a_pick [] rfl H
set_option maxHeartbeats 40000000 in
theorem LC_11 {G : GG} {h : Hp} {i : Int} (hxs : ∀ j, i32 (G.2.2.2.2.2 j)) (hL : G.2.2.2.2.1 ≤ 3072) (H : (0 ≤ (w32 (i + 1)) ∧ (w32 (i + 1)) < (G.2.2.2.2.1 : Int)) ∧ Call G m_X11_program [rv 1, iv (sx G (w32 (i + 1)))] h (fun r1 h2 => (0 ≤ (w32 (i + 1)) ∧ (w32 (i + 1)) < (G.2.2.2.2.1 : Int)) ∧ Call G m_X12_program [rv 85, iv (sx G (w32 (i + 1)))] h2 (fun r3 h4 => ((r1 = r3 → LT G 1278 [(0, rv 900), (1, rv 1), (2, rv 85), (3, iv i)] [] h4) ∧ (r1 ≠ r3 → LT G 614 [] [] h4))))) : LT G 593 [(0, rv 900), (1, rv 1), (2, rv 85), (3, iv i)] [] h := by
  refine a_aload_n (pc := 593) (dk dt_L_law_7 42 rfl) rfl ?_
  refine a_aload_n (pc := 594) (dk dt_L_law_7 43 rfl) rfl ?_
  refine a_iload_n (pc := 595) (dk dt_L_law_7 44 rfl) rfl ?_
  refine a_iconst (pc := 596) (dk dt_L_law_8 0 rfl) (ik rfl) ?_
  refine a_iadd (pc := 597) (dk dt_L_law_8 1 rfl) ?_
  refine a_sld (hxs := hxs) (pc := 598) (dk dt_L_law_8 2 rfl) ⟨H.1, ?_⟩
  replace H := H.2
  refine a_callVi (as := [iv (sx G (w32 (i + 1)))]) (st := []) (pc := 599) (dk dt_L_law_8 3 rfl) cl_RL_64 ⟨Nat.le_of_ble_eq_true rfl, Nat.le_of_ble_eq_true rfl⟩ ⟨Nat.le_of_ble_eq_true rfl, Nat.le_of_ble_eq_true rfl⟩ cls_11 rfl cc_1 rfl rfl rfl (Nat.le_of_ble_eq_true rfl) (Call.mono H fun r1 h2 H => ?_)
  refine a_aload_n (pc := 602) (dk dt_L_law_8 4 rfl) rfl ?_
  refine a_aload_n (pc := 603) (dk dt_L_law_8 5 rfl) rfl ?_
  refine a_iload_n (pc := 604) (dk dt_L_law_8 6 rfl) rfl ?_
  refine a_iconst (pc := 605) (dk dt_L_law_8 7 rfl) (ik rfl) ?_
  refine a_iadd (pc := 606) (dk dt_L_law_8 8 rfl) ?_
  refine a_sld (hxs := hxs) (pc := 607) (dk dt_L_law_8 9 rfl) ⟨H.1, ?_⟩
  replace H := H.2
  refine a_callVi (as := [iv (sx G (w32 (i + 1)))]) (st := [iv r1]) (pc := 608) (dk dt_L_law_8 10 rfl) cl_RL_67 ⟨Nat.le_of_ble_eq_true rfl, Nat.le_of_ble_eq_true rfl⟩ ⟨Nat.le_of_ble_eq_true rfl, Nat.le_of_ble_eq_true rfl⟩ cls_12 rfl cc_85 rfl rfl rfl (Nat.le_of_ble_eq_true rfl) (Call.mono H fun r3 h4 H => ?_)
  refine a_icmp_eq (pc := 611) (dk dt_L_law_8 11 rfl) (tgt := 1278) rfl ⟨fun c => ?_, fun c => ?_⟩
  · replace H := H.1 c
    exact a_pick [0, 1, 2, 3] rfl H
  · replace H := H.2 c
    exact a_pick [] rfl H
set_option maxHeartbeats 40000000 in
theorem LC_12 {G : GG} {h : Hp} {i : Int} (hxs : ∀ j, i32 (G.2.2.2.2.2 j)) (hL : G.2.2.2.2.1 ≤ 3072) (H : (0 ≤ (w32 (i + 1)) ∧ (w32 (i + 1)) < (G.2.2.2.2.1 : Int)) ∧ (0 ≤ (w32 (i + 2)) ∧ (w32 (i + 2)) < (G.2.2.2.2.1 : Int)) ∧ Call G m_X11_due [rv 1, iv (sx G (w32 (i + 1))), iv (sx G (w32 (i + 2)))] h (fun r1 h2 => (0 ≤ (w32 (i + 1)) ∧ (w32 (i + 1)) < (G.2.2.2.2.1 : Int)) ∧ (0 ≤ (w32 (i + 2)) ∧ (w32 (i + 2)) < (G.2.2.2.2.1 : Int)) ∧ Call G m_X12_due [rv 85, iv (sx G (w32 (i + 1))), iv (sx G (w32 (i + 2)))] h2 (fun r3 h4 => ((r1 = r3 → LT G 1278 [(0, rv 900), (1, rv 1), (2, rv 85), (3, iv i)] [] h4) ∧ (r1 ≠ r3 → LT G 647 [] [] h4))))) : LT G 616 [(0, rv 900), (1, rv 1), (2, rv 85), (3, iv i)] [] h := by
  refine a_aload_n (pc := 616) (dk dt_L_law_8 14 rfl) rfl ?_
  refine a_aload_n (pc := 617) (dk dt_L_law_8 15 rfl) rfl ?_
  refine a_iload_n (pc := 618) (dk dt_L_law_8 16 rfl) rfl ?_
  refine a_iconst (pc := 619) (dk dt_L_law_8 17 rfl) (ik rfl) ?_
  refine a_iadd (pc := 620) (dk dt_L_law_8 18 rfl) ?_
  refine a_sld (hxs := hxs) (pc := 621) (dk dt_L_law_8 19 rfl) ⟨H.1, ?_⟩
  replace H := H.2
  refine a_aload_n (pc := 622) (dk dt_L_law_8 20 rfl) rfl ?_
  refine a_iload_n (pc := 623) (dk dt_L_law_8 21 rfl) rfl ?_
  refine a_iconst (pc := 624) (dk dt_L_law_8 22 rfl) (ik rfl) ?_
  refine a_iadd (pc := 625) (dk dt_L_law_8 23 rfl) ?_
  refine a_sld (hxs := hxs) (pc := 626) (dk dt_L_law_8 24 rfl) ⟨H.1, ?_⟩
  replace H := H.2
  refine a_callVi (as := [iv (sx G (w32 (i + 1))), iv (sx G (w32 (i + 2)))]) (st := []) (pc := 627) (dk dt_L_law_8 25 rfl) cl_RL_68 ⟨Nat.le_of_ble_eq_true rfl, Nat.le_of_ble_eq_true rfl⟩ ⟨Nat.le_of_ble_eq_true rfl, Nat.le_of_ble_eq_true rfl⟩ cls_11 rfl cc_1 rfl rfl rfl (Nat.le_of_ble_eq_true rfl) (Call.mono H fun r1 h2 H => ?_)
  refine a_aload_n (pc := 630) (dk dt_L_law_8 26 rfl) rfl ?_
  refine a_aload_n (pc := 631) (dk dt_L_law_8 27 rfl) rfl ?_
  refine a_iload_n (pc := 632) (dk dt_L_law_8 28 rfl) rfl ?_
  refine a_iconst (pc := 633) (dk dt_L_law_8 29 rfl) (ik rfl) ?_
  refine a_iadd (pc := 634) (dk dt_L_law_8 30 rfl) ?_
  refine a_sld (hxs := hxs) (pc := 635) (dk dt_L_law_8 31 rfl) ⟨H.1, ?_⟩
  replace H := H.2
  refine a_aload_n (pc := 636) (dk dt_L_law_8 32 rfl) rfl ?_
  refine a_iload_n (pc := 637) (dk dt_L_law_8 33 rfl) rfl ?_
  refine a_iconst (pc := 638) (dk dt_L_law_8 34 rfl) (ik rfl) ?_
  refine a_iadd (pc := 639) (dk dt_L_law_8 35 rfl) ?_
  refine a_sld (hxs := hxs) (pc := 640) (dk dt_L_law_8 36 rfl) ⟨H.1, ?_⟩
  replace H := H.2
  refine a_callVi (as := [iv (sx G (w32 (i + 1))), iv (sx G (w32 (i + 2)))]) (st := [iv r1]) (pc := 641) (dk dt_L_law_8 37 rfl) cl_RL_71 ⟨Nat.le_of_ble_eq_true rfl, Nat.le_of_ble_eq_true rfl⟩ ⟨Nat.le_of_ble_eq_true rfl, Nat.le_of_ble_eq_true rfl⟩ cls_12 rfl cc_85 rfl rfl rfl (Nat.le_of_ble_eq_true rfl) (Call.mono H fun r3 h4 H => ?_)
  refine a_icmp_eq (pc := 644) (dk dt_L_law_8 38 rfl) (tgt := 1278) rfl ⟨fun c => ?_, fun c => ?_⟩
  · replace H := H.1 c
    exact a_pick [0, 1, 2, 3] rfl H
  · replace H := H.2 c
    exact a_pick [] rfl H
set_option maxHeartbeats 40000000 in
theorem LC_13 {G : GG} {h : Hp} {i : Int} (hxs : ∀ j, i32 (G.2.2.2.2.2 j)) (hL : G.2.2.2.2.1 ≤ 3072) (H : (0 ≤ (w32 (i + 1)) ∧ (w32 (i + 1)) < (G.2.2.2.2.1 : Int)) ∧ (0 ≤ (w32 (i + 2)) ∧ (w32 (i + 2)) < (G.2.2.2.2.1 : Int)) ∧ (0 ≤ (w32 (i + 3)) ∧ (w32 (i + 3)) < (G.2.2.2.2.1 : Int)) ∧ Call G m_X11_mode [rv 1, iv (sx G (w32 (i + 1))), iv (sx G (w32 (i + 2))), iv (sx G (w32 (i + 3)))] h (fun r1 h2 => (0 ≤ (w32 (i + 1)) ∧ (w32 (i + 1)) < (G.2.2.2.2.1 : Int)) ∧ (0 ≤ (w32 (i + 2)) ∧ (w32 (i + 2)) < (G.2.2.2.2.1 : Int)) ∧ (0 ≤ (w32 (i + 3)) ∧ (w32 (i + 3)) < (G.2.2.2.2.1 : Int)) ∧ Call G m_X12_mode [rv 85, iv (sx G (w32 (i + 1))), iv (sx G (w32 (i + 2))), iv (sx G (w32 (i + 3)))] h2 (fun r3 h4 => ((r1 = r3 → LT G 1278 [(0, rv 900), (1, rv 1), (2, rv 85), (3, iv i)] [] h4) ∧ (r1 ≠ r3 → LT G 690 [] [] h4))))) : LT G 649 [(0, rv 900), (1, rv 1), (2, rv 85), (3, iv i)] [] h := by
  refine a_aload_n (pc := 649) (dk dt_L_law_8 41 rfl) rfl ?_
  refine a_aload_n (pc := 650) (dk dt_L_law_8 42 rfl) rfl ?_
  refine a_iload_n (pc := 651) (dk dt_L_law_8 43 rfl) rfl ?_
  refine a_iconst (pc := 652) (dk dt_L_law_8 44 rfl) (ik rfl) ?_
  refine a_iadd (pc := 653) (dk dt_L_law_9 0 rfl) ?_
  refine a_sld (hxs := hxs) (pc := 654) (dk dt_L_law_9 1 rfl) ⟨H.1, ?_⟩
  replace H := H.2
  refine a_aload_n (pc := 655) (dk dt_L_law_9 2 rfl) rfl ?_
  refine a_iload_n (pc := 656) (dk dt_L_law_9 3 rfl) rfl ?_
  refine a_iconst (pc := 657) (dk dt_L_law_9 4 rfl) (ik rfl) ?_
  refine a_iadd (pc := 658) (dk dt_L_law_9 5 rfl) ?_
  refine a_sld (hxs := hxs) (pc := 659) (dk dt_L_law_9 6 rfl) ⟨H.1, ?_⟩
  replace H := H.2
  refine a_aload_n (pc := 660) (dk dt_L_law_9 7 rfl) rfl ?_
  refine a_iload_n (pc := 661) (dk dt_L_law_9 8 rfl) rfl ?_
  refine a_iconst (pc := 662) (dk dt_L_law_9 9 rfl) (ik rfl) ?_
  refine a_iadd (pc := 663) (dk dt_L_law_9 10 rfl) ?_
  refine a_sld (hxs := hxs) (pc := 664) (dk dt_L_law_9 11 rfl) ⟨H.1, ?_⟩
  replace H := H.2
  refine a_callVi (as := [iv (sx G (w32 (i + 1))), iv (sx G (w32 (i + 2))), iv (sx G (w32 (i + 3)))]) (st := []) (pc := 665) (dk dt_L_law_9 12 rfl) cl_RL_72 ⟨Nat.le_of_ble_eq_true rfl, Nat.le_of_ble_eq_true rfl⟩ ⟨Nat.le_of_ble_eq_true rfl, Nat.le_of_ble_eq_true rfl⟩ cls_11 rfl cc_1 rfl rfl rfl (Nat.le_of_ble_eq_true rfl) (Call.mono H fun r1 h2 H => ?_)
  refine a_aload_n (pc := 668) (dk dt_L_law_9 13 rfl) rfl ?_
  refine a_aload_n (pc := 669) (dk dt_L_law_9 14 rfl) rfl ?_
  refine a_iload_n (pc := 670) (dk dt_L_law_9 15 rfl) rfl ?_
  refine a_iconst (pc := 671) (dk dt_L_law_9 16 rfl) (ik rfl) ?_
  refine a_iadd (pc := 672) (dk dt_L_law_9 17 rfl) ?_
  refine a_sld (hxs := hxs) (pc := 673) (dk dt_L_law_9 18 rfl) ⟨H.1, ?_⟩
  replace H := H.2
  refine a_aload_n (pc := 674) (dk dt_L_law_9 19 rfl) rfl ?_
  refine a_iload_n (pc := 675) (dk dt_L_law_9 20 rfl) rfl ?_
  refine a_iconst (pc := 676) (dk dt_L_law_9 21 rfl) (ik rfl) ?_
  refine a_iadd (pc := 677) (dk dt_L_law_9 22 rfl) ?_
  refine a_sld (hxs := hxs) (pc := 678) (dk dt_L_law_9 23 rfl) ⟨H.1, ?_⟩
  replace H := H.2
  refine a_aload_n (pc := 679) (dk dt_L_law_9 24 rfl) rfl ?_
  refine a_iload_n (pc := 680) (dk dt_L_law_9 25 rfl) rfl ?_
  refine a_iconst (pc := 681) (dk dt_L_law_9 26 rfl) (ik rfl) ?_
  refine a_iadd (pc := 682) (dk dt_L_law_9 27 rfl) ?_
  refine a_sld (hxs := hxs) (pc := 683) (dk dt_L_law_9 28 rfl) ⟨H.1, ?_⟩
  replace H := H.2
  refine a_callVi (as := [iv (sx G (w32 (i + 1))), iv (sx G (w32 (i + 2))), iv (sx G (w32 (i + 3)))]) (st := [iv r1]) (pc := 684) (dk dt_L_law_9 29 rfl) cl_RL_75 ⟨Nat.le_of_ble_eq_true rfl, Nat.le_of_ble_eq_true rfl⟩ ⟨Nat.le_of_ble_eq_true rfl, Nat.le_of_ble_eq_true rfl⟩ cls_12 rfl cc_85 rfl rfl rfl (Nat.le_of_ble_eq_true rfl) (Call.mono H fun r3 h4 H => ?_)
  refine a_icmp_eq (pc := 687) (dk dt_L_law_9 30 rfl) (tgt := 1278) rfl ⟨fun c => ?_, fun c => ?_⟩
  · replace H := H.1 c
    exact a_pick [0, 1, 2, 3] rfl H
  · replace H := H.2 c
    exact a_pick [] rfl H
set_option maxHeartbeats 40000000 in
theorem LC_14 {G : GG} {h : Hp} {i : Int} (hxs : ∀ j, i32 (G.2.2.2.2.2 j)) (hL : G.2.2.2.2.1 ≤ 3072) (H : (0 ≤ (w32 (i + 1)) ∧ (w32 (i + 1)) < (G.2.2.2.2.1 : Int)) ∧ (0 ≤ (w32 (i + 2)) ∧ (w32 (i + 2)) < (G.2.2.2.2.1 : Int)) ∧ (0 ≤ (w32 (i + 3)) ∧ (w32 (i + 3)) < (G.2.2.2.2.1 : Int)) ∧ Call G m_X11_monitor [rv 1, iv (sx G (w32 (i + 1))), iv (sx G (w32 (i + 2))), iv (sx G (w32 (i + 3)))] h (fun r1 h2 => (0 ≤ (w32 (i + 1)) ∧ (w32 (i + 1)) < (G.2.2.2.2.1 : Int)) ∧ (0 ≤ (w32 (i + 2)) ∧ (w32 (i + 2)) < (G.2.2.2.2.1 : Int)) ∧ (0 ≤ (w32 (i + 3)) ∧ (w32 (i + 3)) < (G.2.2.2.2.1 : Int)) ∧ Call G m_X12_monitor [rv 85, iv (sx G (w32 (i + 1))), iv (sx G (w32 (i + 2))), iv (sx G (w32 (i + 3)))] h2 (fun r3 h4 => ((r1 = r3 → LT G 1278 [(0, rv 900), (1, rv 1), (2, rv 85), (3, iv i)] [] h4) ∧ (r1 ≠ r3 → LT G 733 [] [] h4))))) : LT G 692 [(0, rv 900), (1, rv 1), (2, rv 85), (3, iv i)] [] h := by
  refine a_aload_n (pc := 692) (dk dt_L_law_9 33 rfl) rfl ?_
  refine a_aload_n (pc := 693) (dk dt_L_law_9 34 rfl) rfl ?_
  refine a_iload_n (pc := 694) (dk dt_L_law_9 35 rfl) rfl ?_
  refine a_iconst (pc := 695) (dk dt_L_law_9 36 rfl) (ik rfl) ?_
  refine a_iadd (pc := 696) (dk dt_L_law_9 37 rfl) ?_
  refine a_sld (hxs := hxs) (pc := 697) (dk dt_L_law_9 38 rfl) ⟨H.1, ?_⟩
  replace H := H.2
  refine a_aload_n (pc := 698) (dk dt_L_law_9 39 rfl) rfl ?_
  refine a_iload_n (pc := 699) (dk dt_L_law_9 40 rfl) rfl ?_
  refine a_iconst (pc := 700) (dk dt_L_law_9 41 rfl) (ik rfl) ?_
  refine a_iadd (pc := 701) (dk dt_L_law_9 42 rfl) ?_
  refine a_sld (hxs := hxs) (pc := 702) (dk dt_L_law_9 43 rfl) ⟨H.1, ?_⟩
  replace H := H.2
  refine a_aload_n (pc := 703) (dk dt_L_law_9 44 rfl) rfl ?_
  refine a_iload_n (pc := 704) (dk dt_L_law_10 0 rfl) rfl ?_
  refine a_iconst (pc := 705) (dk dt_L_law_10 1 rfl) (ik rfl) ?_
  refine a_iadd (pc := 706) (dk dt_L_law_10 2 rfl) ?_
  refine a_sld (hxs := hxs) (pc := 707) (dk dt_L_law_10 3 rfl) ⟨H.1, ?_⟩
  replace H := H.2
  refine a_callVi (as := [iv (sx G (w32 (i + 1))), iv (sx G (w32 (i + 2))), iv (sx G (w32 (i + 3)))]) (st := []) (pc := 708) (dk dt_L_law_10 4 rfl) cl_RL_76 ⟨Nat.le_of_ble_eq_true rfl, Nat.le_of_ble_eq_true rfl⟩ ⟨Nat.le_of_ble_eq_true rfl, Nat.le_of_ble_eq_true rfl⟩ cls_11 rfl cc_1 rfl rfl rfl (Nat.le_of_ble_eq_true rfl) (Call.mono H fun r1 h2 H => ?_)
  refine a_aload_n (pc := 711) (dk dt_L_law_10 5 rfl) rfl ?_
  refine a_aload_n (pc := 712) (dk dt_L_law_10 6 rfl) rfl ?_
  refine a_iload_n (pc := 713) (dk dt_L_law_10 7 rfl) rfl ?_
  refine a_iconst (pc := 714) (dk dt_L_law_10 8 rfl) (ik rfl) ?_
  refine a_iadd (pc := 715) (dk dt_L_law_10 9 rfl) ?_
  refine a_sld (hxs := hxs) (pc := 716) (dk dt_L_law_10 10 rfl) ⟨H.1, ?_⟩
  replace H := H.2
  refine a_aload_n (pc := 717) (dk dt_L_law_10 11 rfl) rfl ?_
  refine a_iload_n (pc := 718) (dk dt_L_law_10 12 rfl) rfl ?_
  refine a_iconst (pc := 719) (dk dt_L_law_10 13 rfl) (ik rfl) ?_
  refine a_iadd (pc := 720) (dk dt_L_law_10 14 rfl) ?_
  refine a_sld (hxs := hxs) (pc := 721) (dk dt_L_law_10 15 rfl) ⟨H.1, ?_⟩
  replace H := H.2
  refine a_aload_n (pc := 722) (dk dt_L_law_10 16 rfl) rfl ?_
  refine a_iload_n (pc := 723) (dk dt_L_law_10 17 rfl) rfl ?_
  refine a_iconst (pc := 724) (dk dt_L_law_10 18 rfl) (ik rfl) ?_
  refine a_iadd (pc := 725) (dk dt_L_law_10 19 rfl) ?_
  refine a_sld (hxs := hxs) (pc := 726) (dk dt_L_law_10 20 rfl) ⟨H.1, ?_⟩
  replace H := H.2
  refine a_callVi (as := [iv (sx G (w32 (i + 1))), iv (sx G (w32 (i + 2))), iv (sx G (w32 (i + 3)))]) (st := [iv r1]) (pc := 727) (dk dt_L_law_10 21 rfl) cl_RL_79 ⟨Nat.le_of_ble_eq_true rfl, Nat.le_of_ble_eq_true rfl⟩ ⟨Nat.le_of_ble_eq_true rfl, Nat.le_of_ble_eq_true rfl⟩ cls_12 rfl cc_85 rfl rfl rfl (Nat.le_of_ble_eq_true rfl) (Call.mono H fun r3 h4 H => ?_)
  refine a_icmp_eq (pc := 730) (dk dt_L_law_10 22 rfl) (tgt := 1278) rfl ⟨fun c => ?_, fun c => ?_⟩
  · replace H := H.1 c
    exact a_pick [0, 1, 2, 3] rfl H
  · replace H := H.2 c
    exact a_pick [] rfl H
set_option maxHeartbeats 40000000 in
theorem LC_15 {G : GG} {h : Hp} {i : Int} (hxs : ∀ j, i32 (G.2.2.2.2.2 j)) (hL : G.2.2.2.2.1 ≤ 3072) (H : (0 ≤ (w32 (i + 1)) ∧ (w32 (i + 1)) < (G.2.2.2.2.1 : Int)) ∧ (0 ≤ (w32 (i + 2)) ∧ (w32 (i + 2)) < (G.2.2.2.2.1 : Int)) ∧ Call G m_X11_flip [rv 1, iv (sx G (w32 (i + 1))), iv (sx G (w32 (i + 2)))] h (fun r1 h2 => (0 ≤ (w32 (i + 1)) ∧ (w32 (i + 1)) < (G.2.2.2.2.1 : Int)) ∧ (0 ≤ (w32 (i + 2)) ∧ (w32 (i + 2)) < (G.2.2.2.2.1 : Int)) ∧ Call G m_X12_flip [rv 85, iv (sx G (w32 (i + 1))), iv (sx G (w32 (i + 2)))] h2 (fun r3 h4 => ((r1 = r3 → LT G 1278 [(0, rv 900), (1, rv 1), (2, rv 85), (3, iv i)] [] h4) ∧ (r1 ≠ r3 → LT G 766 [] [] h4))))) : LT G 735 [(0, rv 900), (1, rv 1), (2, rv 85), (3, iv i)] [] h := by
  refine a_aload_n (pc := 735) (dk dt_L_law_10 25 rfl) rfl ?_
  refine a_aload_n (pc := 736) (dk dt_L_law_10 26 rfl) rfl ?_
  refine a_iload_n (pc := 737) (dk dt_L_law_10 27 rfl) rfl ?_
  refine a_iconst (pc := 738) (dk dt_L_law_10 28 rfl) (ik rfl) ?_
  refine a_iadd (pc := 739) (dk dt_L_law_10 29 rfl) ?_
  refine a_sld (hxs := hxs) (pc := 740) (dk dt_L_law_10 30 rfl) ⟨H.1, ?_⟩
  replace H := H.2
  refine a_aload_n (pc := 741) (dk dt_L_law_10 31 rfl) rfl ?_
  refine a_iload_n (pc := 742) (dk dt_L_law_10 32 rfl) rfl ?_
  refine a_iconst (pc := 743) (dk dt_L_law_10 33 rfl) (ik rfl) ?_
  refine a_iadd (pc := 744) (dk dt_L_law_10 34 rfl) ?_
  refine a_sld (hxs := hxs) (pc := 745) (dk dt_L_law_10 35 rfl) ⟨H.1, ?_⟩
  replace H := H.2
  refine a_callVi (as := [iv (sx G (w32 (i + 1))), iv (sx G (w32 (i + 2)))]) (st := []) (pc := 746) (dk dt_L_law_10 36 rfl) cl_RL_80 ⟨Nat.le_of_ble_eq_true rfl, Nat.le_of_ble_eq_true rfl⟩ ⟨Nat.le_of_ble_eq_true rfl, Nat.le_of_ble_eq_true rfl⟩ cls_11 rfl cc_1 rfl rfl rfl (Nat.le_of_ble_eq_true rfl) (Call.mono H fun r1 h2 H => ?_)
  refine a_aload_n (pc := 749) (dk dt_L_law_10 37 rfl) rfl ?_
  refine a_aload_n (pc := 750) (dk dt_L_law_10 38 rfl) rfl ?_
  refine a_iload_n (pc := 751) (dk dt_L_law_10 39 rfl) rfl ?_
  refine a_iconst (pc := 752) (dk dt_L_law_10 40 rfl) (ik rfl) ?_
  refine a_iadd (pc := 753) (dk dt_L_law_10 41 rfl) ?_
  refine a_sld (hxs := hxs) (pc := 754) (dk dt_L_law_10 42 rfl) ⟨H.1, ?_⟩
  replace H := H.2
  refine a_aload_n (pc := 755) (dk dt_L_law_10 43 rfl) rfl ?_
  refine a_iload_n (pc := 756) (dk dt_L_law_10 44 rfl) rfl ?_
  refine a_iconst (pc := 757) (dk dt_L_law_11 0 rfl) (ik rfl) ?_
  refine a_iadd (pc := 758) (dk dt_L_law_11 1 rfl) ?_
  refine a_sld (hxs := hxs) (pc := 759) (dk dt_L_law_11 2 rfl) ⟨H.1, ?_⟩
  replace H := H.2
  refine a_callVi (as := [iv (sx G (w32 (i + 1))), iv (sx G (w32 (i + 2)))]) (st := [iv r1]) (pc := 760) (dk dt_L_law_11 3 rfl) cl_RL_83 ⟨Nat.le_of_ble_eq_true rfl, Nat.le_of_ble_eq_true rfl⟩ ⟨Nat.le_of_ble_eq_true rfl, Nat.le_of_ble_eq_true rfl⟩ cls_12 rfl cc_85 rfl rfl rfl (Nat.le_of_ble_eq_true rfl) (Call.mono H fun r3 h4 H => ?_)
  refine a_icmp_eq (pc := 763) (dk dt_L_law_11 4 rfl) (tgt := 1278) rfl ⟨fun c => ?_, fun c => ?_⟩
  · replace H := H.1 c
    exact a_pick [0, 1, 2, 3] rfl H
  · replace H := H.2 c
    exact a_pick [] rfl H
set_option maxHeartbeats 40000000 in
theorem LC_16 {G : GG} {h : Hp} {i : Int} (hxs : ∀ j, i32 (G.2.2.2.2.2 j)) (hL : G.2.2.2.2.1 ≤ 3072) (H : (0 ≤ (w32 (i + 1)) ∧ (w32 (i + 1)) < (G.2.2.2.2.1 : Int)) ∧ Call G m_X11_tick [rv 1, iv (sx G (w32 (i + 1)))] h (fun r1 h2 => (0 ≤ (w32 (i + 1)) ∧ (w32 (i + 1)) < (G.2.2.2.2.1 : Int)) ∧ Call G m_X12_tick [rv 85, iv (sx G (w32 (i + 1)))] h2 (fun r3 h4 => ((r1 = r3 → LT G 1278 [(0, rv 900), (1, rv 1), (2, rv 85), (3, iv i)] [] h4) ∧ (r1 ≠ r3 → LT G 789 [] [] h4))))) : LT G 768 [(0, rv 900), (1, rv 1), (2, rv 85), (3, iv i)] [] h := by
  refine a_aload_n (pc := 768) (dk dt_L_law_11 7 rfl) rfl ?_
  refine a_aload_n (pc := 769) (dk dt_L_law_11 8 rfl) rfl ?_
  refine a_iload_n (pc := 770) (dk dt_L_law_11 9 rfl) rfl ?_
  refine a_iconst (pc := 771) (dk dt_L_law_11 10 rfl) (ik rfl) ?_
  refine a_iadd (pc := 772) (dk dt_L_law_11 11 rfl) ?_
  refine a_sld (hxs := hxs) (pc := 773) (dk dt_L_law_11 12 rfl) ⟨H.1, ?_⟩
  replace H := H.2
  refine a_callVi (as := [iv (sx G (w32 (i + 1)))]) (st := []) (pc := 774) (dk dt_L_law_11 13 rfl) cl_RL_84 ⟨Nat.le_of_ble_eq_true rfl, Nat.le_of_ble_eq_true rfl⟩ ⟨Nat.le_of_ble_eq_true rfl, Nat.le_of_ble_eq_true rfl⟩ cls_11 rfl cc_1 rfl rfl rfl (Nat.le_of_ble_eq_true rfl) (Call.mono H fun r1 h2 H => ?_)
  refine a_aload_n (pc := 777) (dk dt_L_law_11 14 rfl) rfl ?_
  refine a_aload_n (pc := 778) (dk dt_L_law_11 15 rfl) rfl ?_
  refine a_iload_n (pc := 779) (dk dt_L_law_11 16 rfl) rfl ?_
  refine a_iconst (pc := 780) (dk dt_L_law_11 17 rfl) (ik rfl) ?_
  refine a_iadd (pc := 781) (dk dt_L_law_11 18 rfl) ?_
  refine a_sld (hxs := hxs) (pc := 782) (dk dt_L_law_11 19 rfl) ⟨H.1, ?_⟩
  replace H := H.2
  refine a_callVi (as := [iv (sx G (w32 (i + 1)))]) (st := [iv r1]) (pc := 783) (dk dt_L_law_11 20 rfl) cl_RL_87 ⟨Nat.le_of_ble_eq_true rfl, Nat.le_of_ble_eq_true rfl⟩ ⟨Nat.le_of_ble_eq_true rfl, Nat.le_of_ble_eq_true rfl⟩ cls_12 rfl cc_85 rfl rfl rfl (Nat.le_of_ble_eq_true rfl) (Call.mono H fun r3 h4 H => ?_)
  refine a_icmp_eq (pc := 786) (dk dt_L_law_11 21 rfl) (tgt := 1278) rfl ⟨fun c => ?_, fun c => ?_⟩
  · replace H := H.1 c
    exact a_pick [0, 1, 2, 3] rfl H
  · replace H := H.2 c
    exact a_pick [] rfl H
set_option maxHeartbeats 40000000 in
theorem LC_17 {G : GG} {h : Hp} {i : Int} (hxs : ∀ j, i32 (G.2.2.2.2.2 j)) (hL : G.2.2.2.2.1 ≤ 3072) (H : (0 ≤ (w32 (i + 1)) ∧ (w32 (i + 1)) < (G.2.2.2.2.1 : Int)) ∧ Call G m_X11_ship [rv 1, iv (sx G (w32 (i + 1)))] h (fun r1 h2 => (0 ≤ (w32 (i + 1)) ∧ (w32 (i + 1)) < (G.2.2.2.2.1 : Int)) ∧ Call G m_X12_ship [rv 85, iv (sx G (w32 (i + 1)))] h2 (fun r3 h4 => ((r1 = r3 → LT G 1278 [(0, rv 900), (1, rv 1), (2, rv 85), (3, iv i)] [] h4) ∧ (r1 ≠ r3 → LT G 812 [] [] h4))))) : LT G 791 [(0, rv 900), (1, rv 1), (2, rv 85), (3, iv i)] [] h := by
  refine a_aload_n (pc := 791) (dk dt_L_law_11 24 rfl) rfl ?_
  refine a_aload_n (pc := 792) (dk dt_L_law_11 25 rfl) rfl ?_
  refine a_iload_n (pc := 793) (dk dt_L_law_11 26 rfl) rfl ?_
  refine a_iconst (pc := 794) (dk dt_L_law_11 27 rfl) (ik rfl) ?_
  refine a_iadd (pc := 795) (dk dt_L_law_11 28 rfl) ?_
  refine a_sld (hxs := hxs) (pc := 796) (dk dt_L_law_11 29 rfl) ⟨H.1, ?_⟩
  replace H := H.2
  refine a_callVi (as := [iv (sx G (w32 (i + 1)))]) (st := []) (pc := 797) (dk dt_L_law_11 30 rfl) cl_RL_88 ⟨Nat.le_of_ble_eq_true rfl, Nat.le_of_ble_eq_true rfl⟩ ⟨Nat.le_of_ble_eq_true rfl, Nat.le_of_ble_eq_true rfl⟩ cls_11 rfl cc_1 rfl rfl rfl (Nat.le_of_ble_eq_true rfl) (Call.mono H fun r1 h2 H => ?_)
  refine a_aload_n (pc := 800) (dk dt_L_law_11 31 rfl) rfl ?_
  refine a_aload_n (pc := 801) (dk dt_L_law_11 32 rfl) rfl ?_
  refine a_iload_n (pc := 802) (dk dt_L_law_11 33 rfl) rfl ?_
  refine a_iconst (pc := 803) (dk dt_L_law_11 34 rfl) (ik rfl) ?_
  refine a_iadd (pc := 804) (dk dt_L_law_11 35 rfl) ?_
  refine a_sld (hxs := hxs) (pc := 805) (dk dt_L_law_11 36 rfl) ⟨H.1, ?_⟩
  replace H := H.2
  refine a_callVi (as := [iv (sx G (w32 (i + 1)))]) (st := [iv r1]) (pc := 806) (dk dt_L_law_11 37 rfl) cl_RL_91 ⟨Nat.le_of_ble_eq_true rfl, Nat.le_of_ble_eq_true rfl⟩ ⟨Nat.le_of_ble_eq_true rfl, Nat.le_of_ble_eq_true rfl⟩ cls_12 rfl cc_85 rfl rfl rfl (Nat.le_of_ble_eq_true rfl) (Call.mono H fun r3 h4 H => ?_)
  refine a_icmp_eq (pc := 809) (dk dt_L_law_11 38 rfl) (tgt := 1278) rfl ⟨fun c => ?_, fun c => ?_⟩
  · replace H := H.1 c
    exact a_pick [0, 1, 2, 3] rfl H
  · replace H := H.2 c
    exact a_pick [] rfl H
set_option maxHeartbeats 40000000 in
theorem LC_18 {G : GG} {h : Hp} {i : Int} (hxs : ∀ j, i32 (G.2.2.2.2.2 j)) (hL : G.2.2.2.2.1 ≤ 3072) (H : (0 ≤ (w32 (i + 1)) ∧ (w32 (i + 1)) < (G.2.2.2.2.1 : Int)) ∧ (0 ≤ (w32 (i + 2)) ∧ (w32 (i + 2)) < (G.2.2.2.2.1 : Int)) ∧ Call G m_X11_served [rv 1, iv (sx G (w32 (i + 1))), iv (sx G (w32 (i + 2)))] h (fun r1 h2 => (0 ≤ (w32 (i + 1)) ∧ (w32 (i + 1)) < (G.2.2.2.2.1 : Int)) ∧ (0 ≤ (w32 (i + 2)) ∧ (w32 (i + 2)) < (G.2.2.2.2.1 : Int)) ∧ Call G m_X12_served [rv 85, iv (sx G (w32 (i + 1))), iv (sx G (w32 (i + 2)))] h2 (fun r3 h4 => ((r1 = r3 → LT G 1278 [(0, rv 900), (1, rv 1), (2, rv 85), (3, iv i)] [] h4) ∧ (r1 ≠ r3 → LT G 845 [] [] h4))))) : LT G 814 [(0, rv 900), (1, rv 1), (2, rv 85), (3, iv i)] [] h := by
  refine a_aload_n (pc := 814) (dk dt_L_law_11 41 rfl) rfl ?_
  refine a_aload_n (pc := 815) (dk dt_L_law_11 42 rfl) rfl ?_
  refine a_iload_n (pc := 816) (dk dt_L_law_11 43 rfl) rfl ?_
  refine a_iconst (pc := 817) (dk dt_L_law_11 44 rfl) (ik rfl) ?_
  refine a_iadd (pc := 818) (dk dt_L_law_12 0 rfl) ?_
  refine a_sld (hxs := hxs) (pc := 819) (dk dt_L_law_12 1 rfl) ⟨H.1, ?_⟩
  replace H := H.2
  refine a_aload_n (pc := 820) (dk dt_L_law_12 2 rfl) rfl ?_
  refine a_iload_n (pc := 821) (dk dt_L_law_12 3 rfl) rfl ?_
  refine a_iconst (pc := 822) (dk dt_L_law_12 4 rfl) (ik rfl) ?_
  refine a_iadd (pc := 823) (dk dt_L_law_12 5 rfl) ?_
  refine a_sld (hxs := hxs) (pc := 824) (dk dt_L_law_12 6 rfl) ⟨H.1, ?_⟩
  replace H := H.2
  refine a_callVi (as := [iv (sx G (w32 (i + 1))), iv (sx G (w32 (i + 2)))]) (st := []) (pc := 825) (dk dt_L_law_12 7 rfl) cl_RL_92 ⟨Nat.le_of_ble_eq_true rfl, Nat.le_of_ble_eq_true rfl⟩ ⟨Nat.le_of_ble_eq_true rfl, Nat.le_of_ble_eq_true rfl⟩ cls_11 rfl cc_1 rfl rfl rfl (Nat.le_of_ble_eq_true rfl) (Call.mono H fun r1 h2 H => ?_)
  refine a_aload_n (pc := 828) (dk dt_L_law_12 8 rfl) rfl ?_
  refine a_aload_n (pc := 829) (dk dt_L_law_12 9 rfl) rfl ?_
  refine a_iload_n (pc := 830) (dk dt_L_law_12 10 rfl) rfl ?_
  refine a_iconst (pc := 831) (dk dt_L_law_12 11 rfl) (ik rfl) ?_
  refine a_iadd (pc := 832) (dk dt_L_law_12 12 rfl) ?_
  refine a_sld (hxs := hxs) (pc := 833) (dk dt_L_law_12 13 rfl) ⟨H.1, ?_⟩
  replace H := H.2
  refine a_aload_n (pc := 834) (dk dt_L_law_12 14 rfl) rfl ?_
  refine a_iload_n (pc := 835) (dk dt_L_law_12 15 rfl) rfl ?_
  refine a_iconst (pc := 836) (dk dt_L_law_12 16 rfl) (ik rfl) ?_
  refine a_iadd (pc := 837) (dk dt_L_law_12 17 rfl) ?_
  refine a_sld (hxs := hxs) (pc := 838) (dk dt_L_law_12 18 rfl) ⟨H.1, ?_⟩
  replace H := H.2
  refine a_callVi (as := [iv (sx G (w32 (i + 1))), iv (sx G (w32 (i + 2)))]) (st := [iv r1]) (pc := 839) (dk dt_L_law_12 19 rfl) cl_RL_95 ⟨Nat.le_of_ble_eq_true rfl, Nat.le_of_ble_eq_true rfl⟩ ⟨Nat.le_of_ble_eq_true rfl, Nat.le_of_ble_eq_true rfl⟩ cls_12 rfl cc_85 rfl rfl rfl (Nat.le_of_ble_eq_true rfl) (Call.mono H fun r3 h4 H => ?_)
  refine a_icmp_eq (pc := 842) (dk dt_L_law_12 20 rfl) (tgt := 1278) rfl ⟨fun c => ?_, fun c => ?_⟩
  · replace H := H.1 c
    exact a_pick [0, 1, 2, 3] rfl H
  · replace H := H.2 c
    exact a_pick [] rfl H
set_option maxHeartbeats 40000000 in
theorem LC_19 {G : GG} {h : Hp} {i : Int} (hxs : ∀ j, i32 (G.2.2.2.2.2 j)) (hL : G.2.2.2.2.1 ≤ 3072) (H : (0 ≤ (w32 (i + 1)) ∧ (w32 (i + 1)) < (G.2.2.2.2.1 : Int)) ∧ (0 ≤ (w32 (i + 2)) ∧ (w32 (i + 2)) < (G.2.2.2.2.1 : Int)) ∧ Call G m_X11_runs [rv 1, iv (sx G (w32 (i + 1))), iv (sx G (w32 (i + 2)))] h (fun r1 h2 => (0 ≤ (w32 (i + 1)) ∧ (w32 (i + 1)) < (G.2.2.2.2.1 : Int)) ∧ (0 ≤ (w32 (i + 2)) ∧ (w32 (i + 2)) < (G.2.2.2.2.1 : Int)) ∧ Call G m_X12_runs [rv 85, iv (sx G (w32 (i + 1))), iv (sx G (w32 (i + 2)))] h2 (fun r3 h4 => ((r1 = r3 → LT G 1278 [(0, rv 900), (1, rv 1), (2, rv 85), (3, iv i)] [] h4) ∧ (r1 ≠ r3 → LT G 878 [] [] h4))))) : LT G 847 [(0, rv 900), (1, rv 1), (2, rv 85), (3, iv i)] [] h := by
  refine a_aload_n (pc := 847) (dk dt_L_law_12 23 rfl) rfl ?_
  refine a_aload_n (pc := 848) (dk dt_L_law_12 24 rfl) rfl ?_
  refine a_iload_n (pc := 849) (dk dt_L_law_12 25 rfl) rfl ?_
  refine a_iconst (pc := 850) (dk dt_L_law_12 26 rfl) (ik rfl) ?_
  refine a_iadd (pc := 851) (dk dt_L_law_12 27 rfl) ?_
  refine a_sld (hxs := hxs) (pc := 852) (dk dt_L_law_12 28 rfl) ⟨H.1, ?_⟩
  replace H := H.2
  refine a_aload_n (pc := 853) (dk dt_L_law_12 29 rfl) rfl ?_
  refine a_iload_n (pc := 854) (dk dt_L_law_12 30 rfl) rfl ?_
  refine a_iconst (pc := 855) (dk dt_L_law_12 31 rfl) (ik rfl) ?_
  refine a_iadd (pc := 856) (dk dt_L_law_12 32 rfl) ?_
  refine a_sld (hxs := hxs) (pc := 857) (dk dt_L_law_12 33 rfl) ⟨H.1, ?_⟩
  replace H := H.2
  refine a_callVi (as := [iv (sx G (w32 (i + 1))), iv (sx G (w32 (i + 2)))]) (st := []) (pc := 858) (dk dt_L_law_12 34 rfl) cl_RL_96 ⟨Nat.le_of_ble_eq_true rfl, Nat.le_of_ble_eq_true rfl⟩ ⟨Nat.le_of_ble_eq_true rfl, Nat.le_of_ble_eq_true rfl⟩ cls_11 rfl cc_1 rfl rfl rfl (Nat.le_of_ble_eq_true rfl) (Call.mono H fun r1 h2 H => ?_)
  refine a_aload_n (pc := 861) (dk dt_L_law_12 35 rfl) rfl ?_
  refine a_aload_n (pc := 862) (dk dt_L_law_12 36 rfl) rfl ?_
  refine a_iload_n (pc := 863) (dk dt_L_law_12 37 rfl) rfl ?_
  refine a_iconst (pc := 864) (dk dt_L_law_12 38 rfl) (ik rfl) ?_
  refine a_iadd (pc := 865) (dk dt_L_law_12 39 rfl) ?_
  refine a_sld (hxs := hxs) (pc := 866) (dk dt_L_law_12 40 rfl) ⟨H.1, ?_⟩
  replace H := H.2
  refine a_aload_n (pc := 867) (dk dt_L_law_12 41 rfl) rfl ?_
  refine a_iload_n (pc := 868) (dk dt_L_law_12 42 rfl) rfl ?_
  refine a_iconst (pc := 869) (dk dt_L_law_12 43 rfl) (ik rfl) ?_
  refine a_iadd (pc := 870) (dk dt_L_law_12 44 rfl) ?_
  refine a_sld (hxs := hxs) (pc := 871) (dk dt_L_law_13 0 rfl) ⟨H.1, ?_⟩
  replace H := H.2
  refine a_callVi (as := [iv (sx G (w32 (i + 1))), iv (sx G (w32 (i + 2)))]) (st := [iv r1]) (pc := 872) (dk dt_L_law_13 1 rfl) cl_RL_99 ⟨Nat.le_of_ble_eq_true rfl, Nat.le_of_ble_eq_true rfl⟩ ⟨Nat.le_of_ble_eq_true rfl, Nat.le_of_ble_eq_true rfl⟩ cls_12 rfl cc_85 rfl rfl rfl (Nat.le_of_ble_eq_true rfl) (Call.mono H fun r3 h4 H => ?_)
  refine a_icmp_eq (pc := 875) (dk dt_L_law_13 2 rfl) (tgt := 1278) rfl ⟨fun c => ?_, fun c => ?_⟩
  · replace H := H.1 c
    exact a_pick [0, 1, 2, 3] rfl H
  · replace H := H.2 c
    exact a_pick [] rfl H
set_option maxHeartbeats 40000000 in
theorem LC_20 {G : GG} {h : Hp} {i : Int} (hxs : ∀ j, i32 (G.2.2.2.2.2 j)) (hL : G.2.2.2.2.1 ≤ 3072) (H : (0 ≤ (w32 (i + 1)) ∧ (w32 (i + 1)) < (G.2.2.2.2.1 : Int)) ∧ (0 ≤ (w32 (i + 2)) ∧ (w32 (i + 2)) < (G.2.2.2.2.1 : Int)) ∧ Call G m_X11_word [rv 1, iv (sx G (w32 (i + 1))), iv (sx G (w32 (i + 2)))] h (fun r1 h2 => (0 ≤ (w32 (i + 1)) ∧ (w32 (i + 1)) < (G.2.2.2.2.1 : Int)) ∧ (0 ≤ (w32 (i + 2)) ∧ (w32 (i + 2)) < (G.2.2.2.2.1 : Int)) ∧ Call G m_X12_word [rv 85, iv (sx G (w32 (i + 1))), iv (sx G (w32 (i + 2)))] h2 (fun r3 h4 => ((r1 = r3 → LT G 1278 [(0, rv 900), (1, rv 1), (2, rv 85), (3, iv i)] [] h4) ∧ (r1 ≠ r3 → LT G 911 [] [] h4))))) : LT G 880 [(0, rv 900), (1, rv 1), (2, rv 85), (3, iv i)] [] h := by
  refine a_aload_n (pc := 880) (dk dt_L_law_13 5 rfl) rfl ?_
  refine a_aload_n (pc := 881) (dk dt_L_law_13 6 rfl) rfl ?_
  refine a_iload_n (pc := 882) (dk dt_L_law_13 7 rfl) rfl ?_
  refine a_iconst (pc := 883) (dk dt_L_law_13 8 rfl) (ik rfl) ?_
  refine a_iadd (pc := 884) (dk dt_L_law_13 9 rfl) ?_
  refine a_sld (hxs := hxs) (pc := 885) (dk dt_L_law_13 10 rfl) ⟨H.1, ?_⟩
  replace H := H.2
  refine a_aload_n (pc := 886) (dk dt_L_law_13 11 rfl) rfl ?_
  refine a_iload_n (pc := 887) (dk dt_L_law_13 12 rfl) rfl ?_
  refine a_iconst (pc := 888) (dk dt_L_law_13 13 rfl) (ik rfl) ?_
  refine a_iadd (pc := 889) (dk dt_L_law_13 14 rfl) ?_
  refine a_sld (hxs := hxs) (pc := 890) (dk dt_L_law_13 15 rfl) ⟨H.1, ?_⟩
  replace H := H.2
  refine a_callVi (as := [iv (sx G (w32 (i + 1))), iv (sx G (w32 (i + 2)))]) (st := []) (pc := 891) (dk dt_L_law_13 16 rfl) cl_RL_100 ⟨Nat.le_of_ble_eq_true rfl, Nat.le_of_ble_eq_true rfl⟩ ⟨Nat.le_of_ble_eq_true rfl, Nat.le_of_ble_eq_true rfl⟩ cls_11 rfl cc_1 rfl rfl rfl (Nat.le_of_ble_eq_true rfl) (Call.mono H fun r1 h2 H => ?_)
  refine a_aload_n (pc := 894) (dk dt_L_law_13 17 rfl) rfl ?_
  refine a_aload_n (pc := 895) (dk dt_L_law_13 18 rfl) rfl ?_
  refine a_iload_n (pc := 896) (dk dt_L_law_13 19 rfl) rfl ?_
  refine a_iconst (pc := 897) (dk dt_L_law_13 20 rfl) (ik rfl) ?_
  refine a_iadd (pc := 898) (dk dt_L_law_13 21 rfl) ?_
  refine a_sld (hxs := hxs) (pc := 899) (dk dt_L_law_13 22 rfl) ⟨H.1, ?_⟩
  replace H := H.2
  refine a_aload_n (pc := 900) (dk dt_L_law_13 23 rfl) rfl ?_
  refine a_iload_n (pc := 901) (dk dt_L_law_13 24 rfl) rfl ?_
  refine a_iconst (pc := 902) (dk dt_L_law_13 25 rfl) (ik rfl) ?_
  refine a_iadd (pc := 903) (dk dt_L_law_13 26 rfl) ?_
  refine a_sld (hxs := hxs) (pc := 904) (dk dt_L_law_13 27 rfl) ⟨H.1, ?_⟩
  replace H := H.2
  refine a_callVi (as := [iv (sx G (w32 (i + 1))), iv (sx G (w32 (i + 2)))]) (st := [iv r1]) (pc := 905) (dk dt_L_law_13 28 rfl) cl_RL_103 ⟨Nat.le_of_ble_eq_true rfl, Nat.le_of_ble_eq_true rfl⟩ ⟨Nat.le_of_ble_eq_true rfl, Nat.le_of_ble_eq_true rfl⟩ cls_12 rfl cc_85 rfl rfl rfl (Nat.le_of_ble_eq_true rfl) (Call.mono H fun r3 h4 H => ?_)
  refine a_icmp_eq (pc := 908) (dk dt_L_law_13 29 rfl) (tgt := 1278) rfl ⟨fun c => ?_, fun c => ?_⟩
  · replace H := H.1 c
    exact a_pick [0, 1, 2, 3] rfl H
  · replace H := H.2 c
    exact a_pick [] rfl H
set_option maxHeartbeats 40000000 in
theorem LC_21 {G : GG} {h : Hp} {i : Int} (hxs : ∀ j, i32 (G.2.2.2.2.2 j)) (hL : G.2.2.2.2.1 ≤ 3072) (H : (0 ≤ (w32 (i + 1)) ∧ (w32 (i + 1)) < (G.2.2.2.2.1 : Int)) ∧ (0 ≤ (w32 (i + 2)) ∧ (w32 (i + 2)) < (G.2.2.2.2.1 : Int)) ∧ Call G m_X11_noise [rv 1, iv (sx G (w32 (i + 1))), iv (sx G (w32 (i + 2)))] h (fun r1 h2 => (0 ≤ (w32 (i + 1)) ∧ (w32 (i + 1)) < (G.2.2.2.2.1 : Int)) ∧ (0 ≤ (w32 (i + 2)) ∧ (w32 (i + 2)) < (G.2.2.2.2.1 : Int)) ∧ Call G m_X12_noise [rv 85, iv (sx G (w32 (i + 1))), iv (sx G (w32 (i + 2)))] h2 (fun r3 h4 => ((r1 = r3 → LT G 1278 [(0, rv 900), (1, rv 1), (2, rv 85), (3, iv i)] [] h4) ∧ (r1 ≠ r3 → LT G 944 [] [] h4))))) : LT G 913 [(0, rv 900), (1, rv 1), (2, rv 85), (3, iv i)] [] h := by
  refine a_aload_n (pc := 913) (dk dt_L_law_13 32 rfl) rfl ?_
  refine a_aload_n (pc := 914) (dk dt_L_law_13 33 rfl) rfl ?_
  refine a_iload_n (pc := 915) (dk dt_L_law_13 34 rfl) rfl ?_
  refine a_iconst (pc := 916) (dk dt_L_law_13 35 rfl) (ik rfl) ?_
  refine a_iadd (pc := 917) (dk dt_L_law_13 36 rfl) ?_
  refine a_sld (hxs := hxs) (pc := 918) (dk dt_L_law_13 37 rfl) ⟨H.1, ?_⟩
  replace H := H.2
  refine a_aload_n (pc := 919) (dk dt_L_law_13 38 rfl) rfl ?_
  refine a_iload_n (pc := 920) (dk dt_L_law_13 39 rfl) rfl ?_
  refine a_iconst (pc := 921) (dk dt_L_law_13 40 rfl) (ik rfl) ?_
  refine a_iadd (pc := 922) (dk dt_L_law_13 41 rfl) ?_
  refine a_sld (hxs := hxs) (pc := 923) (dk dt_L_law_13 42 rfl) ⟨H.1, ?_⟩
  replace H := H.2
  refine a_callVi (as := [iv (sx G (w32 (i + 1))), iv (sx G (w32 (i + 2)))]) (st := []) (pc := 924) (dk dt_L_law_13 43 rfl) cl_RL_104 ⟨Nat.le_of_ble_eq_true rfl, Nat.le_of_ble_eq_true rfl⟩ ⟨Nat.le_of_ble_eq_true rfl, Nat.le_of_ble_eq_true rfl⟩ cls_11 rfl cc_1 rfl rfl rfl (Nat.le_of_ble_eq_true rfl) (Call.mono H fun r1 h2 H => ?_)
  refine a_aload_n (pc := 927) (dk dt_L_law_13 44 rfl) rfl ?_
  refine a_aload_n (pc := 928) (dk dt_L_law_14 0 rfl) rfl ?_
  refine a_iload_n (pc := 929) (dk dt_L_law_14 1 rfl) rfl ?_
  refine a_iconst (pc := 930) (dk dt_L_law_14 2 rfl) (ik rfl) ?_
  refine a_iadd (pc := 931) (dk dt_L_law_14 3 rfl) ?_
  refine a_sld (hxs := hxs) (pc := 932) (dk dt_L_law_14 4 rfl) ⟨H.1, ?_⟩
  replace H := H.2
  refine a_aload_n (pc := 933) (dk dt_L_law_14 5 rfl) rfl ?_
  refine a_iload_n (pc := 934) (dk dt_L_law_14 6 rfl) rfl ?_
  refine a_iconst (pc := 935) (dk dt_L_law_14 7 rfl) (ik rfl) ?_
  refine a_iadd (pc := 936) (dk dt_L_law_14 8 rfl) ?_
  refine a_sld (hxs := hxs) (pc := 937) (dk dt_L_law_14 9 rfl) ⟨H.1, ?_⟩
  replace H := H.2
  refine a_callVi (as := [iv (sx G (w32 (i + 1))), iv (sx G (w32 (i + 2)))]) (st := [iv r1]) (pc := 938) (dk dt_L_law_14 10 rfl) cl_RL_107 ⟨Nat.le_of_ble_eq_true rfl, Nat.le_of_ble_eq_true rfl⟩ ⟨Nat.le_of_ble_eq_true rfl, Nat.le_of_ble_eq_true rfl⟩ cls_12 rfl cc_85 rfl rfl rfl (Nat.le_of_ble_eq_true rfl) (Call.mono H fun r3 h4 H => ?_)
  refine a_icmp_eq (pc := 941) (dk dt_L_law_14 11 rfl) (tgt := 1278) rfl ⟨fun c => ?_, fun c => ?_⟩
  · replace H := H.1 c
    exact a_pick [0, 1, 2, 3] rfl H
  · replace H := H.2 c
    exact a_pick [] rfl H
set_option maxHeartbeats 40000000 in
theorem LC_22 {G : GG} {h : Hp} {i : Int} (hxs : ∀ j, i32 (G.2.2.2.2.2 j)) (hL : G.2.2.2.2.1 ≤ 3072) (H : Call G m_X11_lose [rv 1] h (fun r1 h2 => Call G m_X12_lose [rv 85] h2 (fun r3 h4 => ((r1 = r3 → LT G 1278 [(0, rv 900), (1, rv 1), (2, rv 85), (3, iv i)] [] h4) ∧ (r1 ≠ r3 → LT G 957 [] [] h4))))) : LT G 946 [(0, rv 900), (1, rv 1), (2, rv 85), (3, iv i)] [] h := by
  refine a_aload_n (pc := 946) (dk dt_L_law_14 14 rfl) rfl ?_
  refine a_callVi (as := []) (st := []) (pc := 947) (dk dt_L_law_14 15 rfl) cl_RL_108 ⟨Nat.le_of_ble_eq_true rfl, Nat.le_of_ble_eq_true rfl⟩ ⟨Nat.le_of_ble_eq_true rfl, Nat.le_of_ble_eq_true rfl⟩ cls_11 rfl cc_1 rfl rfl rfl (Nat.le_of_ble_eq_true rfl) (Call.mono H fun r1 h2 H => ?_)
  refine a_aload_n (pc := 950) (dk dt_L_law_14 16 rfl) rfl ?_
  refine a_callVi (as := []) (st := [iv r1]) (pc := 951) (dk dt_L_law_14 17 rfl) cl_RL_111 ⟨Nat.le_of_ble_eq_true rfl, Nat.le_of_ble_eq_true rfl⟩ ⟨Nat.le_of_ble_eq_true rfl, Nat.le_of_ble_eq_true rfl⟩ cls_12 rfl cc_85 rfl rfl rfl (Nat.le_of_ble_eq_true rfl) (Call.mono H fun r3 h4 H => ?_)
  refine a_icmp_eq (pc := 954) (dk dt_L_law_14 18 rfl) (tgt := 1278) rfl ⟨fun c => ?_, fun c => ?_⟩
  · replace H := H.1 c
    exact a_pick [0, 1, 2, 3] rfl H
  · replace H := H.2 c
    exact a_pick [] rfl H
set_option maxHeartbeats 40000000 in
theorem LC_23 {G : GG} {h : Hp} {i : Int} (hxs : ∀ j, i32 (G.2.2.2.2.2 j)) (hL : G.2.2.2.2.1 ≤ 3072) (H : Call G m_X11_receive [rv 1] h (fun r1 h2 => Call G m_X12_receive [rv 85] h2 (fun r3 h4 => ((r1 = r3 → LT G 1278 [(0, rv 900), (1, rv 1), (2, rv 85), (3, iv i)] [] h4) ∧ (r1 ≠ r3 → LT G 970 [] [] h4))))) : LT G 959 [(0, rv 900), (1, rv 1), (2, rv 85), (3, iv i)] [] h := by
  refine a_aload_n (pc := 959) (dk dt_L_law_14 21 rfl) rfl ?_
  refine a_callVi (as := []) (st := []) (pc := 960) (dk dt_L_law_14 22 rfl) cl_RL_112 ⟨Nat.le_of_ble_eq_true rfl, Nat.le_of_ble_eq_true rfl⟩ ⟨Nat.le_of_ble_eq_true rfl, Nat.le_of_ble_eq_true rfl⟩ cls_11 rfl cc_1 rfl rfl rfl (Nat.le_of_ble_eq_true rfl) (Call.mono H fun r1 h2 H => ?_)
  refine a_aload_n (pc := 963) (dk dt_L_law_14 23 rfl) rfl ?_
  refine a_callVi (as := []) (st := [iv r1]) (pc := 964) (dk dt_L_law_14 24 rfl) cl_RL_115 ⟨Nat.le_of_ble_eq_true rfl, Nat.le_of_ble_eq_true rfl⟩ ⟨Nat.le_of_ble_eq_true rfl, Nat.le_of_ble_eq_true rfl⟩ cls_12 rfl cc_85 rfl rfl rfl (Nat.le_of_ble_eq_true rfl) (Call.mono H fun r3 h4 H => ?_)
  refine a_icmp_eq (pc := 967) (dk dt_L_law_14 25 rfl) (tgt := 1278) rfl ⟨fun c => ?_, fun c => ?_⟩
  · replace H := H.1 c
    exact a_pick [0, 1, 2, 3] rfl H
  · replace H := H.2 c
    exact a_pick [] rfl H
set_option maxHeartbeats 40000000 in
theorem LC_24 {G : GG} {h : Hp} {i : Int} (hxs : ∀ j, i32 (G.2.2.2.2.2 j)) (hL : G.2.2.2.2.1 ≤ 3072) (H : (0 ≤ (w32 (i + 1)) ∧ (w32 (i + 1)) < (G.2.2.2.2.1 : Int)) ∧ Call G m_X11_packet [rv 1, iv (sx G (w32 (i + 1)))] h (fun r1 h2 => (0 ≤ (w32 (i + 1)) ∧ (w32 (i + 1)) < (G.2.2.2.2.1 : Int)) ∧ Call G m_X12_packet [rv 85, iv (sx G (w32 (i + 1)))] h2 (fun r3 h4 => ((r1 = r3 → LT G 1278 [(0, rv 900), (1, rv 1), (2, rv 85), (3, iv i)] [] h4) ∧ (r1 ≠ r3 → LT G 993 [] [] h4))))) : LT G 972 [(0, rv 900), (1, rv 1), (2, rv 85), (3, iv i)] [] h := by
  refine a_aload_n (pc := 972) (dk dt_L_law_14 28 rfl) rfl ?_
  refine a_aload_n (pc := 973) (dk dt_L_law_14 29 rfl) rfl ?_
  refine a_iload_n (pc := 974) (dk dt_L_law_14 30 rfl) rfl ?_
  refine a_iconst (pc := 975) (dk dt_L_law_14 31 rfl) (ik rfl) ?_
  refine a_iadd (pc := 976) (dk dt_L_law_14 32 rfl) ?_
  refine a_sld (hxs := hxs) (pc := 977) (dk dt_L_law_14 33 rfl) ⟨H.1, ?_⟩
  replace H := H.2
  refine a_callVi (as := [iv (sx G (w32 (i + 1)))]) (st := []) (pc := 978) (dk dt_L_law_14 34 rfl) cl_RL_116 ⟨Nat.le_of_ble_eq_true rfl, Nat.le_of_ble_eq_true rfl⟩ ⟨Nat.le_of_ble_eq_true rfl, Nat.le_of_ble_eq_true rfl⟩ cls_11 rfl cc_1 rfl rfl rfl (Nat.le_of_ble_eq_true rfl) (Call.mono H fun r1 h2 H => ?_)
  refine a_aload_n (pc := 981) (dk dt_L_law_14 35 rfl) rfl ?_
  refine a_aload_n (pc := 982) (dk dt_L_law_14 36 rfl) rfl ?_
  refine a_iload_n (pc := 983) (dk dt_L_law_14 37 rfl) rfl ?_
  refine a_iconst (pc := 984) (dk dt_L_law_14 38 rfl) (ik rfl) ?_
  refine a_iadd (pc := 985) (dk dt_L_law_14 39 rfl) ?_
  refine a_sld (hxs := hxs) (pc := 986) (dk dt_L_law_14 40 rfl) ⟨H.1, ?_⟩
  replace H := H.2
  refine a_callVi (as := [iv (sx G (w32 (i + 1)))]) (st := [iv r1]) (pc := 987) (dk dt_L_law_14 41 rfl) cl_RL_119 ⟨Nat.le_of_ble_eq_true rfl, Nat.le_of_ble_eq_true rfl⟩ ⟨Nat.le_of_ble_eq_true rfl, Nat.le_of_ble_eq_true rfl⟩ cls_12 rfl cc_85 rfl rfl rfl (Nat.le_of_ble_eq_true rfl) (Call.mono H fun r3 h4 H => ?_)
  refine a_icmp_eq (pc := 990) (dk dt_L_law_14 42 rfl) (tgt := 1278) rfl ⟨fun c => ?_, fun c => ?_⟩
  · replace H := H.1 c
    exact a_pick [0, 1, 2, 3] rfl H
  · replace H := H.2 c
    exact a_pick [] rfl H
set_option maxHeartbeats 40000000 in
theorem LC_25 {G : GG} {h : Hp} {i : Int} (hxs : ∀ j, i32 (G.2.2.2.2.2 j)) (hL : G.2.2.2.2.1 ≤ 3072) (H : Call G m_X11_command [rv 1] h (fun r1 h2 => Call G m_X12_command [rv 85] h2 (fun r3 h4 => ((r1 = r3 → LT G 1278 [(0, rv 900), (1, rv 1), (2, rv 85), (3, iv i)] [] h4) ∧ (r1 ≠ r3 → LT G 1006 [] [] h4))))) : LT G 995 [(0, rv 900), (1, rv 1), (2, rv 85), (3, iv i)] [] h := by
  refine a_aload_n (pc := 995) (dk dt_L_law_15 0 rfl) rfl ?_
  refine a_callVi (as := []) (st := []) (pc := 996) (dk dt_L_law_15 1 rfl) cl_RL_120 ⟨Nat.le_of_ble_eq_true rfl, Nat.le_of_ble_eq_true rfl⟩ ⟨Nat.le_of_ble_eq_true rfl, Nat.le_of_ble_eq_true rfl⟩ cls_11 rfl cc_1 rfl rfl rfl (Nat.le_of_ble_eq_true rfl) (Call.mono H fun r1 h2 H => ?_)
  refine a_aload_n (pc := 999) (dk dt_L_law_15 2 rfl) rfl ?_
  refine a_callVi (as := []) (st := [iv r1]) (pc := 1000) (dk dt_L_law_15 3 rfl) cl_RL_123 ⟨Nat.le_of_ble_eq_true rfl, Nat.le_of_ble_eq_true rfl⟩ ⟨Nat.le_of_ble_eq_true rfl, Nat.le_of_ble_eq_true rfl⟩ cls_12 rfl cc_85 rfl rfl rfl (Nat.le_of_ble_eq_true rfl) (Call.mono H fun r3 h4 H => ?_)
  refine a_icmp_eq (pc := 1003) (dk dt_L_law_15 4 rfl) (tgt := 1278) rfl ⟨fun c => ?_, fun c => ?_⟩
  · replace H := H.1 c
    exact a_pick [0, 1, 2, 3] rfl H
  · replace H := H.2 c
    exact a_pick [] rfl H
set_option maxHeartbeats 40000000 in
theorem LC_26 {G : GG} {h : Hp} {i : Int} (hxs : ∀ j, i32 (G.2.2.2.2.2 j)) (hL : G.2.2.2.2.1 ≤ 3072) (H : (0 ≤ (w32 (i + 1)) ∧ (w32 (i + 1)) < (G.2.2.2.2.1 : Int)) ∧ Call G m_X11_send [rv 1, iv (sx G (w32 (i + 1)))] h (fun r1 h2 => (0 ≤ (w32 (i + 1)) ∧ (w32 (i + 1)) < (G.2.2.2.2.1 : Int)) ∧ Call G m_X12_send [rv 85, iv (sx G (w32 (i + 1)))] h2 (fun r3 h4 => ((r1 = r3 → LT G 1278 [(0, rv 900), (1, rv 1), (2, rv 85), (3, iv i)] [] h4) ∧ (r1 ≠ r3 → LT G 1029 [] [] h4))))) : LT G 1008 [(0, rv 900), (1, rv 1), (2, rv 85), (3, iv i)] [] h := by
  refine a_aload_n (pc := 1008) (dk dt_L_law_15 7 rfl) rfl ?_
  refine a_aload_n (pc := 1009) (dk dt_L_law_15 8 rfl) rfl ?_
  refine a_iload_n (pc := 1010) (dk dt_L_law_15 9 rfl) rfl ?_
  refine a_iconst (pc := 1011) (dk dt_L_law_15 10 rfl) (ik rfl) ?_
  refine a_iadd (pc := 1012) (dk dt_L_law_15 11 rfl) ?_
  refine a_sld (hxs := hxs) (pc := 1013) (dk dt_L_law_15 12 rfl) ⟨H.1, ?_⟩
  replace H := H.2
  refine a_callVi (as := [iv (sx G (w32 (i + 1)))]) (st := []) (pc := 1014) (dk dt_L_law_15 13 rfl) cl_RL_124 ⟨Nat.le_of_ble_eq_true rfl, Nat.le_of_ble_eq_true rfl⟩ ⟨Nat.le_of_ble_eq_true rfl, Nat.le_of_ble_eq_true rfl⟩ cls_11 rfl cc_1 rfl rfl rfl (Nat.le_of_ble_eq_true rfl) (Call.mono H fun r1 h2 H => ?_)
  refine a_aload_n (pc := 1017) (dk dt_L_law_15 14 rfl) rfl ?_
  refine a_aload_n (pc := 1018) (dk dt_L_law_15 15 rfl) rfl ?_
  refine a_iload_n (pc := 1019) (dk dt_L_law_15 16 rfl) rfl ?_
  refine a_iconst (pc := 1020) (dk dt_L_law_15 17 rfl) (ik rfl) ?_
  refine a_iadd (pc := 1021) (dk dt_L_law_15 18 rfl) ?_
  refine a_sld (hxs := hxs) (pc := 1022) (dk dt_L_law_15 19 rfl) ⟨H.1, ?_⟩
  replace H := H.2
  refine a_callVi (as := [iv (sx G (w32 (i + 1)))]) (st := [iv r1]) (pc := 1023) (dk dt_L_law_15 20 rfl) cl_RL_127 ⟨Nat.le_of_ble_eq_true rfl, Nat.le_of_ble_eq_true rfl⟩ ⟨Nat.le_of_ble_eq_true rfl, Nat.le_of_ble_eq_true rfl⟩ cls_12 rfl cc_85 rfl rfl rfl (Nat.le_of_ble_eq_true rfl) (Call.mono H fun r3 h4 H => ?_)
  refine a_icmp_eq (pc := 1026) (dk dt_L_law_15 21 rfl) (tgt := 1278) rfl ⟨fun c => ?_, fun c => ?_⟩
  · replace H := H.1 c
    exact a_pick [0, 1, 2, 3] rfl H
  · replace H := H.2 c
    exact a_pick [] rfl H
set_option maxHeartbeats 40000000 in
theorem LC_27 {G : GG} {h : Hp} {i : Int} (hxs : ∀ j, i32 (G.2.2.2.2.2 j)) (hL : G.2.2.2.2.1 ≤ 3072) (H : (0 ≤ (w32 (i + 1)) ∧ (w32 (i + 1)) < (G.2.2.2.2.1 : Int)) ∧ Call G m_X11_ground [rv 1, iv (sx G (w32 (i + 1)))] h (fun r1 h2 => (0 ≤ (w32 (i + 1)) ∧ (w32 (i + 1)) < (G.2.2.2.2.1 : Int)) ∧ Call G m_X12_ground [rv 85, iv (sx G (w32 (i + 1)))] h2 (fun r3 h4 => ((r1 = r3 → LT G 1278 [(0, rv 900), (1, rv 1), (2, rv 85), (3, iv i)] [] h4) ∧ (r1 ≠ r3 → LT G 1052 [] [] h4))))) : LT G 1031 [(0, rv 900), (1, rv 1), (2, rv 85), (3, iv i)] [] h := by
  refine a_aload_n (pc := 1031) (dk dt_L_law_15 24 rfl) rfl ?_
  refine a_aload_n (pc := 1032) (dk dt_L_law_15 25 rfl) rfl ?_
  refine a_iload_n (pc := 1033) (dk dt_L_law_15 26 rfl) rfl ?_
  refine a_iconst (pc := 1034) (dk dt_L_law_15 27 rfl) (ik rfl) ?_
  refine a_iadd (pc := 1035) (dk dt_L_law_15 28 rfl) ?_
  refine a_sld (hxs := hxs) (pc := 1036) (dk dt_L_law_15 29 rfl) ⟨H.1, ?_⟩
  replace H := H.2
  refine a_callVi (as := [iv (sx G (w32 (i + 1)))]) (st := []) (pc := 1037) (dk dt_L_law_15 30 rfl) cl_RL_128 ⟨Nat.le_of_ble_eq_true rfl, Nat.le_of_ble_eq_true rfl⟩ ⟨Nat.le_of_ble_eq_true rfl, Nat.le_of_ble_eq_true rfl⟩ cls_11 rfl cc_1 rfl rfl rfl (Nat.le_of_ble_eq_true rfl) (Call.mono H fun r1 h2 H => ?_)
  refine a_aload_n (pc := 1040) (dk dt_L_law_15 31 rfl) rfl ?_
  refine a_aload_n (pc := 1041) (dk dt_L_law_15 32 rfl) rfl ?_
  refine a_iload_n (pc := 1042) (dk dt_L_law_15 33 rfl) rfl ?_
  refine a_iconst (pc := 1043) (dk dt_L_law_15 34 rfl) (ik rfl) ?_
  refine a_iadd (pc := 1044) (dk dt_L_law_15 35 rfl) ?_
  refine a_sld (hxs := hxs) (pc := 1045) (dk dt_L_law_15 36 rfl) ⟨H.1, ?_⟩
  replace H := H.2
  refine a_callVi (as := [iv (sx G (w32 (i + 1)))]) (st := [iv r1]) (pc := 1046) (dk dt_L_law_15 37 rfl) cl_RL_131 ⟨Nat.le_of_ble_eq_true rfl, Nat.le_of_ble_eq_true rfl⟩ ⟨Nat.le_of_ble_eq_true rfl, Nat.le_of_ble_eq_true rfl⟩ cls_12 rfl cc_85 rfl rfl rfl (Nat.le_of_ble_eq_true rfl) (Call.mono H fun r3 h4 H => ?_)
  refine a_icmp_eq (pc := 1049) (dk dt_L_law_15 38 rfl) (tgt := 1278) rfl ⟨fun c => ?_, fun c => ?_⟩
  · replace H := H.1 c
    exact a_pick [0, 1, 2, 3] rfl H
  · replace H := H.2 c
    exact a_pick [] rfl H
set_option maxHeartbeats 40000000 in
theorem LC_28 {G : GG} {h : Hp} {i : Int} (hxs : ∀ j, i32 (G.2.2.2.2.2 j)) (hL : G.2.2.2.2.1 ≤ 3072) (H : (0 ≤ (w32 (i + 1)) ∧ (w32 (i + 1)) < (G.2.2.2.2.1 : Int)) ∧ (0 ≤ (w32 (i + 2)) ∧ (w32 (i + 2)) < (G.2.2.2.2.1 : Int)) ∧ (0 ≤ (w32 (i + 3)) ∧ (w32 (i + 3)) < (G.2.2.2.2.1 : Int)) ∧ (0 ≤ (w32 (i + 4)) ∧ (w32 (i + 4)) < (G.2.2.2.2.1 : Int)) ∧ Call G m_X11_pass [rv 1, iv (sx G (w32 (i + 1))), iv (sx G (w32 (i + 2))), iv (sx G (w32 (i + 3))), iv (sx G (w32 (i + 4)))] h (fun r1 h2 => (0 ≤ (w32 (i + 1)) ∧ (w32 (i + 1)) < (G.2.2.2.2.1 : Int)) ∧ (0 ≤ (w32 (i + 2)) ∧ (w32 (i + 2)) < (G.2.2.2.2.1 : Int)) ∧ (0 ≤ (w32 (i + 3)) ∧ (w32 (i + 3)) < (G.2.2.2.2.1 : Int)) ∧ (0 ≤ (w32 (i + 4)) ∧ (w32 (i + 4)) < (G.2.2.2.2.1 : Int)) ∧ Call G m_X12_pass [rv 85, iv (sx G (w32 (i + 1))), iv (sx G (w32 (i + 2))), iv (sx G (w32 (i + 3))), iv (sx G (w32 (i + 4)))] h2 (fun r3 h4 => ((r1 = r3 → LT G 1278 [(0, rv 900), (1, rv 1), (2, rv 85), (3, iv i)] [] h4) ∧ (r1 ≠ r3 → LT G 1105 [] [] h4))))) : LT G 1054 [(0, rv 900), (1, rv 1), (2, rv 85), (3, iv i)] [] h := by
  refine a_aload_n (pc := 1054) (dk dt_L_law_15 41 rfl) rfl ?_
  refine a_aload_n (pc := 1055) (dk dt_L_law_15 42 rfl) rfl ?_
  refine a_iload_n (pc := 1056) (dk dt_L_law_15 43 rfl) rfl ?_
  refine a_iconst (pc := 1057) (dk dt_L_law_15 44 rfl) (ik rfl) ?_
  refine a_iadd (pc := 1058) (dk dt_L_law_16 0 rfl) ?_
  refine a_sld (hxs := hxs) (pc := 1059) (dk dt_L_law_16 1 rfl) ⟨H.1, ?_⟩
  replace H := H.2
  refine a_aload_n (pc := 1060) (dk dt_L_law_16 2 rfl) rfl ?_
  refine a_iload_n (pc := 1061) (dk dt_L_law_16 3 rfl) rfl ?_
  refine a_iconst (pc := 1062) (dk dt_L_law_16 4 rfl) (ik rfl) ?_
  refine a_iadd (pc := 1063) (dk dt_L_law_16 5 rfl) ?_
  refine a_sld (hxs := hxs) (pc := 1064) (dk dt_L_law_16 6 rfl) ⟨H.1, ?_⟩
  replace H := H.2
  refine a_aload_n (pc := 1065) (dk dt_L_law_16 7 rfl) rfl ?_
  refine a_iload_n (pc := 1066) (dk dt_L_law_16 8 rfl) rfl ?_
  refine a_iconst (pc := 1067) (dk dt_L_law_16 9 rfl) (ik rfl) ?_
  refine a_iadd (pc := 1068) (dk dt_L_law_16 10 rfl) ?_
  refine a_sld (hxs := hxs) (pc := 1069) (dk dt_L_law_16 11 rfl) ⟨H.1, ?_⟩
  replace H := H.2
  refine a_aload_n (pc := 1070) (dk dt_L_law_16 12 rfl) rfl ?_
  refine a_iload_n (pc := 1071) (dk dt_L_law_16 13 rfl) rfl ?_
  refine a_iconst (pc := 1072) (dk dt_L_law_16 14 rfl) (ik rfl) ?_
  refine a_iadd (pc := 1073) (dk dt_L_law_16 15 rfl) ?_
  refine a_sld (hxs := hxs) (pc := 1074) (dk dt_L_law_16 16 rfl) ⟨H.1, ?_⟩
  replace H := H.2
  refine a_callVi (as := [iv (sx G (w32 (i + 1))), iv (sx G (w32 (i + 2))), iv (sx G (w32 (i + 3))), iv (sx G (w32 (i + 4)))]) (st := []) (pc := 1075) (dk dt_L_law_16 17 rfl) cl_RL_132 ⟨Nat.le_of_ble_eq_true rfl, Nat.le_of_ble_eq_true rfl⟩ ⟨Nat.le_of_ble_eq_true rfl, Nat.le_of_ble_eq_true rfl⟩ cls_11 rfl cc_1 rfl rfl rfl (Nat.le_of_ble_eq_true rfl) (Call.mono H fun r1 h2 H => ?_)
  refine a_aload_n (pc := 1078) (dk dt_L_law_16 18 rfl) rfl ?_
  refine a_aload_n (pc := 1079) (dk dt_L_law_16 19 rfl) rfl ?_
  refine a_iload_n (pc := 1080) (dk dt_L_law_16 20 rfl) rfl ?_
  refine a_iconst (pc := 1081) (dk dt_L_law_16 21 rfl) (ik rfl) ?_
  refine a_iadd (pc := 1082) (dk dt_L_law_16 22 rfl) ?_
  refine a_sld (hxs := hxs) (pc := 1083) (dk dt_L_law_16 23 rfl) ⟨H.1, ?_⟩
  replace H := H.2
  refine a_aload_n (pc := 1084) (dk dt_L_law_16 24 rfl) rfl ?_
  refine a_iload_n (pc := 1085) (dk dt_L_law_16 25 rfl) rfl ?_
  refine a_iconst (pc := 1086) (dk dt_L_law_16 26 rfl) (ik rfl) ?_
  refine a_iadd (pc := 1087) (dk dt_L_law_16 27 rfl) ?_
  refine a_sld (hxs := hxs) (pc := 1088) (dk dt_L_law_16 28 rfl) ⟨H.1, ?_⟩
  replace H := H.2
  refine a_aload_n (pc := 1089) (dk dt_L_law_16 29 rfl) rfl ?_
  refine a_iload_n (pc := 1090) (dk dt_L_law_16 30 rfl) rfl ?_
  refine a_iconst (pc := 1091) (dk dt_L_law_16 31 rfl) (ik rfl) ?_
  refine a_iadd (pc := 1092) (dk dt_L_law_16 32 rfl) ?_
  refine a_sld (hxs := hxs) (pc := 1093) (dk dt_L_law_16 33 rfl) ⟨H.1, ?_⟩
  replace H := H.2
  refine a_aload_n (pc := 1094) (dk dt_L_law_16 34 rfl) rfl ?_
  refine a_iload_n (pc := 1095) (dk dt_L_law_16 35 rfl) rfl ?_
  refine a_iconst (pc := 1096) (dk dt_L_law_16 36 rfl) (ik rfl) ?_
  refine a_iadd (pc := 1097) (dk dt_L_law_16 37 rfl) ?_
  refine a_sld (hxs := hxs) (pc := 1098) (dk dt_L_law_16 38 rfl) ⟨H.1, ?_⟩
  replace H := H.2
  refine a_callVi (as := [iv (sx G (w32 (i + 1))), iv (sx G (w32 (i + 2))), iv (sx G (w32 (i + 3))), iv (sx G (w32 (i + 4)))]) (st := [iv r1]) (pc := 1099) (dk dt_L_law_16 39 rfl) cl_RL_135 ⟨Nat.le_of_ble_eq_true rfl, Nat.le_of_ble_eq_true rfl⟩ ⟨Nat.le_of_ble_eq_true rfl, Nat.le_of_ble_eq_true rfl⟩ cls_12 rfl cc_85 rfl rfl rfl (Nat.le_of_ble_eq_true rfl) (Call.mono H fun r3 h4 H => ?_)
  refine a_icmp_eq (pc := 1102) (dk dt_L_law_16 40 rfl) (tgt := 1278) rfl ⟨fun c => ?_, fun c => ?_⟩
  · replace H := H.1 c
    exact a_pick [0, 1, 2, 3] rfl H
  · replace H := H.2 c
    exact a_pick [] rfl H
set_option maxHeartbeats 40000000 in
theorem LC_29 {G : GG} {h : Hp} {i : Int} (hxs : ∀ j, i32 (G.2.2.2.2.2 j)) (hL : G.2.2.2.2.1 ≤ 3072) (H : (0 ≤ (w32 (i + 1)) ∧ (w32 (i + 1)) < (G.2.2.2.2.1 : Int)) ∧ Call G m_X11_gap [rv 1, iv (sx G (w32 (i + 1)))] h (fun r1 h2 => (0 ≤ (w32 (i + 1)) ∧ (w32 (i + 1)) < (G.2.2.2.2.1 : Int)) ∧ Call G m_X12_gap [rv 85, iv (sx G (w32 (i + 1)))] h2 (fun r3 h4 => ((r1 = r3 → LT G 1278 [(0, rv 900), (1, rv 1), (2, rv 85), (3, iv i)] [] h4) ∧ (r1 ≠ r3 → LT G 1128 [] [] h4))))) : LT G 1107 [(0, rv 900), (1, rv 1), (2, rv 85), (3, iv i)] [] h := by
  refine a_aload_n (pc := 1107) (dk dt_L_law_16 43 rfl) rfl ?_
  refine a_aload_n (pc := 1108) (dk dt_L_law_16 44 rfl) rfl ?_
  refine a_iload_n (pc := 1109) (dk dt_L_law_17 0 rfl) rfl ?_
  refine a_iconst (pc := 1110) (dk dt_L_law_17 1 rfl) (ik rfl) ?_
  refine a_iadd (pc := 1111) (dk dt_L_law_17 2 rfl) ?_
  refine a_sld (hxs := hxs) (pc := 1112) (dk dt_L_law_17 3 rfl) ⟨H.1, ?_⟩
  replace H := H.2
  refine a_callVi (as := [iv (sx G (w32 (i + 1)))]) (st := []) (pc := 1113) (dk dt_L_law_17 4 rfl) cl_RL_136 ⟨Nat.le_of_ble_eq_true rfl, Nat.le_of_ble_eq_true rfl⟩ ⟨Nat.le_of_ble_eq_true rfl, Nat.le_of_ble_eq_true rfl⟩ cls_11 rfl cc_1 rfl rfl rfl (Nat.le_of_ble_eq_true rfl) (Call.mono H fun r1 h2 H => ?_)
  refine a_aload_n (pc := 1116) (dk dt_L_law_17 5 rfl) rfl ?_
  refine a_aload_n (pc := 1117) (dk dt_L_law_17 6 rfl) rfl ?_
  refine a_iload_n (pc := 1118) (dk dt_L_law_17 7 rfl) rfl ?_
  refine a_iconst (pc := 1119) (dk dt_L_law_17 8 rfl) (ik rfl) ?_
  refine a_iadd (pc := 1120) (dk dt_L_law_17 9 rfl) ?_
  refine a_sld (hxs := hxs) (pc := 1121) (dk dt_L_law_17 10 rfl) ⟨H.1, ?_⟩
  replace H := H.2
  refine a_callVi (as := [iv (sx G (w32 (i + 1)))]) (st := [iv r1]) (pc := 1122) (dk dt_L_law_17 11 rfl) cl_RL_139 ⟨Nat.le_of_ble_eq_true rfl, Nat.le_of_ble_eq_true rfl⟩ ⟨Nat.le_of_ble_eq_true rfl, Nat.le_of_ble_eq_true rfl⟩ cls_12 rfl cc_85 rfl rfl rfl (Nat.le_of_ble_eq_true rfl) (Call.mono H fun r3 h4 H => ?_)
  refine a_icmp_eq (pc := 1125) (dk dt_L_law_17 12 rfl) (tgt := 1278) rfl ⟨fun c => ?_, fun c => ?_⟩
  · replace H := H.1 c
    exact a_pick [0, 1, 2, 3] rfl H
  · replace H := H.2 c
    exact a_pick [] rfl H
set_option maxHeartbeats 40000000 in
theorem LC_30 {G : GG} {h : Hp} {i : Int} (hxs : ∀ j, i32 (G.2.2.2.2.2 j)) (hL : G.2.2.2.2.1 ≤ 3072) (H : Call G m_X11_clear [rv 1] h (fun r1 h2 => Call G m_X12_clear [rv 85] h2 (fun r3 h4 => ((r1 = r3 → LT G 1278 [(0, rv 900), (1, rv 1), (2, rv 85), (3, iv i)] [] h4) ∧ (r1 ≠ r3 → LT G 1141 [] [] h4))))) : LT G 1130 [(0, rv 900), (1, rv 1), (2, rv 85), (3, iv i)] [] h := by
  refine a_aload_n (pc := 1130) (dk dt_L_law_17 15 rfl) rfl ?_
  refine a_callVi (as := []) (st := []) (pc := 1131) (dk dt_L_law_17 16 rfl) cl_RL_140 ⟨Nat.le_of_ble_eq_true rfl, Nat.le_of_ble_eq_true rfl⟩ ⟨Nat.le_of_ble_eq_true rfl, Nat.le_of_ble_eq_true rfl⟩ cls_11 rfl cc_1 rfl rfl rfl (Nat.le_of_ble_eq_true rfl) (Call.mono H fun r1 h2 H => ?_)
  refine a_aload_n (pc := 1134) (dk dt_L_law_17 17 rfl) rfl ?_
  refine a_callVi (as := []) (st := [iv r1]) (pc := 1135) (dk dt_L_law_17 18 rfl) cl_RL_143 ⟨Nat.le_of_ble_eq_true rfl, Nat.le_of_ble_eq_true rfl⟩ ⟨Nat.le_of_ble_eq_true rfl, Nat.le_of_ble_eq_true rfl⟩ cls_12 rfl cc_85 rfl rfl rfl (Nat.le_of_ble_eq_true rfl) (Call.mono H fun r3 h4 H => ?_)
  refine a_icmp_eq (pc := 1138) (dk dt_L_law_17 19 rfl) (tgt := 1278) rfl ⟨fun c => ?_, fun c => ?_⟩
  · replace H := H.1 c
    exact a_pick [0, 1, 2, 3] rfl H
  · replace H := H.2 c
    exact a_pick [] rfl H
set_option maxHeartbeats 40000000 in
theorem LC_31 {G : GG} {h : Hp} {i : Int} (hxs : ∀ j, i32 (G.2.2.2.2.2 j)) (hL : G.2.2.2.2.1 ≤ 3072) (H : (0 ≤ (w32 (i + 1)) ∧ (w32 (i + 1)) < (G.2.2.2.2.1 : Int)) ∧ Call G m_X11_best [rv 1, iv (sx G (w32 (i + 1)))] h (fun r1 h2 => (0 ≤ (w32 (i + 1)) ∧ (w32 (i + 1)) < (G.2.2.2.2.1 : Int)) ∧ Call G m_X12_best [rv 85, iv (sx G (w32 (i + 1)))] h2 (fun r3 h4 => ((r1 = r3 → LT G 1278 [(0, rv 900), (1, rv 1), (2, rv 85), (3, iv i)] [] h4) ∧ (r1 ≠ r3 → LT G 1164 [] [] h4))))) : LT G 1143 [(0, rv 900), (1, rv 1), (2, rv 85), (3, iv i)] [] h := by
  refine a_aload_n (pc := 1143) (dk dt_L_law_17 22 rfl) rfl ?_
  refine a_aload_n (pc := 1144) (dk dt_L_law_17 23 rfl) rfl ?_
  refine a_iload_n (pc := 1145) (dk dt_L_law_17 24 rfl) rfl ?_
  refine a_iconst (pc := 1146) (dk dt_L_law_17 25 rfl) (ik rfl) ?_
  refine a_iadd (pc := 1147) (dk dt_L_law_17 26 rfl) ?_
  refine a_sld (hxs := hxs) (pc := 1148) (dk dt_L_law_17 27 rfl) ⟨H.1, ?_⟩
  replace H := H.2
  refine a_callVi (as := [iv (sx G (w32 (i + 1)))]) (st := []) (pc := 1149) (dk dt_L_law_17 28 rfl) cl_RL_144 ⟨Nat.le_of_ble_eq_true rfl, Nat.le_of_ble_eq_true rfl⟩ ⟨Nat.le_of_ble_eq_true rfl, Nat.le_of_ble_eq_true rfl⟩ cls_11 rfl cc_1 rfl rfl rfl (Nat.le_of_ble_eq_true rfl) (Call.mono H fun r1 h2 H => ?_)
  refine a_aload_n (pc := 1152) (dk dt_L_law_17 29 rfl) rfl ?_
  refine a_aload_n (pc := 1153) (dk dt_L_law_17 30 rfl) rfl ?_
  refine a_iload_n (pc := 1154) (dk dt_L_law_17 31 rfl) rfl ?_
  refine a_iconst (pc := 1155) (dk dt_L_law_17 32 rfl) (ik rfl) ?_
  refine a_iadd (pc := 1156) (dk dt_L_law_17 33 rfl) ?_
  refine a_sld (hxs := hxs) (pc := 1157) (dk dt_L_law_17 34 rfl) ⟨H.1, ?_⟩
  replace H := H.2
  refine a_callVi (as := [iv (sx G (w32 (i + 1)))]) (st := [iv r1]) (pc := 1158) (dk dt_L_law_17 35 rfl) cl_RL_147 ⟨Nat.le_of_ble_eq_true rfl, Nat.le_of_ble_eq_true rfl⟩ ⟨Nat.le_of_ble_eq_true rfl, Nat.le_of_ble_eq_true rfl⟩ cls_12 rfl cc_85 rfl rfl rfl (Nat.le_of_ble_eq_true rfl) (Call.mono H fun r3 h4 H => ?_)
  refine a_icmp_eq (pc := 1161) (dk dt_L_law_17 36 rfl) (tgt := 1278) rfl ⟨fun c => ?_, fun c => ?_⟩
  · replace H := H.1 c
    exact a_pick [0, 1, 2, 3] rfl H
  · replace H := H.2 c
    exact a_pick [] rfl H
set_option maxHeartbeats 40000000 in
theorem LC_32 {G : GG} {h : Hp} {i : Int} (hxs : ∀ j, i32 (G.2.2.2.2.2 j)) (hL : G.2.2.2.2.1 ≤ 3072) (H : (0 ≤ (w32 (i + 1)) ∧ (w32 (i + 1)) < (G.2.2.2.2.1 : Int)) ∧ (0 ≤ (w32 (i + 2)) ∧ (w32 (i + 2)) < (G.2.2.2.2.1 : Int)) ∧ (0 ≤ (w32 (i + 3)) ∧ (w32 (i + 3)) < (G.2.2.2.2.1 : Int)) ∧ (((sx G (w32 (i + 3))) = 0 → Call G m_X11_bar [rv 1, iv (sx G (w32 (i + 1))), iv (sx G (w32 (i + 2))), iv 0] h (fun r1 h2 => (0 ≤ (w32 (i + 1)) ∧ (w32 (i + 1)) < (G.2.2.2.2.1 : Int)) ∧ (0 ≤ (w32 (i + 2)) ∧ (w32 (i + 2)) < (G.2.2.2.2.1 : Int)) ∧ (0 ≤ (w32 (i + 3)) ∧ (w32 (i + 3)) < (G.2.2.2.2.1 : Int)) ∧ (((sx G (w32 (i + 3))) = 0 → Call G m_X12_bar [rv 85, iv (sx G (w32 (i + 1))), iv (sx G (w32 (i + 2))), iv 0] h2 (fun r3 h4 => ((r1 = r3 → LT G 1278 [(0, rv 900), (1, rv 1), (2, rv 85), (3, iv i)] [] h4) ∧ (r1 ≠ r3 → LT G 1223 [] [] h4)))) ∧ ((sx G (w32 (i + 3))) ≠ 0 → Call G m_X12_bar [rv 85, iv (sx G (w32 (i + 1))), iv (sx G (w32 (i + 2))), iv 1] h2 (fun r5 h6 => ((r1 = r5 → LT G 1278 [(0, rv 900), (1, rv 1), (2, rv 85), (3, iv i)] [] h6) ∧ (r1 ≠ r5 → LT G 1223 [] [] h6))))))) ∧ ((sx G (w32 (i + 3))) ≠ 0 → Call G m_X11_bar [rv 1, iv (sx G (w32 (i + 1))), iv (sx G (w32 (i + 2))), iv 1] h (fun r7 h8 => (0 ≤ (w32 (i + 1)) ∧ (w32 (i + 1)) < (G.2.2.2.2.1 : Int)) ∧ (0 ≤ (w32 (i + 2)) ∧ (w32 (i + 2)) < (G.2.2.2.2.1 : Int)) ∧ (0 ≤ (w32 (i + 3)) ∧ (w32 (i + 3)) < (G.2.2.2.2.1 : Int)) ∧ (((sx G (w32 (i + 3))) = 0 → Call G m_X12_bar [rv 85, iv (sx G (w32 (i + 1))), iv (sx G (w32 (i + 2))), iv 0] h8 (fun r9 h10 => ((r7 = r9 → LT G 1278 [(0, rv 900), (1, rv 1), (2, rv 85), (3, iv i)] [] h10) ∧ (r7 ≠ r9 → LT G 1223 [] [] h10)))) ∧ ((sx G (w32 (i + 3))) ≠ 0 → Call G m_X12_bar [rv 85, iv (sx G (w32 (i + 1))), iv (sx G (w32 (i + 2))), iv 1] h8 (fun r11 h12 => ((r7 = r11 → LT G 1278 [(0, rv 900), (1, rv 1), (2, rv 85), (3, iv i)] [] h12) ∧ (r7 ≠ r11 → LT G 1223 [] [] h12))))))))) : LT G 1166 [(0, rv 900), (1, rv 1), (2, rv 85), (3, iv i)] [] h := by
  refine a_aload_n (pc := 1166) (dk dt_L_law_17 39 rfl) rfl ?_
  refine a_aload_n (pc := 1167) (dk dt_L_law_17 40 rfl) rfl ?_
  refine a_iload_n (pc := 1168) (dk dt_L_law_17 41 rfl) rfl ?_
  refine a_iconst (pc := 1169) (dk dt_L_law_17 42 rfl) (ik rfl) ?_
  refine a_iadd (pc := 1170) (dk dt_L_law_17 43 rfl) ?_
  refine a_sld (hxs := hxs) (pc := 1171) (dk dt_L_law_17 44 rfl) ⟨H.1, ?_⟩
  replace H := H.2
  refine a_aload_n (pc := 1172) (dk dt_L_law_18 0 rfl) rfl ?_
  refine a_iload_n (pc := 1173) (dk dt_L_law_18 1 rfl) rfl ?_
  refine a_iconst (pc := 1174) (dk dt_L_law_18 2 rfl) (ik rfl) ?_
  refine a_iadd (pc := 1175) (dk dt_L_law_18 3 rfl) ?_
  refine a_sld (hxs := hxs) (pc := 1176) (dk dt_L_law_18 4 rfl) ⟨H.1, ?_⟩
  replace H := H.2
  refine a_aload_n (pc := 1177) (dk dt_L_law_18 5 rfl) rfl ?_
  refine a_iload_n (pc := 1178) (dk dt_L_law_18 6 rfl) rfl ?_
  refine a_iconst (pc := 1179) (dk dt_L_law_18 7 rfl) (ik rfl) ?_
  refine a_iadd (pc := 1180) (dk dt_L_law_18 8 rfl) ?_
  refine a_sld (hxs := hxs) (pc := 1181) (dk dt_L_law_18 9 rfl) ⟨H.1, ?_⟩
  replace H := H.2
  refine a_if_eq (pc := 1182) (dk dt_L_law_18 10 rfl) (tgt := 1189) rfl ⟨fun c => ?_, fun c => ?_⟩
  · replace H := H.1 c
    refine a_iconst (pc := 1189) (dk dt_L_law_18 13 rfl) (ik rfl) ?_
    refine a_callVi (as := [iv (sx G (w32 (i + 1))), iv (sx G (w32 (i + 2))), iv 0]) (st := []) (pc := 1190) (dk dt_L_law_18 14 rfl) cl_RL_148 ⟨Nat.le_of_ble_eq_true rfl, Nat.le_of_ble_eq_true rfl⟩ ⟨Nat.le_of_ble_eq_true rfl, Nat.le_of_ble_eq_true rfl⟩ cls_11 rfl cc_1 rfl rfl rfl (Nat.le_of_ble_eq_true rfl) (Call.mono H fun r1 h2 H => ?_)
    refine a_aload_n (pc := 1193) (dk dt_L_law_18 15 rfl) rfl ?_
    refine a_aload_n (pc := 1194) (dk dt_L_law_18 16 rfl) rfl ?_
    refine a_iload_n (pc := 1195) (dk dt_L_law_18 17 rfl) rfl ?_
    refine a_iconst (pc := 1196) (dk dt_L_law_18 18 rfl) (ik rfl) ?_
    refine a_iadd (pc := 1197) (dk dt_L_law_18 19 rfl) ?_
    refine a_sld (hxs := hxs) (pc := 1198) (dk dt_L_law_18 20 rfl) ⟨H.1, ?_⟩
    replace H := H.2
    refine a_aload_n (pc := 1199) (dk dt_L_law_18 21 rfl) rfl ?_
    refine a_iload_n (pc := 1200) (dk dt_L_law_18 22 rfl) rfl ?_
    refine a_iconst (pc := 1201) (dk dt_L_law_18 23 rfl) (ik rfl) ?_
    refine a_iadd (pc := 1202) (dk dt_L_law_18 24 rfl) ?_
    refine a_sld (hxs := hxs) (pc := 1203) (dk dt_L_law_18 25 rfl) ⟨H.1, ?_⟩
    replace H := H.2
    refine a_aload_n (pc := 1204) (dk dt_L_law_18 26 rfl) rfl ?_
    refine a_iload_n (pc := 1205) (dk dt_L_law_18 27 rfl) rfl ?_
    refine a_iconst (pc := 1206) (dk dt_L_law_18 28 rfl) (ik rfl) ?_
    refine a_iadd (pc := 1207) (dk dt_L_law_18 29 rfl) ?_
    refine a_sld (hxs := hxs) (pc := 1208) (dk dt_L_law_18 30 rfl) ⟨H.1, ?_⟩
    replace H := H.2
    refine a_if_eq (pc := 1209) (dk dt_L_law_18 31 rfl) (tgt := 1216) rfl ⟨fun c => ?_, fun c => ?_⟩
    · replace H := H.1 c
      refine a_iconst (pc := 1216) (dk dt_L_law_18 34 rfl) (ik rfl) ?_
      refine a_callVi (as := [iv (sx G (w32 (i + 1))), iv (sx G (w32 (i + 2))), iv 0]) (st := [iv r1]) (pc := 1217) (dk dt_L_law_18 35 rfl) cl_RL_152 ⟨Nat.le_of_ble_eq_true rfl, Nat.le_of_ble_eq_true rfl⟩ ⟨Nat.le_of_ble_eq_true rfl, Nat.le_of_ble_eq_true rfl⟩ cls_12 rfl cc_85 rfl rfl rfl (Nat.le_of_ble_eq_true rfl) (Call.mono H fun r3 h4 H => ?_)
      refine a_icmp_eq (pc := 1220) (dk dt_L_law_18 36 rfl) (tgt := 1278) rfl ⟨fun c => ?_, fun c => ?_⟩
      · replace H := H.1 c
        exact a_pick [0, 1, 2, 3] rfl H
      · replace H := H.2 c
        exact a_pick [] rfl H
    · replace H := H.2 c
      refine a_iconst (pc := 1212) (dk dt_L_law_18 32 rfl) (ik rfl) ?_
      refine a_goto (pc := 1213) (dk dt_L_law_18 33 rfl) (tgt := 1217) rfl ?_
      refine a_callVi (as := [iv (sx G (w32 (i + 1))), iv (sx G (w32 (i + 2))), iv 1]) (st := [iv r1]) (pc := 1217) (dk dt_L_law_18 35 rfl) cl_RL_152 ⟨Nat.le_of_ble_eq_true rfl, Nat.le_of_ble_eq_true rfl⟩ ⟨Nat.le_of_ble_eq_true rfl, Nat.le_of_ble_eq_true rfl⟩ cls_12 rfl cc_85 rfl rfl rfl (Nat.le_of_ble_eq_true rfl) (Call.mono H fun r5 h6 H => ?_)
      refine a_icmp_eq (pc := 1220) (dk dt_L_law_18 36 rfl) (tgt := 1278) rfl ⟨fun c => ?_, fun c => ?_⟩
      · replace H := H.1 c
        exact a_pick [0, 1, 2, 3] rfl H
      · replace H := H.2 c
        exact a_pick [] rfl H
  · replace H := H.2 c
    refine a_iconst (pc := 1185) (dk dt_L_law_18 11 rfl) (ik rfl) ?_
    refine a_goto (pc := 1186) (dk dt_L_law_18 12 rfl) (tgt := 1190) rfl ?_
    refine a_callVi (as := [iv (sx G (w32 (i + 1))), iv (sx G (w32 (i + 2))), iv 1]) (st := []) (pc := 1190) (dk dt_L_law_18 14 rfl) cl_RL_148 ⟨Nat.le_of_ble_eq_true rfl, Nat.le_of_ble_eq_true rfl⟩ ⟨Nat.le_of_ble_eq_true rfl, Nat.le_of_ble_eq_true rfl⟩ cls_11 rfl cc_1 rfl rfl rfl (Nat.le_of_ble_eq_true rfl) (Call.mono H fun r7 h8 H => ?_)
    refine a_aload_n (pc := 1193) (dk dt_L_law_18 15 rfl) rfl ?_
    refine a_aload_n (pc := 1194) (dk dt_L_law_18 16 rfl) rfl ?_
    refine a_iload_n (pc := 1195) (dk dt_L_law_18 17 rfl) rfl ?_
    refine a_iconst (pc := 1196) (dk dt_L_law_18 18 rfl) (ik rfl) ?_
    refine a_iadd (pc := 1197) (dk dt_L_law_18 19 rfl) ?_
    refine a_sld (hxs := hxs) (pc := 1198) (dk dt_L_law_18 20 rfl) ⟨H.1, ?_⟩
    replace H := H.2
    refine a_aload_n (pc := 1199) (dk dt_L_law_18 21 rfl) rfl ?_
    refine a_iload_n (pc := 1200) (dk dt_L_law_18 22 rfl) rfl ?_
    refine a_iconst (pc := 1201) (dk dt_L_law_18 23 rfl) (ik rfl) ?_
    refine a_iadd (pc := 1202) (dk dt_L_law_18 24 rfl) ?_
    refine a_sld (hxs := hxs) (pc := 1203) (dk dt_L_law_18 25 rfl) ⟨H.1, ?_⟩
    replace H := H.2
    refine a_aload_n (pc := 1204) (dk dt_L_law_18 26 rfl) rfl ?_
    refine a_iload_n (pc := 1205) (dk dt_L_law_18 27 rfl) rfl ?_
    refine a_iconst (pc := 1206) (dk dt_L_law_18 28 rfl) (ik rfl) ?_
    refine a_iadd (pc := 1207) (dk dt_L_law_18 29 rfl) ?_
    refine a_sld (hxs := hxs) (pc := 1208) (dk dt_L_law_18 30 rfl) ⟨H.1, ?_⟩
    replace H := H.2
    refine a_if_eq (pc := 1209) (dk dt_L_law_18 31 rfl) (tgt := 1216) rfl ⟨fun c => ?_, fun c => ?_⟩
    · replace H := H.1 c
      refine a_iconst (pc := 1216) (dk dt_L_law_18 34 rfl) (ik rfl) ?_
      refine a_callVi (as := [iv (sx G (w32 (i + 1))), iv (sx G (w32 (i + 2))), iv 0]) (st := [iv r7]) (pc := 1217) (dk dt_L_law_18 35 rfl) cl_RL_152 ⟨Nat.le_of_ble_eq_true rfl, Nat.le_of_ble_eq_true rfl⟩ ⟨Nat.le_of_ble_eq_true rfl, Nat.le_of_ble_eq_true rfl⟩ cls_12 rfl cc_85 rfl rfl rfl (Nat.le_of_ble_eq_true rfl) (Call.mono H fun r9 h10 H => ?_)
      refine a_icmp_eq (pc := 1220) (dk dt_L_law_18 36 rfl) (tgt := 1278) rfl ⟨fun c => ?_, fun c => ?_⟩
      · replace H := H.1 c
        exact a_pick [0, 1, 2, 3] rfl H
      · replace H := H.2 c
        exact a_pick [] rfl H
    · replace H := H.2 c
      refine a_iconst (pc := 1212) (dk dt_L_law_18 32 rfl) (ik rfl) ?_
      refine a_goto (pc := 1213) (dk dt_L_law_18 33 rfl) (tgt := 1217) rfl ?_
      refine a_callVi (as := [iv (sx G (w32 (i + 1))), iv (sx G (w32 (i + 2))), iv 1]) (st := [iv r7]) (pc := 1217) (dk dt_L_law_18 35 rfl) cl_RL_152 ⟨Nat.le_of_ble_eq_true rfl, Nat.le_of_ble_eq_true rfl⟩ ⟨Nat.le_of_ble_eq_true rfl, Nat.le_of_ble_eq_true rfl⟩ cls_12 rfl cc_85 rfl rfl rfl (Nat.le_of_ble_eq_true rfl) (Call.mono H fun r11 h12 H => ?_)
      refine a_icmp_eq (pc := 1220) (dk dt_L_law_18 36 rfl) (tgt := 1278) rfl ⟨fun c => ?_, fun c => ?_⟩
      · replace H := H.1 c
        exact a_pick [0, 1, 2, 3] rfl H
      · replace H := H.2 c
        exact a_pick [] rfl H
set_option maxHeartbeats 40000000 in
theorem LC_33 {G : GG} {h : Hp} {i : Int} (hxs : ∀ j, i32 (G.2.2.2.2.2 j)) (hL : G.2.2.2.2.1 ≤ 3072) (H : (0 ≤ (w32 (i + 1)) ∧ (w32 (i + 1)) < (G.2.2.2.2.1 : Int)) ∧ (0 ≤ (w32 (i + 2)) ∧ (w32 (i + 2)) < (G.2.2.2.2.1 : Int)) ∧ (0 ≤ (w32 (i + 3)) ∧ (w32 (i + 3)) < (G.2.2.2.2.1 : Int)) ∧ (0 ≤ (w32 (i + 4)) ∧ (w32 (i + 4)) < (G.2.2.2.2.1 : Int)) ∧ Call G m_X11_way [rv 1, iv (sx G (w32 (i + 1))), iv (sx G (w32 (i + 2))), iv (sx G (w32 (i + 3))), iv (sx G (w32 (i + 4)))] h (fun r1 h2 => (0 ≤ (w32 (i + 1)) ∧ (w32 (i + 1)) < (G.2.2.2.2.1 : Int)) ∧ (0 ≤ (w32 (i + 2)) ∧ (w32 (i + 2)) < (G.2.2.2.2.1 : Int)) ∧ (0 ≤ (w32 (i + 3)) ∧ (w32 (i + 3)) < (G.2.2.2.2.1 : Int)) ∧ (0 ≤ (w32 (i + 4)) ∧ (w32 (i + 4)) < (G.2.2.2.2.1 : Int)) ∧ Call G m_X12_way [rv 85, iv (sx G (w32 (i + 1))), iv (sx G (w32 (i + 2))), iv (sx G (w32 (i + 3))), iv (sx G (w32 (i + 4)))] h2 (fun r3 h4 => ((r1 = r3 → LT G 1278 [(0, rv 900), (1, rv 1), (2, rv 85), (3, iv i)] [] h4) ∧ (r1 ≠ r3 → LT G 1276 [] [] h4))))) : LT G 1225 [(0, rv 900), (1, rv 1), (2, rv 85), (3, iv i)] [] h := by
  refine a_aload_n (pc := 1225) (dk dt_L_law_18 39 rfl) rfl ?_
  refine a_aload_n (pc := 1226) (dk dt_L_law_18 40 rfl) rfl ?_
  refine a_iload_n (pc := 1227) (dk dt_L_law_18 41 rfl) rfl ?_
  refine a_iconst (pc := 1228) (dk dt_L_law_18 42 rfl) (ik rfl) ?_
  refine a_iadd (pc := 1229) (dk dt_L_law_18 43 rfl) ?_
  refine a_sld (hxs := hxs) (pc := 1230) (dk dt_L_law_18 44 rfl) ⟨H.1, ?_⟩
  replace H := H.2
  refine a_aload_n (pc := 1231) (dk dt_L_law_19 0 rfl) rfl ?_
  refine a_iload_n (pc := 1232) (dk dt_L_law_19 1 rfl) rfl ?_
  refine a_iconst (pc := 1233) (dk dt_L_law_19 2 rfl) (ik rfl) ?_
  refine a_iadd (pc := 1234) (dk dt_L_law_19 3 rfl) ?_
  refine a_sld (hxs := hxs) (pc := 1235) (dk dt_L_law_19 4 rfl) ⟨H.1, ?_⟩
  replace H := H.2
  refine a_aload_n (pc := 1236) (dk dt_L_law_19 5 rfl) rfl ?_
  refine a_iload_n (pc := 1237) (dk dt_L_law_19 6 rfl) rfl ?_
  refine a_iconst (pc := 1238) (dk dt_L_law_19 7 rfl) (ik rfl) ?_
  refine a_iadd (pc := 1239) (dk dt_L_law_19 8 rfl) ?_
  refine a_sld (hxs := hxs) (pc := 1240) (dk dt_L_law_19 9 rfl) ⟨H.1, ?_⟩
  replace H := H.2
  refine a_aload_n (pc := 1241) (dk dt_L_law_19 10 rfl) rfl ?_
  refine a_iload_n (pc := 1242) (dk dt_L_law_19 11 rfl) rfl ?_
  refine a_iconst (pc := 1243) (dk dt_L_law_19 12 rfl) (ik rfl) ?_
  refine a_iadd (pc := 1244) (dk dt_L_law_19 13 rfl) ?_
  refine a_sld (hxs := hxs) (pc := 1245) (dk dt_L_law_19 14 rfl) ⟨H.1, ?_⟩
  replace H := H.2
  refine a_callVi (as := [iv (sx G (w32 (i + 1))), iv (sx G (w32 (i + 2))), iv (sx G (w32 (i + 3))), iv (sx G (w32 (i + 4)))]) (st := []) (pc := 1246) (dk dt_L_law_19 15 rfl) cl_RL_153 ⟨Nat.le_of_ble_eq_true rfl, Nat.le_of_ble_eq_true rfl⟩ ⟨Nat.le_of_ble_eq_true rfl, Nat.le_of_ble_eq_true rfl⟩ cls_11 rfl cc_1 rfl rfl rfl (Nat.le_of_ble_eq_true rfl) (Call.mono H fun r1 h2 H => ?_)
  refine a_aload_n (pc := 1249) (dk dt_L_law_19 16 rfl) rfl ?_
  refine a_aload_n (pc := 1250) (dk dt_L_law_19 17 rfl) rfl ?_
  refine a_iload_n (pc := 1251) (dk dt_L_law_19 18 rfl) rfl ?_
  refine a_iconst (pc := 1252) (dk dt_L_law_19 19 rfl) (ik rfl) ?_
  refine a_iadd (pc := 1253) (dk dt_L_law_19 20 rfl) ?_
  refine a_sld (hxs := hxs) (pc := 1254) (dk dt_L_law_19 21 rfl) ⟨H.1, ?_⟩
  replace H := H.2
  refine a_aload_n (pc := 1255) (dk dt_L_law_19 22 rfl) rfl ?_
  refine a_iload_n (pc := 1256) (dk dt_L_law_19 23 rfl) rfl ?_
  refine a_iconst (pc := 1257) (dk dt_L_law_19 24 rfl) (ik rfl) ?_
  refine a_iadd (pc := 1258) (dk dt_L_law_19 25 rfl) ?_
  refine a_sld (hxs := hxs) (pc := 1259) (dk dt_L_law_19 26 rfl) ⟨H.1, ?_⟩
  replace H := H.2
  refine a_aload_n (pc := 1260) (dk dt_L_law_19 27 rfl) rfl ?_
  refine a_iload_n (pc := 1261) (dk dt_L_law_19 28 rfl) rfl ?_
  refine a_iconst (pc := 1262) (dk dt_L_law_19 29 rfl) (ik rfl) ?_
  refine a_iadd (pc := 1263) (dk dt_L_law_19 30 rfl) ?_
  refine a_sld (hxs := hxs) (pc := 1264) (dk dt_L_law_19 31 rfl) ⟨H.1, ?_⟩
  replace H := H.2
  refine a_aload_n (pc := 1265) (dk dt_L_law_19 32 rfl) rfl ?_
  refine a_iload_n (pc := 1266) (dk dt_L_law_19 33 rfl) rfl ?_
  refine a_iconst (pc := 1267) (dk dt_L_law_19 34 rfl) (ik rfl) ?_
  refine a_iadd (pc := 1268) (dk dt_L_law_19 35 rfl) ?_
  refine a_sld (hxs := hxs) (pc := 1269) (dk dt_L_law_19 36 rfl) ⟨H.1, ?_⟩
  replace H := H.2
  refine a_callVi (as := [iv (sx G (w32 (i + 1))), iv (sx G (w32 (i + 2))), iv (sx G (w32 (i + 3))), iv (sx G (w32 (i + 4)))]) (st := [iv r1]) (pc := 1270) (dk dt_L_law_19 37 rfl) cl_RL_156 ⟨Nat.le_of_ble_eq_true rfl, Nat.le_of_ble_eq_true rfl⟩ ⟨Nat.le_of_ble_eq_true rfl, Nat.le_of_ble_eq_true rfl⟩ cls_12 rfl cc_85 rfl rfl rfl (Nat.le_of_ble_eq_true rfl) (Call.mono H fun r3 h4 H => ?_)
  refine a_icmp_eq (pc := 1273) (dk dt_L_law_19 38 rfl) (tgt := 1278) rfl ⟨fun c => ?_, fun c => ?_⟩
  · replace H := H.1 c
    exact a_pick [0, 1, 2, 3] rfl H
  · replace H := H.2 c
    exact a_pick [] rfl H
