def OP_feed (G : GG) (h : Hp) (Ψ : Hp → Prop) : Prop := ∀ a b c d e : Int, BOTH G m_X11_feed m_X12_feed [iv a, iv b, iv c, iv d, iv e] h Ψ
def OP_end (G : GG) (h : Hp) (Ψ : Hp → Prop) : Prop := ∀ a : Int, BOTH G m_X11_end m_X12_end [iv a] h Ψ
def OP_out (G : GG) (h : Hp) (Ψ : Hp → Prop) : Prop := ∀ a : Int, BOTH G m_X11_out m_X12_out [iv a] h Ψ
def OP_leap (G : GG) (h : Hp) (Ψ : Hp → Prop) : Prop := ∀ a b : Int, BOTH G m_X11_leap m_X12_leap [iv a, iv b] h Ψ
def OP_date (G : GG) (h : Hp) (Ψ : Hp → Prop) : Prop := BOTH G m_X11_date m_X12_date [] h Ψ
def OP_written (G : GG) (h : Hp) (Ψ : Hp → Prop) : Prop := ∀ a : Int, BOTH G m_X11_written m_X12_written [iv a] h Ψ
def OP_orbit (G : GG) (h : Hp) (Ψ : Hp → Prop) : Prop := ∀ a b c d : Int, BOTH G m_X11_orbit m_X12_orbit [iv a, iv b, iv c, iv d] h Ψ
def OP_station (G : GG) (h : Hp) (Ψ : Hp → Prop) : Prop := ∀ a b c d : Int, BOTH G m_X11_station m_X12_station [iv a, iv b, iv c, iv d] h Ψ
def OP_sight (G : GG) (h : Hp) (Ψ : Hp → Prop) : Prop := ∀ a z : Int, (z = 0 ∨ z = 1) → BOTH G m_X11_sight m_X12_sight [iv a, iv z] h Ψ
def OP_power (G : GG) (h : Hp) (Ψ : Hp → Prop) : Prop := ∀ a b : Int, BOTH G m_X11_power m_X12_power [iv a, iv b] h Ψ
def OP_load (G : GG) (h : Hp) (Ψ : Hp → Prop) : Prop := ∀ a b c : Int, BOTH G m_X11_load m_X12_load [iv a, iv b, iv c] h Ψ
def OP_program (G : GG) (h : Hp) (Ψ : Hp → Prop) : Prop := ∀ a : Int, BOTH G m_X11_program m_X12_program [iv a] h Ψ
def OP_due (G : GG) (h : Hp) (Ψ : Hp → Prop) : Prop := ∀ a b : Int, BOTH G m_X11_due m_X12_due [iv a, iv b] h Ψ
def OP_mode (G : GG) (h : Hp) (Ψ : Hp → Prop) : Prop := ∀ a b c : Int, BOTH G m_X11_mode m_X12_mode [iv a, iv b, iv c] h Ψ
def OP_monitor (G : GG) (h : Hp) (Ψ : Hp → Prop) : Prop := ∀ a b c : Int, BOTH G m_X11_monitor m_X12_monitor [iv a, iv b, iv c] h Ψ
def OP_flip (G : GG) (h : Hp) (Ψ : Hp → Prop) : Prop := ∀ a b : Int, BOTH G m_X11_flip m_X12_flip [iv a, iv b] h Ψ
def OP_tick (G : GG) (h : Hp) (Ψ : Hp → Prop) : Prop := ∀ a : Int, BOTH G m_X11_tick m_X12_tick [iv a] h Ψ
def OP_ship (G : GG) (h : Hp) (Ψ : Hp → Prop) : Prop := ∀ a : Int, BOTH G m_X11_ship m_X12_ship [iv a] h Ψ
def OP_served (G : GG) (h : Hp) (Ψ : Hp → Prop) : Prop := ∀ a b : Int, BOTH G m_X11_served m_X12_served [iv a, iv b] h Ψ
def OP_runs (G : GG) (h : Hp) (Ψ : Hp → Prop) : Prop := ∀ a b : Int, BOTH G m_X11_runs m_X12_runs [iv a, iv b] h Ψ
def OP_word (G : GG) (h : Hp) (Ψ : Hp → Prop) : Prop := ∀ a b : Int, BOTH G m_X11_word m_X12_word [iv a, iv b] h Ψ
def OP_noise (G : GG) (h : Hp) (Ψ : Hp → Prop) : Prop := ∀ a b : Int, BOTH G m_X11_noise m_X12_noise [iv a, iv b] h Ψ
def OP_lose (G : GG) (h : Hp) (Ψ : Hp → Prop) : Prop := BOTH G m_X11_lose m_X12_lose [] h Ψ
def OP_receive (G : GG) (h : Hp) (Ψ : Hp → Prop) : Prop := BOTH G m_X11_receive m_X12_receive [] h Ψ
def OP_packet (G : GG) (h : Hp) (Ψ : Hp → Prop) : Prop := ∀ a : Int, BOTH G m_X11_packet m_X12_packet [iv a] h Ψ
def OP_command (G : GG) (h : Hp) (Ψ : Hp → Prop) : Prop := BOTH G m_X11_command m_X12_command [] h Ψ
def OP_send (G : GG) (h : Hp) (Ψ : Hp → Prop) : Prop := ∀ a : Int, BOTH G m_X11_send m_X12_send [iv a] h Ψ
def OP_ground (G : GG) (h : Hp) (Ψ : Hp → Prop) : Prop := ∀ a : Int, BOTH G m_X11_ground m_X12_ground [iv a] h Ψ
def OP_pass (G : GG) (h : Hp) (Ψ : Hp → Prop) : Prop := ∀ a b c d : Int, BOTH G m_X11_pass m_X12_pass [iv a, iv b, iv c, iv d] h Ψ
def OP_gap (G : GG) (h : Hp) (Ψ : Hp → Prop) : Prop := ∀ a : Int, BOTH G m_X11_gap m_X12_gap [iv a] h Ψ
def OP_clear (G : GG) (h : Hp) (Ψ : Hp → Prop) : Prop := BOTH G m_X11_clear m_X12_clear [] h Ψ
def OP_best (G : GG) (h : Hp) (Ψ : Hp → Prop) : Prop := ∀ a : Int, BOTH G m_X11_best m_X12_best [iv a] h Ψ
def OP_bar (G : GG) (h : Hp) (Ψ : Hp → Prop) : Prop := ∀ a b z : Int, (z = 0 ∨ z = 1) → BOTH G m_X11_bar m_X12_bar [iv a, iv b, iv z] h Ψ
def OP_way (G : GG) (h : Hp) (Ψ : Hp → Prop) : Prop := ∀ a b c d : Int, BOTH G m_X11_way m_X12_way [iv a, iv b, iv c, iv d] h Ψ
/-- every operation, from the invariant behind n calls to that behind one more -/
def OPS (G : GG) (INV : Nat → Hp → Prop) : Prop := ∀ (n : Nat) (h : Hp), n < 512 → INV n h → INV (n + 1) h ∧ OP_feed G h (INV (n + 1)) ∧ OP_end G h (INV (n + 1)) ∧ OP_out G h (INV (n + 1)) ∧ OP_leap G h (INV (n + 1)) ∧ OP_date G h (INV (n + 1)) ∧ OP_written G h (INV (n + 1)) ∧ OP_orbit G h (INV (n + 1)) ∧ OP_station G h (INV (n + 1)) ∧ OP_sight G h (INV (n + 1)) ∧ OP_power G h (INV (n + 1)) ∧ OP_load G h (INV (n + 1)) ∧ OP_program G h (INV (n + 1)) ∧ OP_due G h (INV (n + 1)) ∧ OP_mode G h (INV (n + 1)) ∧ OP_monitor G h (INV (n + 1)) ∧ OP_flip G h (INV (n + 1)) ∧ OP_tick G h (INV (n + 1)) ∧ OP_ship G h (INV (n + 1)) ∧ OP_served G h (INV (n + 1)) ∧ OP_runs G h (INV (n + 1)) ∧ OP_word G h (INV (n + 1)) ∧ OP_noise G h (INV (n + 1)) ∧ OP_lose G h (INV (n + 1)) ∧ OP_receive G h (INV (n + 1)) ∧ OP_packet G h (INV (n + 1)) ∧ OP_command G h (INV (n + 1)) ∧ OP_send G h (INV (n + 1)) ∧ OP_ground G h (INV (n + 1)) ∧ OP_pass G h (INV (n + 1)) ∧ OP_gap G h (INV (n + 1)) ∧ OP_clear G h (INV (n + 1)) ∧ OP_best G h (INV (n + 1)) ∧ OP_bar G h (INV (n + 1)) ∧ OP_way G h (INV (n + 1))
set_option maxHeartbeats 40000000 in
theorem law_loop {G : GG} {INV : Nat → Hp → Prop} (ops : OPS G INV) (hxs : ∀ j, i32 (G.2.2.2.2.2 j)) (hL : G.2.2.2.2.1 ≤ 3072) : ∀ (d n : Nat) (h : Hp), n + d = 512 → INV n h → LT G 18 [(0, rv 900), (1, rv 1), (2, rv 85), (3, iv (6 * (n : Int)))] [] h := by
  intro d
  induction d with
  | zero =>
    intro n h hn hI
    refine LC_head hxs hL ⟨fun _ => law_end, fun c => ?_⟩
    rw [w32_of (by omega) (by omega)] at c
    exact absurd c (by omega)
  | succ d ih =>
    intro n h hn hI
    refine LC_head hxs hL ⟨fun _ => law_end, fun c => ?_⟩
    rw [w32_of (by omega) (by omega)] at c
    have nx : ∀ h', INV (n + 1) h' → LT G 1278 [(0, rv 900), (1, rv 1), (2, rv 85), (3, iv (6 * (n : Int)))] [] h' := by
      intro h' hI'
      refine law_next ?_
      rw [w32_of (by omega) (by omega), show 6 * (n : Int) + 6 = 6 * ((n + 1 : Nat) : Int) by omega]
      exact ih (n + 1) h' (by omega) hI'
    have bd : ∀ j : Int, 0 ≤ j → j ≤ 5 → 0 ≤ w32 (6 * (n : Int) + j) ∧ w32 (6 * (n : Int) + j) < (G.2.2.2.2.1 : Int) := by
      intro j j0 j1
      rw [w32_of (by omega) (by omega)]
      omega
    have b1 := bd 1 (by omega) (by omega)
    have b2 := bd 2 (by omega) (by omega)
    have b3 := bd 3 (by omega) (by omega)
    have b4 := bd 4 (by omega) (by omega)
    have b5 := bd 5 (by omega) (by omega)
    have O := ops n h (by omega) hI
    have fin : ∀ {r : Int} {pc : Nat} {ls : List (Nat × AV)}, ∀ (r2 : Int) (h2 : Hp), (r = r2 ∧ INV (n + 1) h2) → (r = r2 → LT G 1278 [(0, rv 900), (1, rv 1), (2, rv 85), (3, iv (6 * (n : Int)))] [] h2) ∧ (r ≠ r2 → LT G pc ls [] h2) := fun r2 h2 w => ⟨fun _ => nx h2 w.2, fun z => absurd w.1 z⟩
    refine ⟨⟨by omega, by omega⟩, ?_⟩
    have O0 := O.2.1
    refine ⟨fun _ => LC_0 hxs hL ⟨b1, b2, b3, b4, b5, Call.mono (O0 _ _ _ _ _) (fun r1 h2 q => ⟨b1, b2, b3, b4, b5, Call.mono q fin⟩)⟩, ?_⟩
    have O1 := O.2.2.1
    refine ⟨fun _ => LC_1 hxs hL ⟨b1, Call.mono (O1 _) (fun r1 h2 q => ⟨b1, Call.mono q fin⟩)⟩, ?_⟩
    have O2 := O.2.2.2.1
    refine ⟨fun _ => LC_2 hxs hL ⟨b1, Call.mono (O2 _) (fun r1 h2 q => ⟨b1, Call.mono q fin⟩)⟩, ?_⟩
    have O3 := O.2.2.2.2.1
    refine ⟨fun _ => LC_3 hxs hL ⟨b1, b2, Call.mono (O3 _ _) (fun r1 h2 q => ⟨b1, b2, Call.mono q fin⟩)⟩, ?_⟩
    have O4 := O.2.2.2.2.2.1
    refine ⟨fun _ => LC_4 hxs hL (Call.mono O4 (fun r1 h2 q => Call.mono q fin)), ?_⟩
    have O5 := O.2.2.2.2.2.2.1
    refine ⟨fun _ => LC_5 hxs hL ⟨b1, Call.mono (O5 _) (fun r1 h2 q => ⟨b1, Call.mono q fin⟩)⟩, ?_⟩
    have O6 := O.2.2.2.2.2.2.2.1
    refine ⟨fun _ => LC_6 hxs hL ⟨b1, b2, b3, b4, Call.mono (O6 _ _ _ _) (fun r1 h2 q => ⟨b1, b2, b3, b4, Call.mono q fin⟩)⟩, ?_⟩
    have O7 := O.2.2.2.2.2.2.2.2.1
    refine ⟨fun _ => LC_7 hxs hL ⟨b1, b2, b3, b4, Call.mono (O7 _ _ _ _) (fun r1 h2 q => ⟨b1, b2, b3, b4, Call.mono q fin⟩)⟩, ?_⟩
    have O8 := O.2.2.2.2.2.2.2.2.2.1
    refine ⟨fun _ => LC_8 hxs hL ⟨b1, b2, fun c0 => Call.mono (O8 _ 0 (Or.inl rfl)) (fun r1 h2 q => ⟨b1, b2, fun _ => Call.mono q fin, fun z => absurd c0 z⟩), fun c0 => Call.mono (O8 _ 1 (Or.inr rfl)) (fun r1 h2 q => ⟨b1, b2, fun z => absurd z c0, fun _ => Call.mono q fin⟩)⟩, ?_⟩
    have O9 := O.2.2.2.2.2.2.2.2.2.2.1
    refine ⟨fun _ => LC_9 hxs hL ⟨b1, b2, Call.mono (O9 _ _) (fun r1 h2 q => ⟨b1, b2, Call.mono q fin⟩)⟩, ?_⟩
    have O10 := O.2.2.2.2.2.2.2.2.2.2.2.1
    refine ⟨fun _ => LC_10 hxs hL ⟨b1, b2, b3, Call.mono (O10 _ _ _) (fun r1 h2 q => ⟨b1, b2, b3, Call.mono q fin⟩)⟩, ?_⟩
    have O11 := O.2.2.2.2.2.2.2.2.2.2.2.2.1
    refine ⟨fun _ => LC_11 hxs hL ⟨b1, Call.mono (O11 _) (fun r1 h2 q => ⟨b1, Call.mono q fin⟩)⟩, ?_⟩
    have O12 := O.2.2.2.2.2.2.2.2.2.2.2.2.2.1
    refine ⟨fun _ => LC_12 hxs hL ⟨b1, b2, Call.mono (O12 _ _) (fun r1 h2 q => ⟨b1, b2, Call.mono q fin⟩)⟩, ?_⟩
    have O13 := O.2.2.2.2.2.2.2.2.2.2.2.2.2.2.1
    refine ⟨fun _ => LC_13 hxs hL ⟨b1, b2, b3, Call.mono (O13 _ _ _) (fun r1 h2 q => ⟨b1, b2, b3, Call.mono q fin⟩)⟩, ?_⟩
    have O14 := O.2.2.2.2.2.2.2.2.2.2.2.2.2.2.2.1
    refine ⟨fun _ => LC_14 hxs hL ⟨b1, b2, b3, Call.mono (O14 _ _ _) (fun r1 h2 q => ⟨b1, b2, b3, Call.mono q fin⟩)⟩, ?_⟩
    have O15 := O.2.2.2.2.2.2.2.2.2.2.2.2.2.2.2.2.1
    refine ⟨fun _ => LC_15 hxs hL ⟨b1, b2, Call.mono (O15 _ _) (fun r1 h2 q => ⟨b1, b2, Call.mono q fin⟩)⟩, ?_⟩
    have O16 := O.2.2.2.2.2.2.2.2.2.2.2.2.2.2.2.2.2.1
    refine ⟨fun _ => LC_16 hxs hL ⟨b1, Call.mono (O16 _) (fun r1 h2 q => ⟨b1, Call.mono q fin⟩)⟩, ?_⟩
    have O17 := O.2.2.2.2.2.2.2.2.2.2.2.2.2.2.2.2.2.2.1
    refine ⟨fun _ => LC_17 hxs hL ⟨b1, Call.mono (O17 _) (fun r1 h2 q => ⟨b1, Call.mono q fin⟩)⟩, ?_⟩
    have O18 := O.2.2.2.2.2.2.2.2.2.2.2.2.2.2.2.2.2.2.2.1
    refine ⟨fun _ => LC_18 hxs hL ⟨b1, b2, Call.mono (O18 _ _) (fun r1 h2 q => ⟨b1, b2, Call.mono q fin⟩)⟩, ?_⟩
    have O19 := O.2.2.2.2.2.2.2.2.2.2.2.2.2.2.2.2.2.2.2.2.1
    refine ⟨fun _ => LC_19 hxs hL ⟨b1, b2, Call.mono (O19 _ _) (fun r1 h2 q => ⟨b1, b2, Call.mono q fin⟩)⟩, ?_⟩
    have O20 := O.2.2.2.2.2.2.2.2.2.2.2.2.2.2.2.2.2.2.2.2.2.1
    refine ⟨fun _ => LC_20 hxs hL ⟨b1, b2, Call.mono (O20 _ _) (fun r1 h2 q => ⟨b1, b2, Call.mono q fin⟩)⟩, ?_⟩
    have O21 := O.2.2.2.2.2.2.2.2.2.2.2.2.2.2.2.2.2.2.2.2.2.2.1
    refine ⟨fun _ => LC_21 hxs hL ⟨b1, b2, Call.mono (O21 _ _) (fun r1 h2 q => ⟨b1, b2, Call.mono q fin⟩)⟩, ?_⟩
    have O22 := O.2.2.2.2.2.2.2.2.2.2.2.2.2.2.2.2.2.2.2.2.2.2.2.1
    refine ⟨fun _ => LC_22 hxs hL (Call.mono O22 (fun r1 h2 q => Call.mono q fin)), ?_⟩
    have O23 := O.2.2.2.2.2.2.2.2.2.2.2.2.2.2.2.2.2.2.2.2.2.2.2.2.1
    refine ⟨fun _ => LC_23 hxs hL (Call.mono O23 (fun r1 h2 q => Call.mono q fin)), ?_⟩
    have O24 := O.2.2.2.2.2.2.2.2.2.2.2.2.2.2.2.2.2.2.2.2.2.2.2.2.2.1
    refine ⟨fun _ => LC_24 hxs hL ⟨b1, Call.mono (O24 _) (fun r1 h2 q => ⟨b1, Call.mono q fin⟩)⟩, ?_⟩
    have O25 := O.2.2.2.2.2.2.2.2.2.2.2.2.2.2.2.2.2.2.2.2.2.2.2.2.2.2.1
    refine ⟨fun _ => LC_25 hxs hL (Call.mono O25 (fun r1 h2 q => Call.mono q fin)), ?_⟩
    have O26 := O.2.2.2.2.2.2.2.2.2.2.2.2.2.2.2.2.2.2.2.2.2.2.2.2.2.2.2.1
    refine ⟨fun _ => LC_26 hxs hL ⟨b1, Call.mono (O26 _) (fun r1 h2 q => ⟨b1, Call.mono q fin⟩)⟩, ?_⟩
    have O27 := O.2.2.2.2.2.2.2.2.2.2.2.2.2.2.2.2.2.2.2.2.2.2.2.2.2.2.2.2.1
    refine ⟨fun _ => LC_27 hxs hL ⟨b1, Call.mono (O27 _) (fun r1 h2 q => ⟨b1, Call.mono q fin⟩)⟩, ?_⟩
    have O28 := O.2.2.2.2.2.2.2.2.2.2.2.2.2.2.2.2.2.2.2.2.2.2.2.2.2.2.2.2.2.1
    refine ⟨fun _ => LC_28 hxs hL ⟨b1, b2, b3, b4, Call.mono (O28 _ _ _ _) (fun r1 h2 q => ⟨b1, b2, b3, b4, Call.mono q fin⟩)⟩, ?_⟩
    have O29 := O.2.2.2.2.2.2.2.2.2.2.2.2.2.2.2.2.2.2.2.2.2.2.2.2.2.2.2.2.2.2.1
    refine ⟨fun _ => LC_29 hxs hL ⟨b1, Call.mono (O29 _) (fun r1 h2 q => ⟨b1, Call.mono q fin⟩)⟩, ?_⟩
    have O30 := O.2.2.2.2.2.2.2.2.2.2.2.2.2.2.2.2.2.2.2.2.2.2.2.2.2.2.2.2.2.2.2.1
    refine ⟨fun _ => LC_30 hxs hL (Call.mono O30 (fun r1 h2 q => Call.mono q fin)), ?_⟩
    have O31 := O.2.2.2.2.2.2.2.2.2.2.2.2.2.2.2.2.2.2.2.2.2.2.2.2.2.2.2.2.2.2.2.2.1
    refine ⟨fun _ => LC_31 hxs hL ⟨b1, Call.mono (O31 _) (fun r1 h2 q => ⟨b1, Call.mono q fin⟩)⟩, ?_⟩
    have O32 := O.2.2.2.2.2.2.2.2.2.2.2.2.2.2.2.2.2.2.2.2.2.2.2.2.2.2.2.2.2.2.2.2.2.1
    refine ⟨fun _ => LC_32 hxs hL ⟨b1, b2, b3, fun c0 => Call.mono (O32 _ _ 0 (Or.inl rfl)) (fun r1 h2 q => ⟨b1, b2, b3, fun _ => Call.mono q fin, fun z => absurd c0 z⟩), fun c0 => Call.mono (O32 _ _ 1 (Or.inr rfl)) (fun r1 h2 q => ⟨b1, b2, b3, fun z => absurd z c0, fun _ => Call.mono q fin⟩)⟩, ?_⟩
    have O33 := O.2.2.2.2.2.2.2.2.2.2.2.2.2.2.2.2.2.2.2.2.2.2.2.2.2.2.2.2.2.2.2.2.2.2
    refine ⟨fun _ => LC_33 hxs hL ⟨b1, b2, b3, b4, Call.mono (O33 _ _ _ _) (fun r1 h2 q => ⟨b1, b2, b3, b4, Call.mono q fin⟩)⟩, ?_⟩
    exact fun _ => nx h O.1
/-- THE LAW, from its entry, out of an invariant that holds at the start and that every operation keeps -/
theorem whole_of {INV : Nat → Hp → Prop} (init : INV 0 hInit) (ops : ∀ G : GG, OPS G INV) {p : Program} {e : Env} {s : State} {m : MethodId} {below : List Frame} {meth : Method} {c : Code} (l : Launch) {b L : Nat} {xs : Nat → Int32} (hL : L ≤ 3072) (hnm : meth.name = "law") (C0 : lw_At p s m meth c b L xs) : W p l e room_1 s m #[Value.ref b] below meth c s.heap [] 0 0 (lw_Z below #[Value.ref b] s) (entryFrame m ([Value.ref b] : List Value).toArray 4) := by
  obtain ⟨hx, hb, hr, hml, hown, hts, hX, hbl, hlocks, hgv⟩ := id C0
  obtain ⟨G, rfl, K, g1, g900, gL, hxs⟩ := law_world l hL C0
  have hL2 : G.2.2.2.2.1 ≤ 3072 := by rw [gL]; exact hL
  have k0 := law_loop (ops G) hxs hL2 512 0 hInit (by omega) init
  have k1 : ATW G m_L_law room_1 152 19026 (QL G) 18 [(0, rv 900), (1, rv 1), (2, rv 85), (3, iv 0)] [] hInit := a_widen (Nat.le_of_ble_eq_true rfl) (Nat.le_of_ble_eq_true rfl) k0
  have k2 := law_ctor k1
  have hl := lv_entry ([Value.ref b]) (n := 4) (Nat.le_of_ble_eq_true rfl)
  rw [lg_entry_eq]
  have hl2 : lv_has ((lg_sl [Value.ref b] ++ List.replicate (4 - (lg_sl [Value.ref b]).length) Slot.unset).toArray) m_L_law.2.2.1 (([(0, rv 900)] : List (Nat × AV)).map fun q => (q.1, cv G q.2)) := by
    refine ⟨hl.1, hl.2.1, fun q hq => hl.2.2 q ?_⟩
    rw [List.map_cons, List.map_nil, cv_ref (by omega : 0 < 900), g900] at hq
    exact hq
  have P0 : RN G zN0 s.heap := by
    refine ⟨⟨Nat.zero_le _, fun k _ => ⟨fun _ => rfl, fun _ => rfl⟩⟩, by rw [g1]; rfl, fun k q hq => by simp [wsN, zN0] at hq, fun k _ i _ _ => ⟨by show i32 0; unfold i32; omega, fun _ => Or.inl rfl⟩⟩
  have w := k2 p e s m #[Value.ref b] below meth c s.heap [] _ ⟨⟨hx, hb, hml, hown, fun w hw => hts w (TB_lw hw), hr, hlocks⟩, hnm⟩ K P0 va_S.rf hl2 (fun q hq => by rw [List.mem_singleton.mp hq]; trivial) (fun v hv => by cases hv)
  intro T hT X
  obtain ⟨t, a1, b1⟩ := w T hT X
  refine ⟨t, a1, b1 fun k h1 h2 => ?_⟩
  rw [K.2.1 k h1 h2, g1]
  omega
