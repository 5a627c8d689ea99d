/-! the loop and the start, put together -/
def sg0 : Sg := (0, 2, 10, fun _ => 0, fun _ => 0, fun _ => 0, fun _ => 0)
theorem SR_0 : SR 0 2 10 (fun _ => 0) (fun _ => 0) (fun _ => 0) (fun _ => 0) := by
  refine ⟨by decide, by decide, by decide, fun _ _ => ?_⟩
  show ((0 : Int) ≤ 0 ∧ (0 : Int) ≤ 20) ∧ ((0 : Int) ≤ 0 ∧ (0 : Int) ≤ 6) ∧ ((0 : Int) ≤ 0 ∧ (0 : Int) ≤ 3) ∧ ((-3 : Int) ≤ 0 ∧ (0 : Int) ≤ 3)
  decide
theorem IC_0 : IC sg0 (tw_mC (fun _ => 0) (fun _ => 0) (fun _ => 0) (fun _ => 0) 0 2 (fun _ => 0) (fun _ => 0) (fun _ => 0) (fun _ => 0) (fun _ => 0) 0 (fun _ => 0) (fun _ => 0) (fun _ => 0) (fun _ => 0) (fun _ => 0) 0 0 0 0 (fun _ => 0) (fun _ => 0) (fun _ => 0) 0 0 0 0 (fun _ => 0) (fun _ => 0) (fun _ => 0) (fun _ => 0) (fun _ => 0) 0 (fun _ => 0) (fun _ => 0) (fun _ => 0) 10 1) :=
  ⟨SR_0, _, _, _, _, _, _, _, _, _, _, _, _, _, _, _, _, _, _, _, _, _, _, _, _, _, _, _, _, _, _, _, _, rfl, fun h => absurd h (by decide)⟩
theorem IM_0 : IM sg0 (tw_mM 2 10 0 (fun _ => 0) (fun _ => 0) (fun _ => 0) (fun _ => 0) 0 0 (fun _ => 0) (fun _ => 0) (fun _ => 0) (fun _ => 0) 0 (fun _ => 0) (fun _ => 0) (fun _ => 0) 0 0 0 0 (fun _ => 0) (fun _ => 0) 0 0 0 (fun _ => 0) 0 (fun _ => 0) (fun _ => 0) (fun _ => 0)) :=
  ⟨SR_0, _, _, _, _, _, _, _, _, _, _, _, _, _, _, _, _, _, _, _, _, _, _, _, _, rfl, fun _ _ => (show (0 : Int) ≤ 0 ∧ (0 : Int) ≤ 5 by decide), fun h => absurd rfl h⟩
theorem IC_at (sg : Sg) (mem : List tw_c) (h : IC sg mem) : ∃ fs, mem[0]? = some (.inr (0, fs)) := by
  obtain ⟨n, a, me, k, g, w, q⟩ := sg
  obtain ⟨hS, M, W, lt, lp, rs, r, L, T, E, O, I, la, li, le, oi, P, Ty, Mk, c, em, b, e, bp, bl, fb, st, ex, co, fr, sl, od, sta, rfl, h0⟩ := h
  exact ⟨_, rfl⟩
theorem IM_at (sg : Sg) (mem : List tw_c) (h : IM sg mem) : ∃ fs, mem[0]? = some (.inr (9, fs)) := by
  obtain ⟨n, a, me, k, g, w, q⟩ := sg
  obtain ⟨hS, kn, r, L, T, rs, P, la, E, O, I, li, le, oi, c, Q, Mk, b, e, em, bl, co, st, sl, od, rfl, hl, h0⟩ := h
  exact ⟨_, rfl⟩
theorem tl_loop_all {Z : tl_Z} (hX : tl_cx Z) : ∀ (f : Nat) (z : Int) (sg : Sg) (mem1 mem2 : List tw_c), 0 ≤ z → z ≤ (tl_L Z : Int) + 5 → (tl_L Z : Int) + 5 - z < (f : Int) → IC sg mem1 → IM sg mem2 → tl_ln Z 18 [some (.inr 0), some (.inr 1), some (.inr 2), some (.inl z)] [] mem1 mem2 :=
  tl_loop_open hX IC_at IM_at
    an_add nx_add H1_add H2_add an_drop nx_drop H1_drop H2_drop an_clear nx_clear H1_clear H2_clear
    an_base nx_base H1_base H2_base an_measure nx_measure H1_measure H2_measure an_length nx_length H1_length H2_length
    an_paragraphLevel nx_paragraphLevel H1_paragraphLevel H2_paragraphLevel an_match nx_match H1_match H2_match
    an_partner nx_partner H1_partner H2_partner an_type nx_type H1_type H2_type an_level nx_level H1_level H2_level
    an_mayBreak nx_mayBreak H1_mayBreak H2_mayBreak an_lines nx_lines H1_lines H2_lines an_start nx_start H1_start H2_start
    an_extent nx_extent H1_extent H2_extent an_shownLevel nx_shownLevel H1_shownLevel H2_shownLevel
    an_shown nx_shown H1_shown H2_shown an_mirrored nx_mirrored H1_mirrored H2_mirrored
theorem whole_start {p : Program} {e : Env} {s : State} {m : MethodId} {below : List Frame} {meth : Method} {c : Code} (l : Launch) {b L : Nat} {xs : Nat → Int32} (hL : L ≤ 2560) (C0 : lw_At p s m meth c b L xs) : W p l e room_1 s m #[Value.ref b] below meth c s.heap [] 0 0 (lw_Z below #[Value.ref b] s) (entryFrame m ([Value.ref b] : List Value).toArray 4) :=
  tl_start_open l hL C0 (fun Z hX => tl_loop_all hX (tl_L Z + 6) 0 sg0 _ _ (by omega) (by omega) (by omega) IC_0 IM_0)
