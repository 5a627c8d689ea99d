/-! pure: the calls of the second side against the spec -/
def IM : Sg → List tw_c → Prop
  | (n, a, me, k, g, w, q), mem => SR n a me k g w q ∧ ∃ (kn : Int) (r : Int) (L : Nat → Int) (T : Nat → Int) (rs : Nat → Int) (P : Nat → Int) (la : Int) (E : Nat → Int) (O : Nat → Int) (I : Nat → Int) (li : Int) (le : Int) (oi : Int) (c : Int) (Q : Nat → Int) (Mk : Nat → Int) (b : Int) (e : Int) (em : Int) (bl : Nat → Int) (co : Int) (st : Nat → Int) (sl : Nat → Int) (od : Nat → Int), mem = tw_mM a me n k g w q kn r L T rs P la E O I li le oi c Q Mk b e em bl co st sl od ∧ (∀ j, j < 64 → 0 ≤ L j ∧ L j ≤ 5) ∧ (¬ kn = 0 → RS n a me k g w q T P rs r st co sl od)
theorem im_of {n : Nat} {a me : Int} {k g w q : Nat → Int} (hS : SR n a me k g w q) {kn : Int} {r : Int} {L : Nat → Int} {T : Nat → Int} {rs : Nat → Int} {P : Nat → Int} {la : Int} {E : Nat → Int} {O : Nat → Int} {I : Nat → Int} {li : Int} {le : Int} {oi : Int} {c : Int} {Q : Nat → Int} {Mk : Nat → Int} {b : Int} {e : Int} {em : Int} {bl : Nat → Int} {co : Int} {st : Nat → Int} {sl : Nat → Int} {od : Nat → Int} (hl : ∀ j, j < 64 → 0 ≤ L j ∧ L j ≤ 5) (hR : RS n a me k g w q T P rs r st co sl od) : IM (n, a, me, k, g, w, q) (tw_mM a me n k g w q kn r L T rs P la E O I li le oi c Q Mk b e em bl co st sl od) :=
  ⟨hS, kn, r, L, T, rs, P, la, E, O, I, li, le, oi, c, Q, Mk, b, e, em, bl, co, st, sl, od, rfl, hl, fun _ => hR⟩
theorem q_is {n : Nat} {a me : Int} {k g w q : Nat → Int} (hS : SR n a me k g w q) {v : Int} {kn : Int} {r : Int} {L : Nat → Int} {T : Nat → Int} {rs : Nat → Int} {P : Nat → Int} {la : Int} {E : Nat → Int} {O : Nat → Int} {I : Nat → Int} {li : Int} {le : Int} {oi : Int} {c : Int} {Q : Nat → Int} {Mk : Nat → Int} {b : Int} {e : Int} {em : Int} {bl : Nat → Int} {co : Int} {st : Nat → Int} {sl : Nat → Int} {od : Nat → Int} (hl : ∀ j, j < 64 → 0 ≤ L j ∧ L j ≤ 5) (h0 : ¬ kn = 0 → RS n a me k g w q T P rs r st co sl od) {K : Int → Int → Int → (Nat → Int) → (Nat → Int) → (Nat → Int) → (Nat → Int) → Int → (Nat → Int) → (Nat → Int) → (Nat → Int) → Int → Int → Int → Int → (Nat → Int) → (Nat → Int) → Int → Int → Int → (Nat → Int) → Int → (Nat → Int) → (Nat → Int) → (Nat → Int) → Prop} (h1 : ∀ i : Nat, v = i → i < n → ∀ kn2 r2 L2 T2 rs2 P2 la2 E2 O2 I2 li2 le2 oi2 c2 Q2 Mk2 b2 e2 em2 bl2 co2 st2 sl2 od2, ¬ kn2 = 0 → (∀ j, j < 64 → 0 ≤ L2 j ∧ L2 j ≤ 5) → RS n a me k g w q T2 P2 rs2 r2 st2 co2 sl2 od2 → K 1 kn2 r2 L2 T2 rs2 P2 la2 E2 O2 I2 li2 le2 oi2 c2 Q2 Mk2 b2 e2 em2 bl2 co2 st2 sl2 od2) (h2 : ¬ (0 ≤ v ∧ v < (n : Int)) → ∀ kn2 r2 L2 T2 rs2 P2 la2 E2 O2 I2 li2 le2 oi2 c2 Q2 Mk2 b2 e2 em2 bl2 co2 st2 sl2 od2, ¬ kn2 = 0 → (∀ j, j < 64 → 0 ≤ L2 j ∧ L2 j ≤ 5) → RS n a me k g w q T2 P2 rs2 r2 st2 co2 sl2 od2 → K 0 kn2 r2 L2 T2 rs2 P2 la2 E2 O2 I2 li2 le2 oi2 c2 Q2 Mk2 b2 e2 em2 bl2 co2 st2 sl2 od2) : tww_mo_is v a me n k g w q kn r L T rs P la E O I li le oi c Q Mk b e em bl co st sl od K := by
  refine q_work hS hl h0 (fun kn2 r2 L2 T2 rs2 P2 la2 E2 O2 I2 li2 le2 oi2 c2 Q2 Mk2 b2 e2 em2 bl2 co2 st2 sl2 od2 z1 z2 z3 J hJ => ⟨fun c1 => hJ _ _ _ _ _ _ _ _ _ _ _ _ _ _ _ _ _ _ _ _ _ _ _ _ (h2 (by omega) _ _ _ _ _ _ _ _ _ _ _ _ _ _ _ _ _ _ _ _ _ _ _ _ z1 z2 z3), fun c1 => ⟨fun c2 => hJ _ _ _ _ _ _ _ _ _ _ _ _ _ _ _ _ _ _ _ _ _ _ _ _ (h2 (by omega) _ _ _ _ _ _ _ _ _ _ _ _ _ _ _ _ _ _ _ _ _ _ _ _ z1 z2 z3), fun c2 => h1 v.toNat (by omega) (by omega) _ _ _ _ _ _ _ _ _ _ _ _ _ _ _ _ _ _ _ _ _ _ _ _ z1 z2 z3⟩⟩)
theorem H2_length {Z : tl_Z} : ∀ (Post : tw_P) (sg : Sg) (mem : List tw_c), IM sg mem → (∀ mem' : List tw_c, IM (nx_length sg) mem' → Post (some (an_length sg)) mem') → tw_ct (tl_Y2 Z) twy_mo_length (Cond.code twy_mo_length prog_11_method_7_code 1 (some .int) :: tw_Wg) 0 [.inr 0] mem Post := by
  intro Post sg mem h hP
  obtain ⟨z1, z2, z3, z4, z5, z6, z7, z8, z9, z10, z11, z12, z13, z14, z15, z16⟩ := Z
  obtain ⟨n, a, me, k, g, w, q⟩ := sg
  obtain ⟨hS, kn, r, L, T, rs, P, la, E, O, I, li, le, oi, c, Q, Mk, b, e, em, bl, co, st, sl, od, rfl, hl, h0⟩ := h
  have hn := hS.1
  refine twc_mo_length (fun z hz => ?_)
  rw [hz]
  exact hP _ ⟨hS, _, _, _, _, _, _, _, _, _, _, _, _, _, _, _, _, _, _, _, _, _, _, _, _, rfl, hl, h0⟩
theorem H2_match {Z : tl_Z} : ∀ (Post : tw_P) (sg : Sg) (mem : List tw_c) (x1 : Int), IM sg mem → tw_rg x1 → (∀ mem' : List tw_c, IM (nx_match sg x1) mem' → Post (some (an_match sg x1)) mem') → tw_ct (tl_Y2 Z) twy_mo_match (Cond.code twy_mo_match prog_11_method_11_code 3 (some .int) :: tw_Wg) 2 [.inr 0, .inl x1] mem Post := by
  intro Post sg mem x1 h hr_x1 hP
  obtain ⟨z1, z2, z3, z4, z5, z6, z7, z8, z9, z10, z11, z12, z13, z14, z15, z16⟩ := Z
  obtain ⟨n, a, me, k, g, w, q⟩ := sg
  obtain ⟨hS, kn, r, L, T, rs, P, la, E, O, I, li, le, oi, c, Q, Mk, b, e, em, bl, co, st, sl, od, rfl, hl, h0⟩ := h
  have hn := hS.1
  refine twc_mo_match (K := fun z => Post (some z) _) ?_ (fun _ h => h)
  by_cases c0 : 0 ≤ x1 ∧ x1 < (n : Int)
  · obtain ⟨i, hi⟩ : ∃ i : Nat, x1 = i := ⟨x1.toNat, by omega⟩
    subst hi
    have e : an_match (n, a, me, k, g, w, q) (i : Int) = mt k n i := if_pos c0
    rw [e] at hP
    exact q_mm hn (by omega) (hP _ ⟨hS, _, _, _, _, _, _, _, _, _, _, _, _, _, _, _, _, _, _, _, _, _, _, _, _, rfl, hl, h0⟩)
  · have e : an_match (n, a, me, k, g, w, q) x1 = -1 := if_neg c0
    rw [e] at hP
    exact ⟨fun _ => hP _ ⟨hS, _, _, _, _, _, _, _, _, _, _, _, _, _, _, _, _, _, _, _, _, _, _, _, _, rfl, hl, h0⟩, fun y1 => ⟨fun y2 => absurd ⟨by omega, y2⟩ c0, fun _ => hP _ ⟨hS, _, _, _, _, _, _, _, _, _, _, _, _, _, _, _, _, _, _, _, _, _, _, _, _, rfl, hl, h0⟩⟩⟩
theorem H2_mayBreak {Z : tl_Z} : ∀ (Post : tw_P) (sg : Sg) (mem : List tw_c) (x1 : Int), IM sg mem → tw_rg x1 → (∀ mem' : List tw_c, IM (nx_mayBreak sg x1) mem' → Post (some (an_mayBreak sg x1)) mem') → tw_ct (tl_Y2 Z) twy_mo_mayBreak (Cond.code twy_mo_mayBreak prog_11_method_38_code 5 (some .boolean) :: tw_Wg) 1 [.inr 0, .inl x1] mem Post := by
  intro Post sg mem x1 h hr_x1 hP
  obtain ⟨z1, z2, z3, z4, z5, z6, z7, z8, z9, z10, z11, z12, z13, z14, z15, z16⟩ := Z
  obtain ⟨n, a, me, k, g, w, q⟩ := sg
  obtain ⟨hS, kn, r, L, T, rs, P, la, E, O, I, li, le, oi, c, Q, Mk, b, e, em, bl, co, st, sl, od, rfl, hl, h0⟩ := h
  have hn := hS.1
  refine twc_mo_mayBreak (K := fun z => Post (some z) _) (q_mbr hn ?_) (fun _ h => h)
  have e : (if x1 < 1 then 0 else if (n : Int) ≤ x1 then 0 else sp_br k (sp_gr k g) x1.toNat) = an_mayBreak (n, a, me, k, g, w, q) x1 := by
    show _ = if 0 ≤ x1 ∧ x1 < (n : Int) then sp_br k (sp_gr k g) x1.toNat else 0
    by_cases c1 : x1 < 1
    · rw [if_pos c1]
      by_cases c2 : 0 ≤ x1 ∧ x1 < (n : Int)
      · rw [if_pos c2, show x1 = 0 by omega]
        rfl
      · rw [if_neg c2]
    · rw [if_neg c1]
      by_cases c2 : (n : Int) ≤ x1
      · rw [if_pos c2, if_neg (by omega)]
      · rw [if_neg c2, if_pos (by omega)]
  rw [e]
  exact hP _ ⟨hS, _, _, _, _, _, _, _, _, _, _, _, _, _, _, _, _, _, _, _, _, _, _, _, _, rfl, hl, h0⟩
theorem H2_partner {Z : tl_Z} : ∀ (Post : tw_P) (sg : Sg) (mem : List tw_c) (x1 : Int), IM sg mem → tw_rg x1 → (∀ mem' : List tw_c, IM (nx_partner sg x1) mem' → Post (some (an_partner sg x1)) mem') → tw_ct (tl_Y2 Z) twy_mo_partner (Cond.code twy_mo_partner prog_11_method_47_code 2 (some .int) :: tw_Wg) 7 [.inr 0, .inl x1] mem Post := by
  intro Post sg mem x1 h hr_x1 hP
  obtain ⟨z1, z2, z3, z4, z5, z6, z7, z8, z9, z10, z11, z12, z13, z14, z15, z16⟩ := Z
  obtain ⟨n, a, me, k, g, w, q⟩ := sg
  obtain ⟨hS, kn, r, L, T, rs, P, la, E, O, I, li, le, oi, c, Q, Mk, b, e, em, bl, co, st, sl, od, rfl, hl, h0⟩ := h
  have hn := hS.1
  refine twc_mo_partner (K := fun z kn2 r2 L2 T2 rs2 P2 la2 E2 O2 I2 li2 le2 oi2 c2 Q2 Mk2 b2 e2 em2 bl2 co2 st2 sl2 od2 => Post (some z) (tw_mM a me n k g w q kn2 r2 L2 T2 rs2 P2 la2 E2 O2 I2 li2 le2 oi2 c2 Q2 Mk2 b2 e2 em2 bl2 co2 st2 sl2 od2)) (q_is hS hl h0 (fun i hi1 hi kn2 r2 L2 T2 rs2 P2 la2 E2 O2 I2 li2 le2 oi2 c2 Q2 Mk2 b2 e2 em2 bl2 co2 st2 sl2 od2 y1 y2 y3 => ⟨fun y => absurd y (by decide), fun _ => ⟨⟨by omega, by omega⟩, ?_⟩⟩) (fun hne kn2 r2 L2 T2 rs2 P2 la2 E2 O2 I2 li2 le2 oi2 c2 Q2 Mk2 b2 e2 em2 bl2 co2 st2 sl2 od2 y1 y2 y3 => ⟨fun _ => ?_, fun y => absurd rfl y⟩)) (fun _ _ _ _ _ _ _ _ _ _ _ _ _ _ _ _ _ _ _ _ _ _ _ _ _ h => h)
  · subst hi1
    have e : an_partner (n, a, me, k, g, w, q) (i : Int) = pf k q n (rut k n a) i := if_pos ⟨by omega, by omega⟩
    rw [e] at hP
    show Post (some (P2 i)) _
    rw [(y3.2.1 i hi).2]
    exact hP _ (im_of hS y2 y3)
  · have e : an_partner (n, a, me, k, g, w, q) x1 = -1 := if_neg hne
    rw [e] at hP
    exact hP _ (im_of hS y2 y3)
theorem H2_type {Z : tl_Z} : ∀ (Post : tw_P) (sg : Sg) (mem : List tw_c) (x1 : Int), IM sg mem → tw_rg x1 → (∀ mem' : List tw_c, IM (nx_type sg x1) mem' → Post (some (an_type sg x1)) mem') → tw_ct (tl_Y2 Z) twy_mo_type (Cond.code twy_mo_type prog_11_method_48_code 2 (some .int) :: tw_Wg) 7 [.inr 0, .inl x1] mem Post := by
  intro Post sg mem x1 h hr_x1 hP
  obtain ⟨z1, z2, z3, z4, z5, z6, z7, z8, z9, z10, z11, z12, z13, z14, z15, z16⟩ := Z
  obtain ⟨n, a, me, k, g, w, q⟩ := sg
  obtain ⟨hS, kn, r, L, T, rs, P, la, E, O, I, li, le, oi, c, Q, Mk, b, e, em, bl, co, st, sl, od, rfl, hl, h0⟩ := h
  have hn := hS.1
  refine twc_mo_type (K := fun z kn2 r2 L2 T2 rs2 P2 la2 E2 O2 I2 li2 le2 oi2 c2 Q2 Mk2 b2 e2 em2 bl2 co2 st2 sl2 od2 => Post (some z) (tw_mM a me n k g w q kn2 r2 L2 T2 rs2 P2 la2 E2 O2 I2 li2 le2 oi2 c2 Q2 Mk2 b2 e2 em2 bl2 co2 st2 sl2 od2)) (q_is hS hl h0 (fun i hi1 hi kn2 r2 L2 T2 rs2 P2 la2 E2 O2 I2 li2 le2 oi2 c2 Q2 Mk2 b2 e2 em2 bl2 co2 st2 sl2 od2 y1 y2 y3 => ⟨fun y => absurd y (by decide), fun _ => ⟨⟨by omega, by omega⟩, ?_⟩⟩) (fun hne kn2 r2 L2 T2 rs2 P2 la2 E2 O2 I2 li2 le2 oi2 c2 Q2 Mk2 b2 e2 em2 bl2 co2 st2 sl2 od2 y1 y2 y3 => ⟨fun _ => ?_, fun y => absurd rfl y⟩)) (fun _ _ _ _ _ _ _ _ _ _ _ _ _ _ _ _ _ _ _ _ _ _ _ _ _ h => h)
  · subst hi1
    have e : an_type (n, a, me, k, g, w, q) (i : Int) = tf k q n (rut k n a) i := if_pos ⟨by omega, by omega⟩
    rw [e] at hP
    show Post (some (T2 i)) _
    rw [(y3.2.1 i hi).1]
    exact hP _ (im_of hS y2 y3)
  · have e : an_type (n, a, me, k, g, w, q) x1 = -1 := if_neg hne
    rw [e] at hP
    exact hP _ (im_of hS y2 y3)
theorem H2_level {Z : tl_Z} : ∀ (Post : tw_P) (sg : Sg) (mem : List tw_c) (x1 : Int), IM sg mem → tw_rg x1 → (∀ mem' : List tw_c, IM (nx_level sg x1) mem' → Post (some (an_level sg x1)) mem') → tw_ct (tl_Y2 Z) twy_mo_level (Cond.code twy_mo_level prog_11_method_49_code 2 (some .int) :: tw_Wg) 7 [.inr 0, .inl x1] mem Post := by
  intro Post sg mem x1 h hr_x1 hP
  obtain ⟨z1, z2, z3, z4, z5, z6, z7, z8, z9, z10, z11, z12, z13, z14, z15, z16⟩ := Z
  obtain ⟨n, a, me, k, g, w, q⟩ := sg
  obtain ⟨hS, kn, r, L, T, rs, P, la, E, O, I, li, le, oi, c, Q, Mk, b, e, em, bl, co, st, sl, od, rfl, hl, h0⟩ := h
  have hn := hS.1
  refine twc_mo_level (K := fun z kn2 r2 L2 T2 rs2 P2 la2 E2 O2 I2 li2 le2 oi2 c2 Q2 Mk2 b2 e2 em2 bl2 co2 st2 sl2 od2 => Post (some z) (tw_mM a me n k g w q kn2 r2 L2 T2 rs2 P2 la2 E2 O2 I2 li2 le2 oi2 c2 Q2 Mk2 b2 e2 em2 bl2 co2 st2 sl2 od2)) (q_is hS hl h0 (fun i hi1 hi kn2 r2 L2 T2 rs2 P2 la2 E2 O2 I2 li2 le2 oi2 c2 Q2 Mk2 b2 e2 em2 bl2 co2 st2 sl2 od2 y1 y2 y3 => ⟨fun y => absurd y (by decide), fun _ => ⟨⟨by omega, by omega⟩, ?_⟩⟩) (fun hne kn2 r2 L2 T2 rs2 P2 la2 E2 O2 I2 li2 le2 oi2 c2 Q2 Mk2 b2 e2 em2 bl2 co2 st2 sl2 od2 y1 y2 y3 => ⟨fun _ => ?_, fun y => absurd rfl y⟩)) (fun _ _ _ _ _ _ _ _ _ _ _ _ _ _ _ _ _ _ _ _ _ _ _ _ _ h => h)
  · subst hi1
    have e : an_level (n, a, me, k, g, w, q) (i : Int) = rz k q n (rut k n a) (i + 1) := if_pos ⟨by omega, by omega⟩
    rw [e] at hP
    show Post (some (rs2 i)) _
    rw [y3.2.2.1 i hi]
    exact hP _ (im_of hS y2 y3)
  · have e : an_level (n, a, me, k, g, w, q) x1 = -1 := if_neg hne
    rw [e] at hP
    exact hP _ (im_of hS y2 y3)
theorem H2_shownLevel {Z : tl_Z} : ∀ (Post : tw_P) (sg : Sg) (mem : List tw_c) (x1 : Int), IM sg mem → tw_rg x1 → (∀ mem' : List tw_c, IM (nx_shownLevel sg x1) mem' → Post (some (an_shownLevel sg x1)) mem') → tw_ct (tl_Y2 Z) twy_mo_shownLevel (Cond.code twy_mo_shownLevel prog_11_method_53_code 2 (some .int) :: tw_Wg) 7 [.inr 0, .inl x1] mem Post := by
  intro Post sg mem x1 h hr_x1 hP
  obtain ⟨z1, z2, z3, z4, z5, z6, z7, z8, z9, z10, z11, z12, z13, z14, z15, z16⟩ := Z
  obtain ⟨n, a, me, k, g, w, q⟩ := sg
  obtain ⟨hS, kn, r, L, T, rs, P, la, E, O, I, li, le, oi, c, Q, Mk, b, e, em, bl, co, st, sl, od, rfl, hl, h0⟩ := h
  have hn := hS.1
  refine twc_mo_shownLevel (K := fun z kn2 r2 L2 T2 rs2 P2 la2 E2 O2 I2 li2 le2 oi2 c2 Q2 Mk2 b2 e2 em2 bl2 co2 st2 sl2 od2 => Post (some z) (tw_mM a me n k g w q kn2 r2 L2 T2 rs2 P2 la2 E2 O2 I2 li2 le2 oi2 c2 Q2 Mk2 b2 e2 em2 bl2 co2 st2 sl2 od2)) (q_is hS hl h0 (fun i hi1 hi kn2 r2 L2 T2 rs2 P2 la2 E2 O2 I2 li2 le2 oi2 c2 Q2 Mk2 b2 e2 em2 bl2 co2 st2 sl2 od2 y1 y2 y3 => ⟨fun y => absurd y (by decide), fun _ => ⟨⟨by omega, by omega⟩, ?_⟩⟩) (fun hne kn2 r2 L2 T2 rs2 P2 la2 E2 O2 I2 li2 le2 oi2 c2 Q2 Mk2 b2 e2 em2 bl2 co2 st2 sl2 od2 y1 y2 y3 => ⟨fun _ => ?_, fun y => absurd rfl y⟩)) (fun _ _ _ _ _ _ _ _ _ _ _ _ _ _ _ _ _ _ _ _ _ _ _ _ _ h => h)
  · subst hi1
    have e : an_shownLevel (n, a, me, k, g, w, q) (i : Int) = shl k (rr n a k q) (rut k n a) (ee n me k g w) n i := if_pos ⟨by omega, by omega⟩
    rw [e] at hP
    show Post (some (sl2 i)) _
    rw [(y3.2.2.2.2.2 i hi).1]
    exact hP _ (im_of hS y2 y3)
  · have e : an_shownLevel (n, a, me, k, g, w, q) x1 = -1 := if_neg hne
    rw [e] at hP
    exact hP _ (im_of hS y2 y3)
theorem H2_mirrored {Z : tl_Z} : ∀ (Post : tw_P) (sg : Sg) (mem : List tw_c) (x1 : Int), IM sg mem → tw_rg x1 → (∀ mem' : List tw_c, IM (nx_mirrored sg x1) mem' → Post (some (an_mirrored sg x1)) mem') → tw_ct (tl_Y2 Z) twy_mo_mirrored (Cond.code twy_mo_mirrored prog_11_method_55_code 2 (some .boolean) :: tw_Wg) 7 [.inr 0, .inl x1] mem Post := by
  intro Post sg mem x1 h hr_x1 hP
  obtain ⟨z1, z2, z3, z4, z5, z6, z7, z8, z9, z10, z11, z12, z13, z14, z15, z16⟩ := Z
  obtain ⟨n, a, me, k, g, w, q⟩ := sg
  obtain ⟨hS, kn, r, L, T, rs, P, la, E, O, I, li, le, oi, c, Q, Mk, b, e, em, bl, co, st, sl, od, rfl, hl, h0⟩ := h
  have hn := hS.1
  refine twc_mo_mirrored (K := fun z kn2 r2 L2 T2 rs2 P2 la2 E2 O2 I2 li2 le2 oi2 c2 Q2 Mk2 b2 e2 em2 bl2 co2 st2 sl2 od2 => Post (some z) (tw_mM a me n k g w q kn2 r2 L2 T2 rs2 P2 la2 E2 O2 I2 li2 le2 oi2 c2 Q2 Mk2 b2 e2 em2 bl2 co2 st2 sl2 od2)) (q_is hS hl h0 (fun i hi1 hi kn2 r2 L2 T2 rs2 P2 la2 E2 O2 I2 li2 le2 oi2 c2 Q2 Mk2 b2 e2 em2 bl2 co2 st2 sl2 od2 y1 y2 y3 J hJ => ⟨fun y => absurd y (by decide), fun _ => ⟨⟨by omega, by omega⟩, ?_⟩⟩) (fun hne kn2 r2 L2 T2 rs2 P2 la2 E2 O2 I2 li2 le2 oi2 c2 Q2 Mk2 b2 e2 em2 bl2 co2 st2 sl2 od2 y1 y2 y3 J hJ => ⟨fun _ => hJ _ _ _ _ _ _ _ _ _ _ _ _ _ _ _ _ _ _ _ _ _ _ _ _ ?_, fun y => absurd rfl y⟩)) (fun _ _ _ _ _ _ _ _ _ _ _ _ _ _ _ _ _ _ _ _ _ _ _ _ _ h => h)
  · subst hi1
    have ea : an_mirrored (n, a, me, k, g, w, q) (i : Int) = if q i = 0 then 0 else shl k (rr n a k q) (rut k n a) (ee n me k g w) n i % 2 := if_pos ⟨by omega, by omega⟩
    rw [ea] at hP
    have hb := shl_b (me := me) (g := g) (w := w) hS hi
    have es := (y3.2.2.2.2.2 i hi).1
    rw [tn, es]
    refine ⟨fun c0 => hJ _ _ _ _ _ _ _ _ _ _ _ _ _ _ _ _ _ _ _ _ _ _ _ _ ?_, fun c0 => ⟨⟨by omega, by omega⟩, hb, fun c1 => ?_, fun c1 => hJ _ _ _ _ _ _ _ _ _ _ _ _ _ _ _ _ _ _ _ _ _ _ _ _ ?_⟩⟩
    · rw [if_pos c0] at hP
      exact hP _ (im_of hS y2 y3)
    · rw [if_neg c0, c1] at hP
      exact hP _ (im_of hS y2 y3)
    · rw [if_neg c0, show shl k (rr n a k q) (rut k n a) (ee n me k g w) n i % 2 = 0 by omega] at hP
      exact hP _ (im_of hS y2 y3)
  · have e : an_mirrored (n, a, me, k, g, w, q) x1 = 0 := if_neg hne
    rw [e] at hP
    exact hP _ (im_of hS y2 y3)
theorem H2_paragraphLevel {Z : tl_Z} : ∀ (Post : tw_P) (sg : Sg) (mem : List tw_c), IM sg mem → (∀ mem' : List tw_c, IM (nx_paragraphLevel sg) mem' → Post (some (an_paragraphLevel sg)) mem') → tw_ct (tl_Y2 Z) twy_mo_paragraphLevel (Cond.code twy_mo_paragraphLevel prog_11_method_46_code 1 (some .int) :: tw_Wg) 6 [.inr 0] mem Post := by
  intro Post sg mem h hP
  obtain ⟨z1, z2, z3, z4, z5, z6, z7, z8, z9, z10, z11, z12, z13, z14, z15, z16⟩ := Z
  obtain ⟨n, a, me, k, g, w, q⟩ := sg
  obtain ⟨hS, kn, r, L, T, rs, P, la, E, O, I, li, le, oi, c, Q, Mk, b, e, em, bl, co, st, sl, od, rfl, hl, h0⟩ := h
  have hn := hS.1
  have hLb := Ln_b (me := me) (k := k) (g := g) (w := w) hn
  refine twc_mo_paragraphLevel (K := fun z kn2 r2 L2 T2 rs2 P2 la2 E2 O2 I2 li2 le2 oi2 c2 Q2 Mk2 b2 e2 em2 bl2 co2 st2 sl2 od2 => Post (some z) (tw_mM a me n k g w q kn2 r2 L2 T2 rs2 P2 la2 E2 O2 I2 li2 le2 oi2 c2 Q2 Mk2 b2 e2 em2 bl2 co2 st2 sl2 od2)) (q_work hS hl h0 (fun kn2 r2 L2 T2 rs2 P2 la2 E2 O2 I2 li2 le2 oi2 c2 Q2 Mk2 b2 e2 em2 bl2 co2 st2 sl2 od2 y1 y2 y3 => ?_)) (fun _ _ _ _ _ _ _ _ _ _ _ _ _ _ _ _ _ _ _ _ _ _ _ _ _ h => h)
  show Post (some r2) _
  have e : r2 = an_paragraphLevel (n, a, me, k, g, w, q) := y3.1
  rw [← e] at hP
  exact hP _ (im_of hS y2 y3)
theorem H2_lines {Z : tl_Z} : ∀ (Post : tw_P) (sg : Sg) (mem : List tw_c), IM sg mem → (∀ mem' : List tw_c, IM (nx_lines sg) mem' → Post (some (an_lines sg)) mem') → tw_ct (tl_Y2 Z) twy_mo_lines (Cond.code twy_mo_lines prog_11_method_50_code 1 (some .int) :: tw_Wg) 6 [.inr 0] mem Post := by
  intro Post sg mem h hP
  obtain ⟨z1, z2, z3, z4, z5, z6, z7, z8, z9, z10, z11, z12, z13, z14, z15, z16⟩ := Z
  obtain ⟨n, a, me, k, g, w, q⟩ := sg
  obtain ⟨hS, kn, r, L, T, rs, P, la, E, O, I, li, le, oi, c, Q, Mk, b, e, em, bl, co, st, sl, od, rfl, hl, h0⟩ := h
  have hn := hS.1
  have hLb := Ln_b (me := me) (k := k) (g := g) (w := w) hn
  refine twc_mo_lines (K := fun z kn2 r2 L2 T2 rs2 P2 la2 E2 O2 I2 li2 le2 oi2 c2 Q2 Mk2 b2 e2 em2 bl2 co2 st2 sl2 od2 => Post (some z) (tw_mM a me n k g w q kn2 r2 L2 T2 rs2 P2 la2 E2 O2 I2 li2 le2 oi2 c2 Q2 Mk2 b2 e2 em2 bl2 co2 st2 sl2 od2)) (q_work hS hl h0 (fun kn2 r2 L2 T2 rs2 P2 la2 E2 O2 I2 li2 le2 oi2 c2 Q2 Mk2 b2 e2 em2 bl2 co2 st2 sl2 od2 y1 y2 y3 => ?_)) (fun _ _ _ _ _ _ _ _ _ _ _ _ _ _ _ _ _ _ _ _ _ _ _ _ _ h => h)
  show Post (some co2) _
  have e : co2 = an_lines (n, a, me, k, g, w, q) := y3.2.2.2.1
  rw [← e] at hP
  exact hP _ (im_of hS y2 y3)
theorem H2_start {Z : tl_Z} : ∀ (Post : tw_P) (sg : Sg) (mem : List tw_c) (x1 : Int), IM sg mem → tw_rg x1 → (∀ mem' : List tw_c, IM (nx_start sg x1) mem' → Post (some (an_start sg x1)) mem') → tw_ct (tl_Y2 Z) twy_mo_start (Cond.code twy_mo_start prog_11_method_51_code 2 (some .int) :: tw_Wg) 6 [.inr 0, .inl x1] mem Post := by
  intro Post sg mem x1 h hr_x1 hP
  obtain ⟨z1, z2, z3, z4, z5, z6, z7, z8, z9, z10, z11, z12, z13, z14, z15, z16⟩ := Z
  obtain ⟨n, a, me, k, g, w, q⟩ := sg
  obtain ⟨hS, kn, r, L, T, rs, P, la, E, O, I, li, le, oi, c, Q, Mk, b, e, em, bl, co, st, sl, od, rfl, hl, h0⟩ := h
  have hn := hS.1
  have hLb := Ln_b (me := me) (k := k) (g := g) (w := w) hn
  refine twc_mo_start (K := fun z kn2 r2 L2 T2 rs2 P2 la2 E2 O2 I2 li2 le2 oi2 c2 Q2 Mk2 b2 e2 em2 bl2 co2 st2 sl2 od2 => Post (some z) (tw_mM a me n k g w q kn2 r2 L2 T2 rs2 P2 la2 E2 O2 I2 li2 le2 oi2 c2 Q2 Mk2 b2 e2 em2 bl2 co2 st2 sl2 od2)) (q_work hS hl h0 (fun kn2 r2 L2 T2 rs2 P2 la2 E2 O2 I2 li2 le2 oi2 c2 Q2 Mk2 b2 e2 em2 bl2 co2 st2 sl2 od2 y1 y2 y3 J hJ => ?_)) (fun _ _ _ _ _ _ _ _ _ _ _ _ _ _ _ _ _ _ _ _ _ _ _ _ _ h => h)
  have eco := y3.2.2.2.1
  have jn : ¬ (0 ≤ x1 ∧ x1 ≤ (Ln (ee n me k g w) n : Int)) → J kn2 r2 L2 T2 rs2 P2 la2 E2 O2 I2 li2 le2 oi2 c2 Q2 Mk2 b2 e2 em2 bl2 co2 st2 sl2 od2 := fun c0 => hJ _ _ _ _ _ _ _ _ _ _ _ _ _ _ _ _ _ _ _ _ _ _ _ _ (by
    have e : an_start (n, a, me, k, g, w, q) x1 = -1 := if_neg c0
    rw [e] at hP
    exact hP _ (im_of hS y2 y3))
  refine ⟨fun c1 => jn (by omega), fun c1 => ⟨fun c2 => ⟨⟨by omega, by omega⟩, ?_⟩, fun c2 => jn (by omega)⟩⟩
  have e : an_start (n, a, me, k, g, w, q) x1 = (sp_st (ee n me k g w) n x1.toNat : Int) := if_pos ⟨by omega, by omega⟩
  rw [e] at hP
  show Post (some (st2 x1.toNat)) _
  rw [y3.2.2.2.2.1 x1.toNat (by omega)]
  exact hP _ (im_of hS y2 y3)
theorem H2_extent {Z : tl_Z} : ∀ (Post : tw_P) (sg : Sg) (mem : List tw_c) (x1 : Int), IM sg mem → tw_rg x1 → (∀ mem' : List tw_c, IM (nx_extent sg x1) mem' → Post (some (an_extent sg x1)) mem') → tw_ct (tl_Y2 Z) twy_mo_extent (Cond.code twy_mo_extent prog_11_method_52_code 2 (some .int) :: tw_Wg) 6 [.inr 0, .inl x1] mem Post := by
  intro Post sg mem x1 h hr_x1 hP
  obtain ⟨z1, z2, z3, z4, z5, z6, z7, z8, z9, z10, z11, z12, z13, z14, z15, z16⟩ := Z
  obtain ⟨n, a, me, k, g, w, q⟩ := sg
  obtain ⟨hS, kn, r, L, T, rs, P, la, E, O, I, li, le, oi, c, Q, Mk, b, e, em, bl, co, st, sl, od, rfl, hl, h0⟩ := h
  have hn := hS.1
  have hLb := Ln_b (me := me) (k := k) (g := g) (w := w) hn
  refine twc_mo_extent (K := fun z kn2 r2 L2 T2 rs2 P2 la2 E2 O2 I2 li2 le2 oi2 c2 Q2 Mk2 b2 e2 em2 bl2 co2 st2 sl2 od2 => Post (some z) (tw_mM a me n k g w q kn2 r2 L2 T2 rs2 P2 la2 E2 O2 I2 li2 le2 oi2 c2 Q2 Mk2 b2 e2 em2 bl2 co2 st2 sl2 od2)) (q_work hS hl h0 (fun kn2 r2 L2 T2 rs2 P2 la2 E2 O2 I2 li2 le2 oi2 c2 Q2 Mk2 b2 e2 em2 bl2 co2 st2 sl2 od2 y1 y2 y3 J hJ => ?_)) (fun _ _ _ _ _ _ _ _ _ _ _ _ _ _ _ _ _ _ _ _ _ _ _ _ _ h => h)
  have eco := y3.2.2.2.1
  have jn : ¬ (0 ≤ x1 ∧ x1 < (Ln (ee n me k g w) n : Int)) → J kn2 r2 L2 T2 rs2 P2 la2 E2 O2 I2 li2 le2 oi2 c2 Q2 Mk2 b2 e2 em2 bl2 co2 st2 sl2 od2 := fun c0 => hJ _ _ _ _ _ _ _ _ _ _ _ _ _ _ _ _ _ _ _ _ _ _ _ _ (by
    have e : an_extent (n, a, me, k, g, w, q) x1 = -1 := if_neg c0
    rw [e] at hP
    exact hP _ (im_of hS y2 y3))
  refine ⟨fun c1 => jn (by omega), fun c1 => ⟨fun c2 => ⟨⟨by omega, by omega⟩, ⟨by omega, by omega⟩, ⟨by omega, by omega⟩, ?_⟩, fun c2 => jn (by omega)⟩⟩
  obtain ⟨i, hi⟩ : ∃ i : Nat, x1 = i := ⟨x1.toNat, by omega⟩
  subst hi
  have e : an_extent (n, a, me, k, g, w, q) i = sp_ex w (sp_gr k g) (sp_st (ee n me k g w) n i) (sp_st (ee n me k g w) n (i + 1) - sp_st (ee n me k g w) n i) := if_pos ⟨by omega, by omega⟩
  rw [e] at hP
  have hst := y3.2.2.2.2.1
  rw [tn1, tn, hst i (by omega), hst (i + 1) (by omega)]
  have b2 := (st_b (e := ee n me k g w) (n := n) e_b (i + 1)).1
  exact q_mext hn (fun j hj => (hS.2.2.2 j (by omega)).2.2.1) (st_lm e_b i 1) b2 (hP _ (im_of hS y2 y3))
theorem H2_shown {Z : tl_Z} : ∀ (Post : tw_P) (sg : Sg) (mem : List tw_c) (x1 x2 : Int), IM sg mem → tw_rg x1 → tw_rg x2 → (∀ mem' : List tw_c, IM (nx_shown sg x1 x2) mem' → Post (some (an_shown sg x1 x2)) mem') → tw_ct (tl_Y2 Z) twy_mo_shown (Cond.code twy_mo_shown prog_11_method_54_code 3 (some .int) :: tw_Wg) 6 [.inr 0, .inl x1, .inl x2] mem Post := by
  intro Post sg mem x1 x2 h hr_x1 hr_x2 hP
  obtain ⟨z1, z2, z3, z4, z5, z6, z7, z8, z9, z10, z11, z12, z13, z14, z15, z16⟩ := Z
  obtain ⟨n, a, me, k, g, w, q⟩ := sg
  obtain ⟨hS, kn, r, L, T, rs, P, la, E, O, I, li, le, oi, c, Q, Mk, b, e, em, bl, co, st, sl, od, rfl, hl, h0⟩ := h
  have hn := hS.1
  have hLb := Ln_b (me := me) (k := k) (g := g) (w := w) hn
  refine twc_mo_shown (K := fun z kn2 r2 L2 T2 rs2 P2 la2 E2 O2 I2 li2 le2 oi2 c2 Q2 Mk2 b2 e2 em2 bl2 co2 st2 sl2 od2 => Post (some z) (tw_mM a me n k g w q kn2 r2 L2 T2 rs2 P2 la2 E2 O2 I2 li2 le2 oi2 c2 Q2 Mk2 b2 e2 em2 bl2 co2 st2 sl2 od2)) (q_work hS hl h0 (fun kn2 r2 L2 T2 rs2 P2 la2 E2 O2 I2 li2 le2 oi2 c2 Q2 Mk2 b2 e2 em2 bl2 co2 st2 sl2 od2 y1 y2 y3 => ?_)) (fun _ _ _ _ _ _ _ _ _ _ _ _ _ _ _ _ _ _ _ _ _ _ _ _ _ h => h)
  have eco := y3.2.2.2.1
  have hf : ¬ ((0 ≤ x1 ∧ x1 < (Ln (ee n me k g w) n : Int)) ∧ 0 ≤ x2) → Post (some (-1)) (tw_mM a me n k g w q kn2 r2 L2 T2 rs2 P2 la2 E2 O2 I2 li2 le2 oi2 c2 Q2 Mk2 b2 e2 em2 bl2 co2 st2 sl2 od2) := fun c0 => by
    have e : an_shown (n, a, me, k, g, w, q) x1 x2 = -1 := if_neg (fun y => c0 ⟨y.1, y.2.1⟩)
    rw [e] at hP
    exact hP _ (im_of hS y2 y3)
  refine ⟨fun c1 => hf (by omega), fun c1 => ⟨fun c2 => hf (by omega), fun c2 => ⟨fun c3 => hf (by omega), fun c3 => ?_⟩⟩⟩
  obtain ⟨i, hi⟩ : ∃ i : Nat, x1 = i := ⟨x1.toNat, by omega⟩
  subst hi
  have hst := y3.2.2.2.2.1
  have h1 := hst i (by omega)
  have h2 := hst (i + 1) (by omega)
  have b1 := (st_b (e := ee n me k g w) (n := n) e_b i).1
  have b2 := (st_b (e := ee n me k g w) (n := n) e_b (i + 1)).1
  have ea : an_shown (n, a, me, k, g, w, q) i x2 = if (0 ≤ (i : Int) ∧ (i : Int) < (Ln (ee n me k g w) n : Int)) ∧ 0 ≤ x2 ∧ x2 < (sp_st (ee n me k g w) n (i + 1) : Int) - (sp_st (ee n me k g w) n i : Int) then sho k (rr n a k q) (rut k n a) (ee n me k g w) n ((sp_st (ee n me k g w) n i : Int) + x2).toNat else -1 := rfl
  rw [tn1, tn, h1, h2]
  refine ⟨⟨by omega, by omega⟩, ⟨by omega, by omega⟩, ⟨by omega, by omega⟩, ⟨by omega, by omega⟩, fun c4 => ⟨⟨by omega, by omega⟩, ⟨by omega, by omega⟩, ⟨by omega, by omega⟩, ?_⟩, fun c4 => ?_⟩
  · rw [ea, if_pos ⟨⟨by omega, by omega⟩, by omega, c4⟩] at hP
    show Post (some (od2 ((sp_st (ee n me k g w) n i : Int) + x2).toNat)) _
    rw [(y3.2.2.2.2.2 ((sp_st (ee n me k g w) n i : Int) + x2).toNat (by omega)).2]
    exact hP _ (im_of hS y2 y3)
  · rw [ea, if_neg (fun u => c4 u.2.2)] at hP
    exact hP _ (im_of hS y2 y3)
theorem H2_clear {Z : tl_Z} : ∀ (Post : tw_P) (sg : Sg) (mem : List tw_c), IM sg mem → (∀ mem' : List tw_c, IM (nx_clear sg) mem' → Post none mem') → tw_ct (tl_Y2 Z) twy_mo_clear (Cond.code twy_mo_clear prog_11_method_4_code 1 none :: tw_Wg) 0 [.inr 0] mem Post := by
  intro Post sg mem h hP
  obtain ⟨z1, z2, z3, z4, z5, z6, z7, z8, z9, z10, z11, z12, z13, z14, z15, z16⟩ := Z
  obtain ⟨n, a, me, k, g, w, q⟩ := sg
  obtain ⟨hS, kn, r, L, T, rs, P, la, E, O, I, li, le, oi, c, Q, Mk, b, e, em, bl, co, st, sl, od, rfl, hl, h0⟩ := h
  have hn := hS.1
  refine twc_mo_clear (fun n2 s2 e1 e2 => ?_)
  rw [e1, e2]
  exact hP _ ⟨⟨Nat.zero_le _, hS.2⟩, _, _, _, _, _, _, _, _, _, _, _, _, _, _, _, _, _, _, _, _, _, _, _, _, rfl, hl, fun h => absurd rfl h⟩
theorem H2_drop {Z : tl_Z} : ∀ (Post : tw_P) (sg : Sg) (mem : List tw_c), IM sg mem → (∀ mem' : List tw_c, IM (nx_drop sg) mem' → Post (some (an_drop sg)) mem') → tw_ct (tl_Y2 Z) twy_mo_drop (Cond.code twy_mo_drop prog_11_method_3_code 2 (some .boolean) :: tw_Wg) 0 [.inr 0] mem Post := by
  intro Post sg mem h hP
  obtain ⟨z1, z2, z3, z4, z5, z6, z7, z8, z9, z10, z11, z12, z13, z14, z15, z16⟩ := Z
  obtain ⟨n, a, me, k, g, w, q⟩ := sg
  obtain ⟨hS, kn, r, L, T, rs, P, la, E, O, I, li, le, oi, c, Q, Mk, b, e, em, bl, co, st, sl, od, rfl, hl, h0⟩ := h
  have hn := hS.1
  refine twc_mo_drop (fun _ => ⟨by omega, by omega⟩) (fun z n2 s2 e0 e1 e2 => ?_)
  rw [e0, e1, e2]
  unfold twr_mo_drop twu_mo_drop__mo_size twu_mo_drop__mo_known
  by_cases c0 : n = 0
  · subst c0
    rw [if_pos (by omega), if_pos (by omega)]
    exact hP _ ⟨hS, _, _, _, _, _, _, _, _, _, _, _, _, _, _, _, _, _, _, _, _, _, _, _, _, rfl, hl, fun h => absurd rfl h⟩
  · have ea : an_drop (n, a, me, k, g, w, q) = 1 := if_neg c0
    rw [ea] at hP
    rw [if_neg (by omega), if_neg (by omega), show ((n : Int) - 1) = ((n - 1 : Nat) : Int) by omega]
    exact hP _ ⟨⟨by omega, hS.2⟩, _, _, _, _, _, _, _, _, _, _, _, _, _, _, _, _, _, _, _, _, _, _, _, _, rfl, hl, fun h => absurd rfl h⟩
theorem H2_base {Z : tl_Z} : ∀ (Post : tw_P) (sg : Sg) (mem : List tw_c) (x1 : Int), IM sg mem → tw_rg x1 → (∀ mem' : List tw_c, IM (nx_base sg x1) mem' → Post (some (an_base sg x1)) mem') → tw_ct (tl_Y2 Z) twy_mo_base (Cond.code twy_mo_base prog_11_method_5_code 2 (some .boolean) :: tw_Wg) 0 [.inr 0, .inl x1] mem Post := by
  intro Post sg mem x1 h hr_x1 hP
  obtain ⟨z1, z2, z3, z4, z5, z6, z7, z8, z9, z10, z11, z12, z13, z14, z15, z16⟩ := Z
  obtain ⟨n, a, me, k, g, w, q⟩ := sg
  obtain ⟨hS, kn, r, L, T, rs, P, la, E, O, I, li, le, oi, c, Q, Mk, b, e, em, bl, co, st, sl, od, rfl, hl, h0⟩ := h
  have hn := hS.1
  refine twc_mo_base (fun z n2 s2 e0 e1 e2 => ?_)
  rw [e0, e1, e2]
  unfold twr_mo_base twu_mo_base__mo_base twu_mo_base__mo_known
  by_cases c0 : 0 ≤ x1 ∧ x1 ≤ 2
  · have f1 : ¬ x1 < 0 := by omega
    have f2 : x1 ≤ 2 := c0.2
    have ea : an_base (n, a, me, k, g, w, q) x1 = 1 := if_pos c0
    have en : nx_base (n, a, me, k, g, w, q) x1 = (n, x1, me, k, g, w, q) := if_pos c0
    rw [ea, en] at hP
    rw [if_neg f1, if_neg f1, if_neg f1, if_pos f2, if_pos f2, if_pos f2]
    exact hP _ ⟨⟨hS.1, c0, hS.2.2⟩, _, _, _, _, _, _, _, _, _, _, _, _, _, _, _, _, _, _, _, _, _, _, _, _, rfl, hl, fun h => absurd rfl h⟩
  · have ea : an_base (n, a, me, k, g, w, q) x1 = 0 := if_neg c0
    have en : nx_base (n, a, me, k, g, w, q) x1 = (n, a, me, k, g, w, q) := if_neg c0
    rw [ea, en] at hP
    by_cases f1 : x1 < 0
    · rw [if_pos f1, if_pos f1, if_pos f1]
      exact hP _ ⟨hS, _, _, _, _, _, _, _, _, _, _, _, _, _, _, _, _, _, _, _, _, _, _, _, _, rfl, hl, h0⟩
    · have f2 : ¬ x1 ≤ 2 := by omega
      rw [if_neg f1, if_neg f1, if_neg f1, if_neg f2, if_neg f2, if_neg f2]
      exact hP _ ⟨hS, _, _, _, _, _, _, _, _, _, _, _, _, _, _, _, _, _, _, _, _, _, _, _, _, rfl, hl, h0⟩
theorem H2_measure {Z : tl_Z} : ∀ (Post : tw_P) (sg : Sg) (mem : List tw_c) (x1 : Int), IM sg mem → tw_rg x1 → (∀ mem' : List tw_c, IM (nx_measure sg x1) mem' → Post (some (an_measure sg x1)) mem') → tw_ct (tl_Y2 Z) twy_mo_measure (Cond.code twy_mo_measure prog_11_method_6_code 2 (some .boolean) :: tw_Wg) 0 [.inr 0, .inl x1] mem Post := by
  intro Post sg mem x1 h hr_x1 hP
  obtain ⟨z1, z2, z3, z4, z5, z6, z7, z8, z9, z10, z11, z12, z13, z14, z15, z16⟩ := Z
  obtain ⟨n, a, me, k, g, w, q⟩ := sg
  obtain ⟨hS, kn, r, L, T, rs, P, la, E, O, I, li, le, oi, c, Q, Mk, b, e, em, bl, co, st, sl, od, rfl, hl, h0⟩ := h
  have hn := hS.1
  refine twc_mo_measure (fun z n2 s2 e0 e1 e2 => ?_)
  rw [e0, e1, e2]
  unfold twr_mo_measure twu_mo_measure__mo_measure twu_mo_measure__mo_known
  by_cases c0 : 1 ≤ x1 ∧ x1 ≤ 100
  · have f1 : ¬ x1 < 1 := by omega
    have f2 : x1 ≤ 100 := c0.2
    have ea : an_measure (n, a, me, k, g, w, q) x1 = 1 := if_pos c0
    have en : nx_measure (n, a, me, k, g, w, q) x1 = (n, a, x1, k, g, w, q) := if_pos c0
    rw [ea, en] at hP
    rw [if_neg f1, if_neg f1, if_neg f1, if_pos f2, if_pos f2, if_pos f2]
    exact hP _ ⟨⟨hS.1, hS.2.1, c0, hS.2.2.2⟩, _, _, _, _, _, _, _, _, _, _, _, _, _, _, _, _, _, _, _, _, _, _, _, _, rfl, hl, fun h => absurd rfl h⟩
  · have ea : an_measure (n, a, me, k, g, w, q) x1 = 0 := if_neg c0
    have en : nx_measure (n, a, me, k, g, w, q) x1 = (n, a, me, k, g, w, q) := if_neg c0
    rw [ea, en] at hP
    by_cases f1 : x1 < 1
    · rw [if_pos f1, if_pos f1, if_pos f1]
      exact hP _ ⟨hS, _, _, _, _, _, _, _, _, _, _, _, _, _, _, _, _, _, _, _, _, _, _, _, _, rfl, hl, h0⟩
    · have f2 : ¬ x1 ≤ 100 := by omega
      rw [if_neg f1, if_neg f1, if_neg f1, if_neg f2, if_neg f2, if_neg f2]
      exact hP _ ⟨hS, _, _, _, _, _, _, _, _, _, _, _, _, _, _, _, _, _, _, _, _, _, _, _, _, rfl, hl, h0⟩
theorem H2_add {Z : tl_Z} : ∀ (Post : tw_P) (sg : Sg) (mem : List tw_c) (x1 x2 x3 x4 : Int), IM sg mem → tw_rg x1 → tw_rg x2 → tw_rg x3 → tw_rg x4 → (∀ mem' : List tw_c, IM (nx_add sg x1 x2 x3 x4) mem' → Post (some (an_add sg x1 x2 x3 x4)) mem') → tw_ct (tl_Y2 Z) twy_mo_add (Cond.code twy_mo_add prog_11_method_2_code 5 (some .boolean) :: tw_Wg) 0 [.inr 0, .inl x1, .inl x2, .inl x3, .inl x4] mem Post := by
  intro Post sg mem x1 x2 x3 x4 h hr_x1 hr_x2 hr_x3 hr_x4 hP
  obtain ⟨z1, z2, z3, z4, z5, z6, z7, z8, z9, z10, z11, z12, z13, z14, z15, z16⟩ := Z
  obtain ⟨n, a, me, k, g, w, q⟩ := sg
  obtain ⟨hS, kn, r, L, T, rs, P, la, E, O, I, li, le, oi, c, Q, Mk, b, e, em, bl, co, st, sl, od, rfl, hl, h0⟩ := h
  have hn := hS.1
  refine twc_mo_add (fun hne _ _ _ _ _ _ _ _ => ⟨⟨by omega, by omega⟩, ⟨by omega, by omega⟩, fun _ => ⟨⟨by omega, by omega⟩, fun _ => ⟨⟨by omega, by omega⟩, ⟨by omega, by omega⟩⟩, fun _ => ⟨⟨by omega, by omega⟩, ⟨by omega, by omega⟩⟩⟩, fun _ => ⟨⟨by omega, by omega⟩, fun _ => ⟨⟨by omega, by omega⟩, ⟨by omega, by omega⟩⟩, fun _ => ⟨⟨by omega, by omega⟩, ⟨by omega, by omega⟩⟩⟩⟩) (fun z n2 k2 g2 w2 q2 s2 e0 e1 e2 e3 e4 e5 e6 => ?_)
  rw [e0, e1, e2, e3, e4, e5, e6]
  unfold twr_mo_add twu_mo_add__mo_kind twu_mo_add__mo_group twu_mo_add__mo_width twu_mo_add__mo_pair twu_mo_add__mo_size twu_mo_add__mo_known
  by_cases c0 : okA n x1 x2 x3 x4
  · have f0 : ¬ (n : Int) = 64 := by have := c0.2.2.2.2; omega
    have f1 : ¬ x1 < 0 := by omega
    have f2 : ¬ 20 < x1 := by omega
    have f3 : ¬ x2 < 0 := by omega
    have f4 : ¬ 6 < x2 := by omega
    have f5 : ¬ x3 < 0 := by omega
    have f6 : ¬ 3 < x3 := by omega
    have f7 : ¬ x4 < -3 := by omega
    have f8 : x4 ≤ 3 := by omega
    have ea : an_add (n, a, me, k, g, w, q) x1 x2 x3 x4 = 1 := if_pos c0
    have en : nx_add (n, a, me, k, g, w, q) x1 x2 x3 x4 = (n + 1, a, me, tw_up k n x1, tw_up g n x2, tw_up w n (if x1 < 12 then x3 else 0), tw_up q n (if x1 = 11 then x4 else 0)) := if_pos c0
    rw [ea, en] at hP
    simp only [if_neg f0, if_neg f1, if_neg f2, if_neg f3, if_neg f4, if_neg f5, if_neg f6, if_neg f7, if_pos f8, tn, up_if]
    exact hP _ ⟨SR_add hS c0, _, _, _, _, _, _, _, _, _, _, _, _, _, _, _, _, _, _, _, _, _, _, _, _, rfl, hl, fun h => absurd rfl h⟩
  · have ea : an_add (n, a, me, k, g, w, q) x1 x2 x3 x4 = 0 := if_neg c0
    have en : nx_add (n, a, me, k, g, w, q) x1 x2 x3 x4 = (n, a, me, k, g, w, q) := if_neg c0
    rw [ea, en] at hP
    by_cases f0 : (n : Int) = 64
    · simp only [if_pos f0]
      exact hP _ ⟨hS, _, _, _, _, _, _, _, _, _, _, _, _, _, _, _, _, _, _, _, _, _, _, _, _, rfl, hl, h0⟩
    by_cases f1 : x1 < 0
    · simp only [if_neg f0, if_pos f1]
      exact hP _ ⟨hS, _, _, _, _, _, _, _, _, _, _, _, _, _, _, _, _, _, _, _, _, _, _, _, _, rfl, hl, h0⟩
    by_cases f2 : 20 < x1
    · simp only [if_neg f0, if_neg f1, if_pos f2]
      exact hP _ ⟨hS, _, _, _, _, _, _, _, _, _, _, _, _, _, _, _, _, _, _, _, _, _, _, _, _, rfl, hl, h0⟩
    by_cases f3 : x2 < 0
    · simp only [if_neg f0, if_neg f1, if_neg f2, if_pos f3]
      exact hP _ ⟨hS, _, _, _, _, _, _, _, _, _, _, _, _, _, _, _, _, _, _, _, _, _, _, _, _, rfl, hl, h0⟩
    by_cases f4 : 6 < x2
    · simp only [if_neg f0, if_neg f1, if_neg f2, if_neg f3, if_pos f4]
      exact hP _ ⟨hS, _, _, _, _, _, _, _, _, _, _, _, _, _, _, _, _, _, _, _, _, _, _, _, _, rfl, hl, h0⟩
    by_cases f5 : x3 < 0
    · simp only [if_neg f0, if_neg f1, if_neg f2, if_neg f3, if_neg f4, if_pos f5]
      exact hP _ ⟨hS, _, _, _, _, _, _, _, _, _, _, _, _, _, _, _, _, _, _, _, _, _, _, _, _, rfl, hl, h0⟩
    by_cases f6 : 3 < x3
    · simp only [if_neg f0, if_neg f1, if_neg f2, if_neg f3, if_neg f4, if_neg f5, if_pos f6]
      exact hP _ ⟨hS, _, _, _, _, _, _, _, _, _, _, _, _, _, _, _, _, _, _, _, _, _, _, _, _, rfl, hl, h0⟩
    by_cases f7 : x4 < -3
    · simp only [if_neg f0, if_neg f1, if_neg f2, if_neg f3, if_neg f4, if_neg f5, if_neg f6, if_pos f7]
      exact hP _ ⟨hS, _, _, _, _, _, _, _, _, _, _, _, _, _, _, _, _, _, _, _, _, _, _, _, _, rfl, hl, h0⟩
    have f8 : ¬ x4 ≤ 3 := fun y => c0 ⟨⟨by omega, by omega⟩, ⟨by omega, by omega⟩, ⟨by omega, by omega⟩, ⟨by omega, y⟩, by omega⟩
    simp only [if_neg f0, if_neg f1, if_neg f2, if_neg f3, if_neg f4, if_neg f5, if_neg f6, if_neg f7, if_neg f8]
    exact hP _ ⟨hS, _, _, _, _, _, _, _, _, _, _, _, _, _, _, _, _, _, _, _, _, _, _, _, _, rfl, hl, h0⟩
