/-! pure: the calls of the first side against the spec -/
abbrev Sg := Nat × Int × Int × (Nat → Int) × (Nat → Int) × (Nat → Int) × (Nat → Int)
def IC : Sg → List tw_c → Prop
  | (n, a, me, k, g, w, q), mem => SR n a me k g w q ∧ ∃ (M : Nat → Int) (W : Nat → Int) (lt : Nat → Int) (lp : Nat → Int) (rs : Nat → Int) (r : Int) (L : Nat → Int) (T : Nat → Int) (E : Nat → Int) (O : Nat → Int) (I : Nat → Int) (la : Int) (li : Int) (le : Int) (oi : Int) (P : Nat → Int) (Ty : Nat → Int) (Mk : Nat → Int) (c : Int) (em : Int) (b : Int) (e : Int) (bp : Nat → Int) (bl : Nat → Int) (fb : Nat → Int) (st : Nat → Int) (ex : Nat → Int) (co : Int) (fr : Nat → Int) (sl : Nat → Int) (od : Nat → Int) (sta : Int), mem = tw_mC k g w q n a M W lt lp rs r L T E O I la li le oi P Ty Mk c em b e bp bl fb st ex co fr sl od me sta ∧ (sta = 0 → CR n a me k g w q M lt lp rs r fb st ex co sl od)
abbrev okA (n : Nat) (v1 v2 v3 v4 : Int) : Prop := (0 ≤ v1 ∧ v1 ≤ 20) ∧ (0 ≤ v2 ∧ v2 ≤ 6) ∧ (0 ≤ v3 ∧ v3 ≤ 3) ∧ (-3 ≤ v4 ∧ v4 ≤ 3) ∧ n < 64
def an_add : Sg → Int → Int → Int → Int → Int
  | (n, a, me, k, g, w, q), v1, v2, v3, v4 => if okA n v1 v2 v3 v4 then 1 else 0
def nx_add : Sg → Int → Int → Int → Int → Sg
  | (n, a, me, k, g, w, q), v1, v2, v3, v4 => if okA n v1 v2 v3 v4 then (n + 1, a, me, tw_up k n v1, tw_up g n v2, tw_up w n (if v1 < 12 then v3 else 0), tw_up q n (if v1 = 11 then v4 else 0)) else (n, a, me, k, g, w, q)
def an_drop : Sg → Int
  | (n, a, me, k, g, w, q) => if n = 0 then 0 else 1
def nx_drop : Sg → Sg
  | (n, a, me, k, g, w, q) => (n - 1, a, me, k, g, w, q)
def an_clear : Sg → Int
  | (n, a, me, k, g, w, q) => 0
def nx_clear : Sg → Sg
  | (n, a, me, k, g, w, q) => (0, a, me, k, g, w, q)
def an_base : Sg → Int → Int
  | (n, a, me, k, g, w, q), x => if 0 ≤ x ∧ x ≤ 2 then 1 else 0
def nx_base : Sg → Int → Sg
  | (n, a, me, k, g, w, q), x => if 0 ≤ x ∧ x ≤ 2 then (n, x, me, k, g, w, q) else (n, a, me, k, g, w, q)
def an_measure : Sg → Int → Int
  | (n, a, me, k, g, w, q), x => if 1 ≤ x ∧ x ≤ 100 then 1 else 0
def nx_measure : Sg → Int → Sg
  | (n, a, me, k, g, w, q), x => if 1 ≤ x ∧ x ≤ 100 then (n, a, x, k, g, w, q) else (n, a, me, k, g, w, q)
def an_length : Sg → Int
  | (n, a, me, k, g, w, q) => (n : Int)
def an_paragraphLevel : Sg → Int
  | (n, a, me, k, g, w, q) => rut k n a
def an_match : Sg → Int → Int
  | (n, a, me, k, g, w, q), x => if 0 ≤ x ∧ x < (n : Int) then mt k n x.toNat else -1
def an_partner : Sg → Int → Int
  | (n, a, me, k, g, w, q), x => if 0 ≤ x ∧ x < (n : Int) then pf k q n (rut k n a) x.toNat else -1
def an_type : Sg → Int → Int
  | (n, a, me, k, g, w, q), x => if 0 ≤ x ∧ x < (n : Int) then tf k q n (rut k n a) x.toNat else -1
def an_level : Sg → Int → Int
  | (n, a, me, k, g, w, q), x => if 0 ≤ x ∧ x < (n : Int) then rz k q n (rut k n a) (x.toNat + 1) else -1
def an_mayBreak : Sg → Int → Int
  | (n, a, me, k, g, w, q), x => if 0 ≤ x ∧ x < (n : Int) then sp_br k (sp_gr k g) x.toNat else 0
def an_shownLevel : Sg → Int → Int
  | (n, a, me, k, g, w, q), x => if 0 ≤ x ∧ x < (n : Int) then shl k (rr n a k q) (rut k n a) (ee n me k g w) n x.toNat else -1
def an_mirrored : Sg → Int → Int
  | (n, a, me, k, g, w, q), x => if 0 ≤ x ∧ x < (n : Int) then (if q x.toNat = 0 then 0 else shl k (rr n a k q) (rut k n a) (ee n me k g w) n x.toNat % 2) else 0
def an_lines : Sg → Int
  | (n, a, me, k, g, w, q) => (Ln (ee n me k g w) n : Int)
def an_start : Sg → Int → Int
  | (n, a, me, k, g, w, q), x => if 0 ≤ x ∧ x ≤ (Ln (ee n me k g w) n : Int) then (sp_st (ee n me k g w) n x.toNat : Int) else -1
def an_extent : Sg → Int → Int
  | (n, a, me, k, g, w, q), x => if 0 ≤ x ∧ x < (Ln (ee n me k g w) n : Int) then sp_ex w (sp_gr k g) (sp_st (ee n me k g w) n x.toNat) (sp_st (ee n me k g w) n (x.toNat + 1) - sp_st (ee n me k g w) n x.toNat) else -1
def an_shown : Sg → Int → Int → Int
  | (n, a, me, k, g, w, q), x, y => if (0 ≤ x ∧ x < (Ln (ee n me k g w) n : Int)) ∧ 0 ≤ y ∧ y < (sp_st (ee n me k g w) n (x.toNat + 1) : Int) - (sp_st (ee n me k g w) n x.toNat : Int) then sho k (rr n a k q) (rut k n a) (ee n me k g w) n ((sp_st (ee n me k g w) n x.toNat : Int) + y).toNat else -1
abbrev nx_length (s : Sg) : Sg := s
abbrev nx_paragraphLevel (s : Sg) : Sg := s
abbrev nx_lines (s : Sg) : Sg := s
abbrev nx_match (s : Sg) (_ : Int) : Sg := s
abbrev nx_partner (s : Sg) (_ : Int) : Sg := s
abbrev nx_type (s : Sg) (_ : Int) : Sg := s
abbrev nx_level (s : Sg) (_ : Int) : Sg := s
abbrev nx_mayBreak (s : Sg) (_ : Int) : Sg := s
abbrev nx_start (s : Sg) (_ : Int) : Sg := s
abbrev nx_extent (s : Sg) (_ : Int) : Sg := s
abbrev nx_shownLevel (s : Sg) (_ : Int) : Sg := s
abbrev nx_mirrored (s : Sg) (_ : Int) : Sg := s
abbrev nx_shown (s : Sg) (_ _ : Int) : Sg := s
theorem win_n {x a b : Int} (h : twr_tl_within x a b = 0) : ¬ (a ≤ x ∧ x ≤ b) := by
  unfold twr_tl_within at h
  by_cases c : x < a
  · omega
  · rw [if_neg c] at h
    by_cases d : b < x
    · omega
    · rw [if_neg d] at h
      omega
theorem win_y {x a b : Int} (h : ¬ twr_tl_within x a b = 0) : a ≤ x ∧ x ≤ b := by
  unfold twr_tl_within at h
  by_cases c : x < a
  · rw [if_pos c] at h; omega
  · rw [if_neg c] at h
    by_cases d : b < x
    · rw [if_pos d] at h; omega
    · omega
theorem win_iff (x a b : Int) : twr_tl_within x a b = 0 ↔ ¬ (a ≤ x ∧ x ≤ b) := ⟨win_n, fun h => Classical.byContradiction (fun g => h (win_y g))⟩
theorem has_n {x : Int} {n : Nat} (h : twr_pa_has x n = 0) : ¬ (0 ≤ x ∧ x < (n : Int)) := by
  unfold twr_pa_has at h
  by_cases c : x < 0
  · omega
  · rw [if_neg c] at h
    by_cases d : (n : Int) ≤ x
    · omega
    · rw [if_neg d] at h
      omega
theorem has_y {x : Int} {n : Nat} (h : ¬ twr_pa_has x n = 0) : ∃ i : Nat, x = i ∧ i < n := by
  unfold twr_pa_has at h
  by_cases c : x < 0
  · rw [if_pos c] at h; omega
  · rw [if_neg c] at h
    by_cases d : (n : Int) ≤ x
    · rw [if_pos d] at h; omega
    · exact ⟨x.toNat, by omega, by omega⟩
theorem Ln_b {n : Nat} {me : Int} {k g w : Nat → Int} (hn : n ≤ 64) : Ln (ee n me k g w) n ≤ 64 := by
  have h := Ln_ok (e := ee n me k g w) (n := n) e_b
  by_cases z : Ln (ee n me k g w) n = 0
  · omega
  · have h1 := h.1 (Ln (ee n me k g w) n - 1) (by omega)
    have h2 := (st_b (e := ee n me k g w) (n := n) e_b (Ln (ee n me k g w) n - 1)).2
    omega
theorem ic_of {n : Nat} {a me : Int} {k g w q : Nat → Int} (hS : SR n a me k g w q) {M : Nat → Int} {W : Nat → Int} {lt : Nat → Int} {lp : Nat → Int} {rs : Nat → Int} {r : Int} {L : Nat → Int} {T : Nat → Int} {E : Nat → Int} {O : Nat → Int} {I : Nat → Int} {la : Int} {li : Int} {le : Int} {oi : Int} {P : Nat → Int} {Ty : Nat → Int} {Mk : Nat → Int} {c : Int} {em : Int} {b : Int} {e : Int} {bp : Nat → Int} {bl : Nat → Int} {fb : Nat → Int} {st : Nat → Int} {ex : Nat → Int} {co : Int} {fr : Nat → Int} {sl : Nat → Int} {od : Nat → Int} (hC : CR n a me k g w q M lt lp rs r fb st ex co sl od) : IC (n, a, me, k, g, w, q) (tw_mC k g w q n a M W lt lp rs r L T E O I la li le oi P Ty Mk c em b e bp bl fb st ex co fr sl od me 0) :=
  ⟨hS, M, W, lt, lp, rs, r, L, T, E, O, I, la, li, le, oi, P, Ty, Mk, c, em, b, e, bp, bl, fb, st, ex, co, fr, sl, od, 0, rfl, fun _ => hC⟩
theorem H1_length {Z : tl_Z} : ∀ (Post : tw_P) (sg : Sg) (mem : List tw_c), IC sg mem → (∀ mem' : List tw_c, IC (nx_length sg) mem' → Post (some (an_length sg)) mem') → tw_ct (tl_Y1 Z) twy_tl_length (Cond.code twy_tl_length prog_1_method_7_code 1 (some .int) :: tw_Wg) 0 [.inr 0] mem Post := by
  intro Post sg mem h hP
  obtain ⟨z1, z2, z3, z4, z5, z6, z7, z8, z9, z10, z11, z12, z13, z14, z15, z16⟩ := Z
  obtain ⟨n, a, me, k, g, w, q⟩ := sg
  obtain ⟨hS, M, W, lt, lp, rs, r, L, T, E, O, I, la, li, le, oi, P, Ty, Mk, c, em, b, e, bp, bl, fb, st, ex, co, fr, sl, od, sta, rfl, h0⟩ := h
  refine twc_tl_length (fun z hz => ?_)
  rw [hz]
  exact hP _ ⟨hS, _, _, _, _, _, _, _, _, _, _, _, _, _, _, _, _, _, _, _, _, _, _, _, _, _, _, _, _, _, _, _, _, rfl, h0⟩
theorem H1_match {Z : tl_Z} : ∀ (Post : tw_P) (sg : Sg) (mem : List tw_c) (x1 : Int), IC sg mem → tw_rg x1 → (∀ mem' : List tw_c, IC (nx_match sg x1) mem' → Post (some (an_match sg x1)) mem') → tw_ct (tl_Y1 Z) twy_tl_match (Cond.code twy_tl_match prog_1_method_9_code 2 (some .int) :: tw_Wg) 6 [.inr 0, .inl x1] mem Post := by
  intro Post sg mem x1 h hr_x1 hP
  obtain ⟨z1, z2, z3, z4, z5, z6, z7, z8, z9, z10, z11, z12, z13, z14, z15, z16⟩ := Z
  obtain ⟨n, a, me, k, g, w, q⟩ := sg
  obtain ⟨hS, M, W, lt, lp, rs, r, L, T, E, O, I, la, li, le, oi, P, Ty, Mk, c, em, b, e, bp, bl, fb, st, ex, co, fr, sl, od, sta, rfl, h0⟩ := h
  refine twc_tl_match (K := fun z M2 W2 lt2 lp2 rs2 r2 L2 T2 E2 O2 I2 la2 li2 le2 oi2 P2 Ty2 Mk2 c2 em2 b2 e2 bp2 bl2 fb2 st2 ex2 co2 fr2 sl2 od2 sta2 => Post (some z) (tw_mC k g w q n a M2 W2 lt2 lp2 rs2 r2 L2 T2 E2 O2 I2 la2 li2 le2 oi2 P2 Ty2 Mk2 c2 em2 b2 e2 bp2 bl2 fb2 st2 ex2 co2 fr2 sl2 od2 me sta2)) ⟨fun z => ?_, fun z => ?_⟩ (fun _ _ _ _ _ _ _ _ _ _ _ _ _ _ _ _ _ _ _ _ _ _ _ _ _ _ _ _ _ _ _ _ _ h => h)
  · have e : an_match (n, a, me, k, g, w, q) x1 = -1 := if_neg (has_n z)
    rw [e] at hP
    exact hP _ ⟨hS, _, _, _, _, _, _, _, _, _, _, _, _, _, _, _, _, _, _, _, _, _, _, _, _, _, _, _, _, _, _, _, _, rfl, h0⟩
  · obtain ⟨i, hi1, hi⟩ := has_y z
    subst hi1
    have e : an_match (n, a, me, k, g, w, q) (i : Int) = mt k n i := if_pos ⟨by omega, by omega⟩
    rw [e] at hP
    have hn := hS.1
    refine q_lay hS h0 (fun M2 W2 lt2 lp2 rs2 r2 L2 T2 E2 O2 I2 la2 li2 le2 oi2 P2 Ty2 Mk2 c2 em2 b2 e2 bp2 bl2 fb2 st2 ex2 co2 fr2 sl2 od2 hC => ⟨⟨by omega, by omega⟩, ?_⟩)
    show Post (some (M2 i)) _
    rw [hC.2.1 i hi]
    exact hP _ (ic_of hS hC)
theorem H1_partner {Z : tl_Z} : ∀ (Post : tw_P) (sg : Sg) (mem : List tw_c) (x1 : Int), IC sg mem → tw_rg x1 → (∀ mem' : List tw_c, IC (nx_partner sg x1) mem' → Post (some (an_partner sg x1)) mem') → tw_ct (tl_Y1 Z) twy_tl_partner (Cond.code twy_tl_partner prog_1_method_10_code 2 (some .int) :: tw_Wg) 6 [.inr 0, .inl x1] mem Post := by
  intro Post sg mem x1 h hr_x1 hP
  obtain ⟨z1, z2, z3, z4, z5, z6, z7, z8, z9, z10, z11, z12, z13, z14, z15, z16⟩ := Z
  obtain ⟨n, a, me, k, g, w, q⟩ := sg
  obtain ⟨hS, M, W, lt, lp, rs, r, L, T, E, O, I, la, li, le, oi, P, Ty, Mk, c, em, b, e, bp, bl, fb, st, ex, co, fr, sl, od, sta, rfl, h0⟩ := h
  refine twc_tl_partner (K := fun z M2 W2 lt2 lp2 rs2 r2 L2 T2 E2 O2 I2 la2 li2 le2 oi2 P2 Ty2 Mk2 c2 em2 b2 e2 bp2 bl2 fb2 st2 ex2 co2 fr2 sl2 od2 sta2 => Post (some z) (tw_mC k g w q n a M2 W2 lt2 lp2 rs2 r2 L2 T2 E2 O2 I2 la2 li2 le2 oi2 P2 Ty2 Mk2 c2 em2 b2 e2 bp2 bl2 fb2 st2 ex2 co2 fr2 sl2 od2 me sta2)) ⟨fun z => ?_, fun z => ?_⟩ (fun _ _ _ _ _ _ _ _ _ _ _ _ _ _ _ _ _ _ _ _ _ _ _ _ _ _ _ _ _ _ _ _ _ h => h)
  · have e : an_partner (n, a, me, k, g, w, q) x1 = -1 := if_neg (has_n z)
    rw [e] at hP
    exact hP _ ⟨hS, _, _, _, _, _, _, _, _, _, _, _, _, _, _, _, _, _, _, _, _, _, _, _, _, _, _, _, _, _, _, _, _, rfl, h0⟩
  · obtain ⟨i, hi1, hi⟩ := has_y z
    subst hi1
    have e : an_partner (n, a, me, k, g, w, q) (i : Int) = pf k q n (rut k n a) i := if_pos ⟨by omega, by omega⟩
    rw [e] at hP
    have hn := hS.1
    refine q_lay hS h0 (fun M2 W2 lt2 lp2 rs2 r2 L2 T2 E2 O2 I2 la2 li2 le2 oi2 P2 Ty2 Mk2 c2 em2 b2 e2 bp2 bl2 fb2 st2 ex2 co2 fr2 sl2 od2 hC => ⟨⟨by omega, by omega⟩, ?_⟩)
    show Post (some (lp2 i)) _
    rw [(hC.1.2.1 i hi).2]
    exact hP _ (ic_of hS hC)
theorem H1_type {Z : tl_Z} : ∀ (Post : tw_P) (sg : Sg) (mem : List tw_c) (x1 : Int), IC sg mem → tw_rg x1 → (∀ mem' : List tw_c, IC (nx_type sg x1) mem' → Post (some (an_type sg x1)) mem') → tw_ct (tl_Y1 Z) twy_tl_type (Cond.code twy_tl_type prog_1_method_11_code 2 (some .int) :: tw_Wg) 6 [.inr 0, .inl x1] mem Post := by
  intro Post sg mem x1 h hr_x1 hP
  obtain ⟨z1, z2, z3, z4, z5, z6, z7, z8, z9, z10, z11, z12, z13, z14, z15, z16⟩ := Z
  obtain ⟨n, a, me, k, g, w, q⟩ := sg
  obtain ⟨hS, M, W, lt, lp, rs, r, L, T, E, O, I, la, li, le, oi, P, Ty, Mk, c, em, b, e, bp, bl, fb, st, ex, co, fr, sl, od, sta, rfl, h0⟩ := h
  refine twc_tl_type (K := fun z M2 W2 lt2 lp2 rs2 r2 L2 T2 E2 O2 I2 la2 li2 le2 oi2 P2 Ty2 Mk2 c2 em2 b2 e2 bp2 bl2 fb2 st2 ex2 co2 fr2 sl2 od2 sta2 => Post (some z) (tw_mC k g w q n a M2 W2 lt2 lp2 rs2 r2 L2 T2 E2 O2 I2 la2 li2 le2 oi2 P2 Ty2 Mk2 c2 em2 b2 e2 bp2 bl2 fb2 st2 ex2 co2 fr2 sl2 od2 me sta2)) ⟨fun z => ?_, fun z => ?_⟩ (fun _ _ _ _ _ _ _ _ _ _ _ _ _ _ _ _ _ _ _ _ _ _ _ _ _ _ _ _ _ _ _ _ _ h => h)
  · have e : an_type (n, a, me, k, g, w, q) x1 = -1 := if_neg (has_n z)
    rw [e] at hP
    exact hP _ ⟨hS, _, _, _, _, _, _, _, _, _, _, _, _, _, _, _, _, _, _, _, _, _, _, _, _, _, _, _, _, _, _, _, _, rfl, h0⟩
  · obtain ⟨i, hi1, hi⟩ := has_y z
    subst hi1
    have e : an_type (n, a, me, k, g, w, q) (i : Int) = tf k q n (rut k n a) i := if_pos ⟨by omega, by omega⟩
    rw [e] at hP
    have hn := hS.1
    refine q_lay hS h0 (fun M2 W2 lt2 lp2 rs2 r2 L2 T2 E2 O2 I2 la2 li2 le2 oi2 P2 Ty2 Mk2 c2 em2 b2 e2 bp2 bl2 fb2 st2 ex2 co2 fr2 sl2 od2 hC => ⟨⟨by omega, by omega⟩, ?_⟩)
    show Post (some (lt2 i)) _
    rw [(hC.1.2.1 i hi).1]
    exact hP _ (ic_of hS hC)
theorem H1_level {Z : tl_Z} : ∀ (Post : tw_P) (sg : Sg) (mem : List tw_c) (x1 : Int), IC sg mem → tw_rg x1 → (∀ mem' : List tw_c, IC (nx_level sg x1) mem' → Post (some (an_level sg x1)) mem') → tw_ct (tl_Y1 Z) twy_tl_level (Cond.code twy_tl_level prog_1_method_12_code 2 (some .int) :: tw_Wg) 6 [.inr 0, .inl x1] mem Post := by
  intro Post sg mem x1 h hr_x1 hP
  obtain ⟨z1, z2, z3, z4, z5, z6, z7, z8, z9, z10, z11, z12, z13, z14, z15, z16⟩ := Z
  obtain ⟨n, a, me, k, g, w, q⟩ := sg
  obtain ⟨hS, M, W, lt, lp, rs, r, L, T, E, O, I, la, li, le, oi, P, Ty, Mk, c, em, b, e, bp, bl, fb, st, ex, co, fr, sl, od, sta, rfl, h0⟩ := h
  refine twc_tl_level (K := fun z M2 W2 lt2 lp2 rs2 r2 L2 T2 E2 O2 I2 la2 li2 le2 oi2 P2 Ty2 Mk2 c2 em2 b2 e2 bp2 bl2 fb2 st2 ex2 co2 fr2 sl2 od2 sta2 => Post (some z) (tw_mC k g w q n a M2 W2 lt2 lp2 rs2 r2 L2 T2 E2 O2 I2 la2 li2 le2 oi2 P2 Ty2 Mk2 c2 em2 b2 e2 bp2 bl2 fb2 st2 ex2 co2 fr2 sl2 od2 me sta2)) ⟨fun z => ?_, fun z => ?_⟩ (fun _ _ _ _ _ _ _ _ _ _ _ _ _ _ _ _ _ _ _ _ _ _ _ _ _ _ _ _ _ _ _ _ _ h => h)
  · have e : an_level (n, a, me, k, g, w, q) x1 = -1 := if_neg (has_n z)
    rw [e] at hP
    exact hP _ ⟨hS, _, _, _, _, _, _, _, _, _, _, _, _, _, _, _, _, _, _, _, _, _, _, _, _, _, _, _, _, _, _, _, _, rfl, h0⟩
  · obtain ⟨i, hi1, hi⟩ := has_y z
    subst hi1
    have e : an_level (n, a, me, k, g, w, q) (i : Int) = rz k q n (rut k n a) (i + 1) := if_pos ⟨by omega, by omega⟩
    rw [e] at hP
    have hn := hS.1
    refine q_lay hS h0 (fun M2 W2 lt2 lp2 rs2 r2 L2 T2 E2 O2 I2 la2 li2 le2 oi2 P2 Ty2 Mk2 c2 em2 b2 e2 bp2 bl2 fb2 st2 ex2 co2 fr2 sl2 od2 hC => ⟨⟨by omega, by omega⟩, ?_⟩)
    show Post (some (rs2 i)) _
    rw [hC.1.2.2.1 i hi]
    exact hP _ (ic_of hS hC)
theorem H1_mayBreak {Z : tl_Z} : ∀ (Post : tw_P) (sg : Sg) (mem : List tw_c) (x1 : Int), IC sg mem → tw_rg x1 → (∀ mem' : List tw_c, IC (nx_mayBreak sg x1) mem' → Post (some (an_mayBreak sg x1)) mem') → tw_ct (tl_Y1 Z) twy_tl_mayBreak (Cond.code twy_tl_mayBreak prog_1_method_13_code 2 (some .boolean) :: tw_Wg) 6 [.inr 0, .inl x1] mem Post := by
  intro Post sg mem x1 h hr_x1 hP
  obtain ⟨z1, z2, z3, z4, z5, z6, z7, z8, z9, z10, z11, z12, z13, z14, z15, z16⟩ := Z
  obtain ⟨n, a, me, k, g, w, q⟩ := sg
  obtain ⟨hS, M, W, lt, lp, rs, r, L, T, E, O, I, la, li, le, oi, P, Ty, Mk, c, em, b, e, bp, bl, fb, st, ex, co, fr, sl, od, sta, rfl, h0⟩ := h
  refine twc_tl_mayBreak (K := fun z M2 W2 lt2 lp2 rs2 r2 L2 T2 E2 O2 I2 la2 li2 le2 oi2 P2 Ty2 Mk2 c2 em2 b2 e2 bp2 bl2 fb2 st2 ex2 co2 fr2 sl2 od2 sta2 => Post (some z) (tw_mC k g w q n a M2 W2 lt2 lp2 rs2 r2 L2 T2 E2 O2 I2 la2 li2 le2 oi2 P2 Ty2 Mk2 c2 em2 b2 e2 bp2 bl2 fb2 st2 ex2 co2 fr2 sl2 od2 me sta2)) ⟨fun z => ?_, fun z => ?_⟩ (fun _ _ _ _ _ _ _ _ _ _ _ _ _ _ _ _ _ _ _ _ _ _ _ _ _ _ _ _ _ _ _ _ _ h => h)
  · have e : an_mayBreak (n, a, me, k, g, w, q) x1 = 0 := if_neg (has_n z)
    rw [e] at hP
    exact hP _ ⟨hS, _, _, _, _, _, _, _, _, _, _, _, _, _, _, _, _, _, _, _, _, _, _, _, _, _, _, _, _, _, _, _, _, rfl, h0⟩
  · obtain ⟨i, hi1, hi⟩ := has_y z
    subst hi1
    have e : an_mayBreak (n, a, me, k, g, w, q) (i : Int) = sp_br k (sp_gr k g) i := if_pos ⟨by omega, by omega⟩
    rw [e] at hP
    have hn := hS.1
    refine q_lay hS h0 (fun M2 W2 lt2 lp2 rs2 r2 L2 T2 E2 O2 I2 la2 li2 le2 oi2 P2 Ty2 Mk2 c2 em2 b2 e2 bp2 bl2 fb2 st2 ex2 co2 fr2 sl2 od2 hC => ⟨⟨by omega, by omega⟩, (by show 0 ≤ fb2 i ∧ fb2 i ≤ 1; rw [hC.2.2.1 i hi]; have := br01 k (sp_gr k g) i; omega), ?_⟩)
    show Post (some (fb2 i)) _
    rw [hC.2.2.1 i hi]
    exact hP _ (ic_of hS hC)
theorem H1_shownLevel {Z : tl_Z} : ∀ (Post : tw_P) (sg : Sg) (mem : List tw_c) (x1 : Int), IC sg mem → tw_rg x1 → (∀ mem' : List tw_c, IC (nx_shownLevel sg x1) mem' → Post (some (an_shownLevel sg x1)) mem') → tw_ct (tl_Y1 Z) twy_tl_shownLevel (Cond.code twy_tl_shownLevel prog_1_method_17_code 2 (some .int) :: tw_Wg) 6 [.inr 0, .inl x1] mem Post := by
  intro Post sg mem x1 h hr_x1 hP
  obtain ⟨z1, z2, z3, z4, z5, z6, z7, z8, z9, z10, z11, z12, z13, z14, z15, z16⟩ := Z
  obtain ⟨n, a, me, k, g, w, q⟩ := sg
  obtain ⟨hS, M, W, lt, lp, rs, r, L, T, E, O, I, la, li, le, oi, P, Ty, Mk, c, em, b, e, bp, bl, fb, st, ex, co, fr, sl, od, sta, rfl, h0⟩ := h
  refine twc_tl_shownLevel (K := fun z M2 W2 lt2 lp2 rs2 r2 L2 T2 E2 O2 I2 la2 li2 le2 oi2 P2 Ty2 Mk2 c2 em2 b2 e2 bp2 bl2 fb2 st2 ex2 co2 fr2 sl2 od2 sta2 => Post (some z) (tw_mC k g w q n a M2 W2 lt2 lp2 rs2 r2 L2 T2 E2 O2 I2 la2 li2 le2 oi2 P2 Ty2 Mk2 c2 em2 b2 e2 bp2 bl2 fb2 st2 ex2 co2 fr2 sl2 od2 me sta2)) ⟨fun z => ?_, fun z => ?_⟩ (fun _ _ _ _ _ _ _ _ _ _ _ _ _ _ _ _ _ _ _ _ _ _ _ _ _ _ _ _ _ _ _ _ _ h => h)
  · have e : an_shownLevel (n, a, me, k, g, w, q) x1 = -1 := if_neg (has_n z)
    rw [e] at hP
    exact hP _ ⟨hS, _, _, _, _, _, _, _, _, _, _, _, _, _, _, _, _, _, _, _, _, _, _, _, _, _, _, _, _, _, _, _, _, rfl, h0⟩
  · obtain ⟨i, hi1, hi⟩ := has_y z
    subst hi1
    have e : an_shownLevel (n, a, me, k, g, w, q) (i : Int) = shl k (rr n a k q) (rut k n a) (ee n me k g w) n i := if_pos ⟨by omega, by omega⟩
    rw [e] at hP
    have hn := hS.1
    refine q_lay hS h0 (fun M2 W2 lt2 lp2 rs2 r2 L2 T2 E2 O2 I2 la2 li2 le2 oi2 P2 Ty2 Mk2 c2 em2 b2 e2 bp2 bl2 fb2 st2 ex2 co2 fr2 sl2 od2 hC => ⟨⟨by omega, by omega⟩, ?_⟩)
    show Post (some (sl2 i)) _
    rw [(hC.1.2.2.2.2.2 i hi).1]
    exact hP _ (ic_of hS hC)
theorem H1_paragraphLevel {Z : tl_Z} : ∀ (Post : tw_P) (sg : Sg) (mem : List tw_c), IC sg mem → (∀ mem' : List tw_c, IC (nx_paragraphLevel sg) mem' → Post (some (an_paragraphLevel sg)) mem') → tw_ct (tl_Y1 Z) twy_tl_paragraphLevel (Cond.code twy_tl_paragraphLevel prog_1_method_8_code 1 (some .int) :: tw_Wg) 6 [.inr 0] mem Post := by
  intro Post sg mem h hP
  obtain ⟨z1, z2, z3, z4, z5, z6, z7, z8, z9, z10, z11, z12, z13, z14, z15, z16⟩ := Z
  obtain ⟨n, a, me, k, g, w, q⟩ := sg
  obtain ⟨hS, M, W, lt, lp, rs, r, L, T, E, O, I, la, li, le, oi, P, Ty, Mk, c, em, b, e, bp, bl, fb, st, ex, co, fr, sl, od, sta, rfl, h0⟩ := h
  refine twc_tl_paragraphLevel (K := fun z M2 W2 lt2 lp2 rs2 r2 L2 T2 E2 O2 I2 la2 li2 le2 oi2 P2 Ty2 Mk2 c2 em2 b2 e2 bp2 bl2 fb2 st2 ex2 co2 fr2 sl2 od2 sta2 => Post (some z) (tw_mC k g w q n a M2 W2 lt2 lp2 rs2 r2 L2 T2 E2 O2 I2 la2 li2 le2 oi2 P2 Ty2 Mk2 c2 em2 b2 e2 bp2 bl2 fb2 st2 ex2 co2 fr2 sl2 od2 me sta2)) (q_lay hS h0 (fun M2 W2 lt2 lp2 rs2 r2 L2 T2 E2 O2 I2 la2 li2 le2 oi2 P2 Ty2 Mk2 c2 em2 b2 e2 bp2 bl2 fb2 st2 ex2 co2 fr2 sl2 od2 hC => ?_)) (fun _ _ _ _ _ _ _ _ _ _ _ _ _ _ _ _ _ _ _ _ _ _ _ _ _ _ _ _ _ _ _ _ _ h => h)
  show Post (some r2) _
  have e : r2 = an_paragraphLevel (n, a, me, k, g, w, q) := hC.1.1
  rw [← e] at hP
  exact hP _ (ic_of hS hC)
theorem H1_lines {Z : tl_Z} : ∀ (Post : tw_P) (sg : Sg) (mem : List tw_c), IC sg mem → (∀ mem' : List tw_c, IC (nx_lines sg) mem' → Post (some (an_lines sg)) mem') → tw_ct (tl_Y1 Z) twy_tl_lines (Cond.code twy_tl_lines prog_1_method_14_code 1 (some .int) :: tw_Wg) 6 [.inr 0] mem Post := by
  intro Post sg mem h hP
  obtain ⟨z1, z2, z3, z4, z5, z6, z7, z8, z9, z10, z11, z12, z13, z14, z15, z16⟩ := Z
  obtain ⟨n, a, me, k, g, w, q⟩ := sg
  obtain ⟨hS, M, W, lt, lp, rs, r, L, T, E, O, I, la, li, le, oi, P, Ty, Mk, c, em, b, e, bp, bl, fb, st, ex, co, fr, sl, od, sta, rfl, h0⟩ := h
  refine twc_tl_lines (K := fun z M2 W2 lt2 lp2 rs2 r2 L2 T2 E2 O2 I2 la2 li2 le2 oi2 P2 Ty2 Mk2 c2 em2 b2 e2 bp2 bl2 fb2 st2 ex2 co2 fr2 sl2 od2 sta2 => Post (some z) (tw_mC k g w q n a M2 W2 lt2 lp2 rs2 r2 L2 T2 E2 O2 I2 la2 li2 le2 oi2 P2 Ty2 Mk2 c2 em2 b2 e2 bp2 bl2 fb2 st2 ex2 co2 fr2 sl2 od2 me sta2)) (q_lay hS h0 (fun M2 W2 lt2 lp2 rs2 r2 L2 T2 E2 O2 I2 la2 li2 le2 oi2 P2 Ty2 Mk2 c2 em2 b2 e2 bp2 bl2 fb2 st2 ex2 co2 fr2 sl2 od2 hC => ?_)) (fun _ _ _ _ _ _ _ _ _ _ _ _ _ _ _ _ _ _ _ _ _ _ _ _ _ _ _ _ _ _ _ _ _ h => h)
  show Post (some co2) _
  have e : co2 = an_lines (n, a, me, k, g, w, q) := hC.1.2.2.2.1
  rw [← e] at hP
  exact hP _ (ic_of hS hC)
theorem fh_n {x c : Int} (h : twr_fi_has x c = 0) : ¬ (0 ≤ x ∧ x < c) := by
  unfold twr_fi_has at h
  by_cases d : x < 0
  · omega
  · rw [if_neg d] at h
    by_cases e : c ≤ x
    · omega
    · rw [if_neg e] at h
      omega
theorem fh_y {x c : Int} (h : ¬ twr_fi_has x c = 0) : 0 ≤ x ∧ x < c := by
  unfold twr_fi_has at h
  by_cases d : x < 0
  · rw [if_pos d] at h; omega
  · rw [if_neg d] at h
    by_cases e : c ≤ x
    · rw [if_pos e] at h; omega
    · omega
theorem H1_start {Z : tl_Z} : ∀ (Post : tw_P) (sg : Sg) (mem : List tw_c) (x1 : Int), IC sg mem → tw_rg x1 → (∀ mem' : List tw_c, IC (nx_start sg x1) mem' → Post (some (an_start sg x1)) mem') → tw_ct (tl_Y1 Z) twy_tl_start (Cond.code twy_tl_start prog_1_method_15_code 2 (some .int) :: tw_Wg) 6 [.inr 0, .inl x1] mem Post := by
  intro Post sg mem x1 h hr_x1 hP
  obtain ⟨z1, z2, z3, z4, z5, z6, z7, z8, z9, z10, z11, z12, z13, z14, z15, z16⟩ := Z
  obtain ⟨n, a, me, k, g, w, q⟩ := sg
  obtain ⟨hS, M, W, lt, lp, rs, r, L, T, E, O, I, la, li, le, oi, P, Ty, Mk, c, em, b, e, bp, bl, fb, st, ex, co, fr, sl, od, sta, rfl, h0⟩ := h
  have hn := hS.1
  have hLb := Ln_b (me := me) (k := k) (g := g) (w := w) hn
  refine twc_tl_start (K := fun z M2 W2 lt2 lp2 rs2 r2 L2 T2 E2 O2 I2 la2 li2 le2 oi2 P2 Ty2 Mk2 c2 em2 b2 e2 bp2 bl2 fb2 st2 ex2 co2 fr2 sl2 od2 sta2 => Post (some z) (tw_mC k g w q n a M2 W2 lt2 lp2 rs2 r2 L2 T2 E2 O2 I2 la2 li2 le2 oi2 P2 Ty2 Mk2 c2 em2 b2 e2 bp2 bl2 fb2 st2 ex2 co2 fr2 sl2 od2 me sta2)) (q_lay hS h0 (fun M2 W2 lt2 lp2 rs2 r2 L2 T2 E2 O2 I2 la2 li2 le2 oi2 P2 Ty2 Mk2 c2 em2 b2 e2 bp2 bl2 fb2 st2 ex2 co2 fr2 sl2 od2 hC => (⟨fun z => ?_, fun z => ?_⟩))) (fun _ _ _ _ _ _ _ _ _ _ _ _ _ _ _ _ _ _ _ _ _ _ _ _ _ _ _ _ _ _ _ _ _ h => h)
  · have eco := hC.1.2.2.2.1
    have e : an_start (n, a, me, k, g, w, q) x1 = -1 := if_neg (by rw [← eco]; exact win_n z)
    rw [e] at hP
    exact hP _ (ic_of hS hC)
  · have eco := hC.1.2.2.2.1
    have y := win_y z
    rw [eco] at y
    have e : an_start (n, a, me, k, g, w, q) x1 = (sp_st (ee n me k g w) n x1.toNat : Int) := if_pos y
    rw [e] at hP
    refine ⟨⟨by omega, by omega⟩, ?_⟩
    show Post (some (st2 x1.toNat)) _
    rw [hC.1.2.2.2.2.1 x1.toNat (by omega)]
    exact hP _ (ic_of hS hC)
theorem H1_extent {Z : tl_Z} : ∀ (Post : tw_P) (sg : Sg) (mem : List tw_c) (x1 : Int), IC sg mem → tw_rg x1 → (∀ mem' : List tw_c, IC (nx_extent sg x1) mem' → Post (some (an_extent sg x1)) mem') → tw_ct (tl_Y1 Z) twy_tl_extent (Cond.code twy_tl_extent prog_1_method_16_code 2 (some .int) :: tw_Wg) 6 [.inr 0, .inl x1] mem Post := by
  intro Post sg mem x1 h hr_x1 hP
  obtain ⟨z1, z2, z3, z4, z5, z6, z7, z8, z9, z10, z11, z12, z13, z14, z15, z16⟩ := Z
  obtain ⟨n, a, me, k, g, w, q⟩ := sg
  obtain ⟨hS, M, W, lt, lp, rs, r, L, T, E, O, I, la, li, le, oi, P, Ty, Mk, c, em, b, e, bp, bl, fb, st, ex, co, fr, sl, od, sta, rfl, h0⟩ := h
  have hn := hS.1
  have hLb := Ln_b (me := me) (k := k) (g := g) (w := w) hn
  refine twc_tl_extent (K := fun z M2 W2 lt2 lp2 rs2 r2 L2 T2 E2 O2 I2 la2 li2 le2 oi2 P2 Ty2 Mk2 c2 em2 b2 e2 bp2 bl2 fb2 st2 ex2 co2 fr2 sl2 od2 sta2 => Post (some z) (tw_mC k g w q n a M2 W2 lt2 lp2 rs2 r2 L2 T2 E2 O2 I2 la2 li2 le2 oi2 P2 Ty2 Mk2 c2 em2 b2 e2 bp2 bl2 fb2 st2 ex2 co2 fr2 sl2 od2 me sta2)) (q_lay hS h0 (fun M2 W2 lt2 lp2 rs2 r2 L2 T2 E2 O2 I2 la2 li2 le2 oi2 P2 Ty2 Mk2 c2 em2 b2 e2 bp2 bl2 fb2 st2 ex2 co2 fr2 sl2 od2 hC => (⟨fun z => ?_, fun z => ?_⟩))) (fun _ _ _ _ _ _ _ _ _ _ _ _ _ _ _ _ _ _ _ _ _ _ _ _ _ _ _ _ _ _ _ _ _ h => h)
  · have eco := hC.1.2.2.2.1
    have e : an_extent (n, a, me, k, g, w, q) x1 = -1 := if_neg (by rw [← eco]; exact fh_n z)
    rw [e] at hP
    exact hP _ (ic_of hS hC)
  · have eco := hC.1.2.2.2.1
    have y := fh_y z
    rw [eco] at y
    have e : an_extent (n, a, me, k, g, w, q) x1 = sp_ex w (sp_gr k g) (sp_st (ee n me k g w) n x1.toNat) (sp_st (ee n me k g w) n (x1.toNat + 1) - sp_st (ee n me k g w) n x1.toNat) := if_pos y
    rw [e] at hP
    refine ⟨⟨by omega, by omega⟩, ?_⟩
    show Post (some (ex2 x1.toNat)) _
    rw [hC.2.2.2 x1.toNat (by omega)]
    exact hP _ (ic_of hS hC)
theorem H1_shown {Z : tl_Z} : ∀ (Post : tw_P) (sg : Sg) (mem : List tw_c) (x1 x2 : Int), IC sg mem → tw_rg x1 → tw_rg x2 → (∀ mem' : List tw_c, IC (nx_shown sg x1 x2) mem' → Post (some (an_shown sg x1 x2)) mem') → tw_ct (tl_Y1 Z) twy_tl_shown (Cond.code twy_tl_shown prog_1_method_18_code 5 (some .int) :: tw_Wg) 6 [.inr 0, .inl x1, .inl x2] mem Post := by
  intro Post sg mem x1 x2 h hr_x1 hr_x2 hP
  obtain ⟨z1, z2, z3, z4, z5, z6, z7, z8, z9, z10, z11, z12, z13, z14, z15, z16⟩ := Z
  obtain ⟨n, a, me, k, g, w, q⟩ := sg
  obtain ⟨hS, M, W, lt, lp, rs, r, L, T, E, O, I, la, li, le, oi, P, Ty, Mk, c, em, b, e, bp, bl, fb, st, ex, co, fr, sl, od, sta, rfl, h0⟩ := h
  have hn := hS.1
  have hLb := Ln_b (me := me) (k := k) (g := g) (w := w) hn
  refine twc_tl_shown (K := fun z M2 W2 lt2 lp2 rs2 r2 L2 T2 E2 O2 I2 la2 li2 le2 oi2 P2 Ty2 Mk2 c2 em2 b2 e2 bp2 bl2 fb2 st2 ex2 co2 fr2 sl2 od2 sta2 => Post (some z) (tw_mC k g w q n a M2 W2 lt2 lp2 rs2 r2 L2 T2 E2 O2 I2 la2 li2 le2 oi2 P2 Ty2 Mk2 c2 em2 b2 e2 bp2 bl2 fb2 st2 ex2 co2 fr2 sl2 od2 me sta2)) (q_lay hS h0 (fun M2 W2 lt2 lp2 rs2 r2 L2 T2 E2 O2 I2 la2 li2 le2 oi2 P2 Ty2 Mk2 c2 em2 b2 e2 bp2 bl2 fb2 st2 ex2 co2 fr2 sl2 od2 hC => (⟨fun z => ?_, fun z => ?_⟩))) (fun _ _ _ _ _ _ _ _ _ _ _ _ _ _ _ _ _ _ _ _ _ _ _ _ _ _ _ _ _ _ _ _ _ h => h)
  · have eco := hC.1.2.2.2.1
    have e : an_shown (n, a, me, k, g, w, q) x1 x2 = -1 := if_neg (fun y => fh_n z (by rw [eco]; exact y.1))
    rw [e] at hP
    exact hP _ (ic_of hS hC)
  · have eco := hC.1.2.2.2.1
    have y := fh_y z
    rw [eco] at y
    obtain ⟨i, hi⟩ : ∃ i : Nat, x1 = i := ⟨x1.toNat, by omega⟩
    subst hi
    have hst := hC.1.2.2.2.2.1
    have h1 := hst i (by omega)
    have h2 := hst (i + 1) (by omega)
    have b1 := (st_b (e := ee n me k g w) (n := n) e_b i).1
    have b2 := (st_b (e := ee n me k g w) (n := n) e_b (i + 1)).1
    have ea : an_shown (n, a, me, k, g, w, q) i x2 = if (0 ≤ (i : Int) ∧ (i : Int) < (Ln (ee n me k g w) n : Int)) ∧ 0 ≤ x2 ∧ x2 < (sp_st (ee n me k g w) n (i + 1) : Int) - (sp_st (ee n me k g w) n i : Int) then sho k (rr n a k q) (rut k n a) (ee n me k g w) n ((sp_st (ee n me k g w) n i : Int) + x2).toNat else -1 := rfl
    rw [tn1, tn, h1, h2]
    refine ⟨⟨by omega, by omega⟩, ⟨by omega, by omega⟩, ⟨by omega, by omega⟩, ⟨by omega, by omega⟩, ⟨by omega, by omega⟩, fun t => ?_, fun t => ?_⟩
    · rw [ea, if_neg (fun u => win_n t ⟨u.2.1, by omega⟩)] at hP
      exact hP _ (ic_of hS hC)
    · have u := win_y t
      rw [ea, if_pos ⟨y, u.1, by omega⟩] at hP
      refine ⟨⟨by omega, by omega⟩, ⟨by omega, by omega⟩, ?_⟩
      show Post (some (od2 ((sp_st (ee n me k g w) n i : Int) + x2).toNat)) _
      rw [(hC.1.2.2.2.2.2 ((sp_st (ee n me k g w) n i : Int) + x2).toNat (by omega)).2]
      exact hP _ (ic_of hS hC)
theorem shl_b {n : Nat} {a me : Int} {k g w q : Nat → Int} (hS : SR n a me k g w q) {p : Nat} (hp : p < n) : 0 ≤ shl k (rr n a k q) (rut k n a) (ee n me k g w) n p := by
  have hr := rut_01 (k := k) (n := n) hS.2.1
  have hn := hS.1
  unfold shl sp_sl
  split
  · exact (rz_b (k := k) (prs := q) (n := n) hr (p + 1) (by omega)).1
  · omega
theorem H1_mirrored {Z : tl_Z} : ∀ (Post : tw_P) (sg : Sg) (mem : List tw_c) (x1 : Int), IC sg mem → tw_rg x1 → (∀ mem' : List tw_c, IC (nx_mirrored sg x1) mem' → Post (some (an_mirrored sg x1)) mem') → tw_ct (tl_Y1 Z) twy_tl_mirrored (Cond.code twy_tl_mirrored prog_1_method_19_code 2 (some .boolean) :: tw_Wg) 6 [.inr 0, .inl x1] mem Post := by
  intro Post sg mem x1 h hr_x1 hP
  obtain ⟨z1, z2, z3, z4, z5, z6, z7, z8, z9, z10, z11, z12, z13, z14, z15, z16⟩ := Z
  obtain ⟨n, a, me, k, g, w, q⟩ := sg
  obtain ⟨hS, M, W, lt, lp, rs, r, L, T, E, O, I, la, li, le, oi, P, Ty, Mk, c, em, b, e, bp, bl, fb, st, ex, co, fr, sl, od, sta, rfl, h0⟩ := h
  refine twc_tl_mirrored (K := fun z M2 W2 lt2 lp2 rs2 r2 L2 T2 E2 O2 I2 la2 li2 le2 oi2 P2 Ty2 Mk2 c2 em2 b2 e2 bp2 bl2 fb2 st2 ex2 co2 fr2 sl2 od2 sta2 => Post (some z) (tw_mC k g w q n a M2 W2 lt2 lp2 rs2 r2 L2 T2 E2 O2 I2 la2 li2 le2 oi2 P2 Ty2 Mk2 c2 em2 b2 e2 bp2 bl2 fb2 st2 ex2 co2 fr2 sl2 od2 me sta2)) ⟨fun z => ?_, fun z => ?_⟩ (fun _ _ _ _ _ _ _ _ _ _ _ _ _ _ _ _ _ _ _ _ _ _ _ _ _ _ _ _ _ _ _ _ _ h => h)
  · have e : an_mirrored (n, a, me, k, g, w, q) x1 = 0 := if_neg (has_n z)
    rw [e] at hP
    exact hP _ ⟨hS, _, _, _, _, _, _, _, _, _, _, _, _, _, _, _, _, _, _, _, _, _, _, _, _, _, _, _, _, _, _, _, _, rfl, h0⟩
  · obtain ⟨i, hi1, hi⟩ := has_y z
    subst hi1
    have ea : an_mirrored (n, a, me, k, g, w, q) (i : Int) = if q i = 0 then 0 else shl k (rr n a k q) (rut k n a) (ee n me k g w) n i % 2 := if_pos ⟨by omega, by omega⟩
    rw [ea] at hP
    have hn := hS.1
    have hb := shl_b (me := me) (g := g) (w := w) hS hi
    refine q_lay hS h0 (fun M2 W2 lt2 lp2 rs2 r2 L2 T2 E2 O2 I2 la2 li2 le2 oi2 P2 Ty2 Mk2 c2 em2 b2 e2 bp2 bl2 fb2 st2 ex2 co2 fr2 sl2 od2 hC => ⟨⟨by omega, by omega⟩, fun J hJ => ?_⟩)
    have es := (hC.1.2.2.2.2.2 i hi).1
    rw [tn]
    refine ⟨fun c0 => hJ _ _ _ _ _ _ _ _ _ _ _ _ _ _ _ _ _ _ _ _ _ _ _ _ _ _ _ _ _ _ _ _ ?_, fun c0 => ⟨⟨by omega, by omega⟩, (by show (0 : Int) ≤ _; rw [es]; exact hb), fun c1 => hJ _ _ _ _ _ _ _ _ _ _ _ _ _ _ _ _ _ _ _ _ _ _ _ _ _ _ _ _ _ _ _ _ ?_, fun c1 => ?_⟩⟩
    · rw [if_pos c0] at hP
      exact hP _ (ic_of hS hC)
    · rw [odd_e, es] at c1
      rw [if_neg c0, c1] at hP
      exact hP _ (ic_of hS hC)
    · rw [odd_e, es] at c1
      rw [if_neg c0, show shl k (rr n a k q) (rut k n a) (ee n me k g w) n i % 2 = 1 by omega] at hP
      exact hP _ (ic_of hS hC)
theorem H1_clear {Z : tl_Z} : ∀ (Post : tw_P) (sg : Sg) (mem : List tw_c), IC sg mem → (∀ mem' : List tw_c, IC (nx_clear sg) mem' → Post none mem') → tw_ct (tl_Y1 Z) twy_tl_clear (Cond.code twy_tl_clear prog_1_method_4_code 1 none :: tw_Wg) 0 [.inr 0] mem Post := by
  intro Post sg mem h hP
  obtain ⟨z1, z2, z3, z4, z5, z6, z7, z8, z9, z10, z11, z12, z13, z14, z15, z16⟩ := Z
  obtain ⟨n, a, me, k, g, w, q⟩ := sg
  obtain ⟨hS, M, W, lt, lp, rs, r, L, T, E, O, I, la, li, le, oi, P, Ty, Mk, c, em, b, e, bp, bl, fb, st, ex, co, fr, sl, od, sta, rfl, h0⟩ := h
  refine twc_tl_clear (fun n2 s2 e1 e2 => ?_)
  rw [e1, e2]
  exact hP _ ⟨⟨Nat.zero_le _, hS.2⟩, _, _, _, _, _, _, _, _, _, _, _, _, _, _, _, _, _, _, _, _, _, _, _, _, _, _, _, _, _, _, _, _, rfl, fun h => absurd (show (1 : Int) = 0 from h) (by decide)⟩
theorem H1_drop {Z : tl_Z} : ∀ (Post : tw_P) (sg : Sg) (mem : List tw_c), IC sg mem → (∀ mem' : List tw_c, IC (nx_drop sg) mem' → Post (some (an_drop sg)) mem') → tw_ct (tl_Y1 Z) twy_tl_drop (Cond.code twy_tl_drop prog_1_method_3_code 1 (some .boolean) :: tw_Wg) 0 [.inr 0] mem Post := by
  intro Post sg mem h hP
  obtain ⟨z1, z2, z3, z4, z5, z6, z7, z8, z9, z10, z11, z12, z13, z14, z15, z16⟩ := Z
  obtain ⟨n, a, me, k, g, w, q⟩ := sg
  obtain ⟨hS, M, W, lt, lp, rs, r, L, T, E, O, I, la, li, le, oi, P, Ty, Mk, c, em, b, e, bp, bl, fb, st, ex, co, fr, sl, od, sta, rfl, h0⟩ := h
  have hn := hS.1
  refine twc_tl_drop (fun _ => ⟨by omega, by omega⟩) (fun z n2 s2 e0 e1 e2 => ?_)
  rw [e0, e1, e2]
  unfold twr_tl_drop twu_tl_drop__pa_size twu_tl_drop__tl_stale
  by_cases c0 : n = 0
  · subst c0
    rw [if_pos (by omega), if_pos (by omega), if_pos (by omega)]
    exact hP _ ⟨hS, _, _, _, _, _, _, _, _, _, _, _, _, _, _, _, _, _, _, _, _, _, _, _, _, _, _, _, _, _, _, _, _, rfl, h0⟩
  · have ea : an_drop (n, a, me, k, g, w, q) = 1 := if_neg c0
    rw [ea] at hP
    rw [if_neg (by omega), if_neg (by omega), if_neg (by omega), show ((n : Int) - 1) = ((n - 1 : Nat) : Int) by omega]
    exact hP _ ⟨⟨by omega, hS.2⟩, _, _, _, _, _, _, _, _, _, _, _, _, _, _, _, _, _, _, _, _, _, _, _, _, _, _, _, _, _, _, _, _, rfl, fun h => absurd (show (1 : Int) = 0 from h) (by decide)⟩
theorem H1_base {Z : tl_Z} : ∀ (Post : tw_P) (sg : Sg) (mem : List tw_c) (x1 : Int), IC sg mem → tw_rg x1 → (∀ mem' : List tw_c, IC (nx_base sg x1) mem' → Post (some (an_base sg x1)) mem') → tw_ct (tl_Y1 Z) twy_tl_base (Cond.code twy_tl_base prog_1_method_5_code 2 (some .boolean) :: tw_Wg) 1 [.inr 0, .inl x1] mem Post := by
  intro Post sg mem x1 h hr_x1 hP
  obtain ⟨z1, z2, z3, z4, z5, z6, z7, z8, z9, z10, z11, z12, z13, z14, z15, z16⟩ := Z
  obtain ⟨n, a, me, k, g, w, q⟩ := sg
  obtain ⟨hS, M, W, lt, lp, rs, r, L, T, E, O, I, la, li, le, oi, P, Ty, Mk, c, em, b, e, bp, bl, fb, st, ex, co, fr, sl, od, sta, rfl, h0⟩ := h
  refine twc_tl_base (fun z n2 s2 e0 e1 e2 => ?_)
  rw [e0, e1, e2]
  unfold twr_tl_base twu_tl_base__pa_base twu_tl_base__tl_stale
  by_cases c0 : 0 ≤ x1 ∧ x1 ≤ 2
  · have f : ¬ twr_tl_within x1 0 2 = 0 := fun y => win_n y c0
    have ea : an_base (n, a, me, k, g, w, q) x1 = 1 := if_pos c0
    have en : nx_base (n, a, me, k, g, w, q) x1 = (n, x1, me, k, g, w, q) := if_pos c0
    rw [ea, en] at hP
    rw [if_neg f, if_neg f, if_neg f]
    exact hP _ ⟨⟨hS.1, c0, hS.2.2⟩, _, _, _, _, _, _, _, _, _, _, _, _, _, _, _, _, _, _, _, _, _, _, _, _, _, _, _, _, _, _, _, _, rfl, fun h => absurd (show (1 : Int) = 0 from h) (by decide)⟩
  · have f : twr_tl_within x1 0 2 = 0 := (win_iff _ _ _).2 c0
    have ea : an_base (n, a, me, k, g, w, q) x1 = 0 := if_neg c0
    have en : nx_base (n, a, me, k, g, w, q) x1 = (n, a, me, k, g, w, q) := if_neg c0
    rw [ea, en] at hP
    rw [if_pos f, if_pos f, if_pos f]
    exact hP _ ⟨hS, _, _, _, _, _, _, _, _, _, _, _, _, _, _, _, _, _, _, _, _, _, _, _, _, _, _, _, _, _, _, _, _, rfl, h0⟩
theorem H1_measure {Z : tl_Z} : ∀ (Post : tw_P) (sg : Sg) (mem : List tw_c) (x1 : Int), IC sg mem → tw_rg x1 → (∀ mem' : List tw_c, IC (nx_measure sg x1) mem' → Post (some (an_measure sg x1)) mem') → tw_ct (tl_Y1 Z) twy_tl_measure (Cond.code twy_tl_measure prog_1_method_6_code 2 (some .boolean) :: tw_Wg) 1 [.inr 0, .inl x1] mem Post := by
  intro Post sg mem x1 h hr_x1 hP
  obtain ⟨z1, z2, z3, z4, z5, z6, z7, z8, z9, z10, z11, z12, z13, z14, z15, z16⟩ := Z
  obtain ⟨n, a, me, k, g, w, q⟩ := sg
  obtain ⟨hS, M, W, lt, lp, rs, r, L, T, E, O, I, la, li, le, oi, P, Ty, Mk, c, em, b, e, bp, bl, fb, st, ex, co, fr, sl, od, sta, rfl, h0⟩ := h
  refine twc_tl_measure (fun z n2 s2 e0 e1 e2 => ?_)
  rw [e0, e1, e2]
  unfold twr_tl_measure twu_tl_measure__tl_measure twu_tl_measure__tl_stale
  by_cases c0 : 1 ≤ x1 ∧ x1 ≤ 100
  · have f : ¬ twr_tl_within x1 1 100 = 0 := fun y => win_n y c0
    have ea : an_measure (n, a, me, k, g, w, q) x1 = 1 := if_pos c0
    have en : nx_measure (n, a, me, k, g, w, q) x1 = (n, a, x1, k, g, w, q) := if_pos c0
    rw [ea, en] at hP
    rw [if_neg f, if_neg f, if_neg f]
    exact hP _ ⟨⟨hS.1, hS.2.1, c0, hS.2.2.2⟩, _, _, _, _, _, _, _, _, _, _, _, _, _, _, _, _, _, _, _, _, _, _, _, _, _, _, _, _, _, _, _, _, rfl, fun h => absurd (show (1 : Int) = 0 from h) (by decide)⟩
  · have f : twr_tl_within x1 1 100 = 0 := (win_iff _ _ _).2 c0
    have ea : an_measure (n, a, me, k, g, w, q) x1 = 0 := if_neg c0
    have en : nx_measure (n, a, me, k, g, w, q) x1 = (n, a, me, k, g, w, q) := if_neg c0
    rw [ea, en] at hP
    rw [if_pos f, if_pos f, if_pos f]
    exact hP _ ⟨hS, _, _, _, _, _, _, _, _, _, _, _, _, _, _, _, _, _, _, _, _, _, _, _, _, _, _, _, _, _, _, _, _, rfl, h0⟩
theorem SR_add {n : Nat} {a me : Int} {k g w q : Nat → Int} (hS : SR n a me k g w q) {v1 v2 v3 v4 : Int} (h : okA n v1 v2 v3 v4) : SR (n + 1) a me (tw_up k n v1) (tw_up g n v2) (tw_up w n (if v1 < 12 then v3 else 0)) (tw_up q n (if v1 = 11 then v4 else 0)) := by
  refine ⟨h.2.2.2.2, hS.2.1, hS.2.2.1, fun j hj => ?_⟩
  by_cases z : j = n
  · subst z
    rw [up_at, up_at, up_at, up_at]
    refine ⟨h.1, h.2.1, ?_, ?_⟩
    · split
      · exact h.2.2.1
      · omega
    · split
      · exact h.2.2.2.1
      · omega
  · rw [up_ne _ _ z, up_ne _ _ z, up_ne _ _ z, up_ne _ _ z]
    exact hS.2.2.2 j hj
theorem up_if (f : Nat → Int) (n : Nat) (c : Prop) [Decidable c] (x y : Int) : (if c then tw_up f n x else tw_up f n y) = tw_up f n (if c then x else y) := by
  split <;> rfl
theorem H1_add {Z : tl_Z} : ∀ (Post : tw_P) (sg : Sg) (mem : List tw_c) (x1 x2 x3 x4 : Int), IC sg mem → tw_rg x1 → tw_rg x2 → tw_rg x3 → tw_rg x4 → (∀ mem' : List tw_c, IC (nx_add sg x1 x2 x3 x4) mem' → Post (some (an_add sg x1 x2 x3 x4)) mem') → tw_ct (tl_Y1 Z) twy_tl_add (Cond.code twy_tl_add prog_1_method_2_code 5 (some .boolean) :: tw_Wg) 1 [.inr 0, .inl x1, .inl x2, .inl x3, .inl x4] mem Post := by
  intro Post sg mem x1 x2 x3 x4 h hr_x1 hr_x2 hr_x3 hr_x4 hP
  obtain ⟨z1, z2, z3, z4, z5, z6, z7, z8, z9, z10, z11, z12, z13, z14, z15, z16⟩ := Z
  obtain ⟨n, a, me, k, g, w, q⟩ := sg
  obtain ⟨hS, M, W, lt, lp, rs, r, L, T, E, O, I, la, li, le, oi, P, Ty, Mk, c, em, b, e, bp, bl, fb, st, ex, co, fr, sl, od, sta, rfl, h0⟩ := h
  have hn := hS.1
  refine twc_tl_add (fun _ _ _ _ hlt => ⟨⟨by omega, by omega⟩, ⟨by omega, by omega⟩, fun _ => ⟨⟨by omega, by omega⟩, fun _ => ⟨⟨by omega, by omega⟩, ⟨by omega, by omega⟩⟩, fun _ => ⟨⟨by omega, by omega⟩, ⟨by omega, by omega⟩⟩⟩, fun _ => ⟨⟨by omega, by omega⟩, fun _ => ⟨⟨by omega, by omega⟩, ⟨by omega, by omega⟩⟩, fun _ => ⟨⟨by omega, by omega⟩, ⟨by omega, by omega⟩⟩⟩⟩) (fun z k2 g2 w2 q2 n2 s2 e0 e1 e2 e3 e4 e5 e6 => ?_)
  rw [e0, e1, e2, e3, e4, e5, e6]
  unfold twr_tl_add twu_tl_add__pa_kinds twu_tl_add__pa_groups twu_tl_add__pa_widths twu_tl_add__pa_pairs twu_tl_add__pa_size twu_tl_add__tl_stale twr_pa_append twu_pa_append__pa_kinds twu_pa_append__pa_groups twu_pa_append__pa_widths twu_pa_append__pa_pairs twu_pa_append__pa_size
  by_cases c0 : okA n x1 x2 x3 x4
  · have f1 : ¬ twr_tl_within x1 0 20 = 0 := fun y => win_n y c0.1
    have f2 : ¬ twr_tl_within x2 0 6 = 0 := fun y => win_n y c0.2.1
    have f3 : ¬ twr_tl_within x3 0 3 = 0 := fun y => win_n y c0.2.2.1
    have f4 : ¬ twr_tl_within x4 (-3) 3 = 0 := fun y => win_n y c0.2.2.2.1
    have f5 : (n : Int) < 64 := by have := c0.2.2.2.2; omega
    have ea : an_add (n, a, me, k, g, w, q) x1 x2 x3 x4 = 1 := if_pos c0
    have en : nx_add (n, a, me, k, g, w, q) x1 x2 x3 x4 = (n + 1, a, me, tw_up k n x1, tw_up g n x2, tw_up w n (if x1 < 12 then x3 else 0), tw_up q n (if x1 = 11 then x4 else 0)) := if_pos c0
    rw [ea, en] at hP
    simp only [if_neg f1, if_neg f2, if_neg f3, if_neg f4, if_pos f5, tn, up_if]
    exact hP _ ⟨SR_add hS c0, _, _, _, _, _, _, _, _, _, _, _, _, _, _, _, _, _, _, _, _, _, _, _, _, _, _, _, _, _, _, _, _, rfl, fun h => absurd (show (1 : Int) = 0 from h) (by decide)⟩
  · have ea : an_add (n, a, me, k, g, w, q) x1 x2 x3 x4 = 0 := if_neg c0
    have en : nx_add (n, a, me, k, g, w, q) x1 x2 x3 x4 = (n, a, me, k, g, w, q) := if_neg c0
    rw [ea, en] at hP
    by_cases f1 : twr_tl_within x1 0 20 = 0
    · simp only [if_pos f1]
      exact hP _ ⟨hS, _, _, _, _, _, _, _, _, _, _, _, _, _, _, _, _, _, _, _, _, _, _, _, _, _, _, _, _, _, _, _, _, rfl, h0⟩
    · by_cases f2 : twr_tl_within x2 0 6 = 0
      · simp only [if_neg f1, if_pos f2]
        exact hP _ ⟨hS, _, _, _, _, _, _, _, _, _, _, _, _, _, _, _, _, _, _, _, _, _, _, _, _, _, _, _, _, _, _, _, _, rfl, h0⟩
      · by_cases f3 : twr_tl_within x3 0 3 = 0
        · simp only [if_neg f1, if_neg f2, if_pos f3]
          exact hP _ ⟨hS, _, _, _, _, _, _, _, _, _, _, _, _, _, _, _, _, _, _, _, _, _, _, _, _, _, _, _, _, _, _, _, _, rfl, h0⟩
        · by_cases f4 : twr_tl_within x4 (-3) 3 = 0
          · simp only [if_neg f1, if_neg f2, if_neg f3, if_pos f4]
            exact hP _ ⟨hS, _, _, _, _, _, _, _, _, _, _, _, _, _, _, _, _, _, _, _, _, _, _, _, _, _, _, _, _, _, _, _, _, rfl, h0⟩
          · have f5 : ¬ (n : Int) < 64 := fun y => c0 ⟨win_y f1, win_y f2, win_y f3, win_y f4, by omega⟩
            simp only [if_neg f1, if_neg f2, if_neg f3, if_neg f4, if_neg f5]
            exact hP _ ⟨hS, _, _, _, _, _, _, _, _, _, _, _, _, _, _, _, _, _, _, _, _, _, _, _, _, _, _, _, _, _, _, _, _, rfl, h0⟩
