/-! pure: one sequence through all its steps, both sides -/
def no8 (c : Nat) (t : Nat → Int) : Prop := ∀ j, j < c → ¬ t j = 8
def no2 (c : Nat) (t : Nat → Int) : Prop := ∀ j, j < c → ¬ t j = 8 ∧ ¬ t j = 2
theorem s1_8 {c : Nat} {b : Int} {t : Nat → Int} (hb : b = 0 ∨ b = 1) : no8 c (s1 b t) := by
  intro j
  induction j with
  | zero =>
    intro hj
    show ¬ (if t 0 = 8 then b else t 0) = 8
    split <;> omega
  | succ j ih =>
    intro hj
    have := ih (by omega)
    show ¬ (if t (j + 1) = 8 then (if 17 ≤ s1 b t j then 11 else s1 b t j) else t (j + 1)) = 8
    split
    · split <;> omega
    · assumption
theorem s3_2 {c : Nat} {t : Nat → Int} (h : no8 c t) : no2 c (s3 (s2 t)) := fun j hj => by
  have := h j hj
  unfold s3 s2
  by_cases a : t j = 3 ∧ ls t j = 2
  · rw [if_pos a, if_neg (by omega)]
    omega
  · rw [if_neg a]
    split <;> omega
theorem s4_2 {c : Nat} {t : Nat → Int} (h : no2 c t) : no2 c (s4 c t) := by
  intro j
  induction j with
  | zero => intro hj; exact h 0 hj
  | succ j ih =>
    intro hj
    rw [s4_s]
    split
    · exact ih (by omega)
    · exact h (j + 1) hj
theorem s5_2 {c : Nat} {t : Nat → Int} (h : no2 c t) : no2 c (s5 c t) := fun j hj => by
  have := h j hj
  unfold s5
  split
  · omega
  · exact this
theorem s6_4 {c : Nat} {t : Nat → Int} (h : no2 c t) (h2 : ty20 c t) : wk4 c (s6 t) := fun j hj => by
  have h3 := h j hj
  have h4 := h2 j hj
  unfold s6
  split <;> omega
theorem s7_4 {c : Nat} {b : Int} {t : Nat → Int} (h : wk4 c t) : wk4 c (s7 b t) := fun j hj => by
  unfold s7
  split
  · exact Or.inl rfl
  · exact h j hj
theorem sw_4 {c : Nat} {b : Int} {t : Nat → Int} (hb : b = 0 ∨ b = 1) (h : ty20 c t) : wk4 c (sw c b t) :=
  s7_4 (s6_4 (s5_2 (s4_2 (s3_2 (s1_8 (c := c) (t := t) hb)))) (s5_20 (s4_20 (s3_20 (s2_20 (s1_20 hb h))))))
def psq (c : Nat) (s : Nat → Nat) (prs tq : Nat → Int) (b : Int) : Nat → Int := (bst (pqf prs (sw c b tq) s) c).2
def rsq (c : Nat) (s : Nat → Nat) (prs tq : Nat → Int) (b e em : Int) : Nat → Int := sn c b e em (rs (mk1 tq) c b em (psq c s prs tq b) (sw c b tq) c)
theorem psq_b (c : Nat) (s : Nat → Nat) (prs tq : Nat → Int) (b : Int) : ∀ j, j < c → psq c s prs tq b j = -1 ∨ ∃ i : Nat, psq c s prs tq b j = i ∧ i < c ∧ i ≠ j := fun j hj => by
  rcases (bok_all (pqf prs (sw c b tq) s) c).2.2.2 j with e | ⟨i, e, h1, h2, _⟩
  · exact Or.inl e
  · exact Or.inr ⟨i, e, h2, h1⟩
section ONE
variable {c : Nat} {s : Nat → Nat} {P prs tq : Nat → Int} {b e em : Int}
theorem p_keep (hs : sqok c s P) {T pn Q lt lp r : Nat → Int} (hT : ag c T r) (hQ : ag c Q pn) (hpn : ∀ j, j < c → pn j = -1 ∨ ∃ i : Nat, pn j = i ∧ i < c ∧ i ≠ j) (h0 : ∀ j, j < c → lp (s j) = -1) {X : (Nat → Int) → (Nat → Int) → Prop} (hX : ∀ lt2 lp2, mv c s lt lt2 r → mpn c s lp lp2 pn → X lt2 lp2) : ∀ (m i : Nat) (lt2 lp2 : Nat → Int), i + m = c → (∀ j, j < c → (j < i → lt2 (s j) = r j ∧ lp2 (s j) = if pn j = -1 then -1 else (s (pn j).toNat : Int)) ∧ (i ≤ j → lp2 (s j) = -1)) → (∀ p, (∀ j, j < c → s j ≠ p) → lt2 p = lt p ∧ lp2 p = lp p) → twl_le_keep_2 X P T c Q (m + 1) i lt2 lp2 := by
  have hc := hs.1
  intro m
  induction m with
  | zero =>
    intro i lt2 lp2 hi h1 h2
    rw [twl_le_keep_2]
    have : i = c := by omega
    subst this
    refine ⟨fun _ => hX lt2 lp2 ⟨fun j hj => ((h1 j hj).1 hj).1, fun p hp => (h2 p hp).1⟩ ⟨fun j hj => ((h1 j hj).1 hj).2, fun p hp => (h2 p hp).2⟩, fun g => absurd (Int.le_refl _) g⟩
  | succ m ih =>
    intro i lt2 lp2 hi h1 h2
    rw [twl_le_keep_2]
    have hsi := hs.2.1 i (by omega)
    rw [tn, hsi.1, hQ i (by omega), hT i (by omega), tn]
    refine ⟨fun g => absurd g (by omega), fun _ => ⟨⟨by omega, by omega⟩, ⟨by omega, by omega⟩, ⟨by omega, by omega⟩, ⟨by omega, by omega⟩, fun g => ⟨⟨by omega, by omega⟩, ?_, ⟨by omega, by omega⟩⟩, fun x8 h8 => ⟨⟨by omega, by omega⟩, ?_⟩⟩⟩
    · rcases hpn i (by omega) with z | ⟨y, z, z1, _⟩
      · exact absurd z g
      · exact ⟨by omega, by omega⟩
    · rw [sc]
      refine ih (i + 1) _ _ (by omega) (fun j hj => ⟨fun hji => ?_, fun hji => ?_⟩) (fun p hp => ?_)
      · by_cases z : j = i
        · subst z
          rw [up_at]
          refine ⟨rfl, ?_⟩
          rw [h8]
          rcases hpn j hj with y | ⟨y, y1, y2, _⟩
          · rw [if_pos y, if_pos y]
            exact (h1 j hj).2 (Nat.le_refl _)
          · rw [if_neg (by omega), if_neg (by omega), up_at, y1, tn]
            exact (hs.2.1 y y2).1
        · have hne : s j ≠ s i := fun y => z (hs.2.2 j i hj (by omega) y)
          have g := (h1 j hj).1 (by omega)
          rw [up_ne _ _ hne, h8]
          refine ⟨g.1, ?_⟩
          by_cases y : pn i = -1
          · rw [if_pos y]; exact g.2
          · rw [if_neg y, up_ne _ _ hne]; exact g.2
      · have hne : s j ≠ s i := fun y => absurd (hs.2.2 j i hj (by omega) y) (by omega)
        have g := (h1 j hj).2 (by omega)
        rw [h8]
        by_cases y : pn i = -1
        · rw [if_pos y]; exact g
        · rw [if_neg y, up_ne _ _ hne]; exact g
      · have hne : p ≠ s i := fun y => hp i (by omega) y.symm
        have g := h2 p hp
        rw [up_ne _ _ hne, h8]
        refine ⟨g.1, ?_⟩
        by_cases y : pn i = -1
        · rw [if_pos y]; exact g.2
        · rw [if_neg y, up_ne _ _ hne]; exact g.2
theorem q_one (hs : sqok c s P) (h1c : 1 ≤ c) (hb : b = 0 ∨ b = 1) (he : em = 0 ∨ em = 1) (ht : ty20 c tq) (hpr : ∀ j, j < 64 → -3 ≤ prs j ∧ prs j ≤ 3) {Ty Mk bp bl lt lp : Nat → Int} (hT : ag c Ty tq) (h0 : ∀ j, j < c → lp (s j) = -1) {J : (Nat → Int) → (Nat → Int) → (Nat → Int) → (Nat → Int) → (Nat → Int) → (Nat → Int) → Prop} (hJ : ∀ lt2 lp2 T3 M1 bp2 bl2, mv c s lt lt2 (rsq c s prs tq b e em) → mpn c s lp lp2 (psq c s prs tq b) → J lt2 lp2 T3 M1 bp2 bl2) : tww_se_resolveWeak Ty Mk c b (fun T1 M1 => tww_br_resolve prs P T1 M1 c em b bp bl (fun T2 bp2 bl2 => tww_se_resolveNeutral T2 c em b e (fun T3 => tww_le_keep lt lp P T3 c bp2 (fun lt2 lp2 => J lt2 lp2 T3 M1 bp2 bl2)))) := by
  have hc := hs.1
  refine q_weak hc h1c hb ht hT (fun T1 M1 g1 g2 => ?_)
  refine q_pairs hs g1 hpr (fun bp2 bl2 g3 => ⟨c + 1, ?_⟩)
  have hpn := psq_b c s prs tq b
  refine p_res hc he g2 g3 (fun j hj => by rcases hpn j hj with z | ⟨y, z, z1, _⟩ <;> (show psq c s prs tq b j < c; omega)) (fun T2 g4 => ?_) c 0 _ (by omega) g1
  refine q_neu hc g4 (fun T3 g5 => ⟨c + 1, ?_⟩)
  exact p_keep hs g5 g3 hpn h0 (fun lt2 lp2 h1 h2 => hJ _ _ _ _ _ _ h1 h2) c 0 lt lp (by omega) (fun j hj => ⟨fun g => absurd g (by omega), fun _ => h0 j hj⟩) (fun p hp => ⟨rfl, rfl⟩)
theorem qm_one (hs : sqok c s P) (hinc : ∀ i j, i < j → j < c → s i < s j) (h1c : 1 ≤ c) (hb : b = 0 ∨ b = 1) (he : em = 0 ∨ em = 1) (ht : ty20 c tq) (hpr : ∀ j, j < 64 → -3 ≤ prs j ∧ prs j ≤ 3) {Ty Mk bl lt lp : Nat → Int} (hT : ∀ j, j < c → lt (s j) = tq j) (h0 : ∀ j, j < c → lp (s j) = -1) {J : (Nat → Int) → (Nat → Int) → (Nat → Int) → (Nat → Int) → Prop} (hJ : ∀ lt2 lp2 M1 bl2, mv c s lt lt2 (rsq c s prs tq b e em) → mpn c s lp lp2 (psq c s prs tq b) → J lt2 lp2 M1 bl2) : tww_mo_weak lt c P Mk b (fun T1 M1 => tww_mo_brackets prs T1 lp c P M1 b em bl (fun T2 lp2 bl2 => tww_mo_neutral T2 c P b e em (fun T3 => J T3 lp2 M1 bl2))) := by
  have hc := hs.1
  refine qm_weak (ty0 := lt) hs h1c hb ht ⟨hT, fun p hp => rfl⟩ (fun T1 M1 g1 g2 => ?_)
  refine ⟨c + 1, pm_pairs (p0 := lp) hs g1 hpr (fun lp2 bl2 g3 => ⟨c + 1, ?_⟩) c 0 lp bl (by omega) ⟨fun j hj => ?_, fun p hp => rfl⟩ True.intro⟩
  · rw [h0 j hj]
    rfl
  · have hpn := psq_b c s prs tq b
    refine pm_res hs hinc hb he g2 g3 hpn (fun T2 g4 => ?_) c 0 _ (by omega) g1
    exact qm_neu hs (rs_4 he (sw_4 hb ht) c) g4 (fun T3 g5 => hJ _ _ _ _ g5 g3)
end ONE
def CT (k l : Nat → Int) (n : Nat) (R RP : Nat → Nat → Int) (z : Nat → Int) (q : Nat) (lt lp : Nat → Int) : Prop :=
  (∀ p, p < q → ¬ hid k p → pr k l n p = -1 → ∀ j, j < scn k l n p → lt (sq k l n p j) = R p j ∧ lp (sq k l n p j) = RP p j) ∧
  (∀ x, x < n → (∀ p, p < q → ¬ hid k p → pr k l n p = -1 → ∀ j, j < scn k l n p → sq k l n p j ≠ x) → lt x = z x ∧ lp x = -1)
section CTS
variable {k l z : Nat → Int} {n : Nat} {R RP : Nat → Nat → Int}
theorem CT_new (hL : HL k l n) {q : Nat} (hq : q < n) (hv : ¬ hid k q) (hs : pr k l n q = -1) {lt lp : Nat → Int} (h : CT k l n R RP z q lt lp) : ∀ j, j < scn k l n q → lt (sq k l n q j) = z (sq k l n q j) ∧ lp (sq k l n q j) = -1 := fun j hj => by
  have ho := scn_ok (L := l) hq hv
  refine h.2 _ (ho.1 j hj).1 (fun p hp h1 h2 i hi e => ?_)
  have ho2 := scn_ok (L := l) (show p < n by omega) h1
  have w1 := ow_sq hL (show p < n by omega) h1 h2 i n hi (by omega)
  have w2 := ow_sq hL hq hv hs j n hj (by omega)
  rw [e, w2] at w1
  have := congrArg Prod.fst w1
  simp at this
  omega
theorem CT_skip {q : Nat} {lt lp : Nat → Int} (h : CT k l n R RP z q lt lp) (hn : hid k q ∨ ¬ pr k l n q = -1) : CT k l n R RP z (q + 1) lt lp := by
  refine ⟨fun p hp h1 h2 => ?_, fun x hx h3 => h.2 x hx (fun p hp => h3 p (by omega))⟩
  by_cases e : p = q
  · subst e
    rcases hn with g | g
    · exact absurd g h1
    · exact absurd h2 g
  · exact h.1 p (by omega) h1 h2
theorem CT_step (hL : HL k l n) {q : Nat} (hq : q < n) (hv : ¬ hid k q) (hs : pr k l n q = -1) {lt lp lt2 lp2 pn : Nat → Int} (h : CT k l n R RP z q lt lp) (g1 : mv (scn k l n q) (sq k l n q) lt lt2 (R q)) (g2 : mpn (scn k l n q) (sq k l n q) lp lp2 pn) (hR : ∀ j, j < scn k l n q → RP q j = if pn j = -1 then -1 else ((sq k l n q (pn j).toNat : Nat) : Int)) : CT k l n R RP z (q + 1) lt2 lp2 := by
  have ho := scn_ok (L := l) hq hv
  refine ⟨fun p hp h1 h2 j hj => ?_, fun x hx h3 => ?_⟩
  · by_cases e : p = q
    · subst e
      rw [hR j hj]
      exact ⟨g1.1 j hj, g2.1 j hj⟩
    · have ho2 := scn_ok (L := l) (show p < n by omega) h1
      have hne : ∀ i, i < scn k l n q → sq k l n q i ≠ sq k l n p j := fun i hi e2 => by
        have w1 := ow_sq hL (show p < n by omega) h1 h2 j n hj (by omega)
        have w2 := ow_sq hL hq hv hs i n hi (by omega)
        rw [← e2, w2] at w1
        have := congrArg Prod.fst w1
        simp at this
        omega
      rw [g1.2 _ hne, g2.2 _ hne]
      exact h.1 p (by omega) h1 h2 j hj
  · have hne : ∀ i, i < scn k l n q → sq k l n q i ≠ x := fun i hi => h3 q (by omega) hv hs i hi
    rw [g1.2 _ hne, g2.2 _ hne]
    exact h.2 x hx (fun p hp => h3 p (by omega))
theorem CT_fin (hL : HL k l n) {lt lp : Nat → Int} (h : CT k l n R RP z n lt lp) : ∀ x, x < n → (¬ hid k x → lt x = R (ow k l n n x).1 (ow k l n n x).2 ∧ lp x = RP (ow k l n n x).1 (ow k l n n x).2) ∧ (hid k x → lt x = z x ∧ lp x = -1) := fun x hx => by
  refine ⟨fun hv => ?_, fun hv => ?_⟩
  · obtain ⟨p, j, e1, e2, e3, e4, e5⟩ := sq_cov hL (x + 1) x (by omega) hx hv
    have ho := scn_ok (L := l) (show p < n by omega) e2
    have w := ow_sq hL (show p < n by omega) e2 e3 j n e4 (by omega)
    rw [e5] at w
    rw [w, ← e5]
    exact h.1 p (by omega) e2 e3 j e4
  · refine h.2 x hx (fun p hp h1 h2 j hj e => ?_)
    have ho := scn_ok (L := l) (show p < n by omega) h1
    have := (ho.1 j hj).2
    rw [e] at this
    exact this hv
end CTS
