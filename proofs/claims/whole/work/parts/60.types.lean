/-! pure: all sequences, both sides -/
theorem lv_HL {k : Nat → Int} {n : Nat} {r : Int} (hr : r = 0 ∨ r = 1) (hn : n ≤ 64) : HL k (lv k n r) n := fun _ _ h1 h2 h3 => lv_in hr hn h1 h2 h3
def Rt (k prs : Nat → Int) (n : Nat) (r : Int) (p : Nat) : Nat → Int := rsq (scn k (lv k n r) n p) (sq k (lv k n r) n p) prs (fun j => ty k n r (sq k (lv k n r) n p j)) (sbg k (lv k n r) r p) (sen k (lv k n r) n r p) (sem (lv k n r) p)
def Pt (k prs : Nat → Int) (n : Nat) (r : Int) (p : Nat) : Nat → Int := psq (scn k (lv k n r) n p) (sq k (lv k n r) n p) prs (fun j => ty k n r (sq k (lv k n r) n p j)) (sbg k (lv k n r) r p)
def Rp (k prs : Nat → Int) (n : Nat) (r : Int) (p j : Nat) : Int := if Pt k prs n r p j = -1 then -1 else ((sq k (lv k n r) n p (Pt k prs n r p j).toNat : Nat) : Int)
def tf (k prs : Nat → Int) (n : Nat) (r : Int) (x : Nat) : Int := if hid k x then -1 else Rt k prs n r (ow k (lv k n r) n n x).1 (ow k (lv k n r) n n x).2
def pf (k prs : Nat → Int) (n : Nat) (r : Int) (x : Nat) : Int := if hid k x then -1 else Rp k prs n r (ow k (lv k n r) n n x).1 (ow k (lv k n r) n n x).2
def ze (k : Nat → Int) (n : Nat) (r : Int) (x : Nat) : Int := if hid k x then -1 else ty k n r x
theorem m2_01 (x : Int) : x % 2 = 0 ∨ x % 2 = 1 := by omega
section TYP
variable {k prs : Nat → Int} {n : Nat} {r : Int}
theorem sq_ok (hn : n ≤ 64) {l : Nat → Int} {p : Nat} (hp : p < n) (hv : ¬ hid k p) {P : Nat → Int} (hf : fl1 (sq k l n p) (scn k l n p) P) : sqok (scn k l n p) (sq k l n p) P := by
  have ho := scn_ok (L := l) hp hv
  refine ⟨by omega, fun j hj => ⟨hf j hj, by have := (ho.1 j hj).1; omega⟩, fun i j hi hj e => ?_⟩
  by_cases a : i < j
  · have := sq_lt (L := l) hp hv a hj; omega
  · by_cases c : j < i
    · have := sq_lt (L := l) hp hv c hi; omega
    · omega
theorem tq_20 (hr : r = 0 ∨ r = 1) (hn : n ≤ 64) (hk : ∀ j, j < n → 0 ≤ k j ∧ k j ≤ 20) {p : Nat} (hp : p < n) (hv : ¬ hid k p) : ty20 (scn k (lv k n r) n p) (fun j => ty k n r (sq k (lv k n r) n p j)) := fun j hj => by
  have ho := (scn_ok (L := lv k n r) hp hv).1 j hj
  have := ty_b (k := k) (n := n) hr (show sq k (lv k n r) n p j ≤ 64 by omega) (hk _ ho.1) ho.2
  exact ⟨this.1, this.2.1⟩
theorem p_ini2 {X : (Nat → Int) → (Nat → Int) → Prop} {M A T P Ty Mk bp bl : Nat → Int} {r0 c0 em0 b0 e0 : Int} (hn : n ≤ 64) (hX : ∀ lt lp, (∀ x, x < n → lt x = -1 ∧ lp x = -1) → X lt lp) : ∀ (m i : Nat) (lt lp : Nat → Int), i + m = n → (∀ x, x < i → lt x = -1 ∧ lp x = -1) → twl_le_resolveSequences_2 X k prs n M r0 A T P Ty Mk c0 em0 b0 e0 bp bl (m + 1) i lt lp := by
  intro m
  induction m with
  | zero =>
    intro i lt lp hi h
    rw [twl_le_resolveSequences_2]
    have : i = n := by omega
    subst this
    exact ⟨fun _ => hX lt lp h, fun g => absurd (Int.le_refl _) g⟩
  | succ m ih =>
    intro i lt lp hi h
    rw [twl_le_resolveSequences_2]
    refine ⟨fun g => absurd g (by omega), fun _ => ⟨⟨by omega, by omega⟩, ⟨by omega, by omega⟩, ⟨by omega, by omega⟩, ?_⟩⟩
    rw [sc, tn]
    refine ih (i + 1) _ _ (by omega) (fun x hx => ?_)
    by_cases z : x = i
    · subst z
      rw [up_at, up_at]
      exact ⟨rfl, rfl⟩
    · rw [up_ne _ _ z, up_ne _ _ z]
      exact h x (by omega)
theorem p_rsq (hn : n ≤ 64) (hr : r = 0 ∨ r = 1) (hk : ∀ j, j < n → 0 ≤ k j ∧ k j ≤ 20) (hpr : ∀ j, j < 64 → -3 ≤ prs j ∧ prs j ≤ 3) {M A T : Nat → Int} (hM : ∀ j, j < n → M j = mt k n j) (hA : ∀ j, j < n → ¬ hid k j → A j = lv k n r j) (hT : ∀ j, j < n → ¬ hid k j → T j = ty k n r j) {X : (Nat → Int) → (Nat → Int) → (Nat → Int) → (Nat → Int) → (Nat → Int) → Int → Int → Int → Int → (Nat → Int) → (Nat → Int) → Prop} (hX : ∀ lt lp P Ty Mk c em b e bp bl, CT k (lv k n r) n (Rt k prs n r) (Rp k prs n r) (fun _ => -1) n lt lp → X lt lp P Ty Mk c em b e bp bl) : ∀ (m q : Nat) (lt lp P Ty Mk : Nat → Int) (c em b e : Int) (bp bl : Nat → Int), q + m = n → CT k (lv k n r) n (Rt k prs n r) (Rp k prs n r) (fun _ => -1) q lt lp → twl_le_resolveSequences_32 X k prs n M r A T (m + 1) q lt lp P Ty Mk c em b e bp bl := by
  have hL := lv_HL (k := k) hr hn
  intro m
  induction m with
  | zero =>
    intro q lt lp P Ty Mk c em b e bp bl hq h
    rw [twl_le_resolveSequences_32]
    have : q = n := by omega
    subst this
    exact ⟨fun _ => hX _ _ _ _ _ _ _ _ _ _ _ h, fun g => absurd (Int.le_refl _) g⟩
  | succ m ih =>
    intro q lt lp P Ty Mk c em b e bp bl hq h
    rw [twl_le_resolveSequences_32]
    refine ⟨fun g => absurd g (by omega), fun _ => ?_⟩
    have hqn : q < n := by omega
    refine q_begins hn hA hM hqn (fun hv hp J19 hJ19 => ⟨fun z => absurd z (by decide), fun _ => ?_⟩) (fun hh J19 hJ19 => ⟨fun _ => hJ19 _ _ _ _ _ _ _ _ _ _ _ ⟨⟨by omega, by omega⟩, ?_⟩, fun z => absurd rfl z⟩)
    · have ho := scn_ok (L := lv k n r) hqn hv
      have hl0 : ∀ j, j < n → ¬ hid k j → 0 ≤ lv k n r j := fun j hj _ => (lv_b hr (by omega)).1
      refine q_gather hn hA hT hM hqn hv (fun P2 Ty2 hf => ?_)
      have hs := sq_ok hn hqn hv (fun j hj => (hf j hj).1)
      refine q_sides hn hl0 (by omega) hA hqn hv hf ?_
      refine q_one (tq := fun j => ty k n r (sq k (lv k n r) n q j)) hs ho.2.2.1 (m2_01 _) (m2_01 _) (tq_20 hr hn hk hqn hv) hpr (fun j hj => (hf j hj).2) (fun j hj => (CT_new hL hqn hv hp h j hj).2) (fun lt2 lp2 T3 M1 bp2 bl2 g1 g2 => hJ19 _ _ _ _ _ _ _ _ _ _ _ ⟨⟨by omega, by omega⟩, ?_⟩)
      rw [sc]
      exact ih (q + 1) _ _ _ _ _ _ _ _ _ _ _ (by omega) (CT_step hL hqn hv hp h g1 g2 (fun j hj => rfl))
    · rw [sc]
      exact ih (q + 1) _ _ _ _ _ _ _ _ _ _ _ (by omega) (CT_skip h hh)
theorem fin_t (hn : n ≤ 64) (hr : r = 0 ∨ r = 1) {z lt lp : Nat → Int} (hz : ∀ x, x < n → hid k x → z x = -1) (h : CT k (lv k n r) n (Rt k prs n r) (Rp k prs n r) z n lt lp) : ∀ x, x < n → lt x = tf k prs n r x ∧ lp x = pf k prs n r x := fun x hx => by
  have hf := CT_fin (lv_HL (k := k) hr hn) h x hx
  unfold tf pf
  by_cases g : hid k x
  · rw [if_pos g, if_pos g]
    have := hf.2 g
    exact ⟨this.1.trans (hz x hx g), this.2⟩
  · rw [if_neg g, if_neg g]
    exact hf.1 g
theorem q_types (hn : n ≤ 64) (hr : r = 0 ∨ r = 1) (hk : ∀ j, j < n → 0 ≤ k j ∧ k j ≤ 20) (hpr : ∀ j, j < 64 → -3 ≤ prs j ∧ prs j ≤ 3) {M A T lt lp P Ty Mk bp bl : Nat → Int} {c em b e : Int} (hM : ∀ j, j < n → M j = mt k n j) (hA : ∀ j, j < n → ¬ hid k j → A j = lv k n r j) (hT : ∀ j, j < n → ¬ hid k j → T j = ty k n r j) {K : (Nat → Int) → (Nat → Int) → (Nat → Int) → (Nat → Int) → (Nat → Int) → Int → Int → Int → Int → (Nat → Int) → (Nat → Int) → Prop} (hK : ∀ lt lp P Ty Mk c em b e bp bl, (∀ x, x < n → lt x = tf k prs n r x ∧ lp x = pf k prs n r x) → K lt lp P Ty Mk c em b e bp bl) : tww_le_resolveSequences k prs n M lt lp r A T P Ty Mk c em b e bp bl K := by
  refine ⟨n + 1, p_ini2 hn (fun lt2 lp2 h => ⟨n + 1, ?_⟩) n 0 lt lp (by omega) (fun x hx => absurd hx (by omega))⟩
  exact p_rsq hn hr hk hpr hM hA hT (fun lt3 lp3 P3 Ty3 Mk3 c3 em3 b3 e3 bp3 bl3 hc => hK _ _ _ _ _ _ _ _ _ _ _ (fin_t hn hr (fun _ _ _ => rfl) hc)) n 0 _ _ _ _ _ _ _ _ _ _ _ (by omega) ⟨fun p hp => absurd hp (by omega), fun x hx _ => h x hx⟩
theorem mt_pm {x : Nat} : mt k n x = -1 ∨ 0 ≤ mt k n x := by
  unfold mt
  by_cases a : op k x
  · rw [if_pos a]
    rcases cl_b k (n - (x + 1)) 0 (x + 1) with e | ⟨j, h1, h2, _⟩
    · exact Or.inl e
    · exact Or.inr (by unfold clo; omega)
  · rw [if_neg a]
    by_cases c : k x = 20
    · rw [if_pos c]
      rcases fo_in (k := k) (n := n) (j := x) x with e | ⟨q, e, _⟩
      · exact Or.inl e
      · exact Or.inr (by omega)
    · rw [if_neg c]
      exact Or.inl rfl
theorem p_mseq (hn : n ≤ 64) (hr : r = 0 ∨ r = 1) (hk : ∀ j, j < n → 0 ≤ k j ∧ k j ≤ 20) (hpr : ∀ j, j < 64 → -3 ≤ prs j ∧ prs j ≤ 3) {A : Nat → Int} (hA : ∀ j, j < n → ¬ hid k j → A j = lv k n r j) {X : (Nat → Int) → (Nat → Int) → Int → (Nat → Int) → (Nat → Int) → Int → Int → Int → (Nat → Int) → Prop} (hX : ∀ lt lp c P Mk b e em bl, CT k (lv k n r) n (Rt k prs n r) (Rp k prs n r) (ze k n r) n lt lp → X lt lp c P Mk b e em bl) : ∀ (m q : Nat) (lt lp : Nat → Int) (c : Int) (P Mk : Nat → Int) (b e em : Int) (bl : Nat → Int), q + m = n → CT k (lv k n r) n (Rt k prs n r) (Rp k prs n r) (ze k n r) q lt lp → twl_mo_sequences_2 X n k prs r A (m + 1) q lt lp c P Mk b e em bl := by
  have hL := lv_HL (k := k) hr hn
  intro m
  induction m with
  | zero =>
    intro q lt lp c P Mk b e em bl hq h
    rw [twl_mo_sequences_2]
    have : q = n := by omega
    subst this
    exact ⟨fun _ => hX _ _ _ _ _ _ _ _ _ h, fun g => absurd (Int.le_refl _) g⟩
  | succ m ih =>
    intro q lt lp c P Mk b e em bl hq h
    rw [twl_mo_sequences_2]
    have hqn : q < n := by omega
    refine ⟨fun g => absurd g (by omega), fun _ => ⟨mh_k (by omega), fun J13 hJ13 => ?_⟩⟩
    have j13 : ∀ lt2 lp2 c2 P2 Mk2 b2 e2 em2 bl2, CT k (lv k n r) n (Rt k prs n r) (Rp k prs n r) (ze k n r) (q + 1) lt2 lp2 → J13 lt2 lp2 c2 P2 Mk2 b2 e2 em2 bl2 := fun lt2 lp2 c2 P2 Mk2 b2 e2 em2 bl2 g => hJ13 _ _ _ _ _ _ _ _ _ (by
      refine ⟨⟨by omega, by omega⟩, ?_⟩
      rw [sc]
      exact ih (q + 1) _ _ _ _ _ _ _ _ _ (by omega) g)
    by_cases hv : hid k q
    · exact ⟨fun g => absurd g (mh_y hv), fun _ => j13 _ _ _ _ _ _ _ _ _ (CT_skip h (Or.inl hv))⟩
    · refine ⟨fun _ => ?_, fun g => absurd (mh_n hv) g⟩
      refine q_mbr2 hn hA hqn hv (fun hbr => ⟨fun z => absurd z (by decide), fun _ => ⟨⟨by omega, by omega⟩, fun J17 hJ17 => ?_⟩⟩) (fun hbr => ⟨fun _ => j13 _ _ _ _ _ _ _ _ _ (CT_skip h (Or.inr ?_)), fun z => absurd rfl z⟩)
      · rw [tn]
        have j17 : pr k (lv k n r) n q = -1 → J17 := fun hp => hJ17 (by
          have ho := scn_ok (L := lv k n r) hqn hv
          have hl0 : ∀ j, j < n → ¬ hid k j → 0 ≤ lv k n r j := fun j hj _ => (lv_b hr (by omega)).1
          refine ⟨scn k (lv k n r) n q + 1, p_mgat hn hL hA hqn hv (fun P2 hf => ?_) (scn k (lv k n r) n q) 0 0 q P (by omega) (by omega) (Nat.le_refl _) (fun _ => ⟨rfl, hbr⟩) (fun z => by omega) (fun j hj => absurd hj (by omega))⟩
          have hs := sq_ok hn hqn hv hf
          refine q_bounds hn hl0 (by omega) hA hqn hv hf ?_
          refine qm_one (Ty := lt) (tq := fun j => ty k n r (sq k (lv k n r) n q j)) hs (fun i j h1 h2 => sq_lt hqn hv h1 h2) ho.2.2.1 (m2_01 _) (m2_01 _) (tq_20 hr hn hk hqn hv) hpr (fun j hj => ?_) (fun j hj => (CT_new hL hqn hv hp h j hj).2) (fun lt2 lp2 M1 bl2 g1 g2 => j13 _ _ _ _ _ _ _ _ _ (CT_step hL hqn hv hp h g1 g2 (fun j hj => rfl)))
          rw [(CT_new hL hqn hv hp h j hj).1]
          exact if_neg (ho.1 j hj).2)
        have epr : pr k (lv k n r) n q = if k q = 20 then mt k n q else -1 := by
          unfold pr
          rw [if_neg hbr]
        refine ⟨fun h20 => q_mm hn hqn ⟨fun z => j13 _ _ _ _ _ _ _ _ _ (CT_skip h (Or.inr ?_)), fun z => j17 ?_⟩, fun h20 => j17 ?_⟩
        · rw [epr, if_pos h20]
          omega
        · rw [epr, if_pos h20]
          rcases mt_pm (k := k) (n := n) (x := q) with y | y
          · exact y
          · exact absurd y z
        · rw [epr, if_neg h20]
      · have hb2 : 0 ≤ vb k q ∧ lv k n r (vb k q).toNat = lv k n r q := Classical.byContradiction hbr
        unfold pr
        rw [if_pos hb2]
        omega
theorem q_mtypes (hn : n ≤ 64) (hr : r = 0 ∨ r = 1) (hk : ∀ j, j < n → 0 ≤ k j ∧ k j ≤ 20) (hpr : ∀ j, j < 64 → -3 ≤ prs j ∧ prs j ≤ 3) {A T P Q Mk bl : Nat → Int} {c b e em : Int} (hLT : LT k n r n A T P) {K : (Nat → Int) → (Nat → Int) → Int → (Nat → Int) → (Nat → Int) → Int → Int → Int → (Nat → Int) → Prop} (hK : ∀ lt lp c Q Mk b e em bl, (∀ x, x < n → lt x = tf k prs n r x ∧ lp x = pf k prs n r x) → K lt lp c Q Mk b e em bl) : tww_mo_sequences n k prs r A T P c Q Mk b e em bl K := by
  refine ⟨n + 1, p_mseq hn hr hk hpr (fun j hj hv => ((hLT.1 j hj).1 hv).1) (fun lt3 lp3 c3 P3 Mk3 b3 e3 em3 bl3 hc => hK _ _ _ _ _ _ _ _ _ (fin_t hn hr (fun x hx hv => if_pos hv) hc)) n 0 _ _ _ _ _ _ _ _ _ (by omega) ⟨fun p hp => absurd hp (by omega), fun x hx _ => ?_⟩⟩
  have h := hLT.1 x hx
  refine ⟨?_, h.2.2⟩
  unfold ze
  by_cases hv : hid k x
  · rw [if_pos hv]; exact h.2.1 hv
  · rw [if_neg hv]; exact (h.1 hv).2
theorem tf_4 (hn : n ≤ 64) (hr : r = 0 ∨ r = 1) (hk : ∀ j, j < n → 0 ≤ k j ∧ k j ≤ 20) {x : Nat} (hx : x < n) (hv : ¬ hid k x) : tf k prs n r x = 0 ∨ tf k prs n r x = 1 ∨ tf k prs n r x = 3 ∨ tf k prs n r x = 6 := by
  obtain ⟨p, j, e1, e2, e3, e4, e5⟩ := sq_cov (lv_HL (k := k) hr hn) (x + 1) x (by omega) hx hv
  have ho := scn_ok (L := lv k n r) (show p < n by omega) e2
  have w := ow_sq (lv_HL (k := k) hr hn) (show p < n by omega) e2 e3 j n e4 (by omega)
  rw [e5] at w
  unfold tf
  rw [if_neg hv, w]
  exact sn_4 (m2_01 _) (m2_01 _) (rs_4 (m2_01 _) (sw_4 (m2_01 _) (tq_20 hr hn hk (show p < n by omega) e2)) _) j e4
end TYP
