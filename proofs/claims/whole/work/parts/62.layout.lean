/-! pure: the whole layout, both sides -/
def lnf (e : Nat → Nat) (n : Nat) : Nat → Nat → Nat
  | 0, l => l
  | f + 1, l => if sp_st e n l < n then lnf e n f (l + 1) else l
theorem lnf_s (e : Nat → Nat) (n f l : Nat) : lnf e n (f + 1) l = if sp_st e n l < n then lnf e n f (l + 1) else l := rfl
def Ln (e : Nat → Nat) (n : Nat) : Nat := lnf e n n 0
theorem lnf_ok {e : Nat → Nat} {n : Nat} (he : ∀ s, s < n → s < e s ∧ e s ≤ n) : ∀ f l, n ≤ l + f → (∀ i, i < l → sp_st e n i < n) → isL e n (lnf e n f l) := by
  intro f
  induction f with
  | zero =>
    intro l h1 h2
    refine ⟨h2, ?_⟩
    have := (st_b he l).2
    show n ≤ sp_st e n l
    omega
  | succ f ih =>
    intro l h1 h2
    rw [lnf_s]
    by_cases z : sp_st e n l < n
    · rw [if_pos z]
      refine ih (l + 1) (by omega) (fun i hi => ?_)
      by_cases y : i = l
      · subst y; exact z
      · exact h2 i (by omega)
    · rw [if_neg z]
      exact ⟨h2, by omega⟩
theorem Ln_ok {e : Nat → Nat} {n : Nat} (he : ∀ s, s < n → s < e s ∧ e s ≤ n) : isL e n (Ln e n) := lnf_ok he n 0 (by omega) (fun i hi => absurd hi (by omega))
def lof (e : Nat → Nat) (n p : Nat) : Nat → Nat → Nat
  | 0, l => l
  | f + 1, l => if p < sp_st e n (l + 1) then l else lof e n p f (l + 1)
theorem lof_s (e : Nat → Nat) (n p f l : Nat) : lof e n p (f + 1) l = if p < sp_st e n (l + 1) then l else lof e n p f (l + 1) := rfl
def lo (e : Nat → Nat) (n p : Nat) : Nat := lof e n p n 0
theorem lof_ok {e : Nat → Nat} {n p : Nat} (he : ∀ s, s < n → s < e s ∧ e s ≤ n) (hp : p < n) : ∀ f l, n ≤ l + f → sp_st e n l ≤ p → sp_st e n (lof e n p f l) ≤ p ∧ p < sp_st e n (lof e n p f l + 1) := by
  intro f
  induction f with
  | zero =>
    intro l h1 h2
    have := (st_b he l).2
    omega
  | succ f ih =>
    intro l h1 h2
    rw [lof_s]
    by_cases z : p < sp_st e n (l + 1)
    · rw [if_pos z]
      exact ⟨h2, z⟩
    · rw [if_neg z]
      exact ih (l + 1) (by omega) (by omega)
theorem lo_ok {e : Nat → Nat} {n p : Nat} (he : ∀ s, s < n → s < e s ∧ e s ≤ n) (hp : p < n) : sp_st e n (lo e n p) ≤ p ∧ p < sp_st e n (lo e n p + 1) := lof_ok he hp n 0 (by omega) (Nat.zero_le _)
def shl (k re : Nat → Int) (ro : Int) (e : Nat → Nat) (n p : Nat) : Int := sp_sl k re ro (sp_st e n (lo e n p + 1)) p
def sho (k re : Nat → Int) (ro : Int) (e : Nat → Nat) (n p : Nat) : Int := sp_or (sp_sl k re ro (sp_st e n (lo e n p + 1))) (sp_st e n (lo e n p)) (sp_st e n (lo e n p + 1)) 8 (fun j => (j : Int)) p
theorem st_lm {e : Nat → Nat} {n : Nat} (he : ∀ s, s < n → s < e s ∧ e s ≤ n) (i : Nat) : ∀ d, sp_st e n i ≤ sp_st e n (i + d) := by
  intro d
  induction d with
  | zero => exact Nat.le_refl _
  | succ d ih =>
    rw [← Nat.add_assoc, st_s]
    split
    · next h =>
      have := he _ h
      omega
    · exact ih
theorem sh_fin {k re re' lv od : Nat → Int} {ro : Int} {e : Nat → Nat} {n L : Nat} (he : ∀ s, s < n → s < e s ∧ e s ≤ n) (hL : isL e n L) (hre : ∀ j, j < n → re j = re' j) (h : isSh k re ro e n L lv od) : ∀ p, p < n → lv p = shl k re' ro e n p ∧ od p = sho k re' ro e n p := fun p hp => by
  have h1 := lo_ok he hp
  have hlt : lo e n p < L := by
    by_cases z : lo e n p < L
    · exact z
    · have h2 := st_lm he L (lo e n p - L)
      rw [show L + (lo e n p - L) = lo e n p by omega] at h2
      have := hL.2
      omega
  have h3 := h (lo e n p) hlt p h1.1 h1.2
  have hb := (st_b he (lo e n p + 1)).1
  have hs : ∀ i, i < n → sp_sl k re ro (sp_st e n (lo e n p + 1)) i = sp_sl k re' ro (sp_st e n (lo e n p + 1)) i := fun i hi => by
    unfold sp_sl
    rw [hre i hi]
  refine ⟨h3.1.trans (hs p hp), h3.2.trans ?_⟩
  exact or_c (fun i _ g2 => hs i (by omega)) 8 _ _ (fun _ _ _ => rfl) (fun i g1 g2 => ⟨by omega, by omega⟩) p h1.1 h1.2
def SR (n : Nat) (a me : Int) (k g w q : Nat → Int) : Prop := n ≤ 64 ∧ (0 ≤ a ∧ a ≤ 2) ∧ (1 ≤ me ∧ me ≤ 100) ∧ ∀ j, j < 64 → (0 ≤ k j ∧ k j ≤ 20) ∧ (0 ≤ g j ∧ g j ≤ 6) ∧ (0 ≤ w j ∧ w j ≤ 3) ∧ (-3 ≤ q j ∧ q j ≤ 3)
abbrev ee (n : Nat) (me : Int) (k g w : Nat → Int) : Nat → Nat := sp_e k w (sp_gr k g) n me
abbrev rr (n : Nat) (a : Int) (k q : Nat → Int) : Nat → Int := fun j => rz k q n (rut k n a) (j + 1)
def RS (n : Nat) (a me : Int) (k g w q : Nat → Int) (lt lp rs : Nat → Int) (r : Int) (st : Nat → Int) (co : Int) (sl od : Nat → Int) : Prop :=
  r = rut k n a ∧ (∀ j, j < n → lt j = tf k q n (rut k n a) j ∧ lp j = pf k q n (rut k n a) j) ∧ (∀ j, j < n → rs j = rz k q n (rut k n a) (j + 1)) ∧ co = (Ln (ee n me k g w) n : Int) ∧ (∀ j, j ≤ Ln (ee n me k g w) n → st j = (sp_st (ee n me k g w) n j : Int)) ∧ (∀ p, p < n → sl p = shl k (rr n a k q) (rut k n a) (ee n me k g w) n p ∧ od p = sho k (rr n a k q) (rut k n a) (ee n me k g w) n p)
def CR (n : Nat) (a me : Int) (k g w q : Nat → Int) (M lt lp rs : Nat → Int) (r : Int) (fb st ex : Nat → Int) (co : Int) (sl od : Nat → Int) : Prop :=
  RS n a me k g w q lt lp rs r st co sl od ∧ (∀ j, j < n → M j = mt k n j) ∧ (∀ j, j < n → fb j = sp_br k (sp_gr k g) j) ∧ (∀ j, j < Ln (ee n me k g w) n → ex j = sp_ex w (sp_gr k g) (sp_st (ee n me k g w) n j) (sp_st (ee n me k g w) n (j + 1) - sp_st (ee n me k g w) n j))
section LAY
variable {n : Nat} {a me : Int} {k g w q : Nat → Int}
theorem q_lay (hS : SR n a me k g w q) {M W lt lp rs L T E O I P Ty Mk bp bl fb st ex fr sl od : Nat → Int} {r la li le oi c em b e co sta : Int} (h0 : sta = 0 → CR n a me k g w q M lt lp rs r fb st ex co sl od) {K : (Nat → Int) → (Nat → Int) → (Nat → Int) → (Nat → Int) → (Nat → Int) → Int → (Nat → Int) → (Nat → Int) → (Nat → Int) → (Nat → Int) → (Nat → Int) → Int → Int → Int → Int → (Nat → Int) → (Nat → Int) → (Nat → Int) → Int → Int → Int → Int → (Nat → Int) → (Nat → Int) → (Nat → Int) → (Nat → Int) → (Nat → Int) → Int → (Nat → Int) → (Nat → Int) → (Nat → Int) → Int → Prop} (hK : ∀ M W lt lp rs r L T E O I la li le oi P Ty Mk c em b e bp bl fb st ex co fr sl od, CR n a me k g w q M lt lp rs r fb st ex co sl od → K M W lt lp rs r L T E O I la li le oi P Ty Mk c em b e bp bl fb st ex co fr sl od 0) : tww_tl_layOut k g w q n a M W lt lp rs r L T E O I la li le oi P Ty Mk c em b e bp bl fb st ex co fr sl od me sta K := by
  obtain ⟨hn, ha, hme, hj⟩ := hS
  have hr := rut_01 (k := k) (n := n) ha
  have hk : ∀ j, j < n → 0 ≤ k j ∧ k j ≤ 20 := fun j h => (hj j (by omega)).1
  have hw : ∀ j, j < n → 0 ≤ w j ∧ w j ≤ 3 := fun j h => (hj j (by omega)).2.2.1
  refine ⟨fun z => ?_, fun z => ?_⟩
  · rw [z]
    exact hK _ _ _ _ _ _ _ _ _ _ _ _ _ _ _ _ _ _ _ _ _ _ _ _ _ _ _ _ _ _ _ (h0 z)
  · refine q_marks hn ha (fun M1 W1 L1 T1 E1 O1 I1 la1 li1 le1 oi1 hM hL => ?_)
    refine q_types hn hr hk (fun j h => (hj j h).2.2.2) hM (fun j h hv => (hL j h hv).1) (fun j h hv => (hL j h hv).2) (fun lt1 lp1 P1 Ty1 Mk1 c1 em1 b1 e1 bp1 bl1 hT => ?_)
    refine q_raise hn hr (fun j h hv => (hL j h hv).1) (fun j h => (hT j h).1) (fun rs1 hR => ?_)
    refine q_fill hn hw (fun Lc fb1 st1 ex1 fr1 g1 g2 g3 g4 g5 => ⟨Lc + 1, ?_⟩)
    have hLn : Lc = Ln (ee n me k g w) n := isL_uniq g2 (Ln_ok e_b)
    refine p_arr (e := ee n me k g w) hn e_b hk (fun j h => ?_) (by omega) g1 g4 (fun sl1 od1 hsh => hK _ _ _ _ _ _ _ _ _ _ _ _ _ _ _ _ _ _ _ _ _ _ _ _ _ _ _ _ _ _ _ ?_) Lc 0 sl od (by omega) (fun i hi => absurd hi (by omega))
    · have := rz_b (k := k) (prs := q) (n := n) hr (j + 1) (by omega)
      rw [hR j h]
      omega
    · have hf := sh_fin (re' := rr n a k q) e_b g2 hR hsh
      rw [hLn] at g4 g5
      exact ⟨⟨rfl, hT, hR, by rw [hLn], g4, hf⟩, hM, g3, g5⟩
theorem q_work (hS : SR n a me k g w q) {kn r : Int} {L T rs P E O I Q Mk bl st sl od : Nat → Int} {la li le oi c b e em co : Int} (hL0 : ∀ j, j < 64 → 0 ≤ L j ∧ L j ≤ 5) (h0 : ¬ kn = 0 → RS n a me k g w q T P rs r st co sl od) {K : Int → Int → (Nat → Int) → (Nat → Int) → (Nat → Int) → (Nat → Int) → Int → (Nat → Int) → (Nat → Int) → (Nat → Int) → Int → Int → Int → Int → (Nat → Int) → (Nat → Int) → Int → Int → Int → (Nat → Int) → Int → (Nat → Int) → (Nat → Int) → (Nat → Int) → Prop} (hK : ∀ kn r L T rs P la E O I li le oi c Q Mk b e em bl co st sl od, ¬ kn = 0 → (∀ j, j < 64 → 0 ≤ L j ∧ L j ≤ 5) → RS n a me k g w q T P rs r st co sl od → K kn r L T rs P la E O I li le oi c Q Mk b e em bl co st sl od) : tww_mo_work a me n k g w q kn r L T rs P la E O I li le oi c Q Mk b e em bl co st sl od K := by
  obtain ⟨hn, ha, hme, hj⟩ := hS
  have hr := rut_01 (k := k) (n := n) ha
  have hk : ∀ j, j < n → 0 ≤ k j ∧ k j ≤ 20 := fun j h => (hj j (by omega)).1
  have hw : ∀ j, j < n → 0 ≤ w j ∧ w j ≤ 3 := fun j h => (hj j (by omega)).2.2.1
  refine ⟨fun z => ?_, fun z => hK _ _ _ _ _ _ _ _ _ _ _ _ _ _ _ _ _ _ _ _ _ _ _ _ z hL0 (h0 z)⟩
  refine q_exp hn (fun j h => (hk j h).1) ha hL0 (fun L1 T1 P1 la1 E1 O1 I1 li1 le1 oi1 hLT => ?_)
  refine q_mtypes hn hr hk (fun j h => (hj j h).2.2.2) hLT (fun lt1 lp1 c1 Q1 Mk1 b1 e1 em1 bl1 hT => ?_)
  refine q_mres hn hr hk (fun j h => hLT.2 j (by omega)) (fun j h hv => ((hLT.1 j h).1 hv).1) (fun j h => (hT j h).1) (fun rs1 hR => ?_)
  refine ⟨65, p_mfill hn hw (fun Lc st1 g1 g2 g4 => ⟨Lc + 1, ?_⟩) 64 0 _ (by omega) (fun j h => absurd h (by omega)) (fun j h => ?_)⟩
  · rw [show j = 0 by omega, tn0, up_at]
    rfl
  · have hLn : Lc = Ln (ee n me k g w) n := isL_uniq g2 (Ln_ok e_b)
    refine p_marr (e := ee n me k g w) hn e_b hk g1 g4 (fun sl1 od1 hsh => hK _ _ _ _ _ _ _ _ _ _ _ _ _ _ _ _ _ _ _ _ _ _ _ _ (by decide) hLT.2 ?_) Lc 0 sl od (by omega) (fun i hi => absurd hi (by omega))
    have hf := sh_fin (re' := rr n a k q) e_b g2 hR hsh
    rw [hLn] at g4
    exact ⟨rfl, hT, hR, by rw [hLn], g4, hf⟩
end LAY
