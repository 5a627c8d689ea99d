/-! pure: shown levels, order, of all lines -/
def sp_t (k : Nat → Int) (b : Nat) : Nat → Int
  | 0 => 1
  | d + 1 => if k (b - 1 - d) = 10 then 1 else if sp_t k b d = 0 then 0 else if k (b - 1 - d) = 9 ∨ 12 ≤ k (b - 1 - d) then 1 else 0
theorem t_s (k : Nat → Int) (b d : Nat) : sp_t k b (d + 1) = if k (b - 1 - d) = 10 then 1 else if sp_t k b d = 0 then 0 else if k (b - 1 - d) = 9 ∨ 12 ≤ k (b - 1 - d) then 1 else 0 := rfl
theorem t_01 (k : Nat → Int) (b : Nat) : ∀ d, sp_t k b d = 0 ∨ sp_t k b d = 1 := by
  intro d
  cases d with
  | zero => exact Or.inr rfl
  | succ d =>
    rw [t_s]
    repeat' split
    all_goals first | exact Or.inl rfl | exact Or.inr rfl
def sp_sl (k re : Nat → Int) (ro : Int) (b p : Nat) : Int := if sp_t k b (b - p) = 0 then re p else ro
def slf (k re : Nat → Int) (ro : Int) (l0 : Nat → Int) (a b : Nat) : Nat → Int := fun j => if a ≤ j ∧ j < b then sp_sl k re ro b j else l0 j
def idf (o : Nat → Int) (a b : Nat) : Nat → Int := fun j => if a ≤ j ∧ j < b then (j : Int) else o j
theorem slf_s {k re l0 : Nat → Int} {ro x : Int} {b p : Nat} (hp : p < b) (hx : x = sp_sl k re ro b p) : tw_up (slf k re ro l0 (p + 1) b) p x = slf k re ro l0 p b := by
  funext j
  by_cases c : j = p
  · subst c
    rw [up_at, hx]
    unfold slf
    rw [if_pos ⟨Nat.le_refl _, hp⟩]
  · rw [up_ne _ _ c]
    unfold slf
    by_cases d : p + 1 ≤ j ∧ j < b
    · rw [if_pos d, if_pos (by omega)]
    · rw [if_neg d, if_neg (by omega)]
theorem slf_0 (k re l0 : Nat → Int) (ro : Int) (b : Nat) : slf k re ro l0 b b = l0 := by
  funext j
  unfold slf
  rw [if_neg (by omega)]
theorem idf_d {o : Nat → Int} {b p : Nat} (hp : p < b) : tw_up (idf o (p + 1) b) p (p : Int) = idf o p b := by
  funext j
  by_cases c : j = p
  · subst c
    rw [up_at]
    unfold idf
    rw [if_pos ⟨Nat.le_refl _, hp⟩]
  · rw [up_ne _ _ c]
    unfold idf
    by_cases d : p + 1 ≤ j ∧ j < b
    · rw [if_pos d, if_pos (by omega)]
    · rw [if_neg d, if_neg (by omega)]
theorem idf_u {o : Nat → Int} {a p : Nat} (hp : a ≤ p) : tw_up (idf o a p) p (p : Int) = idf o a (p + 1) := by
  funext j
  by_cases c : j = p
  · subst c
    rw [up_at]
    unfold idf
    rw [if_pos ⟨hp, by omega⟩]
  · rw [up_ne _ _ c]
    unfold idf
    by_cases d : a ≤ j ∧ j < p
    · rw [if_pos d, if_pos (by omega)]
    · rw [if_neg d, if_neg (by omega)]
theorem idf_0 (o : Nat → Int) (a : Nat) : idf o a a = o := by
  funext j
  unfold idf
  rw [if_neg (by omega)]
theorem p_sl {k re l0 : Nat → Int} {ro : Int} {a b : Nat} (hb : b ≤ 64) (hk : ∀ j, a ≤ j → j < b → 0 ≤ k j ∧ k j ≤ 20) {X : (Nat → Int) → Prop} (hX : X (slf k re ro l0 a b)) : ∀ (m d : Nat), a + m + d = b → twl_sh_setLevels_9 X a k re ro (m + 1) (sp_t k b d) ((a : Int) + (m : Int) - 1) (slf k re ro l0 (a + m) b) := by
  intro m
  induction m with
  | zero =>
    intro d hd
    rw [twl_sh_setLevels_9]
    exact ⟨fun _ => hX, fun h => absurd (by omega) h⟩
  | succ m ih =>
    intro d hd
    rw [twl_sh_setLevels_9]
    rw [show ((a : Int) + ((m + 1 : Nat) : Int) - 1) = ((a + m : Nat) : Int) by omega]
    refine ⟨fun h => absurd h (by omega), fun _ => ⟨⟨by omega, by omega⟩, fun J5 hJ5 J22 hJ22 => ?_⟩⟩
    rw [tn] at hJ5 ⊢
    have hkp := hk (a + m) (by omega) (by omega)
    have ep : b - 1 - d = a + m := by omega
    have ht := t_s k b d
    rw [ep] at ht
    have j5 : ∀ x4 : Int, (x4 = 0 ↔ ¬ (k (a + m) = 9 ∨ 12 ≤ k (a + m))) → J5 (k (a + m)) x4 := by
      intro x4 h4
      refine hJ5 _ _ (fun J7 hJ7 J16 hJ16 => ?_)
      have fin : ∀ x6 : Int, x6 = sp_t k b (d + 1) → J7 x6 := fun x6 h6 => hJ7 x6 (by
        refine ⟨fun _ => ⟨by omega, by omega⟩, fun x9 h9 => ⟨⟨by omega, by omega⟩, ⟨by omega, by omega⟩, ?_⟩⟩
        have e9 : x9 = sp_sl k re ro b (a + m) := by
          unfold sp_sl
          rw [h9, h6, show b - (a + m) = d + 1 by omega]
        rw [show a + (m + 1) = a + m + 1 by omega, slf_s (by omega) e9, h6, show (((a + m : Nat) : Int) + -1) = (a : Int) + (m : Int) - 1 by omega]
        exact ih (d + 1) (by omega))
      refine ⟨fun h => hJ16 (fin 1 (by rw [ht, if_pos h])), fun h J17 hJ17 => ⟨fun h2 => hJ17 (fin 0 (by rw [ht, if_neg h, if_pos h2])), fun h2 => ⟨fun h3 => hJ17 (fin 0 (by rw [ht, if_neg h, if_neg h2, if_neg (h4.mp h3)])), fun h3 => hJ16 (fin 1 (by rw [ht, if_neg h, if_neg h2, if_pos (Classical.not_not.mp (fun z => h3 (h4.mpr z)))]))⟩⟩⟩
    refine ⟨fun h => hJ22 _ (j5 1 ⟨fun z => absurd z (by decide), fun z => absurd (Or.inl h) z⟩), fun h => ?_⟩
    unfold twr_tl_isIsolateMark twr_tl_isHidden
    refine ⟨fun h1 => ⟨fun h2 => j5 0 ⟨fun _ z => ?_, fun _ => rfl⟩, fun h2 => hJ22 _ (j5 1 ⟨fun z => absurd z (by decide), fun z => absurd (Or.inr ?_) z⟩)⟩, fun h1 => hJ22 _ (j5 1 ⟨fun z => absurd z (by decide), fun z => absurd (Or.inr ?_) z⟩)⟩
    · rcases z with z | z
      · exact h z
      · split at h1
        · rw [if_neg (by omega), if_neg (by omega)] at h2
          omega
        · split at h1
          · omega
          · omega
    · split at h2
      · exact absurd rfl h2
      · omega
    · split at h1
      · exact absurd rfl h1
      · omega
theorem q_sl {k re l0 : Nat → Int} {ro : Int} {a b : Nat} (hab : a ≤ b) (hb : b ≤ 64) (hk : ∀ j, a ≤ j → j < b → 0 ≤ k j ∧ k j ≤ 20) {K : (Nat → Int) → Prop} (hK : K (slf k re ro l0 a b)) : tww_sh_setLevels a b k re ro l0 K := by
  refine ⟨⟨by omega, by omega⟩, b - a + 1, ?_⟩
  have := p_sl (X := fun y => K y) hb hk hK (b - a) 0 (by omega)
  rw [show a + (b - a) = b by omega, slf_0, show ((a : Int) + ((b - a : Nat) : Int) - 1) = (b : Int) - 1 by omega] at this
  exact this
theorem p_msl {k re l0 o0 : Nat → Int} {ro : Int} {a b : Nat} (hb : b ≤ 64) (hk : ∀ j, a ≤ j → j < b → 0 ≤ k j ∧ k j ≤ 20) {X : (Nat → Int) → (Nat → Int) → Prop} (hX : X (slf k re ro l0 a b) (idf o0 a b)) : ∀ (m d : Nat), a + m + d = b → twl_mo_showLine_7 X a b k ro re (m + 1) (sp_t k b d) ((a : Int) + (m : Int) - 1) (slf k re ro l0 (a + m) b) (idf o0 (a + m) b) := by
  intro m
  induction m with
  | zero =>
    intro d hd
    rw [twl_mo_showLine_7]
    exact ⟨fun _ => hX, fun h => absurd (by omega) h⟩
  | succ m ih =>
    intro d hd
    rw [twl_mo_showLine_7]
    rw [show ((a : Int) + ((m + 1 : Nat) : Int) - 1) = ((a + m : Nat) : Int) by omega]
    refine ⟨fun h => absurd h (by omega), fun _ => ⟨⟨by omega, by omega⟩, fun J4 hJ4 J22 hJ22 => ?_⟩⟩
    rw [tn] at hJ4 ⊢
    have ep : b - 1 - d = a + m := by omega
    have ht := t_s k b d
    rw [ep] at ht
    have j4 : ∀ x3 : Int, (x3 = 0 ↔ ¬ (k (a + m) = 9 ∨ 12 ≤ k (a + m))) → J4 x3 := by
      intro x3 h4
      refine hJ4 _ ⟨⟨by omega, by omega⟩, fun J7 hJ7 J17 hJ17 => ?_⟩
      have fin : ∀ x6 : Int, x6 = sp_t k b (d + 1) → J7 x6 := fun x6 h6 => hJ7 x6 (by
        refine ⟨fun _ => ⟨by omega, by omega⟩, fun x9 h9 => ⟨⟨by omega, by omega⟩, ⟨by omega, by omega⟩, ⟨by omega, by omega⟩, ?_⟩⟩
        have e9 : x9 = sp_sl k re ro b (a + m) := by
          unfold sp_sl
          rw [h9, h6, show b - (a + m) = d + 1 by omega]
        rw [show a + (m + 1) = a + m + 1 by omega, slf_s (by omega) e9, idf_d (by omega), h6, show (((a + m : Nat) : Int) + -1) = (a : Int) + (m : Int) - 1 by omega]
        exact ih (d + 1) (by omega))
      refine ⟨fun h => hJ17 (fin 1 (by rw [ht, if_pos h])), fun h J18 hJ18 => ⟨fun h2 => hJ18 (fin 0 (by rw [ht, if_neg h, if_pos h2])), fun h2 => ⟨fun h3 => hJ18 (fin 0 (by rw [ht, if_neg h, if_neg h2, if_neg (h4.mp h3)])), fun h3 => hJ17 (fin 1 (by rw [ht, if_neg h, if_neg h2, if_pos (Classical.not_not.mp (fun z => h3 (h4.mpr z)))]))⟩⟩⟩
    refine ⟨fun h => hJ22 (j4 1 ⟨fun z => absurd z (by decide), fun z => absurd (Or.inl h) z⟩), fun h => ⟨⟨by omega, by omega⟩, fun h1 => j4 0 ⟨fun _ z => ?_, fun _ => rfl⟩, fun h1 => hJ22 (j4 1 ⟨fun z => absurd z (by decide), fun z => absurd (Or.inr (by omega)) z⟩)⟩⟩
    rcases z with z | z
    · exact h z
    · omega
theorem p_init {lv o : Nat → Int} {a b : Nat} (hb : b ≤ 64) (hl : ∀ j, a ≤ j → j < b → 0 ≤ lv j ∧ lv j ≤ 8) {X : Int → (Nat → Int) → Prop} (hX : ∀ h : Nat, h ≤ 8 → (∀ j, a ≤ j → j < b → lv j ≤ h) → X h (idf o a b)) : ∀ (m i h : Nat), i + m = b → a ≤ i → h ≤ 8 → (∀ j, a ≤ j → j < i → lv j ≤ h) → twl_sh_setOrder_5 X a b lv (m + 1) h i (idf o a i) := by
  intro m
  induction m with
  | zero =>
    intro i h hi ha hh h1
    rw [twl_sh_setOrder_5]
    have : i = b := by omega
    subst this
    exact ⟨fun _ => hX h hh h1, fun h => absurd (Int.le_refl _) h⟩
  | succ m ih =>
    intro i h hi ha hh h1
    rw [twl_sh_setOrder_5]
    refine ⟨fun h => absurd h (by omega), fun _ => ⟨⟨by omega, by omega⟩, ⟨by omega, by omega⟩, ⟨by omega, by omega⟩, ?_⟩⟩
    have h2 := hl i ha (by omega)
    rw [tn, idf_u ha, sc]
    have e : (if (h : Int) < lv i then lv i else (h : Int)) = ((if (h : Int) < lv i then (lv i).toNat else h : Nat) : Int) := by
      split <;> omega
    rw [e]
    refine ih (i + 1) _ (by omega) (by omega) (by split <;> omega) (fun j h3 h4 => ?_)
    by_cases c : j = i
    · subst c; split <;> omega
    · have := h1 j h3 (by omega)
      split <;> omega
theorem q_order {lv o : Nat → Int} {a b : Nat} (hab : a ≤ b) (hb : b ≤ 64) (hl : ∀ j, a ≤ j → j < b → 0 ≤ lv j ∧ lv j ≤ 8) {K : (Nat → Int) → Prop} (hK : K (sp_or lv a b 8 (idf o a b))) : tww_sh_setOrder a b lv o K := by
  refine ⟨b - a + 1, ?_⟩
  have := p_init (lv := lv) (o := o) (X := fun y5 y6 => ∃ f11 : Nat, twl_sh_setOrder_41 (fun y => K y) a b lv f11 y5 y6) hb hl (fun h hh h1 => ⟨h + 1, p_ord hab hb h _ (by omega) (fun i h2 h3 => by unfold idf; rw [if_pos ⟨h2, h3⟩]; omega) (by
    show K _
    rw [← or_top (c := 8) (fun j h2 h3 => by unfold idf; rw [if_pos ⟨h2, h3⟩, tn]; exact h1 j h2 h3) hh]
    exact hK)⟩) (b - a) a 0 (by omega) (Nat.le_refl _) (by omega) (fun j h2 h3 => absurd h2 (by omega))
  rw [idf_0] at this
  exact this
theorem q_mshow {k re l0 o0 : Nat → Int} {ro : Int} {a b : Nat} (hab : a ≤ b) (hb : b ≤ 64) (hk : ∀ j, a ≤ j → j < b → 0 ≤ k j ∧ k j ≤ 20) {K : (Nat → Int) → (Nat → Int) → Prop} (hK : K (slf k re ro l0 a b) (sp_or (slf k re ro l0 a b) a b 8 (idf o0 a b))) : tww_mo_showLine a b k ro re l0 o0 K := by
  refine ⟨⟨by omega, by omega⟩, b - a + 1, ?_⟩
  have := p_msl (k := k) (re := re) (l0 := l0) (o0 := o0) (ro := ro) (a := a) (X := fun y27 y28 => ∃ f50 : Nat, twl_mo_showLine_115 (fun y => K y27 y) a b k ro re y27 f50 8 y28) hb hk ⟨9, p_mord hab hb 8 _ (by omega) (fun i h2 h3 => by unfold idf; rw [if_pos ⟨h2, h3⟩]; omega) hK⟩ (b - a) 0 (by omega)
  rw [show a + (b - a) = b by omega, slf_0, idf_0, show ((a : Int) + ((b - a : Nat) : Int) - 1) = (b : Int) - 1 by omega] at this
  exact this
/-- a line's levels and order, by its bounds -/
def isSh (k re : Nat → Int) (ro : Int) (e : Nat → Nat) (n l : Nat) (lv od : Nat → Int) : Prop := ∀ i, i < l → ∀ p, sp_st e n i ≤ p → p < sp_st e n (i + 1) → lv p = sp_sl k re ro (sp_st e n (i + 1)) p ∧ od p = sp_or (sp_sl k re ro (sp_st e n (i + 1))) (sp_st e n i) (sp_st e n (i + 1)) 8 (fun j => (j : Int)) p
theorem st_le {e : Nat → Nat} {n : Nat} (he : ∀ s, s < n → s < e s ∧ e s ≤ n) (i : Nat) : ∀ d, sp_st e n i ≤ sp_st e n (i + d) := by
  intro d
  induction d with
  | zero => exact Nat.le_refl _
  | succ d ih =>
    refine Nat.le_trans ih ?_
    rw [show i + (d + 1) = i + d + 1 by omega, st_s]
    split
    · next h => exact Nat.le_of_lt (he _ h).1
    · exact Nat.le_refl _
theorem sh_step {k re lv od : Nat → Int} {ro : Int} {e : Nat → Nat} {n l : Nat} (he : ∀ s, s < n → s < e s ∧ e s ≤ n) (h : isSh k re ro e n l lv od) : isSh k re ro e n (l + 1) (slf k re ro lv (sp_st e n l) (sp_st e n (l + 1))) (sp_or (slf k re ro lv (sp_st e n l) (sp_st e n (l + 1))) (sp_st e n l) (sp_st e n (l + 1)) 8 (idf od (sp_st e n l) (sp_st e n (l + 1)))) := by
  intro i hi p h1 h2
  by_cases c : i = l
  · subst c
    refine ⟨by unfold slf; rw [if_pos ⟨h1, h2⟩], or_c (fun j h3 h4 => by unfold slf; rw [if_pos ⟨h3, h4⟩]) 8 _ _ (fun j h3 h4 => by unfold idf; rw [if_pos ⟨h3, h4⟩]) (fun j h3 h4 => by unfold idf; rw [if_pos ⟨h3, h4⟩]; omega) p h1 h2⟩
  · have h3 : sp_st e n (i + 1) ≤ sp_st e n l := by
      have := st_le he (i + 1) (l - (i + 1))
      rw [show i + 1 + (l - (i + 1)) = l by omega] at this
      exact this
    obtain ⟨h4, h5⟩ := h i (by omega) p h1 h2
    refine ⟨?_, ?_⟩
    · unfold slf
      rw [if_neg (by omega)]
      exact h4
    · rw [or_out (Or.inl (by omega))]
      unfold idf
      rw [if_neg (by omega)]
      exact h5
theorem p_arr {k re st : Nat → Int} {ro : Int} {e : Nat → Nat} {n L : Nat} (hn : n ≤ 64) (he : ∀ s, s < n → s < e s ∧ e s ≤ n) (hk : ∀ j, j < n → 0 ≤ k j ∧ k j ≤ 20) (hre : ∀ j, j < n → 0 ≤ re j ∧ re j ≤ 8) (hro : 0 ≤ ro ∧ ro ≤ 8) (hL : L ≤ 64) (hst : ∀ j, j ≤ L → st j = sp_st e n j) {X : (Nat → Int) → (Nat → Int) → Prop} (hX : ∀ lv od, isSh k re ro e n L lv od → X lv od) : ∀ (m l : Nat) (lv od : Nat → Int), l + m = L → isSh k re ro e n l lv od → twl_sh_arrange_3 X k re ro st L (m + 1) l lv od := by
  intro m
  induction m with
  | zero =>
    intro l lv od hl h
    rw [twl_sh_arrange_3]
    have : l = L := by omega
    subst this
    exact ⟨fun _ => hX lv od h, fun h => absurd (Int.le_refl _) h⟩
  | succ m ih =>
    intro l lv od hl h
    rw [twl_sh_arrange_3]
    refine ⟨fun h => absurd h (by omega), fun _ => ⟨⟨by omega, by omega⟩, ⟨by omega, by omega⟩, ⟨by omega, by omega⟩, ?_⟩⟩
    rw [tn, tn1, hst l (by omega), hst (l + 1) (by omega)]
    have hb := (st_b he (l + 1)).1
    have ha : sp_st e n l ≤ sp_st e n (l + 1) := st_le he l 1
    refine q_sl ha (by omega) (fun j h1 h2 => hk j (by omega)) (q_order ha (by omega) (fun j h1 h2 => ?_) ⟨⟨by omega, by omega⟩, ?_⟩)
    · unfold slf sp_sl
      rw [if_pos ⟨h1, h2⟩]
      split
      · exact hre j (by omega)
      · exact hro
    · rw [sc]
      exact ih (l + 1) _ _ (by omega) (sh_step he h)
theorem p_marr {k g w re st : Nat → Int} {ro me : Int} {e : Nat → Nat} {n L : Nat} (hn : n ≤ 64) (he : ∀ s, s < n → s < e s ∧ e s ≤ n) (hk : ∀ j, j < n → 0 ≤ k j ∧ k j ≤ 20) (hL : L ≤ 64) (hst : ∀ j, j ≤ L → st j = sp_st e n j) {X : (Nat → Int) → (Nat → Int) → Prop} (hX : ∀ lv od, isSh k re ro e n L lv od → X lv od) : ∀ (m l : Nat) (lv od : Nat → Int), l + m = L → isSh k re ro e n l lv od → twl_mo_fill_53 X me n k g w ro re L st (m + 1) l lv od := by
  intro m
  induction m with
  | zero =>
    intro l lv od hl h
    rw [twl_mo_fill_53]
    have : l = L := by omega
    subst this
    exact ⟨fun _ => hX lv od h, fun h => absurd (Int.le_refl _) h⟩
  | succ m ih =>
    intro l lv od hl h
    rw [twl_mo_fill_53]
    refine ⟨fun h => absurd h (by omega), fun _ => ⟨⟨by omega, by omega⟩, ⟨by omega, by omega⟩, ⟨by omega, by omega⟩, ?_⟩⟩
    rw [tn, tn1, hst l (by omega), hst (l + 1) (by omega)]
    have hb := (st_b he (l + 1)).1
    have ha : sp_st e n l ≤ sp_st e n (l + 1) := st_le he l 1
    refine q_mshow ha (by omega) (fun j h1 h2 => hk j (by omega)) ⟨⟨by omega, by omega⟩, ?_⟩
    rw [sc]
    exact ih (l + 1) _ _ (by omega) (sh_step he h)
