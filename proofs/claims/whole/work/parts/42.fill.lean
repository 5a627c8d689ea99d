/-! pure: the lines -/
def sp_st (e : Nat → Nat) (n : Nat) : Nat → Nat
  | 0 => 0
  | l + 1 => if sp_st e n l < n then e (sp_st e n l) else sp_st e n l
theorem st_s (e : Nat → Nat) (n l : Nat) : sp_st e n (l + 1) = if sp_st e n l < n then e (sp_st e n l) else sp_st e n l := rfl
def isL (e : Nat → Nat) (n L : Nat) : Prop := (∀ l, l < L → sp_st e n l < n) ∧ n ≤ sp_st e n L
theorem isL_uniq {e : Nat → Nat} {n L M : Nat} (h1 : isL e n L) (h2 : isL e n M) : L = M := by
  by_cases c : L < M
  · have := h2.1 L c
    have := h1.2
    omega
  · by_cases c2 : M < L
    · have := h1.1 M c2
      have := h2.2
      omega
    · omega
theorem st_b {e : Nat → Nat} {n : Nat} (he : ∀ s, s < n → s < e s ∧ e s ≤ n) : ∀ l, sp_st e n l ≤ n ∧ (l ≤ sp_st e n l ∨ n ≤ sp_st e n l) := by
  intro l
  induction l with
  | zero => exact ⟨Nat.zero_le _, Or.inl (Nat.le_refl _)⟩
  | succ l ih =>
    rw [st_s]
    split
    · next h =>
      have := he _ h
      omega
    · omega
theorem st_mono {e : Nat → Nat} {n : Nat} (he : ∀ s, s < n → s < e s ∧ e s ≤ n) (l : Nat) (h : sp_st e n l < n) : sp_st e n l < sp_st e n (l + 1) ∧ sp_st e n (l + 1) ≤ n := by
  rw [st_s, if_pos h]
  exact he _ h
def sp_e (k w r : Nat → Int) (n : Nat) (me : Int) (s : Nat) : Nat := (sp_en k w r n me s).toNat
theorem e_b {k w r : Nat → Int} {n : Nat} {me : Int} : ∀ s, s < n → s < sp_e k w r n me s ∧ sp_e k w r n me s ≤ n := fun s hs => by
  have := en_b (k := k) (w := w) (r := r) (me := me) hs
  unfold sp_e
  omega
theorem e_i {k w r : Nat → Int} {n : Nat} {me : Int} {s : Nat} (hs : s < n) : sp_en k w r n me s = (sp_e k w r n me s : Int) := by
  have := en_b (k := k) (w := w) (r := r) (me := me) hs
  unfold sp_e
  omega
theorem p_fill {k g w r fr fb : Nat → Int} {n : Nat} {me : Int} (hn : n ≤ 64) (hw : ∀ j, j < n → 0 ≤ w j ∧ w j ≤ 3) (hr : ∀ j, j < n → fr j = r j) (hb : ∀ j, j < n → fb j = sp_br k r j) {X : (Nat → Int) → (Nat → Int) → Int → Prop}
    (hX : ∀ (L : Nat) (st ex : Nat → Int), L ≤ 64 → isL (sp_e k w r n me) n L → (∀ j, j ≤ L → st j = sp_st (sp_e k w r n me) n j) → (∀ j, j < L → ex j = sp_ex w r (sp_st (sp_e k w r n me) n j) (sp_st (sp_e k w r n me) n (j + 1) - sp_st (sp_e k w r n me) n j)) → X st ex L) :
    ∀ (m l : Nat) (st ex : Nat → Int), l + m = 64 → (∀ j, j < l → sp_st (sp_e k w r n me) n j < n) → (∀ j, j ≤ l → st j = sp_st (sp_e k w r n me) n j) → (∀ j, j < l → ex j = sp_ex w r (sp_st (sp_e k w r n me) n j) (sp_st (sp_e k w r n me) n (j + 1) - sp_st (sp_e k w r n me) n j)) → twl_fi_fill_24 X me k g w n fb fr (m + 1) l st ex l := by
  intro m
  induction m with
  | zero =>
    intro l st ex hl h1 h2 h3
    rw [twl_fi_fill_24]
    refine ⟨fun _ => hX l st ex (by omega) ⟨h1, ?_⟩ h2 h3, fun h => absurd (by omega) h⟩
    have := (st_b (e_b (k := k) (w := w) (r := r) (n := n) (me := me)) l).2
    omega
  | succ m ih =>
    intro l st ex hl h1 h2 h3
    rw [twl_fi_fill_24]
    refine ⟨fun h => absurd h (by omega), fun _ => ⟨⟨by omega, by omega⟩, ?_⟩⟩
    rw [tn, h2 l (Nat.le_refl _)]
    refine ⟨fun h => hX l st ex (by omega) ⟨h1, by omega⟩ h2 h3, fun h => ⟨⟨by omega, by omega⟩, ?_⟩⟩
    have hs : sp_st (sp_e k w r n me) n l < n := by omega
    have hm := st_mono (e_b (k := k) (w := w) (r := r) (n := n) (me := me)) l hs
    have e1 : sp_en k w r n me (sp_st (sp_e k w r n me) n l) = (sp_st (sp_e k w r n me) n (l + 1) : Int) := by
      rw [e_i hs, st_s, if_pos hs]
    refine q_end hn hw hr hb hs ⟨⟨by omega, by omega⟩, ?_⟩
    rw [e1]
    refine q_ext hn hw hr (by omega) (by omega) ⟨⟨by omega, by omega⟩, ⟨by omega, by omega⟩, ⟨by omega, by omega⟩, ⟨by omega, by omega⟩, ⟨by omega, by omega⟩, ?_⟩
    rw [sc, tn]
    refine ih (l + 1) _ _ (by omega) (fun j hj => ?_) (fun j hj => ?_) (up_eq (s := fun j => sp_ex w r (sp_st (sp_e k w r n me) n j) (sp_st (sp_e k w r n me) n (j + 1) - sp_st (sp_e k w r n me) n j)) h3 rfl)
    · by_cases c : j = l
      · rw [c]; exact hs
      · exact h1 j (by omega)
    · by_cases c : j = l + 1
      · rw [c, up_at]
      · rw [up_ne _ _ c]; exact h2 j (by omega)
theorem q_fill {k g w fb st ex fr : Nat → Int} {n : Nat} {me co : Int} (hn : n ≤ 64) (hw : ∀ j, j < n → 0 ≤ w j ∧ w j ≤ 3) {K : (Nat → Int) → (Nat → Int) → (Nat → Int) → Int → (Nat → Int) → Prop}
    (hK : ∀ (L : Nat) (fb st ex fr : Nat → Int), L ≤ 64 → isL (sp_e k w (sp_gr k g) n me) n L → (∀ j, j < n → fb j = sp_br k (sp_gr k g) j) → (∀ j, j ≤ L → st j = sp_st (sp_e k w (sp_gr k g) n me) n j) → (∀ j, j < L → ex j = sp_ex w (sp_gr k g) (sp_st (sp_e k w (sp_gr k g) n me) n j) (sp_st (sp_e k w (sp_gr k g) n me) n (j + 1) - sp_st (sp_e k w (sp_gr k g) n me) n j)) → K fb st ex L fr) :
    tww_fi_fill me k g w n fb st ex co fr K := by
  unfold tww_fi_fill
  refine q_groups hn (fun fr hr => ?_)
  have e : ∀ i, i < n → sp_br k fr i = sp_br k (sp_gr k g) i := fun i hi => by
    have hso : ∀ j, j ≤ n → sp_so fr j = sp_so (sp_gr k g) j := fun j => by
      induction j with
      | zero => intro _; rfl
      | succ j ih => intro hj; simp only [sp_so]; rw [hr j (by omega), ih (by omega)]
    unfold sp_br
    rw [hso i (by omega), hr i hi, hr (i - 1) (by omega)]
  refine q_breaks hn (fun fb hb => ⟨65, ?_⟩)
  refine p_fill (r := sp_gr k g) hn hw hr (fun j hj => by rw [hb j hj, e j hj]) (X := _) (fun L st ex hL h1 h2 h3 => hK L fb st ex fr hL h1 (fun j hj => by rw [hb j hj, e j hj]) h2 h3) 64 0 _ _ (by omega) (fun j h => absurd h (by omega)) (fun j hj => ?_) (fun j h => absurd h (by omega))
  rw [show j = 0 by omega, tn0, up_at]
  rfl
/-- the reference's lines -/
theorem p_mfill {k g w : Nat → Int} {n : Nat} {me ro : Int} {re sl od : Nat → Int} (hn : n ≤ 64) (hw : ∀ j, j < n → 0 ≤ w j ∧ w j ≤ 3) {X : Int → (Nat → Int) → Prop}
    (hX : ∀ (L : Nat) (st : Nat → Int), L ≤ 64 → isL (sp_e k w (sp_gr k g) n me) n L → (∀ j, j ≤ L → st j = sp_st (sp_e k w (sp_gr k g) n me) n j) → X L st) :
    ∀ (m l : Nat) (st : Nat → Int), l + m = 64 → (∀ j, j < l → sp_st (sp_e k w (sp_gr k g) n me) n j < n) → (∀ j, j ≤ l → st j = sp_st (sp_e k w (sp_gr k g) n me) n j) → twl_mo_fill_14 X me n k g w ro re sl od (m + 1) (sp_st (sp_e k w (sp_gr k g) n me) n l) l st := by
  intro m
  induction m with
  | zero =>
    intro l st hl h1 h2
    rw [twl_mo_fill_14]
    have := (st_b (e_b (k := k) (w := w) (r := sp_gr k g) (n := n) (me := me)) l).2
    refine ⟨fun _ => hX l st (by omega) ⟨h1, by omega⟩ h2, fun h => absurd (by omega) h⟩
  | succ m ih =>
    intro l st hl h1 h2
    rw [twl_mo_fill_14]
    refine ⟨fun h => hX l st (by omega) ⟨h1, by omega⟩ h2, fun h => ?_⟩
    have hs : sp_st (sp_e k w (sp_gr k g) n me) n l < n := by omega
    have hm := st_mono (e_b (k := k) (w := w) (r := sp_gr k g) (n := n) (me := me)) l hs
    have e1 : sp_en k w (sp_gr k g) n me (sp_st (sp_e k w (sp_gr k g) n me) n l) = (sp_st (sp_e k w (sp_gr k g) n me) n (l + 1) : Int) := by
      rw [e_i hs, st_s, if_pos hs]
    refine q_men hn hw hs ⟨⟨by omega, by omega⟩, ⟨by omega, by omega⟩, ?_⟩
    rw [e1, sc, tn]
    refine ih (l + 1) _ (by omega) (fun j hj => ?_) (fun j hj => ?_)
    · by_cases c : j = l
      · rw [c]; exact hs
      · exact h1 j (by omega)
    · by_cases c : j = l + 1
      · rw [c, up_at]
      · rw [up_ne _ _ c]; exact h2 j (by omega)
