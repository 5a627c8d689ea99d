/-! pure: extents and ends of lines -/
def sp_su (w : Nat → Int) (a : Nat) : Nat → Int
  | 0 => 0
  | m + 1 => sp_su w a m + w (a + m)
def sp_ex (w r : Nat → Int) (a : Nat) : Nat → Int
  | 0 => 0
  | m + 1 => if r (a + m) = 1 then sp_ex w r a m else sp_su w a (m + 1)
theorem su_b {w : Nat → Int} {n : Nat} (hw : ∀ j, j < n → 0 ≤ w j ∧ w j ≤ 3) (a : Nat) : ∀ m, a + m ≤ n → 0 ≤ sp_su w a m ∧ sp_su w a m ≤ 3 * m := by
  intro m
  induction m with
  | zero => intro _; simp [sp_su]
  | succ m ih =>
    intro h
    have h1 := ih (by omega)
    have h2 := hw (a + m) (by omega)
    simp only [sp_su]
    omega
theorem p_ext {w r fr : Nat → Int} {n a : Nat} (hn : n ≤ 64) (hw : ∀ j, j < n → 0 ≤ w j ∧ w j ≤ 3) (hr : ∀ j, j < n → fr j = r j) {t : Nat} {X : Int → Prop} (ht : a + t ≤ n) (hX : X (sp_ex w r a t)) : ∀ (m i : Nat), i + m = t → twl_fi_extentOf_9 X ((a + t : Nat) : Int) w fr (m + 1) (sp_su w a i) (sp_ex w r a i) ((a + i : Nat) : Int) := by
  intro m
  induction m with
  | zero =>
    intro i him
    rw [twl_fi_extentOf_9]
    have : i = t := by omega
    subst this
    exact ⟨fun _ => hX, fun h => absurd (Int.le_refl _) h⟩
  | succ m ih =>
    intro i him
    rw [twl_fi_extentOf_9]
    have b1 := su_b hw a i (by omega)
    have b2 := hw (a + i) (by omega)
    refine ⟨fun h => absurd h (by omega), fun _ => ⟨⟨by omega, by omega⟩, ?_⟩⟩
    rw [tn]
    refine ⟨⟨by omega, by omega⟩, ⟨by omega, by omega⟩, fun x hx => ⟨⟨by omega, by omega⟩, ?_⟩⟩
    have e1 : sp_su w a i + w (a + i) = sp_su w a (i + 1) := rfl
    have e2 : x = sp_ex w r a (i + 1) := by
      rw [hx, hr (a + i) (by omega), e1]
      rfl
    rw [e1, e2, sc]
    exact ih (i + 1) (by omega)
theorem q_ext {w r fr : Nat → Int} {n a b : Nat} (hn : n ≤ 64) (hw : ∀ j, j < n → 0 ≤ w j ∧ w j ≤ 3) (hr : ∀ j, j < n → fr j = r j) {K : Int → Prop} (hab : a ≤ b) (hb : b ≤ n) (hK : K (sp_ex w r a (b - a))) : tww_fi_extentOf a b w fr K := by
  refine ⟨b - a + 1, ?_⟩
  have h := p_ext (X := fun y => K y) hn hw hr (a := a) (t := b - a) (by omega) hK (b - a) 0 (by omega)
  rw [show a + (b - a) = b by omega] at h
  exact h
/-- the reference's extent -/
def sp_tr (r : Nat → Int) (a : Nat) : Nat → Nat
  | 0 => 0
  | m + 1 => if r (a + m) = 1 then sp_tr r a m else m + 1
theorem tr_su (w r : Nat → Int) (a : Nat) : ∀ m, sp_su w a (sp_tr r a m) = sp_ex w r a m := by
  intro m
  induction m with
  | zero => rfl
  | succ m ih =>
    simp only [sp_tr, sp_ex]
    split
    · exact ih
    · rfl
theorem tr_le (r : Nat → Int) (a : Nat) : ∀ m, sp_tr r a m ≤ m := by
  intro m
  induction m with
  | zero => exact Nat.le_refl _
  | succ m ih =>
    simp only [sp_tr]
    split <;> omega
theorem p_mtr {k g w : Nat → Int} {a : Nat} {X : Int → Prop} : ∀ m, a + m ≤ 64 → X ((a + sp_tr (sp_gr k g) a m : Nat) : Int) → twl_mo_extentOf_2 X a k g w (m + 1) ((a + m : Nat) : Int) := by
  intro m
  induction m with
  | zero =>
    intro h hX
    rw [twl_mo_extentOf_2]
    exact ⟨fun _ => hX, fun h => absurd (by omega) h⟩
  | succ m ih =>
    intro h hX
    rw [twl_mo_extentOf_2]
    refine ⟨fun h => absurd h (by omega), fun _ => ⟨⟨by omega, by omega⟩, ?_⟩⟩
    rw [show (((a + (m + 1) : Nat) : Int) - 1) = ((a + m : Nat) : Int) by omega]
    refine q_mgr (by omega) ⟨fun h1 => ⟨⟨by omega, by omega⟩, ?_⟩, fun h1 => ?_⟩
    · rw [show (((a + (m + 1) : Nat) : Int) + -1) = ((a + m : Nat) : Int) by omega]
      simp only [sp_tr] at hX
      rw [if_pos h1] at hX
      exact ih (by omega) hX
    · simp only [sp_tr] at hX
      rw [if_neg h1] at hX
      exact hX
theorem p_msu {k g w : Nat → Int} {n a t : Nat} (hn : n ≤ 64) (hw : ∀ j, j < n → 0 ≤ w j ∧ w j ≤ 3) (ht : a + t ≤ n) {X : Int → Prop} (hX : X (sp_su w a t)) : ∀ m i, i + m = t → twl_mo_extentOf_30 X ((a + t : Nat) : Int) k g w (m + 1) (sp_su w a i) ((a + i : Nat) : Int) := by
  intro m
  induction m with
  | zero =>
    intro i him
    rw [twl_mo_extentOf_30]
    have : i = t := by omega
    subst this
    exact ⟨fun _ => hX, fun h => absurd (Int.le_refl _) h⟩
  | succ m ih =>
    intro i him
    rw [twl_mo_extentOf_30]
    have b1 := su_b hw a i (by omega)
    have b2 := hw (a + i) (by omega)
    refine ⟨fun h => absurd h (by omega), fun _ => ⟨⟨by omega, by omega⟩, ?_⟩⟩
    rw [tn]
    refine ⟨⟨by omega, by omega⟩, ⟨by omega, by omega⟩, ?_⟩
    have e1 : sp_su w a i + w (a + i) = sp_su w a (i + 1) := rfl
    rw [e1, sc]
    exact ih (i + 1) (by omega)
theorem q_mext {k g w : Nat → Int} {n a b : Nat} (hn : n ≤ 64) (hw : ∀ j, j < n → 0 ≤ w j ∧ w j ≤ 3) {K : Int → Prop} (hab : a ≤ b) (hb : b ≤ n) (hK : K (sp_ex w (sp_gr k g) a (b - a))) : tww_mo_extentOf a b k g w K := by
  refine ⟨b - a + 1, ?_⟩
  rw [show (b : Int) = ((a + (b - a) : Nat) : Int) by omega]
  refine p_mtr (b - a) (by omega) ⟨sp_tr (sp_gr k g) a (b - a) + 1, ?_⟩
  have hle := tr_le (sp_gr k g) a (b - a)
  exact p_msu (X := fun y => K y) hn hw (by omega) (by show K _; rw [tr_su]; exact hK) _ 0 (by omega)
/-- the ends of lines -/
def sp_bk (k w r : Nat → Int) (n : Nat) (me : Int) (s : Nat) : Nat → Int
  | 0 => -1
  | m + 1 => if sp_ex w r s (m + 1) ≤ me ∧ (s + m + 1 = n ∨ ¬ sp_br k r (s + m + 1) = 0) then ((s + m + 1 : Nat) : Int) else sp_bk k w r n me s m
def sp_ct (k w r : Nat → Int) (n : Nat) (me : Int) (s : Nat) : Nat → Int
  | 0 => -1
  | m + 1 => if (s + m + 1 = n ∨ ¬ k (s + m + 1) = 8) ∧ (sp_ex w r s (m + 1) ≤ me ∨ sp_ct k w r n me s m = -1) then ((s + m + 1 : Nat) : Int) else sp_ct k w r n me s m
def sp_en (k w r : Nat → Int) (n : Nat) (me : Int) (s : Nat) : Int := if sp_bk k w r n me s (n - s) = -1 then sp_ct k w r n me s (n - s) else sp_bk k w r n me s (n - s)
theorem bk_b (k w r : Nat → Int) (n : Nat) (me : Int) (s : Nat) : ∀ m, sp_bk k w r n me s m = -1 ∨ ((s : Int) < sp_bk k w r n me s m ∧ sp_bk k w r n me s m ≤ s + m) := by
  intro m
  induction m with
  | zero => exact Or.inl rfl
  | succ m ih =>
    simp only [sp_bk]
    split
    · right; omega
    · rcases ih with h | h
      · exact Or.inl h
      · right; omega
theorem ct_b (k w r : Nat → Int) (n : Nat) (me : Int) (s : Nat) : ∀ m, sp_ct k w r n me s m = -1 ∨ ((s : Int) < sp_ct k w r n me s m ∧ sp_ct k w r n me s m ≤ s + m) := by
  intro m
  induction m with
  | zero => exact Or.inl rfl
  | succ m ih =>
    simp only [sp_ct]
    split
    · right; omega
    · rcases ih with h | h
      · exact Or.inl h
      · right; omega
theorem en_b {k w r : Nat → Int} {n : Nat} {me : Int} {s : Nat} (hs : s < n) : (s : Int) < sp_en k w r n me s ∧ sp_en k w r n me s ≤ n := by
  unfold sp_en
  have h1 := bk_b k w r n me s (n - s)
  have h2 := ct_b k w r n me s (n - s)
  split
  · rcases h2 with h | h
    · obtain ⟨m, hm⟩ : ∃ m, n - s = m + 1 := ⟨n - s - 1, by omega⟩
      rw [hm] at h
      simp only [sp_ct] at h
      split at h
      · omega
      · next hc =>
        exact absurd ⟨Or.inl (by omega), Or.inr h⟩ hc
    · omega
  · rcases h1 with h | h
    · contradiction
    · omega
theorem p_end {k w r fr fb : Nat → Int} {n s : Nat} {me : Int} (hn : n ≤ 64) (hw : ∀ j, j < n → 0 ≤ w j ∧ w j ≤ 3) (hr : ∀ j, j < n → fr j = r j) (hb : ∀ j, j < n → fb j = sp_br k r j) (hs : s ≤ n) {X : Int → Int → Prop} (hX : X (sp_bk k w r n me s (n - s)) (sp_ct k w r n me s (n - s))) : ∀ m i, s + i + m = n → twl_fi_endOfLine_17 X me k w n fb fr (m + 1) (sp_bk k w r n me s i) (sp_ct k w r n me s i) (sp_su w s i) (sp_ex w r s i) ((s + i + 1 : Nat) : Int) := by
  intro m
  induction m with
  | zero =>
    intro i him
    rw [twl_fi_endOfLine_17]
    have : i = n - s := by omega
    subst this
    exact ⟨fun _ => hX, fun h => absurd (by omega) h⟩
  | succ m ih =>
    intro i him
    rw [twl_fi_endOfLine_17]
    have b1 := su_b hw s i (by omega)
    have b2 := hw (s + i) (by omega)
    have e0 : (((s + i + 1 : Nat) : Int) - 1) = ((s + i : Nat) : Int) := by omega
    refine ⟨fun h => absurd h (by omega), fun _ => ?_⟩
    rw [e0, tn, tn]
    refine ⟨⟨by omega, by omega⟩, ⟨by omega, by omega⟩, ⟨by omega, by omega⟩, ⟨by omega, by omega⟩, ⟨by omega, by omega⟩, fun x7 h7 x8 h8 J11 hJ11 J32 hJ32 => ?_⟩
    have e1 : sp_su w s i + w (s + i) = sp_su w s (i + 1) := rfl
    rw [e1] at h7 hJ11
    have e7 : x7 = sp_ex w r s (i + 1) := by
      rw [h7, hr (s + i) (by omega)]
      rfl
    have main : ∀ x10 : Int, (x10 = 0 ↔ ¬ (s + i + 1 = n ∨ ¬ k (s + i + 1) = 8)) → J11 x8 x10 := by
      intro x10 h10
      refine hJ11 x8 x10 (fun x12 h12 x13 h13 => ⟨fun h9 ha => ?_, fun x15 h15 => ⟨⟨by omega, by omega⟩, ?_⟩⟩)
      · have : ¬ ((s + i + 1 : Nat) : Int) = n := fun q => by rw [if_pos q] at h8; omega
        exact ⟨by omega, by omega⟩
      · have e12 : x12 = 0 ↔ ¬ sp_ex w r s (i + 1) ≤ me := by
          rw [h12, e7]
          split
          · simp; omega
          · simp; omega
        have e13 : x13 = sp_ct k w r n me s (i + 1) := by
          rw [h13]
          simp only [sp_ct]
          by_cases c1 : x10 = 0
          · rw [if_pos c1, if_neg (fun q => (h10.mp c1) q.1)]
          · have c1' : (s + i + 1 = n ∨ ¬ k (s + i + 1) = 8) := Classical.not_not.mp (fun q => c1 (h10.mpr q))
            rw [if_neg c1]
            by_cases c2 : x12 = 0
            · rw [if_pos c2]
              by_cases c3 : sp_ct k w r n me s i = -1
              · rw [if_pos c3, if_pos ⟨c1', Or.inr c3⟩]
              · rw [if_neg c3, if_neg (fun q => q.2.elim (e12.mp c2) c3)]
            · rw [if_neg c2, if_pos ⟨c1', Or.inl (Classical.not_not.mp (fun q => c2 (e12.mpr q)))⟩]
        have e15 : x15 = sp_bk k w r n me s (i + 1) := by
          rw [h15]
          simp only [sp_bk]
          by_cases c2 : x12 = 0
          · rw [if_pos c2, if_neg (fun q => e12.mp c2 q.1)]
          · have c2' : sp_ex w r s (i + 1) ≤ me := Classical.not_not.mp (fun q => c2 (e12.mpr q))
            rw [if_neg c2]
            by_cases c3 : x8 = 0
            · have c4 : ¬ s + i + 1 = n := fun q => by rw [h8, if_pos (by omega)] at c3; omega
              rw [if_pos c3, hb (s + i + 1) (by omega)]
              by_cases c5 : sp_br k r (s + i + 1) = 0
              · rw [if_pos c5, if_neg (fun q => q.2.elim c4 (fun z => z c5))]
              · rw [if_neg c5, if_pos ⟨c2', Or.inr c5⟩]
            · have c4 : s + i + 1 = n := by
                rw [h8] at c3
                split at c3
                · omega
                · exact absurd rfl c3
              rw [if_neg c3, if_pos ⟨c2', Or.inl c4⟩]
        rw [e13, e15, e7, sc]
        exact ih (i + 1) (by omega)
    refine ⟨fun c => ?_, fun c => hJ32 _ (main 1 ⟨fun h => absurd h (by decide), fun h => absurd (Or.inl ?_) h⟩)⟩
    · have c4 : ¬ s + i + 1 = n := fun q => by rw [h8, if_pos (by omega)] at c; omega
      refine ⟨⟨by omega, by omega⟩, ?_⟩
      exact ⟨fun hk => main 0 ⟨fun _ q => q.elim c4 (fun z => z hk), fun _ => rfl⟩, fun hk => hJ32 _ (main 1 ⟨fun h => absurd h (by decide), fun h => absurd (Or.inr hk) h⟩)⟩
    · rw [h8] at c
      split at c
      · omega
      · exact absurd rfl c
theorem q_end {k w r fr fb : Nat → Int} {n s : Nat} {me : Int} (hn : n ≤ 64) (hw : ∀ j, j < n → 0 ≤ w j ∧ w j ≤ 3) (hr : ∀ j, j < n → fr j = r j) (hb : ∀ j, j < n → fb j = sp_br k r j) (hs : s < n) {K : Int → Prop} (hK : K (sp_en k w r n me s)) : tww_fi_endOfLine s me k w n fb fr K := by
  refine ⟨⟨by omega, by omega⟩, n - s + 1, ?_⟩
  refine p_end hn hw hr hb (by omega) (X := _) ⟨fun h => ?_, fun h => ?_⟩ (n - s) 0 (by omega)
  · unfold sp_en at hK
    rw [if_pos h] at hK
    exact hK
  · unfold sp_en at hK
    rw [if_neg h] at hK
    exact hK
/-- the reference's end of a line -/
def sp_fc (k w r : Nat → Int) (n : Nat) (me : Int) (s : Nat) : Nat → Int
  | 0 => -1
  | m + 1 => if (s + m + 1 = n ∨ ¬ k (s + m + 1) = 8) ∧ sp_ex w r s (m + 1) ≤ me then ((s + m + 1 : Nat) : Int) else sp_fc k w r n me s m
def sp_lc (k : Nat → Int) (n s : Nat) : Nat → Int
  | 0 => -1
  | m + 1 => if (s + m + 1 = n ∨ ¬ k (s + m + 1) = 8) ∧ sp_lc k n s m = -1 then ((s + m + 1 : Nat) : Int) else sp_lc k n s m
theorem fc_b (k w r : Nat → Int) (n : Nat) (me : Int) (s : Nat) : ∀ m, sp_fc k w r n me s m = -1 ∨ (s : Int) < sp_fc k w r n me s m := by
  intro m
  induction m with
  | zero => exact Or.inl rfl
  | succ m ih =>
    simp only [sp_fc]
    split
    · right; omega
    · exact ih
theorem lc_b (k : Nat → Int) (n s : Nat) : ∀ m, sp_lc k n s m = -1 ∨ (s : Int) < sp_lc k n s m := by
  intro m
  induction m with
  | zero => exact Or.inl rfl
  | succ m ih =>
    simp only [sp_lc]
    split
    · right; omega
    · exact ih
theorem ct_s (k w r : Nat → Int) (n : Nat) (me : Int) (s m : Nat) : sp_ct k w r n me s (m + 1) = if (s + m + 1 = n ∨ ¬ k (s + m + 1) = 8) ∧ (sp_ex w r s (m + 1) ≤ me ∨ sp_ct k w r n me s m = -1) then ((s + m + 1 : Nat) : Int) else sp_ct k w r n me s m := rfl
theorem fc_s (k w r : Nat → Int) (n : Nat) (me : Int) (s m : Nat) : sp_fc k w r n me s (m + 1) = if (s + m + 1 = n ∨ ¬ k (s + m + 1) = 8) ∧ sp_ex w r s (m + 1) ≤ me then ((s + m + 1 : Nat) : Int) else sp_fc k w r n me s m := rfl
theorem lc_s (k : Nat → Int) (n s m : Nat) : sp_lc k n s (m + 1) = if (s + m + 1 = n ∨ ¬ k (s + m + 1) = 8) ∧ sp_lc k n s m = -1 then ((s + m + 1 : Nat) : Int) else sp_lc k n s m := rfl
theorem ct_fl (k w r : Nat → Int) (n : Nat) (me : Int) (s : Nat) : ∀ m, sp_ct k w r n me s m = if sp_fc k w r n me s m = -1 then sp_lc k n s m else sp_fc k w r n me s m := by
  intro m
  induction m with
  | zero => rfl
  | succ m ih =>
    have h1 := fc_b k w r n me s m
    have h2 := lc_b k n s m
    by_cases c1 : (s + m + 1 = n ∨ ¬ k (s + m + 1) = 8)
    · by_cases c2 : sp_ex w r s (m + 1) ≤ me
      · have e1 : sp_ct k w r n me s (m + 1) = ((s + m + 1 : Nat) : Int) := by rw [ct_s, if_pos ⟨c1, Or.inl c2⟩]
        have e2 : sp_fc k w r n me s (m + 1) = ((s + m + 1 : Nat) : Int) := by rw [fc_s, if_pos ⟨c1, c2⟩]
        rw [e1, e2, if_neg (by omega)]
      · have e2 : sp_fc k w r n me s (m + 1) = sp_fc k w r n me s m := by rw [fc_s, if_neg (fun q => c2 q.2)]
        rw [e2]
        by_cases c3 : sp_ct k w r n me s m = -1
        · have e1 : sp_ct k w r n me s (m + 1) = ((s + m + 1 : Nat) : Int) := by rw [ct_s, if_pos ⟨c1, Or.inr c3⟩]
          have c4 : sp_fc k w r n me s m = -1 := by
            rw [ih] at c3
            split at c3
            · assumption
            · assumption
          have c5 : sp_lc k n s m = -1 := by
            rw [ih, if_pos c4] at c3
            exact c3
          rw [e1, if_pos c4, lc_s, if_pos ⟨c1, c5⟩]
        · have e1 : sp_ct k w r n me s (m + 1) = sp_ct k w r n me s m := by rw [ct_s, if_neg (fun q => q.2.elim c2 c3)]
          rw [e1, ih]
          by_cases c4 : sp_fc k w r n me s m = -1
          · have c5 : ¬ sp_lc k n s m = -1 := by
              rw [ih, if_pos c4] at c3
              exact c3
            rw [if_pos c4, if_pos c4, lc_s, if_neg (fun q => c5 q.2)]
          · rw [if_neg c4, if_neg c4]
    · have e1 : sp_ct k w r n me s (m + 1) = sp_ct k w r n me s m := by rw [ct_s, if_neg (fun q => c1 q.1)]
      have e2 : sp_fc k w r n me s (m + 1) = sp_fc k w r n me s m := by rw [fc_s, if_neg (fun q => c1 q.1)]
      have e3 : sp_lc k n s (m + 1) = sp_lc k n s m := by rw [lc_s, if_neg (fun q => c1 q.1)]
      rw [e1, e2, e3]
      exact ih
theorem p_men2 {k g w : Nat → Int} {n s : Nat} {me : Int} (hn : n ≤ 64) (hw : ∀ j, j < n → 0 ≤ w j ∧ w j ≤ 3) {K X : Int → Prop} : ∀ (m : Nat) (v : Int), s + m ≤ n → (¬ sp_fc k w (sp_gr k g) n me s m = -1 → K (sp_fc k w (sp_gr k g) n me s m)) → (sp_fc k w (sp_gr k g) n me s m = -1 → X (if sp_lc k n s m = -1 then v else sp_lc k n s m)) → twl_mo_endOf_57 K X s me n k g w (m + 1) v ((s + m : Nat) : Int) := by
  intro m
  induction m with
  | zero =>
    intro v h h1 h2
    rw [twl_mo_endOf_57]
    exact ⟨fun _ => h2 rfl, fun h => absurd (by omega) h⟩
  | succ m ih =>
    intro v h h1 h2
    rw [twl_mo_endOf_57]
    have b1 := fc_b k w (sp_gr k g) n me s m
    have b2 := lc_b k n s m
    refine ⟨fun h => absurd h (by omega), fun _ J11 hJ11 J13 hJ13 => ?_⟩
    have j11 : ∀ x : Int, (¬ sp_fc k w (sp_gr k g) n me s m = -1 → K (sp_fc k w (sp_gr k g) n me s m)) → (sp_fc k w (sp_gr k g) n me s m = -1 → X (if sp_lc k n s m = -1 then x else sp_lc k n s m)) → J11 x := by
      intro x q1 q2
      refine hJ11 x ⟨⟨by omega, by omega⟩, ?_⟩
      rw [show (((s + (m + 1) : Nat) : Int) + -1) = ((s + m : Nat) : Int) by omega]
      exact ih x (by omega) q1 q2
    have j13 : (s + m + 1 = n ∨ ¬ k (s + m + 1) = 8) → J13 := fun c => hJ13 (by
      refine q_mext hn hw (by omega) (by omega) ⟨fun c2 => j11 _ (fun q => ?_) (fun q => ?_), fun c2 => ?_⟩
      · rw [show s + (m + 1) - s = m + 1 by omega] at c2
        have e : sp_fc k w (sp_gr k g) n me s (m + 1) = sp_fc k w (sp_gr k g) n me s m := by
          simp only [sp_fc]
          rw [if_neg (fun z => by have := z.2; omega)]
        rw [e] at h1
        exact h1 q
      · rw [show s + (m + 1) - s = m + 1 by omega] at c2
        have e : sp_fc k w (sp_gr k g) n me s (m + 1) = sp_fc k w (sp_gr k g) n me s m := by
          simp only [sp_fc]
          rw [if_neg (fun z => by have := z.2; omega)]
        rw [e] at h2
        have h3 := h2 q
        by_cases c3 : sp_lc k n s m = -1
        · have e3 : sp_lc k n s (m + 1) = ((s + m + 1 : Nat) : Int) := by rw [lc_s, if_pos ⟨c, c3⟩]
          rw [e3, if_neg (by omega)] at h3
          rw [if_pos c3]
          exact h3
        · have e3 : sp_lc k n s (m + 1) = sp_lc k n s m := by rw [lc_s, if_neg (fun z => c3 z.2)]
          rw [e3, if_neg c3] at h3
          rw [if_neg c3]
          exact h3
      · rw [show s + (m + 1) - s = m + 1 by omega] at c2
        have e : sp_fc k w (sp_gr k g) n me s (m + 1) = ((s + m + 1 : Nat) : Int) := by
          simp only [sp_fc]
          rw [if_pos ⟨c, by omega⟩]
        rw [e] at h1
        exact h1 (by omega))
    refine ⟨fun c => j13 (Or.inl (by omega)), fun c => ⟨⟨by omega, by omega⟩, ?_⟩⟩
    refine ⟨fun c2 => ?_, fun c2 => j13 (Or.inr c2)⟩
    have c2 : k (s + m + 1) = 8 := c2
    have cn : ¬ (s + m + 1 = n ∨ ¬ k (s + m + 1) = 8) := fun z => z.elim (by omega) (fun y => y c2)
    have e : sp_fc k w (sp_gr k g) n me s (m + 1) = sp_fc k w (sp_gr k g) n me s m := by
      simp only [sp_fc]
      rw [if_neg (fun z => cn z.1)]
    have e2 : sp_lc k n s (m + 1) = sp_lc k n s m := by
      simp only [sp_lc]
      rw [if_neg (fun z => cn z.1)]
    rw [e] at h1 h2
    rw [e2] at h2
    exact j11 v h1 h2
theorem p_men1 {k g w : Nat → Int} {n s : Nat} {me : Int} (hn : n ≤ 64) (hw : ∀ j, j < n → 0 ≤ w j ∧ w j ≤ 3) {K : Int → Prop} {X : Prop} : ∀ (m : Nat), s + m ≤ n → (¬ sp_bk k w (sp_gr k g) n me s m = -1 → K (sp_bk k w (sp_gr k g) n me s m)) → (sp_bk k w (sp_gr k g) n me s m = -1 → X) → twl_mo_endOf_5 K X s me n k g w (m + 1) ((s + m : Nat) : Int) := by
  intro m
  induction m with
  | zero =>
    intro h h1 h2
    rw [twl_mo_endOf_5]
    exact ⟨fun _ => h2 rfl, fun h => absurd (by omega) h⟩
  | succ m ih =>
    intro h h1 h2
    rw [twl_mo_endOf_5]
    refine ⟨fun h => absurd h (by omega), fun _ J1 hJ1 J3 hJ3 => ?_⟩
    have j1 : ¬ (sp_ex w (sp_gr k g) s (m + 1) ≤ me ∧ (s + m + 1 = n ∨ ¬ sp_br k (sp_gr k g) (s + m + 1) = 0)) → J1 := fun c => hJ1 (by
      refine ⟨⟨by omega, by omega⟩, ?_⟩
      rw [show (((s + (m + 1) : Nat) : Int) + -1) = ((s + m : Nat) : Int) by omega]
      have e : sp_bk k w (sp_gr k g) n me s (m + 1) = sp_bk k w (sp_gr k g) n me s m := by
        simp only [sp_bk]
        rw [if_neg c]
      rw [e] at h1 h2
      exact ih (by omega) h1 h2)
    have j3 : (s + m + 1 = n ∨ ¬ sp_br k (sp_gr k g) (s + m + 1) = 0) → J3 := fun c => hJ3 (by
      refine q_mext hn hw (by omega) (by omega) ⟨fun c2 => j1 (fun z => ?_), fun c2 => ?_⟩
      · rw [show s + (m + 1) - s = m + 1 by omega] at c2
        have := z.1
        omega
      · rw [show s + (m + 1) - s = m + 1 by omega] at c2
        have e : sp_bk k w (sp_gr k g) n me s (m + 1) = ((s + m + 1 : Nat) : Int) := by
          simp only [sp_bk]
          rw [if_pos ⟨by omega, c⟩]
        rw [e] at h1
        exact h1 (by omega))
    refine ⟨fun c => j3 (Or.inl (by omega)), fun c => q_mbr hn ?_⟩
    rw [if_neg (by omega), if_neg (by omega), tn]
    exact ⟨fun c2 => j1 (fun z => z.2.elim (by omega) (fun y => y c2)), fun c2 => j3 (Or.inr c2)⟩
theorem q_men {k g w : Nat → Int} {n s : Nat} {me : Int} (hn : n ≤ 64) (hw : ∀ j, j < n → 0 ≤ w j ∧ w j ≤ 3) (hs : s < n) {K : Int → Prop} (hK : K (sp_en k w (sp_gr k g) n me s)) : tww_mo_endOf s me n k g w K := by
  refine ⟨n - s + 1, ?_⟩
  have h := p_men1 (k := k) (g := g) (w := w) (me := me) (K := K) (X := (∃ f21 : Nat, twl_mo_endOf_57 K (fun (y20 : Int) => K y20) s me n k g w f21 n n)) hn hw (n - s) (s := s) (by omega) (fun h => by unfold sp_en at hK; rw [if_neg h] at hK; exact hK) (fun h => by
    unfold sp_en at hK
    rw [if_pos h, ct_fl] at hK
    refine ⟨n - s + 1, ?_⟩
    have h2 := p_men2 (k := k) (g := g) (w := w) (me := me) (K := K) (X := fun y => K y) hn hw (s := s) (n - s) (n : Int) (by omega) (fun q => by rw [if_neg q] at hK; exact hK) (fun q => by
      rw [if_pos q] at hK
      show K _
      by_cases c : sp_lc k n s (n - s) = -1
      · obtain ⟨m, hm⟩ : ∃ m, n - s = m + 1 := ⟨n - s - 1, by omega⟩
        rw [hm] at c
        simp only [sp_lc] at c
        split at c
        · omega
        · next hc => exact absurd ⟨Or.inl (by omega), c⟩ hc
      · rw [if_neg c]
        exact hK)
    rw [show s + (n - s) = n by omega] at h2
    exact h2)
  rw [show s + (n - s) = n by omega] at h
  exact h
