/-! pure: isolates that match, and directions, of both sides -/
abbrev op (k : Nat → Int) (i : Nat) : Prop := 17 ≤ k i ∧ k i ≤ 19
theorem io_y {x : Int} (h : 17 ≤ x ∧ x ≤ 19) : ¬ twr_tl_isOpener x = 0 := by
  unfold twr_tl_isOpener
  rw [if_neg (by omega), if_neg (by omega)]
  decide
theorem io_n {x : Int} (h : ¬ (17 ≤ x ∧ x ≤ 19)) : twr_tl_isOpener x = 0 := by
  unfold twr_tl_isOpener
  by_cases g : x < 17
  · rw [if_pos g]
  · rw [if_neg g, if_pos (by omega)]
theorem mo_y {k : Nat → Int} {i : Nat} (h : op k i) : ¬ twr_mo_opener i k = 0 := io_y (x := k i) h
theorem mo_n {k : Nat → Int} {i : Nat} (h : ¬ op k i) : twr_mo_opener i k = 0 := io_n (x := k i) h
theorem mo_k {i : Nat} (k : Nat → Int) (h : i < 64) : two_mo_opener i k := ⟨⟨by omega, by omega⟩, fun _ => ⟨by omega, by omega⟩⟩
def cl (k : Nat → Int) : Nat → Nat → Nat → Int
  | 0, _, _ => -1
  | m + 1, d, i => if k i = 20 then (if d = 0 then (i : Int) else cl k m (d - 1) (i + 1)) else if op k i then cl k m (d + 1) (i + 1) else cl k m d (i + 1)
theorem cl_s (k : Nat → Int) (m d i : Nat) : cl k (m + 1) d i = if k i = 20 then (if d = 0 then (i : Int) else cl k m (d - 1) (i + 1)) else if op k i then cl k m (d + 1) (i + 1) else cl k m d (i + 1) := rfl
theorem cl_b (k : Nat → Int) : ∀ m d i, cl k m d i = -1 ∨ ∃ j : Nat, cl k m d i = j ∧ i ≤ j ∧ j < i + m ∧ k j = 20 := by
  intro m
  induction m with
  | zero => intro d i; exact Or.inl rfl
  | succ m ih =>
    intro d i
    rw [cl_s]
    have g : ∀ e, cl k m e (i + 1) = -1 ∨ ∃ j : Nat, cl k m e (i + 1) = j ∧ i ≤ j ∧ j < i + (m + 1) ∧ k j = 20 := fun e => by
      rcases ih e (i + 1) with h | ⟨j, h1, h2, h3, h4⟩
      · exact Or.inl h
      · exact Or.inr ⟨j, h1, by omega, by omega, h4⟩
    by_cases a : k i = 20
    · rw [if_pos a]
      by_cases b : d = 0
      · rw [if_pos b]
        exact Or.inr ⟨i, rfl, Nat.le_refl _, by omega, a⟩
      · rw [if_neg b]
        exact g _
    · rw [if_neg a]
      by_cases b : op k i
      · rw [if_pos b]
        exact g _
      · rw [if_neg b]
        exact g _
def clo (k : Nat → Int) (n i : Nat) : Int := cl k (n - (i + 1)) 0 (i + 1)
theorem clo_b {k : Nat → Int} {n i : Nat} (h : i < n) : clo k n i = -1 ∨ ∃ j : Nat, clo k n i = j ∧ i < j ∧ j < n ∧ k j = 20 := by
  rcases cl_b k (n - (i + 1)) 0 (i + 1) with e | ⟨j, h1, h2, h3, h4⟩
  · exact Or.inl e
  · exact Or.inr ⟨j, h1, by omega, by omega, h4⟩
def fo (k : Nat → Int) (n j : Nat) : Nat → Int
  | 0 => -1
  | i + 1 => if ¬ fo k n j i = -1 then fo k n j i else if op k i ∧ clo k n i = j then (i : Int) else -1
theorem fo_s (k : Nat → Int) (n j i : Nat) : fo k n j (i + 1) = if ¬ fo k n j i = -1 then fo k n j i else if op k i ∧ clo k n i = j then (i : Int) else -1 := rfl
def mt (k : Nat → Int) (n j : Nat) : Int := if op k j then clo k n j else if k j = 20 then fo k n j j else -1
theorem fo_none {k : Nat → Int} {n j : Nat} : ∀ i, (∀ x, x < i → op k x → ¬ clo k n x = j) → fo k n j i = -1 := by
  intro i
  induction i with
  | zero => intro _; rfl
  | succ i ih =>
    intro h
    rw [fo_s, ih (fun x hx => h x (by omega)), if_neg (fun z => z rfl), if_neg (fun z => h i (by omega) z.1 z.2)]
theorem fo_one {k : Nat → Int} {n j a : Nat} (ha : op k a) (hc : clo k n a = j) (hu : ∀ x, x < a → op k x → clo k n x = j → x = a) : ∀ d, fo k n j (a + 1 + d) = a := by
  intro d
  induction d with
  | zero =>
    rw [Nat.add_zero, fo_s, fo_none a (fun x hx h1 h2 => by have := hu x hx h1 h2; omega), if_neg (fun z => z rfl), if_pos ⟨ha, hc⟩]
  | succ d ih =>
    rw [show a + 1 + (d + 1) = (a + 1 + d) + 1 by omega, fo_s, ih, if_pos (by omega)]
theorem fo_in {k : Nat → Int} {n j : Nat} : ∀ i, fo k n j i = -1 ∨ ∃ a : Nat, fo k n j i = a ∧ a < i ∧ op k a ∧ clo k n a = j := by
  intro i
  induction i with
  | zero => exact Or.inl rfl
  | succ i ih =>
    rw [fo_s]
    rcases ih with e | ⟨a, e, h1, h2, h3⟩
    · rw [if_neg (fun z => z e)]
      by_cases g : op k i ∧ clo k n i = j
      · rw [if_pos g]
        exact Or.inr ⟨i, rfl, by omega, g.1, g.2⟩
      · rw [if_neg g]
        exact Or.inl rfl
    · rw [if_pos (by omega)]
      exact Or.inr ⟨a, e, by omega, h2, h3⟩
def FI (k : Nat → Int) (n p d : Nat) (O W : Nat → Int) : Prop :=
  d ≤ p ∧
  (∀ s, s < d → ∃ w : Nat, W s = w ∧ w < p ∧ op k w ∧ O w = -1 ∧ clo k n w = cl k (n - p) (d - 1 - s) p) ∧
  (∀ j, j < p → op k j → (∃ s, s < d ∧ W s = j) ∨ (clo k n j = O j ∧ 0 ≤ O j ∧ O j < p)) ∧
  (∀ j, j < p → k j = 20 → (∃ i : Nat, O j = i ∧ i < j ∧ op k i ∧ clo k n i = j ∧ ∀ x, x < n → op k x → clo k n x = j → x = i) ∨ (O j = -1 ∧ ∀ x, x < n → op k x → ¬ clo k n x = j)) ∧
  (∀ j, j < p → ¬ op k j → ¬ k j = 20 → O j = -1)
theorem FI_end {k : Nat → Int} {n d : Nat} {O W : Nat → Int} (h : FI k n n d O W) : ∀ j, j < n → O j = mt k n j := by
  intro j hj
  unfold mt
  by_cases a : op k j
  · rw [if_pos a]
    rcases h.2.2.1 j hj a with ⟨s, h1, h2⟩ | h1
    · obtain ⟨w, e1, e2, e3, e4, e5⟩ := h.2.1 s h1
      have : w = j := by omega
      subst this
      rw [Nat.sub_self] at e5
      rw [e4, e5]
      rfl
    · exact h1.1.symm
  · rw [if_neg a]
    by_cases b : k j = 20
    · rw [if_pos b]
      rcases h.2.2.2.1 j hj b with ⟨i, e1, e2, e3, e4, e5⟩ | ⟨e1, e2⟩
      · have := fo_one e3 e4 (fun x hx h1 h2 => e5 x (by omega) h1 h2) (j - (i + 1))
        rw [show i + 1 + (j - (i + 1)) = j by omega] at this
        rw [e1, this]
      · rw [e1, fo_none j (fun x hx h1 => e2 x (by omega) h1)]
    · rw [if_neg b]
      exact h.2.2.2.2 j hj a b
theorem p_find {k : Nat → Int} {n : Nat} (hn : n ≤ 64) {X : (Nat → Int) → (Nat → Int) → Prop} (hX : ∀ O W : Nat → Int, (∀ j, j < n → O j = mt k n j) → X O W) : ∀ (m p d : Nat) (O W : Nat → Int), p + m = n → FI k n p d O W → twl_ma_find_4 X k n (m + 1) d p O W := by
  intro m
  induction m with
  | zero =>
    intro p d O W hp h
    rw [twl_ma_find_4]
    have : p = n := by omega
    subst this
    exact ⟨fun _ => hX O W (FI_end h), fun g => absurd (Int.le_refl _) g⟩
  | succ m ih =>
    intro p d O W hp h
    rw [twl_ma_find_4]
    have hd := h.1
    have hcp : ∀ x, p ≤ x → x < n → op k x → ¬ clo k n x = p := fun x h1 h2 h3 h4 => by
      rcases clo_b (k := k) h2 with e | ⟨j, e1, e2, _⟩ <;> omega
    have hclp : ∀ e : Nat, ¬ cl k (n - (p + 1)) e (p + 1) = p := fun e h4 => by
      rcases cl_b k (n - (p + 1)) e (p + 1) with e | ⟨j, e1, e2, _⟩ <;> omega
    have hnp : n - p = (n - (p + 1)) + 1 := by omega
    refine ⟨fun g => absurd g (by omega), fun _ => ⟨⟨by omega, by omega⟩, ⟨by omega, by omega⟩, ?_, ?_⟩⟩
    · rw [tn]
      refine ⟨fun _ h20 hv => ⟨⟨by omega, by omega⟩, ⟨by omega, by omega⟩, ?_, ⟨by omega, by omega⟩⟩, fun _ => ⟨⟨by omega, by omega⟩, ⟨by omega, by omega⟩⟩⟩
      obtain ⟨w, e1, e2, _⟩ := h.2.1 (d - 1) (by omega)
      rw [tnn, e1]
      exact ⟨by omega, by omega⟩
    · intro x11 h11 O2 hO2 W2 hW2
      rw [tn] at h11 hO2 hW2
      rw [tn] at hW2
      refine ⟨⟨by omega, by omega⟩, ?_⟩
      rw [sc]
      by_cases a : op k p
      · have a20 : ¬ k p = 20 := by omega
        rw [if_neg (io_y a)] at h11 hO2 hW2
        subst hO2 hW2
        rw [h11, sc]
        refine ih (p + 1) (d + 1) _ _ (by omega) ⟨by omega, fun s hs => ?_, fun j hj hoj => ?_, fun j hj hkj => ?_, fun j hj hoj hkj => ?_⟩
        · by_cases z : s = d
          · subst z
            refine ⟨p, up_at _ _ _, by omega, a, up_at _ _ _, ?_⟩
            unfold clo
            rw [show s + 1 - 1 - s = 0 by omega]
          · obtain ⟨w, e1, e2, e3, e4, e5⟩ := h.2.1 s (by omega)
            refine ⟨w, by rw [up_ne _ _ z]; exact e1, by omega, e3, by rw [up_ne _ _ (by omega)]; exact e4, ?_⟩
            rw [e5, hnp, cl_s, if_neg a20, if_pos a, show d - 1 - s + 1 = d + 1 - 1 - s by omega]
        · by_cases z : j = p
          · subst z
            exact Or.inl ⟨d, by omega, up_at _ _ _⟩
          · rcases h.2.2.1 j (by omega) hoj with ⟨s, h1, h2⟩ | h1
            · exact Or.inl ⟨s, by omega, by rw [up_ne _ _ (by omega)]; exact h2⟩
            · refine Or.inr ?_
              rw [up_ne _ _ z]
              exact ⟨h1.1, h1.2.1, by omega⟩
        · have z : j ≠ p := fun z => a20 (z ▸ hkj)
          rw [up_ne _ _ z]
          exact h.2.2.2.1 j (by omega) hkj
        · have z : j ≠ p := fun z => hoj (z ▸ a)
          rw [up_ne _ _ z]
          exact h.2.2.2.2 j (by omega) hoj hkj
      · rw [if_pos (io_n a)] at h11 hO2 hW2
        subst hW2
        by_cases b : k p = 20
        · rw [if_pos b] at h11 hO2
          by_cases c : d = 0
          · subst c
            rw [if_pos (by omega)] at h11 hO2
            subst hO2
            rw [h11]
            refine ih (p + 1) 0 _ _ (by omega) ⟨by omega, fun s hs => absurd hs (by omega), fun j hj hoj => ?_, fun j hj hkj => ?_, fun j hj hoj hkj => ?_⟩
            · have z : j ≠ p := fun z => a (z ▸ hoj)
              rcases h.2.2.1 j (by omega) hoj with ⟨s, h1, h2⟩ | h1
              · omega
              · refine Or.inr ?_
                rw [up_ne _ _ z]
                exact ⟨h1.1, h1.2.1, by omega⟩
            · by_cases z : j = p
              · subst z
                refine Or.inr ⟨up_at _ _ _, fun x hx ho => ?_⟩
                by_cases y : x < j
                · rcases h.2.2.1 x y ho with ⟨s, h1, h2⟩ | h1
                  · omega
                  · omega
                · exact hcp x (by omega) hx ho
              · rw [up_ne _ _ z]
                exact h.2.2.2.1 j (by omega) hkj
            · by_cases z : j = p
              · subst z
                exact up_at _ _ _
              · rw [up_ne _ _ z]
                exact h.2.2.2.2 j (by omega) hoj hkj
          · rw [if_neg (by omega)] at h11 hO2
            obtain ⟨w, e1, e2, e3, e4, e5⟩ := h.2.1 (d - 1) (by omega)
            rw [tnn, e1, tn] at hO2
            subst hO2
            rw [h11, show ((d : Int) + -1) = ((d - 1 : Nat) : Int) by omega]
            have ew : clo k n w = p := by
              rw [e5, hnp, cl_s, if_pos b, if_pos (by omega)]
            have hs2 : ∀ s, s < d - 1 → ∀ w2 : Nat, clo k n w2 = cl k (n - p) (d - 1 - s) p → clo k n w2 = cl k (n - (p + 1)) (d - 1 - 1 - s) (p + 1) := fun s hs w2 hw2 => by
              rw [hw2, hnp, cl_s, if_pos b, if_neg (by omega), show d - 1 - s - 1 = d - 1 - 1 - s by omega]
            have hOe : ∀ j, j ≠ p → j ≠ w → tw_up (tw_up (tw_up O p (-1)) w p) p w j = O j := fun j h1 h2 => by
              rw [up_ne _ _ h1, up_ne _ _ h2, up_ne _ _ h1]
            refine ih (p + 1) (d - 1) _ _ (by omega) ⟨by omega, fun s hs => ?_, fun j hj hoj => ?_, fun j hj hkj => ?_, fun j hj hoj hkj => ?_⟩
            · obtain ⟨v, f1, f2, f3, f4, f5⟩ := h.2.1 s (by omega)
              have f6 := hs2 s hs v f5
              have y : v ≠ w := fun y => by
                subst y
                exact hclp _ (f6.symm.trans ew)
              refine ⟨v, f1, by omega, f3, ?_, f6⟩
              rw [hOe v (by omega) y]
              exact f4
            · have z : j ≠ p := fun z => a (z ▸ hoj)
              rcases h.2.2.1 j (by omega) hoj with ⟨s, h1, h2⟩ | h1
              · by_cases y : s = d - 1
                · subst y
                  have : j = w := by omega
                  subst this
                  refine Or.inr ?_
                  rw [up_ne _ _ z, up_at]
                  exact ⟨ew, by omega, by omega⟩
                · exact Or.inl ⟨s, by omega, h2⟩
              · have y : j ≠ w := fun y => by
                  subst y
                  omega
                refine Or.inr ?_
                rw [hOe j z y]
                exact ⟨h1.1, h1.2.1, by omega⟩
            · by_cases z : j = p
              · subst z
                refine Or.inl ⟨w, up_at _ _ _, e2, e3, ew, fun x hx ho hcx => ?_⟩
                by_cases y : x < j
                · rcases h.2.2.1 x y ho with ⟨s, h1, h2⟩ | h1
                  · obtain ⟨v, f1, f2, f3, f4, f5⟩ := h.2.1 s h1
                    have : v = x := by omega
                    subst this
                    by_cases u : s = d - 1
                    · subst u
                      omega
                    · exact absurd ((hs2 s (by omega) v f5).symm.trans hcx) (hclp _)
                  · omega
                · exact absurd hcx (hcp x (by omega) hx ho)
              · have y : j ≠ w := fun y => by
                  subst y
                  omega
                rw [hOe j z y]
                exact h.2.2.2.1 j (by omega) hkj
            · have z : j ≠ p := fun z => hkj (z ▸ b)
              have y : j ≠ w := fun y => hoj (y ▸ e3)
              rw [hOe j z y]
              exact h.2.2.2.2 j (by omega) hoj hkj
        · rw [if_neg b] at h11 hO2
          subst hO2
          rw [h11]
          refine ih (p + 1) d _ _ (by omega) ⟨by omega, fun s hs => ?_, fun j hj hoj => ?_, fun j hj hkj => ?_, fun j hj hoj hkj => ?_⟩
          · obtain ⟨w, e1, e2, e3, e4, e5⟩ := h.2.1 s hs
            refine ⟨w, e1, by omega, e3, by rw [up_ne _ _ (by omega)]; exact e4, ?_⟩
            rw [e5, hnp, cl_s, if_neg b, if_neg a]
          · have z : j ≠ p := fun z => a (z ▸ hoj)
            rcases h.2.2.1 j (by omega) hoj with h1 | h1
            · exact Or.inl h1
            · refine Or.inr ?_
              rw [up_ne _ _ z]
              exact ⟨h1.1, h1.2.1, by omega⟩
          · have z : j ≠ p := fun z => b (z ▸ hkj)
            rw [up_ne _ _ z]
            exact h.2.2.2.1 j (by omega) hkj
          · by_cases z : j = p
            · subst z
              exact up_at _ _ _
            · rw [up_ne _ _ z]
              exact h.2.2.2.2 j (by omega) hoj hkj
theorem q_find {k O W : Nat → Int} {n : Nat} (hn : n ≤ 64) {K : (Nat → Int) → (Nat → Int) → Prop} (hK : ∀ O W : Nat → Int, (∀ j, j < n → O j = mt k n j) → K O W) : tww_ma_find k n O W K :=
  ⟨n + 1, p_find hn (X := fun a b => K a b) hK n 0 0 O W (by omega) ⟨by omega, fun s hs => absurd hs (by omega), fun j hj => absurd hj (by omega), fun j hj => absurd hj (by omega), fun j hj => absurd hj (by omega)⟩⟩
theorem p_clo {k : Nat → Int} {n : Nat} (hn : n ≤ 64) {K : Int → Prop} : ∀ (m d i : Nat), i + m = n → d ≤ i → K (cl k m d i) → twl_mo_closing_6 K (K (-1)) n k (m + 1) d i := by
  intro m
  induction m with
  | zero =>
    intro d i hi _ hK
    rw [twl_mo_closing_6]
    exact ⟨fun _ => hK, fun g => absurd (by omega) g⟩
  | succ m ih =>
    intro d i hi hd hK
    rw [twl_mo_closing_6]
    rw [cl_s] at hK
    refine ⟨fun g => absurd g (by omega), fun _ => ⟨⟨by omega, by omega⟩, fun J3 hJ3 => ?_⟩⟩
    rw [tn] at hJ3 ⊢
    by_cases b : k i = 20
    · rw [if_pos b] at hK
      refine ⟨fun _ => ⟨fun z => ?_, fun z => hJ3 ⟨⟨by omega, by omega⟩, fun y => absurd b y, fun x hx => ?_⟩⟩, fun y => absurd b y⟩
      · rw [if_pos (by omega)] at hK
        exact hK
      · rw [if_neg (by omega)] at hK
        rw [if_pos b] at hx
        refine ⟨⟨by omega, by omega⟩, ⟨by omega, by omega⟩, ?_⟩
        rw [hx, show ((d : Int) + -1) = ((d - 1 : Nat) : Int) by omega, sc]
        exact ih (d - 1) (i + 1) (by omega) (by omega) hK
    · rw [if_neg b] at hK
      refine ⟨fun y => absurd y b, fun _ => hJ3 ⟨⟨by omega, by omega⟩, fun _ => mo_k k (by omega), fun x hx => ?_⟩⟩
      rw [if_neg b] at hx
      by_cases a : op k i
      · rw [if_pos a] at hK
        rw [if_neg (mo_y a)] at hx
        refine ⟨⟨by omega, by omega⟩, ⟨by omega, by omega⟩, ?_⟩
        rw [hx, sc, sc]
        exact ih (d + 1) (i + 1) (by omega) (by omega) hK
      · rw [if_neg a] at hK
        rw [if_pos (mo_n a)] at hx
        refine ⟨⟨by omega, by omega⟩, ⟨by omega, by omega⟩, ?_⟩
        rw [hx, sc, Int.add_zero]
        exact ih d (i + 1) (by omega) (by omega) hK
theorem q_clo {k : Nat → Int} {n i : Nat} (hn : n ≤ 64) (hi : i < n) {K : Int → Prop} (hK : K (clo k n i)) : tww_mo_closing i n k K :=
  ⟨⟨by omega, by omega⟩, n - (i + 1) + 1, p_clo hn (n - (i + 1)) 0 (i + 1) (by omega) (by omega) hK⟩
theorem p_mm {k : Nat → Int} {n j : Nat} (hn : n ≤ 64) (hj : j < n) (h20 : k j = 20) {K : Int → Prop} (hK : K (fo k n j j)) : ∀ (m i : Nat), i + m = j → fo k n j i = -1 → twl_mo_match_30 K (K (-1)) j n k (m + 1) i := by
  intro m
  induction m with
  | zero =>
    intro i hi h
    rw [twl_mo_match_30]
    have : i = j := by omega
    subst this
    rw [h] at hK
    exact ⟨fun _ => hK, fun g => absurd (Int.le_refl _) g⟩
  | succ m ih =>
    intro i hi h
    rw [twl_mo_match_30]
    refine ⟨fun g => absurd g (by omega), fun _ => ⟨⟨by omega, by omega⟩, fun _ => ⟨mo_k k (by omega), fun J8 hJ8 => ?_⟩, fun g => absurd h20 g⟩⟩
    have j8 : ¬ (op k i ∧ clo k n i = j) → J8 := fun z => hJ8 (by
      refine ⟨⟨by omega, by omega⟩, ?_⟩
      rw [sc]
      refine ih (i + 1) (by omega) ?_
      rw [fo_s, if_neg (fun y => y h), if_neg z])
    refine ⟨fun g => j8 (fun z => mo_y z.1 g), fun g => q_clo hn (by omega) ⟨fun e => ?_, fun e => j8 (fun z => e z.2)⟩⟩
    have ho : op k i := Classical.byContradiction (fun z => g (mo_n z))
    have e2 : fo k n j (i + 1) = i := by rw [fo_s, if_neg (fun y => y h), if_pos ⟨ho, e⟩]
    have e3 : ∀ d, fo k n j (i + 1 + d) = i := by
      intro d
      induction d with
      | zero => exact e2
      | succ d ihd => rw [show i + 1 + (d + 1) = (i + 1 + d) + 1 by omega, fo_s, ihd, if_pos (by omega)]
    have e4 := e3 (j - (i + 1))
    rw [show i + 1 + (j - (i + 1)) = j by omega] at e4
    rw [← e4]
    exact hK
theorem q_mm {k : Nat → Int} {n j : Nat} (hn : n ≤ 64) (hj : j < n) {K : Int → Prop} (hK : K (mt k n j)) : tww_mo_match j n k K := by
  unfold mt at hK
  refine ⟨fun g => absurd g (by omega), fun _ => ⟨fun _ => ⟨mo_k k (by omega), fun g => ?_, fun g => ?_⟩, fun g => absurd (by omega) g⟩⟩
  · have a : ¬ op k j := fun z => mo_y z g
    rw [if_neg a] at hK
    by_cases b : k j = 20
    · rw [if_pos b] at hK
      exact ⟨j + 1, p_mm hn hj b hK j 0 (by omega) rfl⟩
    · rw [if_neg b] at hK
      by_cases z : j = 0
      · subst z
        refine ⟨1, ?_⟩
        rw [twl_mo_match_30]
        exact ⟨fun _ => hK, fun y => absurd (by omega) y⟩
      · refine ⟨1, ?_⟩
        rw [twl_mo_match_30]
        exact ⟨fun y => absurd y (by omega), fun _ => ⟨⟨by omega, by omega⟩, fun y => absurd y b, fun _ => hK⟩⟩
  · have a : op k j := Classical.byContradiction (fun z => g (mo_n z))
    rw [if_pos a] at hK
    exact q_clo hn hj hK
def dr (k : Nat → Int) (n : Nat) : Nat → Nat → Nat → Int
  | 0, _, _ => 0
  | m + 1, v, i => if v ≤ i then (if k i = 0 then 0 else if k i = 1 ∨ k i = 2 then 1 else if op k i then (if clo k n i = -1 then 0 else dr k n m (clo k n i + 1).toNat (i + 1)) else dr k n m v (i + 1)) else dr k n m v (i + 1)
theorem dr_s (k : Nat → Int) (n m v i : Nat) : dr k n (m + 1) v i = if v ≤ i then (if k i = 0 then 0 else if k i = 1 ∨ k i = 2 then 1 else if op k i then (if clo k n i = -1 then 0 else dr k n m (clo k n i + 1).toNat (i + 1)) else dr k n m v (i + 1)) else dr k n m v (i + 1) := rfl
theorem dr_01 (k : Nat → Int) (n : Nat) : ∀ m v i, dr k n m v i = 0 ∨ dr k n m v i = 1 := by
  intro m
  induction m with
  | zero => intro v i; exact Or.inl rfl
  | succ m ih =>
    intro v i
    rw [dr_s]
    repeat' split
    all_goals first | exact ih _ _ | exact Or.inl rfl | exact Or.inr rfl
theorem dr_le (k : Nat → Int) (n : Nat) : ∀ m v i, v ≤ i → dr k n m v i = dr k n m 0 i := by
  intro m
  induction m with
  | zero => intro v i _; rfl
  | succ m ih =>
    intro v i h
    rw [dr_s, dr_s, if_pos h, if_pos (Nat.zero_le _), ih v (i + 1) (by omega)]
theorem dr_skip (k : Nat → Int) (n : Nat) : ∀ m v i, i ≤ v → dr k n m v i = if v < i + m then dr k n (i + m - v) 0 v else 0 := by
  intro m
  induction m with
  | zero => intro v i h; rw [if_neg (by omega)]; rfl
  | succ m ih =>
    intro v i h
    by_cases z : v = i
    · subst z
      rw [dr_le k n (m + 1) v v (Nat.le_refl _), if_pos (by omega), show v + (m + 1) - v = m + 1 by omega]
    · rw [dr_s, if_neg (by omega), ih v (i + 1) (by omega), show i + 1 + m = i + (m + 1) by omega]
theorem p_dir {k O : Nat → Int} {n e : Nat} (hn : n ≤ 64) (he : e ≤ n) (hO : ∀ j, j < n → op k j → O j = clo k n j) {K : Int → Prop} : ∀ (m v i : Nat), i + m = e → K (dr k n m v i) → twl_ma_direction_6 K (K 0) e k O (m + 1) v i := by
  intro m
  induction m with
  | zero =>
    intro v i hi hK
    rw [twl_ma_direction_6]
    exact ⟨fun _ => hK, fun g => absurd (by omega) g⟩
  | succ m ih =>
    intro v i hi hK
    rw [twl_ma_direction_6]
    rw [dr_s] at hK
    refine ⟨fun g => absurd g (by omega), fun _ J2 hJ2 => ?_⟩
    have j2 : ∀ x : Nat, K (dr k n m x (i + 1)) → J2 x := fun x hx => hJ2 x (by
      refine ⟨⟨by omega, by omega⟩, ?_⟩
      rw [sc]
      exact ih x (i + 1) (by omega) hx)
    refine ⟨fun g => ⟨⟨by omega, by omega⟩, ?_⟩, fun g => ?_⟩
    · rw [if_pos (by omega)] at hK
      rw [tn]
      refine ⟨fun a => ?_, fun a => ⟨fun b => ?_, fun b => ⟨fun c => ?_, fun c => ?_⟩⟩⟩
      · rw [if_pos a] at hK
        exact hK
      · rw [if_neg a, if_pos (Or.inl b)] at hK
        exact hK
      · rw [if_neg a, if_pos (Or.inr c)] at hK
        exact hK
      · rw [if_neg a, if_neg (by omega)] at hK
        by_cases d : op k i
        · rw [if_pos d] at hK
          refine ⟨fun y => absurd y (io_y d), fun _ => ⟨⟨by omega, by omega⟩, ?_⟩⟩
          rw [hO i (by omega) d]
          rcases clo_b (k := k) (n := n) (i := i) (by omega) with z | ⟨j, z, h1, h2, _⟩
          · rw [if_pos z] at hK
            exact ⟨fun _ => hK, fun y => absurd z y⟩
          · rw [if_neg (by omega), z, tn1] at hK
            rw [z]
            refine ⟨fun y => absurd y (by omega), fun _ => ⟨⟨by omega, by omega⟩, ⟨by omega, by omega⟩, ?_⟩⟩
            rw [sc]
            exact j2 (j + 1) hK
        · rw [if_neg d] at hK
          exact ⟨fun _ => j2 v hK, fun y => absurd (io_n d) y⟩
    · rw [if_neg (by omega)] at hK
      exact j2 v hK
theorem q_dir {k O : Nat → Int} {n a e : Nat} (hn : n ≤ 64) (ha : a ≤ e) (he : e ≤ n) (hO : ∀ j, j < n → op k j → O j = clo k n j) {K : Int → Prop} (hK : K (dr k n (e - a) 0 a)) : tww_ma_direction a e k O K :=
  ⟨e - a + 1, p_dir hn he hO (e - a) a a (by omega) (by rw [dr_le k n _ a a (Nat.le_refl _)]; exact hK)⟩
theorem p_mdir {k : Nat → Int} {n e : Nat} (hn : n ≤ 64) (he : e ≤ n) (hk : ∀ j, j < n → 0 ≤ k j) {K : Int → Prop} : ∀ (f i : Nat), e - i ≤ f → i ≤ n → K (dr k n (e - i) 0 i) → twl_mo_direction_2 K (fun (y13 : Int) => (0 ≤ y13 ∧ y13 < 64) ∧ (((k (Int.toNat y13)) = 0 → K 0) ∧ (¬ (k (Int.toNat y13)) = 0 → K 1))) (K 0) e n k (f + 1) i := by
  intro f
  induction f with
  | zero =>
    intro i hi _ hK
    rw [twl_mo_direction_2]
    rw [show e - i = 0 by omega] at hK
    exact ⟨fun _ => hK, fun g => absurd (by omega) g⟩
  | succ f ih =>
    intro i hi hin hK
    rw [twl_mo_direction_2]
    by_cases q : e ≤ i
    · rw [show e - i = 0 by omega] at hK
      exact ⟨fun _ => hK, fun g => absurd (by omega) g⟩
    · refine ⟨fun g => absurd g (by omega), fun _ => ⟨⟨by omega, by omega⟩, ?_⟩⟩
      rw [show e - i = (e - (i + 1)) + 1 by omega, dr_s, if_pos (Nat.zero_le _)] at hK
      have := hk i (by omega)
      rw [tn]
      refine ⟨fun c => ⟨mo_k k (by omega), fun J6 hJ6 => ?_⟩, fun c => ⟨⟨by omega, by omega⟩, ?_⟩⟩
      · rw [if_neg (by omega), if_neg (by omega)] at hK
        have j6 : ∀ x : Nat, i ≤ x → x < n → K (dr k n (e - (x + 1)) 0 (x + 1)) → J6 x := fun x h1 h2 hx => hJ6 x (by
          refine ⟨⟨by omega, by omega⟩, ?_⟩
          rw [sc]
          exact ih (x + 1) (by omega) (by omega) hx)
        by_cases d : op k i
        · rw [if_pos d] at hK
          refine ⟨fun y => absurd y (mo_y d), fun _ => q_clo hn (by omega) ?_⟩
          rcases clo_b (k := k) (n := n) (i := i) (by omega) with z | ⟨j, z, h1, h2, _⟩
          · rw [if_pos z] at hK
            exact ⟨fun y => absurd y (by omega), fun _ => hK⟩
          · rw [if_neg (by omega), z, tn1, dr_skip k n _ (j + 1) (i + 1) (by omega)] at hK
            rw [z]
            refine ⟨fun _ => j6 j (by omega) h2 ?_, fun y => absurd (by omega) y⟩
            by_cases w : j + 1 < e
            · rw [if_pos (by omega), show i + 1 + (e - (i + 1)) - (j + 1) = e - (j + 1) by omega] at hK
              exact hK
            · rw [if_neg (by omega)] at hK
              rw [show e - (j + 1) = 0 by omega]
              exact hK
        · rw [if_neg d] at hK
          exact ⟨fun _ => j6 i (Nat.le_refl _) (by omega) hK, fun y => absurd (mo_n d) y⟩
      · refine ⟨fun a => ?_, fun a => ?_⟩
        · rw [if_pos a] at hK
          exact hK
        · rw [if_neg a, if_pos (by omega)] at hK
          exact hK
theorem q_mdir {k : Nat → Int} {n a e : Nat} (hn : n ≤ 64) (ha : a ≤ n) (he : e ≤ n) (hk : ∀ j, j < n → 0 ≤ k j) {K : Int → Prop} (hK : K (dr k n (e - a) 0 a)) : tww_mo_direction a e n k K :=
  ⟨e - a + 1, p_mdir hn he hk (e - a) a (Nat.le_refl _) ha hK⟩
