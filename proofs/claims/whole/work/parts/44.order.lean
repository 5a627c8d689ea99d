/-! pure: the passes over a line -/
def qn (lv o : Nat → Int) (c : Int) : Nat → Bool := fun j => decide (c ≤ lv (Int.toNat (o j)))
theorem qn_t {lv o : Nat → Int} {c : Int} {j : Nat} (h : c ≤ lv (Int.toNat (o j))) : qn lv o c j = true := decide_eq_true h
theorem qn_f {lv o : Nat → Int} {c : Int} {j : Nat} (h : ¬ c ≤ lv (Int.toNat (o j))) : qn lv o c j = false := decide_eq_false h
theorem rvd_ge {q : Nat → Bool} {a b x : Nat} {o : Nat → Int} {j : Nat} (h : x ≤ j) : rvd q a b o x j = o j := by
  unfold rvd
  rw [if_neg (by omega)]
theorem p_rows {lv o : Nat → Int} {a b : Nat} {c : Int} (hb : b ≤ 64) (ho : ∀ j, a ≤ j → j < b → 0 ≤ o j ∧ o j < 64) {X : (Nat → Int) → Prop} (hX : X (sp_rv (qn lv o c) a b o)) : ∀ (m y x : Nat), y + m = b + 1 → (y = b + 1 → x = b + 1) → a ≤ x → x ≤ y → (x ≤ b → x = a ∨ qn lv o c (x - 1) = false) → (∀ i, x ≤ i → i < y → qn lv o c i = true) → twl_sh_turnRows_6 X b c lv (m + 1) x y (rvd (qn lv o c) a b o x) := by
  intro m
  induction m with
  | zero =>
    intro y x hy h1 h2 h3 h4 h5
    rw [twl_sh_turnRows_6]
    refine ⟨fun _ => ?_, fun h => absurd (by omega) h⟩
    rw [rvd_end _ _ _ _ (by omega)]
    exact hX
  | succ m ih =>
    intro y x hy h1 h2 h3 h4 h5
    rw [twl_sh_turnRows_6]
    refine ⟨fun h => absurd h (by omega), fun _ J3 hJ3 J5 hJ5 => ?_⟩
    have j5 : (y = b ∨ qn lv o c y = false) → J5 := fun d => hJ5 (by
      refine ⟨⟨by omega, by omega⟩, q_turn (by omega) (by omega) ⟨⟨by omega, by omega⟩, hJ3 _ _ ⟨⟨by omega, by omega⟩, ?_⟩⟩⟩
      rw [rvd_turn h2 h3 (by omega) (h4 (by omega)) d h5, rvd_skip (d.imp (fun e => by omega) id), sc]
      exact ih (y + 1) (y + 1) (by omega) (fun e => e) (by omega) (Nat.le_refl _) (fun e => Or.inr (d.elim (fun z => absurd z (by omega)) id)) (fun i h6 h7 => absurd h6 (by omega)))
    refine ⟨fun d => j5 (Or.inl (by omega)), fun d => ?_⟩
    have h6 := ho y (by omega) (by omega)
    rw [tn, rvd_ge h3]
    refine ⟨⟨by omega, by omega⟩, h6, fun e => hJ3 _ _ ⟨⟨by omega, by omega⟩, ?_⟩, fun e => j5 (Or.inr (qn_f e))⟩
    rw [sc]
    refine ih (y + 1) x (by omega) (fun e2 => absurd e2 (by omega)) h2 (by omega) h4 (fun i h7 h8 => ?_)
    by_cases z : i = y
    · rw [z]; exact qn_t e
    · exact h5 i h7 (by omega)
theorem q_rows {lv o : Nat → Int} {a b : Nat} {c : Int} (hab : a ≤ b) (hb : b ≤ 64) (ho : ∀ j, a ≤ j → j < b → 0 ≤ o j ∧ o j < 64) {K : (Nat → Int) → Prop} (hK : K (sp_rv (qn lv o c) a b o)) : tww_sh_turnRows a b c lv o K := by
  refine ⟨b + 1 - a + 1, ?_⟩
  have := p_rows (X := fun y => K y) hb ho hK (b + 1 - a) a a (by omega) (fun e => by omega) (Nat.le_refl _) (Nat.le_refl _) (fun _ => Or.inl rfl) (fun i h1 h2 => absurd h1 (by omega))
  rw [rvd_0] at this
  exact this
theorem p_mrow {lv o : Nat → Int} {a b x : Nat} {c : Int} (hx : a ≤ x) (hb : b ≤ 64) (ho : ∀ j, a ≤ j → j < b → 0 ≤ o j ∧ o j < 64) {X : Int → Prop} {v5 ro : Int} {k re : Nat → Int} (hX : ∀ y, x ≤ y → y ≤ b → (∀ i, x ≤ i → i < y → qn lv o c i = true) → (y = b ∨ qn lv o c y = false) → X (y : Int)) : ∀ (m y : Nat), y + m = b → x ≤ y → (∀ i, x ≤ i → i < y → qn lv o c i = true) → twl_mo_showLine_134 X a b c v5 k ro re lv (rvd (qn lv o c) a b o x) (m + 1) y := by
  intro m
  induction m with
  | zero =>
    intro y hy h1 h2
    rw [twl_mo_showLine_134]
    exact ⟨fun _ => hX y h1 (by omega) h2 (Or.inl (by omega)), fun h => absurd (by omega) h⟩
  | succ m ih =>
    intro y hy h1 h2
    rw [twl_mo_showLine_134]
    have h6 := ho y (by omega) (by omega)
    refine ⟨fun h => absurd h (by omega), fun _ => ?_⟩
    rw [tn, rvd_ge h1]
    refine ⟨⟨by omega, by omega⟩, h6, fun e => hX y h1 (by omega) h2 (Or.inr (qn_f (by omega))), fun e => ⟨⟨by omega, by omega⟩, ?_⟩⟩
    rw [sc]
    refine ih (y + 1) (by omega) (by omega) (fun i h7 h8 => ?_)
    by_cases z : i = y
    · rw [z]; exact qn_t (by omega)
    · exact h2 i h7 (by omega)
theorem p_mrows {lv o : Nat → Int} {a b : Nat} {c : Int} (hb : b ≤ 64) (ho : ∀ j, a ≤ j → j < b → 0 ≤ o j ∧ o j < 64) {X : (Nat → Int) → Prop} {ro : Int} {k re : Nat → Int} (hX : X (sp_rv (qn lv o c) a b o)) : ∀ (m x : Nat), b - x ≤ m → a ≤ x → x ≤ b → ((x = a ∨ qn lv o c (x - 1) = false) ∨ x = b ∨ qn lv o c x = false) → twl_mo_showLine_124 X a b c k ro re lv (m + 1) x (rvd (qn lv o c) a b o x) := by
  intro m
  induction m with
  | zero =>
    intro x h1 h2 h3 h4
    rw [twl_mo_showLine_124]
    refine ⟨fun _ => ?_, fun h => absurd (by omega) h⟩
    rw [rvd_end _ _ _ _ (by omega)]
    exact hX
  | succ m ih =>
    intro x h1 h2 h3 h4
    rw [twl_mo_showLine_124]
    refine ⟨fun h => ?_, fun h => ⟨b - x + 1, p_mrow h2 hb ho (fun y h5 h6 h7 h8 => ⟨⟨by omega, by omega⟩, q_mturn h5 (by omega) ⟨fun _ => ⟨by omega, by omega⟩, fun x38 e38 => ?_⟩⟩) (b - x) x (by omega) (Nat.le_refl _) (fun i h5 h6 => absurd h5 (by omega))⟩⟩
    · rw [rvd_end _ _ _ _ (by omega)]
      exact hX
    · by_cases d : y = x
      · subst d
        have hqx : qn lv o c y = false := h8.elim (fun z => absurd z (by omega)) id
        rw [e38, if_pos (Int.le_refl _), sc]
        have e : sp_v (rvd (qn lv o c) a b o y) y y = rvd (qn lv o c) a b o y := by
          funext j
          unfold sp_v
          rw [if_neg (by omega)]
        rw [e, rvd_skip (Or.inr hqx)]
        exact ih (y + 1) (by omega) (by omega) (by omega) (Or.inl (Or.inr hqx))
      · have hqx : qn lv o c x = true := h7 x (Nat.le_refl _) (by omega)
        have h9 : x = a ∨ qn lv o c (x - 1) = false := by
          rcases h4 with h | h | h
          · exact h
          · omega
          · rw [h] at hqx; cases hqx
        rw [e38, if_neg (by omega), rvd_turn h2 h5 h6 h9 h8 h7]
        exact ih y (by omega) (by omega) h6 (Or.inr h8)
theorem lo_b (q : Nat → Bool) (a : Nat) : ∀ j, a ≤ j → a ≤ sp_lo q a j ∧ sp_lo q a j ≤ j := by
  intro j
  induction j with
  | zero => intro h; simp only [sp_lo]; omega
  | succ j ih =>
    intro h
    simp only [sp_lo]
    split
    · next hc =>
      have := ih hc.1
      omega
    · omega
theorem hi_b (q : Nat → Bool) (b : Nat) : ∀ f j, j < b → j ≤ sp_hi q b f j ∧ sp_hi q b f j < b := by
  intro f
  induction f with
  | zero => intro j h; simp only [sp_hi]; omega
  | succ f ih =>
    intro j h
    simp only [sp_hi]
    split
    · next hc =>
      have := ih (j + 1) hc.1
      omega
    · omega
theorem lo_c {q q' : Nat → Bool} {a b : Nat} (h : ∀ i, a ≤ i → i < b → q i = q' i) : ∀ j, j ≤ b → sp_lo q a j = sp_lo q' a j := by
  intro j
  induction j with
  | zero => intro _; rfl
  | succ j ih =>
    intro hj
    simp only [sp_lo]
    by_cases c : a ≤ j
    · rw [h j c (by omega), ih (by omega)]
    · rw [if_neg (fun z => c z.1), if_neg (fun z => c z.1)]
theorem hi_c {q q' : Nat → Bool} {a b : Nat} (h : ∀ i, a ≤ i → i < b → q i = q' i) : ∀ f j, a ≤ j → sp_hi q b f j = sp_hi q' b f j := by
  intro f
  induction f with
  | zero => intro j _; rfl
  | succ f ih =>
    intro j hj
    simp only [sp_hi]
    by_cases c : j + 1 < b
    · rw [h (j + 1) (by omega) c, ih (j + 1) (by omega)]
    · rw [if_neg (fun z => c z.1), if_neg (fun z => c z.1)]
theorem rv_at {q : Nat → Bool} {a b : Nat} {j : Nat} (h1 : a ≤ j) (h2 : j < b) : ∃ i, a ≤ i ∧ i < b ∧ ∀ o : Nat → Int, sp_rv q a b o j = o i := by
  by_cases c : q j = true
  · have := lo_b q a j h1
    have := hi_b q b (b - j) j h2
    exact ⟨sp_lo q a j + sp_hi q b (b - j) j - j, by omega, by omega, fun o => by unfold sp_rv; rw [if_pos ⟨h1, h2, c⟩]⟩
  · exact ⟨j, h1, h2, fun o => rv_out (Or.inr (Or.inr (by simpa using c)))⟩
theorem rv_c {q q' : Nat → Bool} {a b : Nat} {o o' : Nat → Int} (h : ∀ i, a ≤ i → i < b → q i = q' i) (ho : ∀ i, a ≤ i → i < b → o i = o' i) {j : Nat} (h1 : a ≤ j) (h2 : j < b) : sp_rv q a b o j = sp_rv q' a b o' j := by
  have e : sp_rv q a b o j = sp_rv q' a b o j := by
    unfold sp_rv
    rw [h j h1 h2, lo_c h j (by omega), hi_c h (b - j) j h1]
  obtain ⟨i, h3, h4, h5⟩ := rv_at (q := q') h1 h2
  rw [e, h5, h5]
  exact ho i h3 h4
/-- the passes from c down to 1 -/
def sp_or (lv : Nat → Int) (a b : Nat) : Nat → (Nat → Int) → (Nat → Int)
  | 0, o => o
  | c + 1, o => sp_or lv a b c (sp_rv (qn lv o ((c + 1 : Nat) : Int)) a b o)
theorem or_out {lv : Nat → Int} {a b j : Nat} (h : j < a ∨ b ≤ j) : ∀ c o, sp_or lv a b c o j = o j := by
  intro c
  induction c with
  | zero => intro o; rfl
  | succ c ih =>
    intro o
    simp only [sp_or]
    rw [ih]
    exact rv_out (h.imp id Or.inl)
theorem or_c {lv lv' : Nat → Int} {a b : Nat} (hl : ∀ i, a ≤ i → i < b → lv i = lv' i) : ∀ c (o o' : Nat → Int), (∀ i, a ≤ i → i < b → o i = o' i) → (∀ i, a ≤ i → i < b → (a : Int) ≤ o i ∧ o i < b) → ∀ j, a ≤ j → j < b → sp_or lv a b c o j = sp_or lv' a b c o' j := by
  intro c
  induction c with
  | zero => intro o o' h _ j h1 h2; exact h j h1 h2
  | succ c ih =>
    intro o o' h hr j h1 h2
    simp only [sp_or]
    refine ih _ _ (fun i h3 h4 => rv_c (fun i h5 h6 => ?_) h h3 h4) (fun i h3 h4 => ?_) j h1 h2
    · have := hr i h5 h6
      unfold qn
      rw [← h i h5 h6, hl _ (by omega) (by omega)]
    · obtain ⟨i', h5, h6, h7⟩ := rv_at (q := qn lv o ((c + 1 : Nat) : Int)) h3 h4
      rw [h7]
      exact hr i' h5 h6
theorem or_top {lv : Nat → Int} {a b h : Nat} {o : Nat → Int} (hl : ∀ j, a ≤ j → j < b → lv (Int.toNat (o j)) ≤ h) : ∀ c, h ≤ c → sp_or lv a b c o = sp_or lv a b h o := by
  intro c
  induction c with
  | zero => intro hc; rw [show h = 0 by omega]
  | succ c ih =>
    intro hc
    by_cases d : h = c + 1
    · rw [d]
    · have e : sp_rv (qn lv o ((c + 1 : Nat) : Int)) a b o = o := by
        funext j
        by_cases d2 : a ≤ j ∧ j < b
        · exact rv_out (Or.inr (Or.inr (qn_f (by have := hl j d2.1 d2.2; omega))))
        · exact rv_out (by omega)
      simp only [sp_or]
      rw [e]
      exact ih (by omega)
theorem p_ord {lv : Nat → Int} {a b : Nat} (hab : a ≤ b) (hb : b ≤ 64) {X : (Nat → Int) → Prop} : ∀ (c : Nat) (o : Nat → Int), c ≤ 64 → (∀ i, a ≤ i → i < b → (a : Int) ≤ o i ∧ o i < b) → X (sp_or lv a b c o) → twl_sh_setOrder_41 X a b lv (c + 1) c o := by
  intro c
  induction c with
  | zero =>
    intro o _ _ hX
    rw [twl_sh_setOrder_41]
    exact ⟨fun _ => hX, fun h => absurd (by omega) h⟩
  | succ c ih =>
    intro o hc hr hX
    rw [twl_sh_setOrder_41]
    refine ⟨fun h => absurd h (by omega), fun _ => q_rows hab hb (fun j h1 h2 => ?_) ⟨⟨by omega, by omega⟩, ?_⟩⟩
    · have := hr j h1 h2
      omega
    · rw [show (((c + 1 : Nat) : Int) + -1) = (c : Int) by omega]
      refine ih _ (by omega) (fun i h3 h4 => ?_) hX
      obtain ⟨i', h5, h6, h7⟩ := rv_at (q := qn lv o ((c + 1 : Nat) : Int)) h3 h4
      rw [h7]
      exact hr i' h5 h6
theorem p_mord {lv : Nat → Int} {a b : Nat} (hab : a ≤ b) (hb : b ≤ 64) {X : (Nat → Int) → Prop} {ro : Int} {k re : Nat → Int} : ∀ (c : Nat) (o : Nat → Int), c ≤ 64 → (∀ i, a ≤ i → i < b → (a : Int) ≤ o i ∧ o i < b) → X (sp_or lv a b c o) → twl_mo_showLine_115 X a b k ro re lv (c + 1) c o := by
  intro c
  induction c with
  | zero =>
    intro o _ _ hX
    rw [twl_mo_showLine_115]
    exact ⟨fun _ => hX, fun h => absurd (by omega) h⟩
  | succ c ih =>
    intro o hc hr hX
    rw [twl_mo_showLine_115]
    refine ⟨fun h => absurd h (by omega), fun _ => ⟨b - a + 1, ?_⟩⟩
    have := p_mrows (lv := lv) (o := o) (a := a) (b := b) (c := ((c + 1 : Nat) : Int)) (k := k) (ro := ro) (re := re) (X := fun y => tw_rg (((c + 1 : Nat) : Int) + -1) ∧ twl_mo_showLine_115 X a b k ro re lv (c + 1) (((c + 1 : Nat) : Int) + -1) y) hb (fun j h1 h2 => by have := hr j h1 h2; omega) (by
      refine ⟨⟨by omega, by omega⟩, ?_⟩
      rw [show (((c + 1 : Nat) : Int) + -1) = (c : Int) by omega]
      refine ih _ (by omega) (fun i h3 h4 => ?_) hX
      obtain ⟨i', h5, h6, h7⟩ := rv_at (q := qn lv o ((c + 1 : Nat) : Int)) h3 h4
      rw [h7]
      exact hr i' h5 h6) (b - a) a (Nat.le_refl _) (Nat.le_refl _) hab (Or.inl (Or.inl rfl))
    rw [rvd_0] at this
    exact this
