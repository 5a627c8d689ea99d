/-! pure: turning rows -/
def sp_v (o : Nat → Int) (x y : Nat) : Nat → Int := fun j => if x ≤ j ∧ j < y then o (x + y - 1 - j) else o j
def tv (o : Nat → Int) (x y i : Nat) : Nat → Int := fun j => if (x ≤ j ∧ j < x + i) ∨ (y - i ≤ j ∧ j < y) then o (x + y - 1 - j) else o j
theorem tv_0 (o : Nat → Int) (x y : Nat) : tv o x y 0 = o := by
  funext j
  unfold tv
  rw [if_neg (by omega)]
theorem tv_end (o : Nat → Int) {x y : Nat} (h : x ≤ y) : tv o x y ((y - x) / 2) = sp_v o x y := by
  funext j
  unfold tv sp_v
  by_cases c : x ≤ j ∧ j < y
  · rw [if_pos c]
    by_cases c2 : (x ≤ j ∧ j < x + (y - x) / 2) ∨ (y - (y - x) / 2 ≤ j ∧ j < y)
    · rw [if_pos c2]
    · rw [if_neg c2]
      congr 1
      omega
  · rw [if_neg c, if_neg (by omega)]
theorem tv_s (o : Nat → Int) {x y i : Nat} (h : x ≤ y) (hi : i < (y - x) / 2) : tw_up (tw_up (tv o x y i) (x + i) (tv o x y i (y - 1 - i))) (y - 1 - i) (tv o x y i (x + i)) = tv o x y (i + 1) := by
  have e1 : tv o x y i (y - 1 - i) = o (y - 1 - i) := by unfold tv; rw [if_neg (by omega)]
  have e2 : tv o x y i (x + i) = o (x + i) := by unfold tv; rw [if_neg (by omega)]
  rw [e1, e2]
  funext j
  by_cases c1 : j = y - 1 - i
  · rw [c1, up_at]
    unfold tv
    rw [if_pos (Or.inr (by omega))]
    congr 1
    omega
  · rw [up_ne _ _ c1]
    by_cases c2 : j = x + i
    · rw [c2, up_at]
      unfold tv
      rw [if_pos (Or.inl (by omega))]
      congr 1
      omega
    · rw [up_ne _ _ c2]
      unfold tv
      by_cases c3 : (x ≤ j ∧ j < x + i) ∨ (y - i ≤ j ∧ j < y)
      · rw [if_pos c3, if_pos (by omega)]
      · rw [if_neg c3, if_neg (by omega)]
theorem p_turn {o : Nat → Int} {x y : Nat} (h : x ≤ y) (hy : y ≤ 64) {X : (Nat → Int) → Prop} (hX : X (sp_v o x y)) : ∀ m i, i + m = (y - x) / 2 → twl_sh_turn_11 X x ((y : Int) - 1) (((y - x) / 2 : Nat) : Int) (m + 1) i (tv o x y i) := by
  intro m
  induction m with
  | zero =>
    intro i him
    rw [twl_sh_turn_11]
    refine ⟨fun _ => ?_, fun h => absurd (by omega) h⟩
    rw [show i = (y - x) / 2 by omega, tv_end o h]
    exact hX
  | succ m ih =>
    intro i him
    rw [twl_sh_turn_11]
    refine ⟨fun h => absurd h (by omega), fun _ => ⟨⟨by omega, by omega⟩, ⟨by omega, by omega⟩, ⟨by omega, by omega⟩, ⟨by omega, by omega⟩, ⟨by omega, by omega⟩, ⟨by omega, by omega⟩, ⟨by omega, by omega⟩, ⟨by omega, by omega⟩, ⟨by omega, by omega⟩, ?_⟩⟩
    rw [show Int.toNat ((x : Int) + (i : Int)) = x + i by omega, show Int.toNat ((y : Int) - 1 - (i : Int)) = y - 1 - i by omega, tv_s o h (by omega), sc]
    exact ih (i + 1) (by omega)
theorem q_turn {o : Nat → Int} {x y : Nat} (h : x ≤ y) (hy : y ≤ 64) {K : (Nat → Int) → Prop} (hK : K (sp_v o x y)) : tww_sh_turn x ((y : Int) - 1) o K := by
  refine ⟨⟨by omega, by omega⟩, ⟨by omega, by omega⟩, by omega, (y - x) / 2 + 1, ?_⟩
  have := p_turn (X := fun y => K y) h hy hK ((y - x) / 2) 0 (by omega)
  rw [tv_0] at this
  rw [show (((y : Int) - 1 - (x : Int)) + 1) / 2 = (((y - x) / 2 : Nat) : Int) by omega]
  exact this
theorem p_mturn {o : Nat → Int} {x y : Nat} (h : x ≤ y) (hy : y ≤ 64) {X : (Nat → Int) → Prop} (hX : X (sp_v o x y)) : ∀ m i, i + m = (y - x) / 2 → twl_mo_turn_5 X (m + 1) ((x : Int) + (i : Int)) ((y : Int) - 1 - (i : Int)) (tv o x y i) := by
  intro m
  induction m with
  | zero =>
    intro i him
    rw [twl_mo_turn_5]
    refine ⟨fun _ => ?_, fun h => absurd (by omega) h⟩
    rw [show i = (y - x) / 2 by omega, tv_end o h]
    exact hX
  | succ m ih =>
    intro i him
    rw [twl_mo_turn_5]
    refine ⟨fun h => absurd h (by omega), fun _ => ⟨⟨by omega, by omega⟩, ⟨by omega, by omega⟩, ⟨by omega, by omega⟩, ⟨by omega, by omega⟩, ⟨by omega, by omega⟩, ⟨by omega, by omega⟩, ?_⟩⟩
    rw [show Int.toNat ((x : Int) + (i : Int)) = x + i by omega, show Int.toNat ((y : Int) - 1 - (i : Int)) = y - 1 - i by omega, tv_s o h (by omega)]
    have := ih (i + 1) (by omega)
    rw [show ((x : Int) + ((i + 1 : Nat) : Int)) = (x : Int) + (i : Int) + 1 by omega, show ((y : Int) - 1 - ((i + 1 : Nat) : Int)) = (y : Int) - 1 - (i : Int) + -1 by omega] at this
    exact this
theorem q_mturn {o : Nat → Int} {x y : Nat} (h : x ≤ y) (hy : y ≤ 64) {K : (Nat → Int) → Prop} (hK : K (sp_v o x y)) : tww_mo_turn x ((y : Int) - 1) o K := by
  refine ⟨(y - x) / 2 + 1, ?_⟩
  have := p_mturn (X := fun y => K y) h hy hK ((y - x) / 2) 0 (by omega)
  rw [tv_0, show ((x : Int) + ((0 : Nat) : Int)) = (x : Int) by omega, show ((y : Int) - 1 - ((0 : Nat) : Int)) = (y : Int) - 1 by omega] at this
  exact this
/-- rows: where q holds, each whole row is turned -/
def sp_lo (q : Nat → Bool) (a : Nat) : Nat → Nat
  | 0 => 0
  | j + 1 => if a ≤ j ∧ q j = true then sp_lo q a j else j + 1
def sp_hi (q : Nat → Bool) (b : Nat) : Nat → Nat → Nat
  | 0, j => j
  | f + 1, j => if j + 1 < b ∧ q (j + 1) = true then sp_hi q b f (j + 1) else j
def sp_rv (q : Nat → Bool) (a b : Nat) (o : Nat → Int) : Nat → Int := fun j => if a ≤ j ∧ j < b ∧ q j = true then o (sp_lo q a j + sp_hi q b (b - j) j - j) else o j
theorem lo_eq {q : Nat → Bool} {a x : Nat} (hx : a ≤ x) (hb : x = a ∨ q (x - 1) = false) : ∀ j, x ≤ j → (∀ i, x ≤ i → i < j → q i = true) → sp_lo q a j = x := by
  intro j
  induction j with
  | zero => intro h _; simp only [sp_lo]; omega
  | succ j ih =>
    intro h h2
    simp only [sp_lo]
    by_cases c : x = j + 1
    · rw [if_neg]
      · omega
      · rintro ⟨h3, h4⟩
        rcases hb with h5 | h5
        · omega
        · rw [show x - 1 = j by omega] at h5
          rw [h5] at h4
          cases h4
    · rw [if_pos ⟨by omega, h2 j (by omega) (by omega)⟩]
      exact ih (by omega) (fun i h3 h4 => h2 i h3 (by omega))
theorem hi_eq {q : Nat → Bool} {b y : Nat} (hy : y < b) (hb : y + 1 = b ∨ q (y + 1) = false) : ∀ f j, j ≤ y → y - j ≤ f → (∀ i, j < i → i ≤ y → q i = true) → sp_hi q b f j = y := by
  intro f
  induction f with
  | zero => intro j h1 h2 _; simp only [sp_hi]; omega
  | succ f ih =>
    intro j h1 h2 h3
    simp only [sp_hi]
    by_cases c : j = y
    · rw [if_neg]
      · exact c
      · rintro ⟨h4, h5⟩
        subst c
        rcases hb with h6 | h6
        · omega
        · rw [h6] at h5
          cases h5
    · rw [if_pos ⟨by omega, h3 (j + 1) (by omega) (by omega)⟩]
      exact ih (j + 1) (by omega) (by omega) (fun i h4 h5 => h3 i (by omega) h5)
theorem rv_in {q : Nat → Bool} {a b x y : Nat} {o : Nat → Int} (hx : a ≤ x) (hy : y ≤ b) (hbx : x = a ∨ q (x - 1) = false) (hby : y = b ∨ q y = false) (hq : ∀ i, x ≤ i → i < y → q i = true) {j : Nat} (h1 : x ≤ j) (h2 : j < y) : sp_rv q a b o j = o (x + y - 1 - j) := by
  unfold sp_rv
  rw [if_pos ⟨by omega, by omega, hq j h1 h2⟩, lo_eq hx hbx j h1 (fun i h3 h4 => hq i h3 (by omega)), hi_eq (y := y - 1) (by omega) (by rw [show y - 1 + 1 = y by omega]; exact hby) (b - j) j (by omega) (by omega) (fun i h3 h4 => hq i (by omega) (by omega))]
  congr 1
  omega
theorem rv_out {q : Nat → Bool} {a b : Nat} {o : Nat → Int} {j : Nat} (h : j < a ∨ b ≤ j ∨ q j = false) : sp_rv q a b o j = o j := by
  unfold sp_rv
  rw [if_neg]
  rintro ⟨h1, h2, h3⟩
  rcases h with h | h | h
  · omega
  · omega
  · rw [h] at h3; cases h3
/-- behind a row that ends at y: all below y is done -/
def rvd (q : Nat → Bool) (a b : Nat) (o : Nat → Int) (x : Nat) : Nat → Int := fun j => if j < x then sp_rv q a b o j else o j
theorem rvd_0 (q : Nat → Bool) (a b : Nat) (o : Nat → Int) : rvd q a b o a = o := by
  funext j
  unfold rvd
  split
  · exact rv_out (Or.inl ‹_›)
  · rfl
theorem rvd_end (q : Nat → Bool) (a b : Nat) (o : Nat → Int) {x : Nat} (h : b ≤ x) : rvd q a b o x = sp_rv q a b o := by
  funext j
  unfold rvd
  split
  · rfl
  · exact (rv_out (Or.inr (Or.inl (by omega)))).symm
theorem rvd_turn {q : Nat → Bool} {a b x y : Nat} {o : Nat → Int} (hx : a ≤ x) (hxy : x ≤ y) (hy : y ≤ b) (hbx : x = a ∨ q (x - 1) = false) (hby : y = b ∨ q y = false) (hq : ∀ i, x ≤ i → i < y → q i = true) : sp_v (rvd q a b o x) x y = rvd q a b o y := by
  funext j
  unfold sp_v
  by_cases c : x ≤ j ∧ j < y
  · rw [if_pos c]
    unfold rvd
    rw [if_neg (by omega), if_pos c.2, rv_in hx hy hbx hby hq c.1 c.2]
  · rw [if_neg c]
    unfold rvd
    by_cases c2 : j < x
    · rw [if_pos c2, if_pos (by omega)]
    · rw [if_neg c2, if_neg (by omega)]
theorem rvd_skip {q : Nat → Bool} {a b y : Nat} {o : Nat → Int} (h : b ≤ y ∨ q y = false) : rvd q a b o y = rvd q a b o (y + 1) := by
  funext j
  unfold rvd
  by_cases c : j < y
  · rw [if_pos c, if_pos (by omega)]
  · rw [if_neg c]
    by_cases c2 : j = y
    · rw [if_pos (by omega), c2]
      exact (rv_out (Or.inr h)).symm
    · rw [if_neg (by omega)]
