/-! pure: resolved levels, both sides -/
def rz (k prs : Nat → Int) (n : Nat) (r : Int) : Nat → Int
  | 0 => r
  | i + 1 => if hid k i then rz k prs n r i else twr_le_raised (lv k n r i) (tf k prs n r i)
theorem rz_s (k prs : Nat → Int) (n : Nat) (r : Int) (i : Nat) : rz k prs n r (i + 1) = if hid k i then rz k prs n r i else twr_le_raised (lv k n r i) (tf k prs n r i) := rfl
section RAI
variable {k prs : Nat → Int} {n : Nat} {r : Int}
theorem rsd_b {a t : Int} (ha : 0 ≤ a ∧ a ≤ 5) : 0 ≤ twr_le_raised a t ∧ twr_le_raised a t ≤ 7 ∧ two_le_raised a t := by
  refine ⟨?_, ?_, (by show (0 : Int) ≤ a; omega), fun _ _ => ⟨fun _ => ⟨by omega, by omega⟩, fun _ => ⟨by omega, by omega⟩⟩, fun _ _ => ⟨by omega, by omega⟩⟩
  · unfold twr_le_raised
    repeat' split
    all_goals omega
  · unfold twr_le_raised
    repeat' split
    all_goals omega
theorem rz_b (hr : r = 0 ∨ r = 1) : ∀ i, i ≤ 64 → 0 ≤ rz k prs n r i ∧ rz k prs n r i ≤ 7 := by
  intro i
  induction i with
  | zero => intro _; show 0 ≤ r ∧ r ≤ 7; omega
  | succ i ih =>
    intro hi
    rw [rz_s]
    split
    · exact ih (by omega)
    · have := rsd_b (t := tf k prs n r i) (lv_b (k := k) (n := n) hr (show i ≤ 64 by omega))
      exact ⟨this.1, this.2.1⟩
theorem p_raise (hn : n ≤ 64) (hr : r = 0 ∨ r = 1) {A T : Nat → Int} (hA : ∀ j, j < n → ¬ hid k j → A j = lv k n r j) (hT : ∀ j, j < n → T j = tf k prs n r j) {X : (Nat → Int) → Prop} (hX : ∀ Q, (∀ j, j < n → Q j = rz k prs n r (j + 1)) → X Q) : ∀ (m i : Nat) (Q : Nat → Int), i + m = n → (∀ j, j < i → Q j = rz k prs n r (j + 1)) → twl_le_raise_7 X k n T r A (m + 1) (rz k prs n r i) i Q := by
  intro m
  induction m with
  | zero =>
    intro i Q hi h
    rw [twl_le_raise_7]
    have : i = n := by omega
    subst this
    exact ⟨fun _ => hX Q h, fun g => absurd (Int.le_refl _) g⟩
  | succ m ih =>
    intro i Q hi h
    rw [twl_le_raise_7]
    rw [tn]
    refine ⟨fun g => absurd g (by omega), fun _ => ⟨⟨by omega, by omega⟩, fun g => ⟨⟨by omega, by omega⟩, ⟨by omega, by omega⟩, ?_⟩, fun x hx => ⟨⟨by omega, by omega⟩, ⟨by omega, by omega⟩, ?_⟩⟩⟩
    · have hv : ¬ hid k i := fun z => ih_y z g
      rw [hA i (by omega) hv]
      exact (rsd_b (lv_b hr (by omega))).2.2
    · have e : x = rz k prs n r (i + 1) := by
        rw [hx, rz_s]
        by_cases hv : hid k i
        · rw [if_pos hv, if_neg (ih_y hv)]
        · rw [if_neg hv, if_pos (ih_n hv), hA i (by omega) hv, hT i (by omega)]
      rw [sc, e]
      exact ih (i + 1) _ (by omega) (up_eq (s := fun j => rz k prs n r (j + 1)) h rfl)
theorem q_raise (hn : n ≤ 64) (hr : r = 0 ∨ r = 1) {A T Q : Nat → Int} (hA : ∀ j, j < n → ¬ hid k j → A j = lv k n r j) (hT : ∀ j, j < n → T j = tf k prs n r j) {K : (Nat → Int) → Prop} (hK : ∀ Q, (∀ j, j < n → Q j = rz k prs n r (j + 1)) → K Q) : tww_le_raise k n T Q r A K :=
  ⟨n + 1, p_raise hn hr hA hT (X := fun y => K y) hK n 0 Q (by omega) (fun j hj => absurd hj (by omega))⟩
theorem rsd_m {a t : Int} (ha : 0 ≤ a) (ht : t = 0 ∨ t = 1 ∨ t = 3 ∨ t = 6) : a + (if a % 2 = 0 then (if t = 1 then 1 else (if t = 3 then 2 else (if t = 6 then 2 else 0))) else (if t = 1 then 0 else 1)) = twr_le_raised a t := by
  unfold twr_le_raised
  rw [odd_e]
  by_cases c : a % 2 = 0
  · rw [if_pos c, if_pos c]
    rcases ht with rfl | rfl | rfl | rfl <;> simp
  · rw [if_neg c, if_neg c]
    rcases ht with rfl | rfl | rfl | rfl <;> simp
theorem p_mres (hn : n ≤ 64) (hr : r = 0 ∨ r = 1) (hk : ∀ j, j < n → 0 ≤ k j ∧ k j ≤ 20) {A T : Nat → Int} (hA0 : ∀ j, j < n → 0 ≤ A j ∧ A j ≤ 5) (hA : ∀ j, j < n → ¬ hid k j → A j = lv k n r j) (hT : ∀ j, j < n → T j = tf k prs n r j) {X : (Nat → Int) → Prop} (hX : ∀ Q, (∀ j, j < n → Q j = rz k prs n r (j + 1)) → X Q) : ∀ (m i : Nat) (Q : Nat → Int), i + m = n → (∀ j, j < i → Q j = rz k prs n r (j + 1)) → twl_mo_resolve_2 X n k r A T (m + 1) i Q := by
  intro m
  induction m with
  | zero =>
    intro i Q hi h
    rw [twl_mo_resolve_2]
    have : i = n := by omega
    subst this
    exact ⟨fun _ => hX Q h, fun g => absurd (Int.le_refl _) g⟩
  | succ m ih =>
    intro i Q hi h
    rw [twl_mo_resolve_2]
    rw [tn]
    have h0 := hA0 i (by omega)
    refine ⟨fun g => absurd g (by omega), fun _ => ⟨⟨by omega, by omega⟩, ⟨by omega, by omega⟩, h0.1, fun x4 h4 => ⟨mh_k (by omega), ⟨fun g => ?_, fun g g2 => ⟨⟨by omega, by omega⟩, ⟨by omega, by omega⟩⟩⟩, fun x hx => ⟨⟨by omega, by omega⟩, ⟨by omega, by omega⟩, ?_⟩⟩⟩⟩
    · have b4 : 0 ≤ x4 ∧ x4 ≤ 2 := by
        rw [h4]
        repeat' split
        all_goals omega
      exact ⟨by omega, by omega⟩
    · have e : x = rz k prs n r (i + 1) := by
        rw [hx, rz_s]
        by_cases hv : hid k i
        · rw [if_pos hv, if_neg (mh_y hv)]
          by_cases z : i = 0
          · subst z
            rw [if_pos (by omega)]
            rfl
          · rw [if_neg (by omega), tnm, h (i - 1) (by omega), show i - 1 + 1 = i by omega]
        · rw [if_neg hv, if_pos (mh_n hv), h4, hA i (by omega) hv, hT i (by omega)]
          exact rsd_m (lv_b hr (by omega)).1 (tf_4 hn hr hk (by omega) hv)
      rw [sc, e]
      exact ih (i + 1) _ (by omega) (up_eq (s := fun j => rz k prs n r (j + 1)) h rfl)
theorem q_mres (hn : n ≤ 64) (hr : r = 0 ∨ r = 1) (hk : ∀ j, j < n → 0 ≤ k j ∧ k j ≤ 20) {A T Q : Nat → Int} (hA0 : ∀ j, j < n → 0 ≤ A j ∧ A j ≤ 5) (hA : ∀ j, j < n → ¬ hid k j → A j = lv k n r j) (hT : ∀ j, j < n → T j = tf k prs n r j) {K : (Nat → Int) → Prop} (hK : ∀ Q, (∀ j, j < n → Q j = rz k prs n r (j + 1)) → K Q) : tww_mo_resolve n k r A T Q K :=
  ⟨n + 1, p_mres hn hr hk hA0 hA hT (X := fun y => K y) hK n 0 Q (by omega) (fun j hj => absurd hj (by omega))⟩
end RAI
