/-! pure: groups, breaks, extents, ends of lines -/
theorem tn (i : Nat) : Int.toNat (i : Int) = i := rfl
theorem tn0 : Int.toNat 0 = 0 := rfl
theorem tn1 (i : Nat) : Int.toNat ((i : Int) + 1) = i + 1 := by omega
theorem tnm (i : Nat) : Int.toNat ((i : Int) - 1) = i - 1 := by omega
theorem tnn (i : Nat) : Int.toNat ((i : Int) + -1) = i - 1 := by omega
theorem sc (i : Nat) : ((i : Int) + 1) = ((i + 1 : Nat) : Int) := rfl
theorem up_at (f : Nat → Int) (k : Nat) (x : Int) : tw_up f k x k = x := by unfold tw_up; rw [if_pos rfl]
theorem up_ne (f : Nat → Int) {k j : Nat} (x : Int) (h : j ≠ k) : tw_up f k x j = f j := by unfold tw_up; rw [if_neg h]
theorem up_lt {f : Nat → Int} {i : Nat} {x : Int} {P : Nat → Int → Prop} (h : ∀ j, j < i → P j (f j)) (hx : P i x) : ∀ j, j < i + 1 → P j (tw_up f i x j) := fun j hj => by
  by_cases e : j = i
  · subst e; rw [up_at]; exact hx
  · rw [up_ne _ _ e]; exact h j (by omega)
theorem up_eq {f s : Nat → Int} {i : Nat} {x : Int} (h : ∀ j, j < i → f j = s j) (hx : x = s i) : ∀ j, j < i + 1 → tw_up f i x j = s j := up_lt (P := fun j y => y = s j) h hx
def sp_gr (k g : Nat → Int) : Nat → Int
  | 0 => if k 0 = 8 then 0 else g 0
  | i + 1 => if k (i + 1) = 8 then sp_gr k g i else g (i + 1)
def sp_so (r : Nat → Int) : Nat → Int
  | 0 => -1
  | i + 1 => if r i = 1 then sp_so r i else r i
def sp_br (k r : Nat → Int) (i : Nat) : Int := if i = 0 then 0 else if k i = 8 then 0 else twr_fi_parts (sp_so r i) (r (i - 1)) (r i)
theorem parts01 (a b c : Int) : twr_fi_parts a b c = 0 ∨ twr_fi_parts a b c = 1 := by
  unfold twr_fi_parts
  repeat' split
  all_goals first | exact Or.inl rfl | exact Or.inr rfl
theorem br01 (k r : Nat → Int) (i : Nat) : sp_br k r i = 0 ∨ sp_br k r i = 1 := by
  unfold sp_br
  split
  · exact Or.inl rfl
  · split
    · exact Or.inl rfl
    · exact parts01 _ _ _
theorem p_groups {k g : Nat → Int} {n : Nat} (hn : n ≤ 64) {X : (Nat → Int) → Prop} (hX : ∀ a : Nat → Int, (∀ j, j < n → a j = sp_gr k g j) → X a) : ∀ (m i : Nat) (v : Int) (a : Nat → Int), i + m = n → v = (if i = 0 then 0 else sp_gr k g (i - 1)) → (∀ j, j < i → a j = sp_gr k g j) → twl_fi_findGroups_4 X k g n (m + 1) v i a := by
  intro m
  induction m with
  | zero =>
    intro i v a him hv ha
    rw [twl_fi_findGroups_4]
    exact ⟨fun _ => hX a (fun j hj => ha j (by omega)), fun h => absurd (show (n : Int) ≤ (i : Int) by omega) h⟩
  | succ m ih =>
    intro i v a him hv ha
    rw [twl_fi_findGroups_4]
    refine ⟨fun h => absurd h (by omega), fun _ => ⟨⟨by omega, by omega⟩, fun _ => ⟨by omega, by omega⟩, fun x hx => ⟨⟨by omega, by omega⟩, ⟨by omega, by omega⟩, ?_⟩⟩⟩
    rw [tn] at hx
    have hx2 : x = sp_gr k g i := by
      rw [hx, hv]
      cases i with
      | zero => simp [sp_gr]
      | succ i => simp [sp_gr]
    rw [sc, tn]
    exact ih (i + 1) x _ (by omega) (by simp [hx2]) (up_eq ha hx2)
theorem q_groups {k g a : Nat → Int} {n : Nat} (hn : n ≤ 64) {K : (Nat → Int) → Prop} (hK : ∀ a : Nat → Int, (∀ j, j < n → a j = sp_gr k g j) → K a) : tww_fi_findGroups k g n a K :=
  ⟨n + 1, p_groups hn hK n 0 0 a (by omega) rfl (fun j h => absurd h (by omega))⟩
theorem p_breaks {k r : Nat → Int} {n : Nat} (hn : n ≤ 64) {X : (Nat → Int) → Prop} (hX : ∀ a : Nat → Int, (∀ j, j < n → a j = sp_br k r j) → X a) : ∀ (m i : Nat) (v : Int) (a : Nat → Int), i + m = n → v = sp_so r i → (∀ j, j < i → a j = sp_br k r j) → twl_fi_findBreaks_4 X k n r (m + 1) v i a := by
  intro m
  induction m with
  | zero =>
    intro i v a him hv ha
    rw [twl_fi_findBreaks_4]
    exact ⟨fun _ => hX a (fun j hj => ha j (by omega)), fun h => absurd (show (n : Int) ≤ (i : Int) by omega) h⟩
  | succ m ih =>
    intro i v a him hv ha
    rw [twl_fi_findBreaks_4]
    refine ⟨fun h => absurd h (by omega), fun _ => ?_⟩
    intro J2 hJ2 J23 hJ23
    simp only [tn, tnm] at hJ2 ⊢
    have fin : ∀ x3 : Int, x3 = sp_br k r i → _ := fun x3 hx3 => (show ((0 : Int) ≤ i ∧ (i : Int) < 64) ∧ (0 ≤ x3 ∧ x3 ≤ 1) ∧ ((0 : Int) ≤ i ∧ (i : Int) < 64) ∧ ((¬ r i = 1 → ((0 : Int) ≤ i ∧ (i : Int) < 64)) ∧ (∀ x9 : Int, x9 = (if r i = 1 then v else r i) → tw_rg ((i : Int) + 1) ∧ twl_fi_findBreaks_4 X k n r (m + 1) x9 ((i : Int) + 1) (tw_up a i x3))) by
      refine ⟨⟨by omega, by omega⟩, by rcases br01 k r i with h | h <;> rw [hx3, h] <;> decide, ⟨by omega, by omega⟩, fun _ => ⟨by omega, by omega⟩, fun x9 hx9 => ⟨⟨by omega, by omega⟩, ?_⟩⟩
      rw [sc]
      refine ih (i + 1) x9 _ (by omega) ?_ (up_eq ha hx3)
      rw [hx9, hv]
      simp [sp_so])
    have j2 : ∀ x1 : Int, (x1 = 0 → sp_br k r i = 0) → (¬ x1 = 0 → 0 < i ∧ sp_br k r i = twr_fi_parts v (r (i - 1)) (r i)) → J2 x1 := by
      intro x1 h1 h2
      refine hJ2 x1 (fun J4 hJ4 J15 hJ15 => ⟨fun hx => hJ15 (hJ4 0 (fin 0 (h1 hx).symm)), fun hx => ?_⟩)
      obtain ⟨h3, h4⟩ := h2 hx
      refine ⟨⟨by omega, by omega⟩, ⟨by omega, by omega⟩, ⟨by omega, by omega⟩, fun hp => hJ15 (hJ4 0 (fin 0 (by rw [h4, hp]))), fun hp => hJ4 1 (fin 1 ?_)⟩
      rw [h4]
      rcases parts01 v (r (i - 1)) (r i) with h | h
      · exact absurd h hp
      · exact h.symm
    refine ⟨fun h => hJ23 (j2 0 (fun _ => ?_) (fun h => absurd rfl h)), fun h => ⟨⟨by omega, by omega⟩, fun hk => hJ23 (j2 0 (fun _ => ?_) (fun h => absurd rfl h)), fun hk => j2 1 (fun h => absurd h (by decide)) (fun _ => ⟨by omega, ?_⟩)⟩⟩
    · have : i = 0 := by omega
      subst this
      rfl
    · unfold sp_br
      rw [if_neg (by omega), if_pos hk]
    · unfold sp_br
      rw [if_neg (by omega), if_neg hk, hv]
theorem q_breaks {k r a : Nat → Int} {n : Nat} (hn : n ≤ 64) {K : (Nat → Int) → Prop} (hK : ∀ a : Nat → Int, (∀ j, j < n → a j = sp_br k r j) → K a) : tww_fi_findBreaks k n a r K :=
  ⟨n + 1, p_breaks hn hK n 0 (-1) a (by omega) rfl (fun j h => absurd h (by omega))⟩
/-- the reference's groups and breaks -/
theorem p_mgr {k g : Nat → Int} {X : Int → Prop} : ∀ (i : Nat), i < 64 → (∀ j : Nat, j ≤ i → k j ≠ 8 → sp_gr k g i = g j → X j) → ((∀ j, j ≤ i → k j = 8) → sp_gr k g i = 0 → X (-1)) → twl_mo_groupOf_2 X k g (i + 2) i := by
  intro i
  induction i with
  | zero =>
    intro hi h1 h2
    rw [twl_mo_groupOf_2]
    refine ⟨fun h => absurd h (by omega), fun _ => ⟨⟨by omega, by omega⟩, fun hk => ⟨⟨by omega, by omega⟩, ?_⟩, fun hk => ?_⟩⟩
    · rw [twl_mo_groupOf_2]
      refine ⟨fun _ => ?_, fun h => absurd (by omega) h⟩
      have hk : k 0 = 8 := hk
      exact h2 (fun j hj => by rw [show j = 0 by omega]; exact hk) (by simp [sp_gr, hk])
    · have hk : ¬ k 0 = 8 := hk
      exact h1 0 (by omega) hk (by simp [sp_gr, hk])
  | succ i ih =>
    intro hi h1 h2
    rw [twl_mo_groupOf_2]
    refine ⟨fun h => absurd h (by omega), fun _ => ⟨⟨by omega, by omega⟩, fun hk => ⟨⟨by omega, by omega⟩, ?_⟩, fun hk => ?_⟩⟩
    · rw [tn] at hk
      rw [show (((i + 1 : Nat) : Int) + -1) = (i : Int) by omega]
      have e : sp_gr k g (i + 1) = sp_gr k g i := by simp [sp_gr, hk]
      rw [e] at h1 h2
      refine ih (by omega) (fun j hj => h1 j (by omega)) (fun h => h2 (fun j hj => ?_))
      by_cases hji : j = i + 1
      · rw [hji]; exact hk
      · exact h j (by omega)
    · rw [tn] at hk
      exact h1 (i + 1) (by omega) hk (by simp [sp_gr, hk])
theorem q_mgr {k g : Nat → Int} {K : Int → Prop} {i : Nat} (hi : i < 64) (hK : K (sp_gr k g i)) : tww_mo_groupOf i k g K := by
  refine ⟨i + 2, p_mgr i hi (fun j hj hk e => ⟨fun _ => ⟨⟨by omega, by omega⟩, ?_⟩, fun h => absurd (by omega) h⟩) (fun _ e => ⟨fun h => absurd h (by omega), fun _ => by rw [← e]; exact hK⟩)⟩
  rw [tn, ← e]
  exact hK
theorem p_mso {k g : Nat → Int} {X : Int → Prop} {a b c : Int} : ∀ (i : Nat), i ≤ 64 → (∀ j : Nat, j < i → sp_so (sp_gr k g) i = sp_gr k g j → X j) → (sp_so (sp_gr k g) i = -1 → X (-1)) → twl_mo_mayBreak_45 X a b c k g (i + 1) ((i : Int) - 1) := by
  intro i
  induction i with
  | zero =>
    intro hi h1 h2
    rw [twl_mo_mayBreak_45]
    exact ⟨fun _ => h2 rfl, fun h => absurd (by omega) h⟩
  | succ i ih =>
    intro hi h1 h2
    rw [twl_mo_mayBreak_45]
    rw [show (((i + 1 : Nat) : Int) - 1) = (i : Int) by omega]
    refine ⟨fun h => absurd h (by omega), fun _ => q_mgr (by omega) ⟨fun h => ⟨⟨by omega, by omega⟩, ?_⟩, fun h => ?_⟩⟩
    · rw [show ((i : Int) + -1) = (i : Int) - 1 by omega]
      have e : sp_so (sp_gr k g) (i + 1) = sp_so (sp_gr k g) i := by simp [sp_so, h]
      rw [e] at h1 h2
      exact ih (by omega) (fun j hj => h1 j (by omega)) h2
    · exact h1 i (by omega) (by simp [sp_so, h])
theorem mbr_tail {k g : Nat → Int} {K : Int → Prop} {sol z2 z4 : Int} (hK : K (twr_fi_parts sol z4 z2)) (y : Int) (hy1 : y < 0 → ¬ sol = 2) (hy2 : ¬ y < 0 → ∃ j : Nat, y = j ∧ j < 64 ∧ sol = sp_gr k g j) : ((z2 = 1 → K 0) ∧ (¬ z2 = 1 → ((z2 = 3 → K 0) ∧ (¬ z2 = 3 → (∀ J11 : Prop, ((((z4 = 1 → K 1) ∧ (¬ z4 = 1 → (∀ J12 : Prop, ((K 0) → J12) → ((z4 = 4 → J12) ∧ (¬ z4 = 4 → ((z2 = 4 → J12) ∧ (¬ z2 = 4 → ((z2 = 6 → J12) ∧ (¬ z2 = 6 → (∀ J13 : Prop, ((K 1) → J13) → ((z4 = 6 → J13) ∧ (¬ z4 = 6 → ((z4 = 5 → J13) ∧ (¬ z4 = 5 → ((z2 = 5 → J13) ∧ (¬ z2 = 5 → J12))))))))))))))))) → J11) → ((y < 0 → J11) ∧ (¬ y < 0 → tww_mo_groupOf y k g (fun z21 => ((z21 = 2 → K 0) ∧ (¬ z21 = 2 → J11)))))))))) := by
  unfold twr_fi_parts at hK
  refine ⟨fun h => by rw [if_pos h] at hK; exact hK, fun h => ⟨fun h3 => by rw [if_neg h, if_pos h3] at hK; exact hK, fun h3 J11 hJ => ?_⟩⟩
  rw [if_neg h, if_neg h3] at hK
  have hJ2 : ¬ sol = 2 → J11 := fun hs => by
    rw [if_neg hs] at hK
    refine hJ ⟨fun h4 => by rw [if_pos h4] at hK; exact hK, fun h4 J12 hJ12 => ?_⟩
    rw [if_neg h4] at hK
    refine ⟨fun h5 => hJ12 (by rw [if_pos h5] at hK; exact hK), fun h5 => ?_⟩
    rw [if_neg h5] at hK
    refine ⟨fun h6 => hJ12 (by rw [if_pos h6] at hK; exact hK), fun h6 => ?_⟩
    rw [if_neg h6] at hK
    refine ⟨fun h7 => hJ12 (by rw [if_pos h7] at hK; exact hK), fun h7 J13 hJ13 => ?_⟩
    rw [if_neg h7] at hK
    refine ⟨fun h8 => hJ13 (by rw [if_pos h8] at hK; exact hK), fun h8 => ?_⟩
    rw [if_neg h8] at hK
    refine ⟨fun h9 => hJ13 (by rw [if_pos h9] at hK; exact hK), fun h9 => ?_⟩
    rw [if_neg h9] at hK
    exact ⟨fun h10 => hJ13 (by rw [if_pos h10] at hK; exact hK), fun h10 => hJ12 (by rw [if_neg h10] at hK; exact hK)⟩
  refine ⟨fun hy => hJ2 (hy1 hy), fun hy => ?_⟩
  obtain ⟨j, rfl, hj, e⟩ := hy2 hy
  refine q_mgr (by omega) ⟨fun h2 => ?_, fun h2 => hJ2 (by rw [e]; exact h2)⟩
  rw [← e] at h2
  rw [if_pos h2] at hK
  exact hK
theorem q_mbr {k g : Nat → Int} {K : Int → Prop} {n : Nat} (hn : n ≤ 64) {v : Int} (hK : K (if v < 1 then 0 else if (n : Int) ≤ v then 0 else sp_br k (sp_gr k g) v.toNat)) : tww_mo_mayBreak v n k g K := by
  unfold tww_mo_mayBreak
  refine ⟨fun h => by rw [if_pos h] at hK; exact hK, fun h => ?_⟩
  rw [if_neg h] at hK
  refine ⟨fun h1 => by rw [if_pos h1] at hK; exact hK, fun h1 => ⟨⟨by omega, by omega⟩, fun h2 => ?_, fun h2 => ?_⟩⟩
  · rw [if_neg h1] at hK
    unfold sp_br at hK
    rw [if_neg (by omega), if_pos h2] at hK
    exact hK
  · rw [if_neg h1] at hK
    unfold sp_br at hK
    rw [if_neg (by omega), if_neg h2] at hK
    obtain ⟨i, rfl⟩ : ∃ i : Nat, v = i := ⟨v.toNat, by omega⟩
    rw [tn] at hK h2
    refine q_mgr (by omega) ⟨⟨by omega, by omega⟩, ?_⟩
    rw [show ((i : Int) - 1) = ((i - 1 : Nat) : Int) by omega]
    refine q_mgr (by omega) ⟨⟨by omega, by omega⟩, i + 1, ?_⟩
    rw [show ((i - 1 : Nat) : Int) = (i : Int) - 1 by omega]
    exact p_mso i (by omega) (fun j hj e => mbr_tail hK j (fun h => absurd h (by omega)) (fun _ => ⟨j, rfl, by omega, e⟩)) (fun e => mbr_tail hK (-1) (fun _ => by rw [e]; decide) (fun h => absurd (by decide) h))
