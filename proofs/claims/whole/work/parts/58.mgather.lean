/-! pure: sequences gathered, second side -/
section MGA
variable {k l A : Nat → Int} {n : Nat}
theorem mh_y {i : Nat} (h : hid k i) : ¬ twr_mo_hidden i k = 0 := ih_y (x := k i) h
theorem mh_n {i : Nat} (h : ¬ hid k i) : twr_mo_hidden i k = 0 := ih_n (x := k i) h
theorem mh_k {i : Nat} (h : i < 64) : two_mo_hidden i k := ⟨⟨by omega, by omega⟩, fun _ => ⟨by omega, by omega⟩⟩
theorem p_seenb (hn : n ≤ 64) {X : Int → Prop} : ∀ (i : Nat), i ≤ n → X (vb k i) → twl_mo_seen_2 X (-1) n k (i + 1) ((i : Int) - 1) := by
  intro i
  induction i with
  | zero =>
    intro _ hX
    rw [twl_mo_seen_2]
    exact ⟨fun _ => hX, fun h => absurd (by omega) h⟩
  | succ i ih =>
    intro hi hX
    rw [twl_mo_seen_2]
    rw [show (((i + 1 : Nat) : Int) - 1) = (i : Int) by omega]
    have e : vb k (i + 1) = if hid k i then vb k i else (i : Int) := rfl
    rw [e] at hX
    refine ⟨fun h => absurd h (by omega), fun _ => ⟨fun h => absurd h (by omega), fun _ => ⟨mh_k (by omega), fun g => ?_, fun g => ⟨⟨by omega, by omega⟩, ?_⟩⟩⟩⟩
    · rw [if_neg (fun z => mh_y z g)] at hX
      exact hX
    · have hh : hid k i := Classical.byContradiction (fun z => g (mh_n z))
      rw [if_pos hh] at hX
      rw [show ((i : Int) + -1) = (i : Int) - 1 by omega]
      exact ih (by omega) hX
theorem q_seenb (hn : n ≤ 64) {K : Int → Prop} {i : Nat} (hi : i ≤ n) (hK : K (vb k i)) : tww_mo_seen ((i : Int) - 1) (-1) n k K := by
  refine ⟨i + 1, p_seenb hn i hi (fun J9 hJ9 => ?_)⟩
  rcases vb_in k i with ⟨e, _⟩ | ⟨j, e, g1, _⟩
  · rw [e] at hK ⊢
    exact ⟨fun _ => hJ9 hK, fun h => absurd (by omega) h⟩
  · rw [e] at hK ⊢
    exact ⟨fun h => absurd h (by omega), fun _ => ⟨fun _ => hK, fun h => absurd (by omega) h⟩⟩
theorem p_seenf (hn : n ≤ 64) {X : Int → Prop} : ∀ (m i : Nat), i + m = n → (vn k m i = -1 → X (n : Int)) → (¬ vn k m i = -1 → X (vn k m i)) → twl_mo_seen_2 X 1 n k (m + 1) i := by
  intro m
  induction m with
  | zero =>
    intro i hi h1 h2
    rw [twl_mo_seen_2]
    have : i = n := by omega
    subst this
    exact ⟨fun h => absurd h (by omega), fun _ => ⟨fun _ => h1 rfl, fun h => absurd (Int.le_refl _) h⟩⟩
  | succ m ih =>
    intro i hi h1 h2
    rw [twl_mo_seen_2]
    have e : vn k (m + 1) i = if hid k i then vn k m (i + 1) else (i : Int) := rfl
    rw [e] at h1 h2
    refine ⟨fun h => absurd h (by omega), fun _ => ⟨fun h => absurd h (by omega), fun _ => ⟨mh_k (by omega), fun g => ?_, fun g => ⟨⟨by omega, by omega⟩, ?_⟩⟩⟩⟩
    · rw [if_neg (fun z => mh_y z g)] at h2
      exact h2 (by omega)
    · have hh : hid k i := Classical.byContradiction (fun z => g (mh_n z))
      rw [if_pos hh] at h1 h2
      rw [sc]
      exact ih (i + 1) (by omega) h1 h2
theorem q_seenf (hn : n ≤ 64) {K : Int → Prop} {x : Nat} (hx : x < n) (hK : K (vn k (n - (x + 1)) (x + 1))) : tww_mo_seen ((x : Int) + 1) 1 n k K := by
  refine ⟨n - (x + 1) + 1, p_seenf hn (n - (x + 1)) (x + 1) (by omega) (fun e J9 hJ9 => ?_) (fun e J9 hJ9 => ?_)⟩
  · rw [e] at hK
    exact ⟨fun h => absurd h (by omega), fun _ => ⟨fun h => absurd h (by omega), fun _ => hJ9 hK⟩⟩
  · rcases vn_in k (n - (x + 1)) (x + 1) with ⟨f, _⟩ | ⟨j, f, g1, g2, _⟩
    · exact absurd f e
    · rw [f] at hK ⊢
      exact ⟨fun h => absurd h (by omega), fun _ => ⟨fun _ => hK, fun h => absurd (by omega) h⟩⟩
abbrev BR (k l : Nat → Int) (x : Nat) : Prop := ¬ (0 ≤ vb k x ∧ l (vb k x).toNat = l x)
theorem q_mbr2 (hn : n ≤ 64) (hA : ∀ j, j < n → ¬ hid k j → A j = l j) {i : Nat} (hi : i < n) (hv : ¬ hid k i) {K : Int → Prop} (h1 : BR k l i → K 1) (h0 : ¬ BR k l i → K 0) : tww_mo_beginsRun i n k A K := by
  refine ⟨⟨by omega, by omega⟩, q_seenb hn (by omega) (fun J3 hJ3 => ?_)⟩
  rcases vb_in k i with ⟨e, _⟩ | ⟨j, e, g1, g2, _⟩
  · exact ⟨fun _ => hJ3 (h1 (fun z => by omega)), fun h => absurd (by omega) h⟩
  · unfold BR at h1 h0
    rw [e, tn] at h1 h0
    rw [e, tn, tn, hA j (by omega) g2, hA i hi hv]
    exact ⟨fun h => absurd h (by omega), fun _ => ⟨⟨by omega, by omega⟩, ⟨by omega, by omega⟩, fun q => h0 (fun z => z ⟨by omega, q⟩), fun q => hJ3 (h1 (fun z => q z.2))⟩⟩
def fl1 (s : Nat → Nat) (i : Nat) (P : Nat → Int) : Prop := ∀ j, j < i → P j = (s j : Int)
theorem fl1_up {s : Nat → Nat} {i x : Nat} {P : Nat → Int} (h : fl1 s i P) (e : s i = x) : fl1 s (i + 1) (tw_up P i x) := fun j hj => by
  by_cases z : j = i
  · subst z
    rw [up_at, e]
  · rw [up_ne _ _ z]
    exact h j (by omega)
theorem p_mrun (hn : n ≤ 64) (hA : ∀ j, j < n → ¬ hid k j → A j = l j) {p : Nat} (hp : p < n) (hv : ¬ hid k p) {i0 : Nat} {y0 : Int} {X : Int → (Nat → Int) → Prop} (hX : ∀ (i : Nat) P, i0 < i → i ≤ scn k l n p → fl1 (sq k l n p) i P → RE k l n (sq k l n p (i - 1)) → X i P) : ∀ (m i : Nat) (P : Nat → Int), scn k l n p - i ≤ m → i0 < i → i ≤ scn k l n p → l (sq k l n p (i - 1)) = y0 → fl1 (sq k l n p) i P → twl_mo_addRun_29 X y0 n k A (m + 1) (vn k (n - (sq k l n p (i - 1) + 1)) (sq k l n p (i - 1) + 1)) i P := by
  intro m
  have ho := scn_ok (L := l) hp hv
  induction m with
  | zero =>
    intro i P hm hi hc hl hf
    rw [twl_mo_addRun_29]
    rcases vn_in k (n - (sq k l n p (i - 1) + 1)) (sq k l n p (i - 1) + 1) with ⟨e, _⟩ | ⟨y, e, g1, g2, g3, g4⟩
    · exact ⟨fun _ => hX i P hi hc hf (fun z => by omega), fun h => absurd (by omega) h⟩
    · have hs := ho.1 (i - 1) (by omega)
      have hne : ¬ l y = l (sq k l n p (i - 1)) := fun z => by
        have := run_next hp hv (show 1 ≤ i by omega) hc (show sq k l n p (i - 1) < y by omega) (by omega) g3 (fun x h1 h2 => g4 x (by omega) h2) z
        omega
      refine ⟨fun h => absurd h (by omega), fun _ => ⟨⟨by omega, by omega⟩, ?_⟩⟩
      rw [e, tn, hA y (by omega) g3]
      refine ⟨fun q => absurd (q.trans hl.symm) hne, fun _ => hX i P hi hc hf (fun z => ?_)⟩
      rw [e, tn] at z
      exact hne z.2
  | succ m ih =>
    intro i P hm hi hc hl hf
    rw [twl_mo_addRun_29]
    have hs := ho.1 (i - 1) (by omega)
    rcases vn_in k (n - (sq k l n p (i - 1) + 1)) (sq k l n p (i - 1) + 1) with ⟨e, _⟩ | ⟨y, e, g1, g2, g3, g4⟩
    · exact ⟨fun _ => hX i P hi hc hf (fun z => by omega), fun h => absurd (by omega) h⟩
    · refine ⟨fun h => absurd h (by omega), fun _ => ⟨⟨by omega, by omega⟩, ?_⟩⟩
      rw [e, tn, hA y (by omega) g3]
      refine ⟨fun q => ?_, fun q => hX i P hi hc hf (fun z => ?_)⟩
      · have hr := run_next hp hv (show 1 ≤ i by omega) hc (show sq k l n p (i - 1) < y by omega) (by omega) g3 (fun x h1 h2 => g4 x (by omega) h2) (q.trans hl.symm)
        refine ⟨fun h => absurd h (by omega), fun _ => ⟨⟨by omega, by omega⟩, ⟨by omega, by omega⟩, ⟨by omega, by omega⟩, q_seenf hn (by omega) ?_⟩⟩
        rw [tn, sc]
        have hg := ih (i + 1) (tw_up P i y) (by omega) (by omega) (by omega)
        rw [Nat.add_sub_cancel, hr.1] at hg
        exact hg q (fl1_up hf hr.1)
      · rw [e, tn] at z
        exact q (z.2.trans hl)
theorem q_mrun (hn : n ≤ 64) (hA : ∀ j, j < n → ¬ hid k j → A j = l j) {p : Nat} (hp : p < n) (hv : ¬ hid k p) {i0 : Nat} (hi : i0 < scn k l n p) (hbr : BR k l (sq k l n p i0)) {P : Nat → Int} (hf : fl1 (sq k l n p) i0 P) {K : Int → (Nat → Int) → Prop} (hK : ∀ (i : Nat) P, i0 < i → i ≤ scn k l n p → fl1 (sq k l n p) i P → RE k l n (sq k l n p (i - 1)) → K i P) : tww_mo_addRun (sq k l n p i0) n k A i0 P K := by
  have ho := scn_ok (L := l) hp hv
  have h0 := ho.1 i0 hi
  refine ⟨1, ?_⟩
  rw [twl_mo_addRun_2]
  refine q_mbr2 hn hA h0.1 h0.2 (fun _ => ⟨fun z => absurd z (by decide), fun _ => ?_⟩) (fun z => absurd hbr z)
  refine ⟨⟨by omega, by omega⟩, scn k l n p - (i0 + 1) + 1 + 1, ?_⟩
  rw [tn, hA _ h0.1 h0.2, twl_mo_addRun_29]
  refine ⟨fun h => absurd h (by omega), fun _ => ⟨⟨by omega, by omega⟩, ?_⟩⟩
  rw [tn, hA _ h0.1 h0.2]
  refine ⟨fun _ => ⟨fun h => absurd h (by omega), fun _ => ⟨⟨by omega, by omega⟩, ⟨by omega, by omega⟩, ⟨by omega, by omega⟩, q_seenf hn h0.1 ?_⟩⟩, fun h => absurd rfl h⟩
  rw [tn, sc]
  exact p_mrun (i0 := i0) (X := fun a b => K a b) hn hA hp hv hK (scn k l n p - (i0 + 1)) (i0 + 1) _ (Nat.le_refl _) (by omega) (by omega) rfl (fl1_up hf rfl)
theorem p_mgat (hn : n ≤ 64) (hL : HL k l n) (hA : ∀ j, j < n → ¬ hid k j → A j = l j) {p : Nat} (hp : p < n) (hv : ¬ hid k p) {v : Int} {d1 d2 d3 d4 d5 : Nat → Int} {r b e m0 : Int} {X : Int → (Nat → Int) → Prop} (hX : ∀ P, fl1 (sq k l n p) (scn k l n p) P → X (scn k l n p) P) : ∀ (m i w : Nat) (x : Int) (P : Nat → Int), scn k l n p - i ≤ m → i ≤ scn k l n p → w ≤ i → (i < scn k l n p → x = sq k l n p i ∧ BR k l (sq k l n p i)) → (i = scn k l n p → x = -1) → fl1 (sq k l n p) i P → twl_mo_sequences_54 X v n k d1 r A d2 d3 d4 b e m0 d5 (m + 1) x w i P := by
  intro m
  have ho := scn_ok (L := l) hp hv
  induction m with
  | zero =>
    intro i w x P hm hi hw h1 h2 hf
    have : i = scn k l n p := by omega
    subst this
    rw [twl_mo_sequences_54]
    exact ⟨fun _ => hX P hf, fun _ => ⟨fun _ => hX P hf, fun g => absurd (by have := h2 rfl; omega) g⟩⟩
  | succ m ih =>
    intro i w x P hm hi hw h1 h2 hf
    rw [twl_mo_sequences_54]
    by_cases q : i = scn k l n p
    · subst q
      exact ⟨fun _ => hX P hf, fun _ => ⟨fun _ => hX P hf, fun g => absurd (by have := h2 rfl; omega) g⟩⟩
    · have hi2 : i < scn k l n p := by omega
      rw [(h1 hi2).1]
      refine ⟨fun g => absurd g (by omega), fun _ => ⟨fun g => absurd g (by omega), fun _ => ?_⟩⟩
      refine q_mrun hn hA hp hv hi2 (h1 hi2).2 hf (fun i' P' g1 g2 g3 g4 => ?_)
      have hs := ho.1 (i' - 1) (by omega)
      have e1 : P' (i' - 1) = ((sq k l n p (i' - 1) : Nat) : Int) := g3 _ (by omega)
      rw [tnm, e1]
      refine ⟨⟨by omega, by omega⟩, ⟨by omega, by omega⟩, mo_k k (by omega), fun J28 hJ28 => ?_⟩
      have hst := sq_step hp hv (show 1 ≤ i' by omega) g2
      rw [nx_RE g4] at hst
      have j28 : ∀ x2 : Int, (i' < scn k l n p → x2 = sq k l n p i' ∧ BR k l (sq k l n p i')) → (i' = scn k l n p → x2 = -1) → J28 x2 i' P' := fun x2 q1 q2 => hJ28 _ _ _ (by
        refine ⟨⟨by omega, by omega⟩, ?_⟩
        rw [sc]
        exact ih i' (w + 1) x2 P' (by omega) g2 (by omega) q1 q2 g3)
      by_cases c : op k (sq k l n p (i' - 1))
      · refine ⟨fun z => absurd z (mo_y c), fun _ => ⟨⟨by omega, by omega⟩, ⟨by omega, by omega⟩, q_clo hn hs.1 (j28 _ (fun q2 => ?_) (fun q2 => ?_))⟩⟩
        · have hs2 := ho.1 i' q2
          rcases clo_b (k := k) (n := n) (i := sq k l n p (i' - 1)) hs.1 with f | ⟨j, f, f1, f2, _⟩
          · rw [if_neg (fun z => by omega)] at hst
            omega
          · rw [if_pos ⟨c, by omega⟩, f, tn] at hst
            rw [f, hst]
            exact ⟨rfl, br_of hL hs.1 c f f1 f2 g4⟩
        · have hs2 := ho.2.1 i' (by omega)
          rcases clo_b (k := k) (n := n) (i := sq k l n p (i' - 1)) hs.1 with f | ⟨j, f, f1, f2, _⟩
          · exact f
          · rw [if_pos ⟨c, by omega⟩, f, tn] at hst
            omega
      · refine ⟨fun _ => j28 (-1) (fun q2 => ?_) (fun _ => rfl), fun z => absurd (mo_n c) z⟩
        have hs2 := ho.1 i' q2
        rw [if_neg (fun z => c z.1)] at hst
        omega
theorem q_bounds (hn : n ≤ 64) (hl0 : ∀ j, j < n → ¬ hid k j → 0 ≤ l j) {r : Int} (hr : 0 ≤ r) (hA : ∀ j, j < n → ¬ hid k j → A j = l j) {p : Nat} (hp : p < n) (hv : ¬ hid k p) {P : Nat → Int} (hf : fl1 (sq k l n p) (scn k l n p) P) {b0 d0 e0 : Int} {K : Int → Int → Int → Prop} (hK : K (sbg k l r p) (sen k l n r p) (sem l p)) : tww_mo_bounds n k r A (scn k l n p) P b0 d0 e0 K := by
  have ho := scn_ok (L := l) hp hv
  have h1 := ho.2.2.1
  have h2 := ho.2.2.2
  have hs := ho.1 (scn k l n p - 1) (by omega)
  have e1 : P 0 = (p : Int) := hf 0 h1
  have e2 : P (scn k l n p - 1) = ((sq k l n p (scn k l n p - 1) : Nat) : Int) := hf _ (by omega)
  unfold tww_mo_bounds
  rw [tn0, tnm, e1, e2]
  refine ⟨⟨by omega, by omega⟩, ⟨by omega, by omega⟩, ⟨by omega, by omega⟩, ⟨by omega, by omega⟩, q_seenb hn (by omega) ⟨mo_k k (by omega), fun J12 hJ12 J39 hJ39 => ?_⟩⟩
  rw [tn, hA p hp hv]
  have hx : ∀ x : Int, (x = -1 ∨ ∃ j : Nat, x = j ∧ j < n ∧ ¬ hid k j) → (0 ≤ x → (0 ≤ x ∧ x < 64)) ∧ (if 0 ≤ x then A x.toNat else r) = bsd l r x ∧ 0 ≤ bsd l r x := fun x hx => by
    unfold bsd
    rcases hx with e | ⟨j, e, g1, g2⟩
    · rw [if_neg (by omega), if_pos e]
      exact ⟨fun z => by omega, rfl, hr⟩
    · rw [e, tn, if_pos (by omega), if_neg (by omega)]
      exact ⟨fun _ => ⟨by omega, by omega⟩, hA j g1 g2, hl0 j g1 g2⟩
  have hvb : vb k p = -1 ∨ ∃ j : Nat, vb k p = j ∧ j < n ∧ ¬ hid k j := by
    rcases vb_in k p with ⟨e, _⟩ | ⟨j, e, g1, g2, _⟩
    · exact Or.inl e
    · exact Or.inr ⟨j, e, by omega, g2⟩
  have h3 := hx _ hvb
  have hlp := hl0 p hp hv
  have hm : ∀ a b : Int, (if b ≤ a then a else b) = mx2 a b := fun a b => by
    unfold mx2
    by_cases z : a < b
    · rw [if_pos z, if_neg (by omega)]
    · rw [if_neg z, if_pos (by omega)]
  have hm0 : ∀ a b : Int, 0 ≤ a → 0 ≤ b → 0 ≤ mx2 a b := fun a b g1 g2 => by
    unfold mx2
    split <;> omega
  have j12 : ∀ x : Int, (x = -1 ∨ ∃ j : Nat, x = j ∧ j < n ∧ ¬ hid k j) → x = (if op k (sq k l n p (scn k l n p - 1)) then -1 else vn k (n - (sq k l n p (scn k l n p - 1) + 1)) (sq k l n p (scn k l n p - 1) + 1)) → J12 (l p) (vb k p) x := fun x g1 g2 => hJ12 _ _ _ (by
    have h4 := hx x g1
    rw [h3.2.1, h4.2.1]
    refine ⟨h3.1, fun x14 e14 => ⟨h4.1, fun x16 e16 x17 e17 => ?_⟩⟩
    rw [hm, e14] at e17
    rw [e16, hm, e17]
    refine ⟨hm0 _ _ hlp h3.2.2, fun x19 e19 => ?_⟩
    rw [e19]
    unfold sem sbg sen at hK
    rw [← g2] at hK
    exact ⟨hm0 _ _ hlp h4.2.2, hlp, hK⟩)
  by_cases c : op k (sq k l n p (scn k l n p - 1))
  · refine ⟨fun g => absurd g (mo_y c), fun _ => q_clo hn hs.1 ?_⟩
    have hcl : clo k n (sq k l n p (scn k l n p - 1)) = -1 := by
      rcases clo_b (k := k) (n := n) (i := sq k l n p (scn k l n p - 1)) hs.1 with e | ⟨j, e, f1, f2, _⟩
      · exact e
      · have hst := sq_step hp hv (show 1 ≤ scn k l n p by omega) (Nat.le_refl _)
        have hs2 := ho.2.1 (scn k l n p) (Nat.le_refl _)
        unfold nx at hst
        by_cases a : 0 ≤ vn k (n - (sq k l n p (scn k l n p - 1) + 1)) (sq k l n p (scn k l n p - 1) + 1) ∧ l (vn k (n - (sq k l n p (scn k l n p - 1) + 1)) (sq k l n p (scn k l n p - 1) + 1)).toNat = l (sq k l n p (scn k l n p - 1))
        · rw [if_pos a] at hst
          rcases vn_in k (n - (sq k l n p (scn k l n p - 1) + 1)) (sq k l n p (scn k l n p - 1) + 1) with ⟨q, _⟩ | ⟨y, q, q1, q2, _⟩ <;> omega
        · rw [if_neg a, if_pos ⟨c, by omega⟩] at hst
          omega
    rw [hcl]
    exact ⟨fun z => absurd z (by decide), fun _ => j12 (-1) (Or.inl rfl) (by rw [if_pos c])⟩
  · refine ⟨fun _ => hJ39 _ _ _ ⟨⟨by omega, by omega⟩, q_seenf hn hs.1 (j12 _ ?_ (by rw [if_neg c]))⟩, fun g => absurd (mo_n c) g⟩
    rcases vn_in k (n - (sq k l n p (scn k l n p - 1) + 1)) (sq k l n p (scn k l n p - 1) + 1) with ⟨e, _⟩ | ⟨j, e, g1, g2, g3, _⟩
    · exact Or.inl e
    · exact Or.inr ⟨j, e, by omega, g3⟩
end MGA
