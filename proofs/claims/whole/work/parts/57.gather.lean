/-! pure: sequences gathered, first side -/
section GAT
variable {k l A M T t0 : Nat → Int} {n : Nat}
theorem p_vbf {K : Int → Prop} : ∀ (i : Nat), i ≤ 64 → K (vb k i) → twl_le_visibleBefore_4 K (K (-1)) k (i + 1) ((i : Int) - 1) := by
  intro i
  induction i with
  | zero =>
    intro _ hK
    rw [twl_le_visibleBefore_4]
    exact ⟨fun _ => hK, fun h => absurd (by omega) h⟩
  | succ i ih =>
    intro hi hK
    rw [twl_le_visibleBefore_4]
    rw [show (((i + 1 : Nat) : Int) - 1) = (i : Int) by omega, tn]
    have e : vb k (i + 1) = if hid k i then vb k i else (i : Int) := rfl
    rw [e] at hK
    refine ⟨fun h => absurd h (by omega), fun _ => ⟨⟨by omega, by omega⟩, fun g => ?_, fun g => ⟨⟨by omega, by omega⟩, ?_⟩⟩⟩
    · rw [if_neg (fun z => ih_y z g)] at hK
      exact hK
    · have hh : hid k i := Classical.byContradiction (fun z => g (ih_n z))
      rw [if_pos hh] at hK
      rw [show ((i : Int) + -1) = (i : Int) - 1 by omega]
      exact ih (by omega) hK
theorem q_vbf {K : Int → Prop} {i : Nat} (hi : i ≤ 64) (hK : K (vb k i)) : tww_le_visibleBefore i k K :=
  ⟨⟨by omega, by omega⟩, i + 1, p_vbf i hi hK⟩
theorem p_vbh (hn : n ≤ 64) {K : Int → Prop} : ∀ (m i : Nat), i + m = n → K (vn k m i) → twl_le_visibleBehind_4 K (K (-1)) k n (m + 1) i := by
  intro m
  induction m with
  | zero =>
    intro i hi hK
    rw [twl_le_visibleBehind_4]
    exact ⟨fun _ => hK, fun h => absurd (by omega) h⟩
  | succ m ih =>
    intro i hi hK
    rw [twl_le_visibleBehind_4]
    rw [tn]
    have e : vn k (m + 1) i = if hid k i then vn k m (i + 1) else (i : Int) := rfl
    rw [e] at hK
    refine ⟨fun h => absurd h (by omega), fun _ => ⟨⟨by omega, by omega⟩, fun g => ?_, fun g => ⟨⟨by omega, by omega⟩, ?_⟩⟩⟩
    · rw [if_neg (fun z => ih_y z g)] at hK
      exact hK
    · have hh : hid k i := Classical.byContradiction (fun z => g (ih_n z))
      rw [if_pos hh] at hK
      rw [sc]
      exact ih (i + 1) (by omega) hK
theorem q_vbh (hn : n ≤ 64) {K : Int → Prop} {x : Nat} (hx : x < n) (hK : K (vn k (n - (x + 1)) (x + 1))) : tww_le_visibleBehind x k n K :=
  ⟨⟨by omega, by omega⟩, n - (x + 1) + 1, p_vbh hn (n - (x + 1)) (x + 1) (by omega) hK⟩
theorem q_begins (hn : n ≤ 64) (hA : ∀ j, j < n → ¬ hid k j → A j = l j) (hM : ∀ j, j < n → M j = mt k n j) {i : Nat} (hi : i < n) {K : Int → Prop} (h1 : ¬ hid k i → pr k l n i = -1 → K 1) (h0 : (hid k i ∨ ¬ pr k l n i = -1) → K 0) : tww_le_beginsSequence i k M A K := by
  refine ⟨⟨by omega, by omega⟩, ?_⟩
  rw [tn]
  by_cases hh : hid k i
  · exact ⟨fun g => absurd g (ih_y hh), fun _ => h0 (Or.inl hh)⟩
  · refine ⟨fun _ J4 hJ4 => ?_, fun g => absurd (ih_n hh) g⟩
    have j4 : (k i = 20 → mt k n i = -1) → J4 := fun hm => hJ4 (by
      refine q_vbf (by omega) (fun J6 hJ6 => ?_)
      have j6 : ¬ (0 ≤ vb k i ∧ l (vb k i).toNat = l i) → J6 := fun hne => hJ6 (h1 hh (by
        unfold pr
        rw [if_neg hne]
        by_cases c : k i = 20
        · rw [if_pos c]; exact hm c
        · rw [if_neg c]))
      refine ⟨fun e => j6 (by omega), fun e => ?_⟩
      rcases vb_in k i with ⟨g, _⟩ | ⟨j, g, g1, g2, _⟩
      · exact absurd g e
      · rw [g, tn, hA j (by omega) g2, hA i hi hh]
        rw [g, tn] at j6
        refine ⟨⟨by omega, by omega⟩, ⟨by omega, by omega⟩, fun q => h0 (Or.inr ?_), fun q => j6 (fun z => q z.2)⟩
        unfold pr
        rw [g, tn, if_pos ⟨by omega, q⟩]
        omega)
    refine ⟨fun c => ⟨⟨by omega, by omega⟩, ?_⟩, fun c => j4 (fun z => absurd z c)⟩
    rw [hM i hi]
    refine ⟨fun q => j4 (fun _ => q), fun q => h0 (Or.inr ?_)⟩
    unfold pr
    by_cases a : 0 ≤ vb k i ∧ l (vb k i).toNat = l i
    · rw [if_pos a]; omega
    · rw [if_neg a, if_pos c]; exact q
def fil (s : Nat → Nat) (t0 : Nat → Int) (i : Nat) (P Ty : Nat → Int) : Prop := ∀ j, j < i → P j = (s j : Int) ∧ Ty j = t0 (s j)
theorem fil_up {s : Nat → Nat} {i x : Nat} {P Ty : Nat → Int} (h : fil s t0 i P Ty) (e : s i = x) : fil s t0 (i + 1) (tw_up P i x) (tw_up Ty i (t0 x)) := fun j hj => by
  by_cases z : j = i
  · subst z
    rw [up_at, up_at, e]
    exact ⟨rfl, rfl⟩
  · rw [up_ne _ _ z, up_ne _ _ z]
    exact h j (by omega)
abbrev RE (k l : Nat → Int) (n x : Nat) : Prop := ¬ (0 ≤ vn k (n - (x + 1)) (x + 1) ∧ l (vn k (n - (x + 1)) (x + 1)).toNat = l x)
theorem sq_step {p i : Nat} (hp : p < n) (hv : ¬ hid k p) (h1 : 1 ≤ i) (hi : i ≤ scn k l n p) : sq k l n p i = nx k l n (sq k l n p (i - 1)) := by
  have ho := scn_ok (L := l) hp hv
  have g := ho.1 (i - 1) (by omega)
  have : i = (i - 1) + 1 := by omega
  rw [this, sq_s, if_pos (by omega)]
  rfl
theorem run_next {p i y : Nat} (hp : p < n) (hv : ¬ hid k p) (h1 : 1 ≤ i) (hi : i ≤ scn k l n p) (hy : sq k l n p (i - 1) < y) (hyn : y < n) (hyv : ¬ hid k y) (hh : ∀ x, sq k l n p (i - 1) < x → x < y → hid k x) (hl : l y = l (sq k l n p (i - 1))) : sq k l n p i = y ∧ i < scn k l n p := by
  have e := vn_of (k := k) (m := n - (sq k l n p (i - 1) + 1)) (i := sq k l n p (i - 1) + 1) (j := y) (by omega) (by omega) hyv (fun x g1 g2 => hh x (by omega) g2)
  have e2 : sq k l n p i = y := by
    rw [sq_step hp hv h1 hi]
    unfold nx
    rw [e, tn, if_pos ⟨by omega, hl⟩]
  refine ⟨e2, ?_⟩
  by_cases w : i < scn k l n p
  · exact w
  · have := (scn_ok (L := l) hp hv).2.1 i (by omega)
    omega
theorem p_run (hn : n ≤ 64) (hA : ∀ j, j < n → ¬ hid k j → A j = l j) (hT : ∀ j, j < n → ¬ hid k j → T j = t0 j) {p : Nat} (hp : p < n) (hv : ¬ hid k p) {v2 : Nat} (hv2 : v2 < n) (hv2v : ¬ hid k v2) {i0 : Nat} {X : Int → (Nat → Int) → (Nat → Int) → Int → Prop} (hX : ∀ (i : Nat) P Ty, i0 < i → i ≤ scn k l n p → fil (sq k l n p) t0 i P Ty → RE k l n (sq k l n p (i - 1)) → X (sq k l n p (i - 1)) P Ty i) : ∀ (m y i : Nat) (P Ty : Nat → Int), y + m = n → i0 < i → i ≤ scn k l n p → sq k l n p (i - 1) < y → (∀ x, sq k l n p (i - 1) < x → x < y → hid k x) → l (sq k l n p (i - 1)) = l v2 → fil (sq k l n p) t0 i P Ty → twl_le_takeRun_5 X X v2 k n A T (m + 1) (sq k l n p (i - 1)) y P Ty i := by
  intro m
  have ho := scn_ok (L := l) hp hv
  induction m with
  | zero =>
    intro y i P Ty hy hi hc hs hh hl hf
    rw [twl_le_takeRun_5]
    refine ⟨fun _ => hX i P Ty hi hc hf (fun z => ?_), fun h => absurd (by omega) h⟩
    rcases vn_in k (n - (sq k l n p (i - 1) + 1)) (sq k l n p (i - 1) + 1) with ⟨e, _⟩ | ⟨j, e, h1, h2, h3, _⟩
    · omega
    · exact h3 (hh j (by omega) (by omega))
  | succ m ih =>
    intro y i P Ty hy hi hc hs hh hl hf
    rw [twl_le_takeRun_5]
    refine ⟨fun h => absurd h (by omega), fun _ => ⟨⟨by omega, by omega⟩, fun J8 hJ8 => ?_⟩⟩
    rw [tn]
    by_cases hy2 : hid k y
    · refine ⟨fun g => absurd g (ih_y hy2), fun _ => hJ8 _ _ _ _ ⟨⟨by omega, by omega⟩, ?_⟩⟩
      rw [sc]
      refine ih (y + 1) i P Ty (by omega) hi hc (by omega) (fun x h1 h2 => ?_) hl hf
      by_cases z : x = y
      · subst z; exact hy2
      · exact hh x h1 (by omega)
    · refine ⟨fun _ => ⟨⟨by omega, by omega⟩, ⟨by omega, by omega⟩, ?_⟩, fun g => absurd (ih_n hy2) g⟩
      rw [tn, hA y (by omega) hy2, hA v2 hv2 hv2v, hT y (by omega) hy2]
      refine ⟨fun e => ?_, fun e => hX i P Ty hi hc hf (fun z => ?_)⟩
      · have hr := run_next hp hv (show 1 ≤ i by omega) hc hs (by omega) hy2 hh (by omega)
        have hb : ¬ (64 : Int) ≤ (i : Int) := by omega
        unfold two_se_append twu_se_append__se_places twu_se_append__se_types twu_se_append__se_count
        rw [if_neg hb, if_neg hb, if_neg hb, tn]
        refine ⟨⟨by omega, by omega⟩, fun _ => ⟨⟨by omega, by omega⟩, ⟨by omega, by omega⟩, ⟨by omega, by omega⟩⟩, hJ8 _ _ _ _ ⟨⟨by omega, by omega⟩, ?_⟩⟩
        have hg := ih (y + 1) (i + 1) (tw_up P i y) (tw_up Ty i (t0 y)) (by omega) (by omega) (by omega)
        rw [Nat.add_sub_cancel, hr.1] at hg
        exact hg (by omega) (fun x h1 h2 => absurd h1 (by omega)) e (fil_up hf hr.1)
      · have ev := vn_of (k := k) (m := n - (sq k l n p (i - 1) + 1)) (i := sq k l n p (i - 1) + 1) (j := y) (by omega) (by omega) hy2 (fun x g1 g2 => hh x (by omega) g2)
        rw [ev, tn] at z
        exact e (by rw [z.2, hl])
theorem q_run (hn : n ≤ 64) (hA : ∀ j, j < n → ¬ hid k j → A j = l j) (hT : ∀ j, j < n → ¬ hid k j → T j = t0 j) {p : Nat} (hp : p < n) (hv : ¬ hid k p) {i0 : Nat} (hi : i0 < scn k l n p) {P Ty : Nat → Int} (hf : fil (sq k l n p) t0 i0 P Ty) {K : Int → (Nat → Int) → (Nat → Int) → Int → Prop} (hK : ∀ (i : Nat) P Ty, i0 < i → i ≤ scn k l n p → fil (sq k l n p) t0 i P Ty → RE k l n (sq k l n p (i - 1)) → K (sq k l n p (i - 1)) P Ty i) : tww_le_takeRun (sq k l n p i0) k n A T P Ty i0 K := by
  have ho := scn_ok (L := l) hp hv
  have h0 := ho.1 i0 hi
  refine ⟨n - (sq k l n p i0 + 1) + 1 + 1, ?_⟩
  rw [twl_le_takeRun_5]
  refine ⟨fun h => absurd h (by omega), fun _ => ⟨⟨by omega, by omega⟩, fun J8 hJ8 => ?_⟩⟩
  rw [tn]
  refine ⟨fun _ => ⟨⟨by omega, by omega⟩, ⟨by omega, by omega⟩, ?_⟩, fun g => absurd (ih_n h0.2) g⟩
  refine ⟨fun e => ?_, fun e => absurd rfl e⟩
  have hb : ¬ (64 : Int) ≤ (i0 : Int) := by omega
  unfold two_se_append twu_se_append__se_places twu_se_append__se_types twu_se_append__se_count
  rw [if_neg hb, if_neg hb, if_neg hb, tn, hT _ h0.1 h0.2]
  refine ⟨⟨by omega, by omega⟩, fun _ => ⟨⟨by omega, by omega⟩, ⟨by omega, by omega⟩, ⟨by omega, by omega⟩⟩, hJ8 _ _ _ _ ⟨⟨by omega, by omega⟩, ?_⟩⟩
  exact p_run (i0 := i0) (X := fun a b c d => K a b c d) hn hA hT hp hv h0.1 h0.2 hK (n - (sq k l n p i0 + 1)) (sq k l n p i0 + 1) (i0 + 1) _ _ (by omega) (by omega) (by omega) (Nat.lt_succ_self _) (fun x h1 h2 => absurd h1 (Nat.not_lt.mpr (Nat.le_of_lt_succ h2))) rfl (fil_up hf rfl)
theorem nx_RE {x : Nat} (h : RE k l n x) : nx k l n x = if op k x ∧ 0 ≤ clo k n x then (clo k n x).toNat else n := by
  unfold nx
  rw [if_neg h]
theorem p_gather (hn : n ≤ 64) (hA : ∀ j, j < n → ¬ hid k j → A j = l j) (hT : ∀ j, j < n → ¬ hid k j → T j = t0 j) (hM : ∀ j, j < n → M j = mt k n j) {p : Nat} (hp : p < n) (hv : ¬ hid k p) {X : (Nat → Int) → (Nat → Int) → Int → Prop} (hX : ∀ P Ty, fil (sq k l n p) t0 (scn k l n p) P Ty → X P Ty (scn k l n p)) : ∀ (m i w : Nat) (x : Int) (P Ty : Nat → Int), scn k l n p - i ≤ m → i ≤ scn k l n p → w ≤ i → (i < scn k l n p → x = sq k l n p i) → (i = scn k l n p → x = -1) → fil (sq k l n p) t0 i P Ty → twl_le_gather_13 X k n M A T (m + 1) x w P Ty i := by
  intro m
  have ho := scn_ok (L := l) hp hv
  induction m with
  | zero =>
    intro i w x P Ty hm hi hw h1 h2 hf
    have : i = scn k l n p := by omega
    subst this
    rw [twl_le_gather_13]
    exact ⟨fun _ => hX P Ty hf, fun _ => ⟨fun _ => hX P Ty hf, fun g => absurd (h2 rfl) g⟩⟩
  | succ m ih =>
    intro i w x P Ty hm hi hw h1 h2 hf
    rw [twl_le_gather_13]
    by_cases q : i = scn k l n p
    · subst q
      exact ⟨fun _ => hX P Ty hf, fun _ => ⟨fun _ => hX P Ty hf, fun g => absurd (h2 rfl) g⟩⟩
    · have hi2 : i < scn k l n p := by omega
      rw [h1 hi2]
      refine ⟨fun g => absurd g (by omega), fun _ => ⟨fun g => absurd g (by omega), fun _ => ?_⟩⟩
      refine q_run hn hA hT hp hv hi2 hf (fun i' P' Ty' g1 g2 g3 g4 => ?_)
      have hs := ho.1 (i' - 1) (by omega)
      refine ⟨⟨by omega, by omega⟩, fun _ => ⟨by omega, by omega⟩, fun x9 h9 => ⟨⟨by omega, by omega⟩, ?_⟩⟩
      rw [tn, hM _ hs.1] at h9
      rw [sc]
      have hst := sq_step hp hv (show 1 ≤ i' by omega) g2
      rw [nx_RE g4] at hst
      refine ih i' (w + 1) x9 P' Ty' (by omega) g2 (by omega) (fun q2 => ?_) (fun q2 => ?_) g3
      · have hs2 := ho.1 i' q2
        by_cases c : op k (sq k l n p (i' - 1)) ∧ 0 ≤ clo k n (sq k l n p (i' - 1))
        · rw [if_pos c] at hst
          rw [h9, if_neg (io_y c.1), mt_op c.1]
          omega
        · rw [if_neg c] at hst
          omega
      · have hs2 := ho.2.1 i' (by omega)
        by_cases c : op k (sq k l n p (i' - 1))
        · rw [h9, if_neg (io_y c), mt_op c]
          rcases clo_b (k := k) (n := n) (i := sq k l n p (i' - 1)) hs.1 with e | ⟨j, e, e1, e2, _⟩
          · exact e
          · rw [if_pos ⟨c, by omega⟩] at hst
            omega
        · rw [h9, if_pos (io_n c)]
theorem q_gather (hn : n ≤ 64) (hA : ∀ j, j < n → ¬ hid k j → A j = l j) (hT : ∀ j, j < n → ¬ hid k j → T j = t0 j) (hM : ∀ j, j < n → M j = mt k n j) {p : Nat} (hp : p < n) (hv : ¬ hid k p) {P Ty : Nat → Int} {c0 : Int} {K : (Nat → Int) → (Nat → Int) → Int → Prop} (hK : ∀ P Ty, fil (sq k l n p) t0 (scn k l n p) P Ty → K P Ty (scn k l n p)) : tww_le_gather p k n M A T P Ty c0 K :=
  ⟨scn k l n p + 1, p_gather hn hA hT hM hp hv (X := fun a b c => K a b c) hK (scn k l n p) 0 0 p P Ty (by omega) (by omega) (Nat.le_refl _) (fun _ => rfl) (fun h => by have := (scn_ok (L := l) hp hv).2.2.1; omega) (fun j hj => absurd hj (by omega))⟩
def bsd (l : Nat → Int) (r : Int) (x : Int) : Int := if x = -1 then r else l x.toNat
def mx2 (a b : Int) : Int := if a < b then b else a
def sem (l : Nat → Int) (p : Nat) : Int := l p % 2
def sbg (k l : Nat → Int) (r : Int) (p : Nat) : Int := mx2 (l p) (bsd l r (vb k p)) % 2
def sen (k l : Nat → Int) (n : Nat) (r : Int) (p : Nat) : Int := mx2 (l p) (bsd l r (if op k (sq k l n p (scn k l n p - 1)) then -1 else vn k (n - (sq k l n p (scn k l n p - 1) + 1)) (sq k l n p (scn k l n p - 1) + 1))) % 2
theorem side_e (x : Int) : twr_tl_sideOf x = x % 2 := by
  unfold twr_tl_sideOf
  rw [odd_e]
  split <;> omega
theorem q_sides (hn : n ≤ 64) (hl0 : ∀ j, j < n → ¬ hid k j → 0 ≤ l j) {r : Int} (hr : 0 ≤ r) (hA : ∀ j, j < n → ¬ hid k j → A j = l j) {p : Nat} (hp : p < n) (hv : ¬ hid k p) {P Ty : Nat → Int} (hf : fil (sq k l n p) t0 (scn k l n p) P Ty) {e0 b0 d0 : Int} {K : Int → Int → Int → Prop} (hK : K (sem l p) (sbg k l r p) (sen k l n r p)) : tww_le_setSides k n r A P (scn k l n p) e0 b0 d0 K := by
  have ho := scn_ok (L := l) hp hv
  have h1 := ho.2.2.1
  have h2 := ho.2.2.2
  have hs := ho.1 (scn k l n p - 1) (by omega)
  have e1 : P 0 = (p : Int) := (hf 0 h1).1
  have e2 : P (scn k l n p - 1) = ((sq k l n p (scn k l n p - 1) : Nat) : Int) := (hf _ (by omega)).1
  refine ⟨⟨by omega, by omega⟩, ⟨by omega, by omega⟩, ?_⟩
  rw [tn0, tnm, e1, e2]
  refine ⟨⟨by omega, by omega⟩, q_vbf (by omega) ⟨⟨by omega, by omega⟩, fun J11 hJ11 => ?_⟩⟩
  rw [tn, tn, hA p hp hv]
  have hx : ∀ x : Int, (x = -1 ∨ ∃ j : Nat, x = j ∧ j < n ∧ ¬ hid k j) → two_le_levelBeside x r A ∧ twr_le_levelBeside x r A = bsd l r x ∧ 0 ≤ bsd l r x := fun x hx => by
    unfold two_le_levelBeside twr_le_levelBeside bsd
    rcases hx with e | ⟨j, e, g1, g2⟩
    · rw [if_pos e, if_pos e]
      exact ⟨fun z => absurd e z, rfl, hr⟩
    · rw [e, tn, if_neg (by omega), if_neg (by omega)]
      exact ⟨fun _ => ⟨by omega, by omega⟩, hA j g1 g2, hl0 j g1 g2⟩
  have hvb : vb k p = -1 ∨ ∃ j : Nat, vb k p = j ∧ j < n ∧ ¬ hid k j := by
    rcases vb_in k p with ⟨e, _⟩ | ⟨j, e, g1, g2, _⟩
    · exact Or.inl e
    · exact Or.inr ⟨j, e, by omega, g2⟩
  have h3 := hx _ hvb
  have hlp := hl0 p hp hv
  have j11 : ∀ x : Int, (x = -1 ∨ ∃ j : Nat, x = j ∧ j < n ∧ ¬ hid k j) → x = (if op k (sq k l n p (scn k l n p - 1)) then -1 else vn k (n - (sq k l n p (scn k l n p - 1) + 1)) (sq k l n p (scn k l n p - 1) + 1)) → J11 (l p) (vb k p) x := fun x g1 g2 => hJ11 _ _ _ (by
    have h4 := hx x g1
    rw [h3.2.1, h4.2.1, side_e, side_e, side_e]
    unfold sem sbg sen mx2 at hK
    rw [← g2] at hK
    refine ⟨hlp, h3.1, ?_, h4.1, ?_, hK⟩
    · show (0 : Int) ≤ _
      split
      · exact h3.2.2
      · exact hlp
    · show (0 : Int) ≤ _
      split
      · exact h4.2.2
      · exact hlp)
  by_cases c : op k (sq k l n p (scn k l n p - 1))
  · exact ⟨fun g => absurd g (io_y c), fun _ => j11 (-1) (Or.inl rfl) (by rw [if_pos c])⟩
  · refine ⟨fun _ => q_vbh hn hs.1 (j11 _ ?_ (by rw [if_neg c])), fun g => absurd (io_n c) g⟩
    rcases vn_in k (n - (sq k l n p (scn k l n p - 1) + 1)) (sq k l n p (scn k l n p - 1) + 1) with ⟨e, _⟩ | ⟨j, e, g1, g2, g3, _⟩
    · exact Or.inl e
    · exact Or.inr ⟨j, e, by omega, g3⟩
end GAT
