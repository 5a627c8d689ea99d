/-! pure: sequences as chains of places -/
theorem cl_inj {k : Nat → Int} {y : Nat} : ∀ m d e i, cl k m d i = y → cl k m e i = y → d = e := by
  intro m
  induction m with
  | zero =>
    intro d e i h
    have : (-1 : Int) = y := h
    omega
  | succ m ih =>
    intro d e i h1 h2
    rw [cl_s] at h1 h2
    have hb : ∀ z, ¬ cl k m z (i + 1) = i := fun z hz => by
      rcases cl_b k m z (i + 1) with q | ⟨j, q1, q2, _⟩ <;> omega
    by_cases a : k i = 20
    · rw [if_pos a] at h1 h2
      by_cases u : d = 0
      · rw [if_pos u] at h1
        by_cases v : e = 0
        · omega
        · rw [if_neg v] at h2
          exact absurd (h2.trans h1.symm) (hb _)
      · rw [if_neg u] at h1
        by_cases v : e = 0
        · rw [if_pos v] at h2
          exact absurd (h1.trans h2.symm) (hb _)
        · rw [if_neg v] at h2
          have := ih _ _ _ h1 h2
          omega
    · rw [if_neg a] at h1 h2
      by_cases c : op k i
      · rw [if_pos c] at h1 h2
        have := ih _ _ _ h1 h2
        omega
      · rw [if_neg c] at h1 h2
        exact ih _ _ _ h1 h2
theorem cl_pass {k : Nat → Int} {y x : Nat} : ∀ m d i, cl k m d i = y → i ≤ x → x < y → ∃ e, cl k (m - (x - i)) e x = y := by
  intro m
  induction m with
  | zero =>
    intro d i h
    have : (-1 : Int) = y := h
    omega
  | succ m ih =>
    intro d i h h1 h2
    by_cases z : i = x
    · subst z
      exact ⟨d, by rw [Nat.sub_self, Nat.sub_zero]; exact h⟩
    · rw [cl_s] at h
      have g : ∀ e, cl k m e (i + 1) = y → ∃ e, cl k (m + 1 - (x - i)) e x = y := fun e he => by
        have := ih e (i + 1) he (by omega) h2
        rw [show m - (x - (i + 1)) = m + 1 - (x - i) by omega] at this
        exact this
      by_cases a : k i = 20
      · rw [if_pos a] at h
        by_cases u : d = 0
        · rw [if_pos u] at h
          omega
        · rw [if_neg u] at h
          exact g _ h
      · rw [if_neg a] at h
        by_cases c : op k i
        · rw [if_pos c] at h
          exact g _ h
        · rw [if_neg c] at h
          exact g _ h
theorem clo_inj {k : Nat → Int} {n x z y : Nat} (hz : op k z) (hn : z < n) (h1 : clo k n x = y) (h2 : clo k n z = y) (hx : x < z) : False := by
  have b2 := clo_b (k := k) (n := n) (i := z) hn
  have hzy : z < y := by
    rcases b2 with e | ⟨j, e1, e2, _⟩ <;> omega
  unfold clo at h1 h2
  obtain ⟨e, he⟩ := cl_pass (n - (x + 1)) 0 (x + 1) h1 (show x + 1 ≤ z by omega) hzy
  rw [show n - (x + 1) - (z - (x + 1)) = (n - (z + 1)) + 1 by omega, cl_s, if_neg (by omega), if_pos hz] at he
  have := cl_inj _ _ _ _ he h2
  omega
theorem mt_of {k : Nat → Int} {n x y : Nat} (hx : op k x) (hy : k y = 20) (hyn : y < n) (h : clo k n x = y) (hxy : x < y) : mt k n y = x := by
  unfold mt
  rw [if_neg (by omega), if_pos hy]
  have := fo_one hx h (fun z hz h1 h2 => False.elim (clo_inj hx (by omega) h2 h hz)) (y - (x + 1))
  rw [show x + 1 + (y - (x + 1)) = y by omega] at this
  exact this
def vb (k : Nat → Int) : Nat → Int
  | 0 => -1
  | i + 1 => if hid k i then vb k i else (i : Int)
def vn (k : Nat → Int) : Nat → Nat → Int
  | 0, _ => -1
  | m + 1, i => if hid k i then vn k m (i + 1) else (i : Int)
theorem vb_in (k : Nat → Int) : ∀ i, (vb k i = -1 ∧ ∀ x, x < i → hid k x) ∨ ∃ j : Nat, vb k i = j ∧ j < i ∧ ¬ hid k j ∧ ∀ x, j < x → x < i → hid k x := by
  intro i
  induction i with
  | zero => exact Or.inl ⟨rfl, fun x hx => absurd hx (by omega)⟩
  | succ i ih =>
    have e : vb k (i + 1) = if hid k i then vb k i else (i : Int) := rfl
    rw [e]
    by_cases h : hid k i
    · rw [if_pos h]
      rcases ih with ⟨h1, h2⟩ | ⟨j, h1, h2, h3, h4⟩
      · refine Or.inl ⟨h1, fun x hx => ?_⟩
        by_cases z : x = i
        · subst z; exact h
        · exact h2 x (by omega)
      · refine Or.inr ⟨j, h1, by omega, h3, fun x hx1 hx2 => ?_⟩
        by_cases z : x = i
        · subst z; exact h
        · exact h4 x hx1 (by omega)
    · rw [if_neg h]
      exact Or.inr ⟨i, rfl, by omega, h, fun x h1 h2 => by omega⟩
theorem vn_in (k : Nat → Int) : ∀ m i, (vn k m i = -1 ∧ ∀ x, i ≤ x → x < i + m → hid k x) ∨ ∃ j : Nat, vn k m i = j ∧ i ≤ j ∧ j < i + m ∧ ¬ hid k j ∧ ∀ x, i ≤ x → x < j → hid k x := by
  intro m
  induction m with
  | zero => intro i; exact Or.inl ⟨rfl, fun x h1 h2 => by omega⟩
  | succ m ih =>
    intro i
    have e : vn k (m + 1) i = if hid k i then vn k m (i + 1) else (i : Int) := rfl
    rw [e]
    by_cases h : hid k i
    · rw [if_pos h]
      rcases ih (i + 1) with ⟨h1, h2⟩ | ⟨j, h1, h2, h3, h4, h5⟩
      · refine Or.inl ⟨h1, fun x hx1 hx2 => ?_⟩
        by_cases z : x = i
        · subst z; exact h
        · exact h2 x (by omega) (by omega)
      · refine Or.inr ⟨j, h1, by omega, by omega, h4, fun x hx1 hx2 => ?_⟩
        by_cases z : x = i
        · subst z; exact h
        · exact h5 x (by omega) (by omega)
    · rw [if_neg h]
      exact Or.inr ⟨i, rfl, by omega, by omega, h, fun x h1 h2 => by omega⟩
theorem vb_of {k : Nat → Int} {i j : Nat} (h1 : j < i) (h2 : ¬ hid k j) (h3 : ∀ x, j < x → x < i → hid k x) : vb k i = j := by
  rcases vb_in k i with ⟨_, g⟩ | ⟨z, g1, g2, g3, g4⟩
  · exact absurd (g j h1) h2
  · by_cases a : z < j
    · exact absurd (g4 j a h1) h2
    · by_cases c : j < z
      · exact absurd (h3 z c g2) g3
      · omega
theorem vn_of {k : Nat → Int} {m i j : Nat} (h1 : i ≤ j) (h0 : j < i + m) (h2 : ¬ hid k j) (h3 : ∀ x, i ≤ x → x < j → hid k x) : vn k m i = j := by
  rcases vn_in k m i with ⟨_, g⟩ | ⟨z, g1, g2, g5, g3, g4⟩
  · exact absurd (g j h1 h0) h2
  · by_cases a : j < z
    · exact absurd (g4 j h1 a) h2
    · by_cases c : z < j
      · exact absurd (h3 z g2 c) g3
      · omega
def nx (k L : Nat → Int) (n x : Nat) : Nat := if 0 ≤ vn k (n - (x + 1)) (x + 1) ∧ L (vn k (n - (x + 1)) (x + 1)).toNat = L x then (vn k (n - (x + 1)) (x + 1)).toNat else if op k x ∧ 0 ≤ clo k n x then (clo k n x).toNat else n
def pr (k L : Nat → Int) (n x : Nat) : Int := if 0 ≤ vb k x ∧ L (vb k x).toNat = L x then vb k x else if k x = 20 then mt k n x else -1
def HL (k L : Nat → Int) (n : Nat) : Prop := ∀ o q : Nat, op k o → o < n → clo k n o = q → L q = L o ∧ ((∀ j, o < j → j < q → ¬ hid k j → L o < L j) ∨ (∀ j, o < j → j < q → ¬ hid k j → L j = L o))
section CHN
variable {k L : Nat → Int} {n : Nat}
theorem nx_n (x : Nat) (hx : x < n) : nx k L n x = n ∨ (x < nx k L n x ∧ nx k L n x < n ∧ ¬ hid k (nx k L n x)) := by
  unfold nx
  by_cases a : 0 ≤ vn k (n - (x + 1)) (x + 1) ∧ L (vn k (n - (x + 1)) (x + 1)).toNat = L x
  · rw [if_pos a]
    rcases vn_in k (n - (x + 1)) (x + 1) with ⟨e, _⟩ | ⟨j, e, h1, h2, h3, _⟩
    · omega
    · rw [e, tn]
      exact Or.inr ⟨by omega, by omega, h3⟩
  · rw [if_neg a]
    by_cases c : op k x ∧ 0 ≤ clo k n x
    · rw [if_pos c]
      rcases clo_b (k := k) (n := n) (i := x) hx with e | ⟨j, e, h1, h2, h3⟩
      · omega
      · rw [e, tn]
        exact Or.inr ⟨by omega, by omega, fun z => by have := z.2; omega⟩
    · rw [if_neg c]
      exact Or.inl rfl
theorem br_of (hL : HL k L n) {x y : Nat} (hx : x < n) (ho : op k x) (hc : clo k n x = y) (hy : x < y) (hyn : y < n) (hne : ¬ (0 ≤ vn k (n - (x + 1)) (x + 1) ∧ L (vn k (n - (x + 1)) (x + 1)).toNat = L x)) : ¬ (0 ≤ vb k y ∧ L (vb k y).toNat = L y) := by
  intro hz
  have hl := hL x y ho hx hc
  have hvx : ¬ hid k x := fun z => by have := z.2; omega
  rcases vb_in k y with ⟨e, _⟩ | ⟨z, e, h1, h2, h3⟩
  · omega
  · rw [e, tn] at hz
    have hzx : x ≤ z := by
      by_cases q : z < x
      · exact absurd (h3 x q hy) hvx
      · omega
    have hky : ¬ hid k y := by
      rcases clo_b (k := k) (n := n) (i := x) hx with f | ⟨j, f, g1, g2, g3⟩
      · omega
      · have : j = y := by omega
        subst this
        exact fun w => by have := w.2; omega
    by_cases q : z = x
    · subst q
      have := vn_of (k := k) (m := n - (z + 1)) (i := z + 1) (j := y) (by omega) (by omega) hky (fun w h1 h2 => h3 w (by omega) h2)
      rw [this] at hne
      exact hne ⟨by omega, by rw [tn]; exact hl.1⟩
    · rcases hl.2 with g | g
      · have := g z (by omega) h1 h2
        have := hl.1
        omega
      · rcases vn_in k (n - (x + 1)) (x + 1) with ⟨f, f2⟩ | ⟨w, f, f1, f2, f3, f4⟩
        · exact absurd (f2 z (by omega) (by omega)) h2
        · have hwz : w ≤ z := by
            by_cases u : z < w
            · exact absurd (f4 z (by omega) u) h2
            · omega
          rw [f, tn] at hne
          exact hne ⟨by omega, g w (by omega) (by omega) f3⟩
theorem pr_nx (hL : HL k L n) {x y : Nat} (hx : x < n) (hv : ¬ hid k x) (h : nx k L n x = y) (hy : y < n) : pr k L n y = x := by
  unfold nx at h
  by_cases a : 0 ≤ vn k (n - (x + 1)) (x + 1) ∧ L (vn k (n - (x + 1)) (x + 1)).toNat = L x
  · rw [if_pos a] at h
    rcases vn_in k (n - (x + 1)) (x + 1) with ⟨e, _⟩ | ⟨j, e, h1, h2, h3, h4⟩
    · omega
    · rw [e, tn] at h a
      subst h
      have := vb_of (k := k) (i := j) (j := x) (by omega) hv (fun w g1 g2 => h4 w (by omega) g2)
      unfold pr
      rw [this, tn, if_pos ⟨by omega, a.2.symm⟩]
  · rw [if_neg a] at h
    by_cases c : op k x ∧ 0 ≤ clo k n x
    · rw [if_pos c] at h
      rcases clo_b (k := k) (n := n) (i := x) hx with e | ⟨j, e, h1, h2, h3⟩
      · omega
      · rw [e, tn] at h
        subst h
        unfold pr
        rw [if_neg (br_of hL hx c.1 e h1 h2 a), if_pos h3, mt_of c.1 h3 h2 e h1]
    · rw [if_neg c] at h
      omega
theorem nx_pr (hL : HL k L n) {x y : Nat} (hy : y < n) (hv : ¬ hid k y) (h : pr k L n y = x) : nx k L n x = y ∧ x < y ∧ ¬ hid k x := by
  unfold pr at h
  by_cases a : 0 ≤ vb k y ∧ L (vb k y).toNat = L y
  · rw [if_pos a] at h
    rcases vb_in k y with ⟨e, _⟩ | ⟨j, e, h1, h2, h3⟩
    · omega
    · rw [e] at h
      have : j = x := by omega
      subst this
      rw [e, tn] at a
      have := vn_of (k := k) (m := n - (j + 1)) (i := j + 1) (j := y) (by omega) (by omega) hv (fun w g1 g2 => h3 w (by omega) g2)
      refine ⟨?_, h1, h2⟩
      unfold nx
      rw [this, tn, if_pos ⟨by omega, a.2.symm⟩]
  · rw [if_neg a] at h
    by_cases c : k y = 20
    · rw [if_pos c] at h
      unfold mt at h
      rw [if_neg (by omega), if_pos c] at h
      rcases fo_in (k := k) (n := n) (j := y) y with e | ⟨z, e, h1, h2, h3⟩
      · omega
      · have : z = x := by omega
        subst this
        have hvz : ¬ hid k z := fun w => by have := w.2; omega
        refine ⟨?_, h1, hvz⟩
        have hl := hL z y h2 (by omega) h3
        unfold nx
        rw [if_neg ?_, if_pos ⟨h2, by omega⟩, h3, tn]
        intro hw
        rcases vn_in k (n - (z + 1)) (z + 1) with ⟨f, _⟩ | ⟨w, f, f1, f2, f3, f4⟩
        · omega
        · rw [f, tn] at hw
          have hwy : w ≤ y := by
            by_cases u : y < w
            · exact absurd (f4 y (by omega) u) hv
            · omega
          by_cases u : w = y
          · subst u
            have := vb_of (k := k) (i := w) (j := z) (by omega) hvz (fun q g1 g2 => f4 q (by omega) g2)
            rw [this, tn] at a
            exact a ⟨by omega, hl.1.symm⟩
          · rcases hl.2 with g | g
            · have := g w (by omega) (by omega) f3
              omega
            · rcases vb_in k y with ⟨q, q2⟩ | ⟨v, q, q1, q2, q3⟩
              · exact absurd (q2 w (by omega)) f3
              · have hvw : w ≤ v := by
                  by_cases t : v < w
                  · exact absurd (q3 w t (by omega)) f3
                  · omega
                rw [q, tn] at a
                exact a ⟨by omega, by rw [g v (by omega) (by omega) q2, hl.1]⟩
    · rw [if_neg c] at h
      omega
def sq (k L : Nat → Int) (n p : Nat) : Nat → Nat
  | 0 => p
  | i + 1 => if sq k L n p i < n then nx k L n (sq k L n p i) else n
theorem sq_s (k L : Nat → Int) (n p i : Nat) : sq k L n p (i + 1) = if sq k L n p i < n then nx k L n (sq k L n p i) else n := rfl
def sce (k L : Nat → Int) (n p : Nat) : Nat → Nat → Nat
  | 0, i => i
  | f + 1, i => if sq k L n p i < n then sce k L n p f (i + 1) else i
def scn (k L : Nat → Int) (n p : Nat) : Nat := sce k L n p n 0
theorem sq_v {p : Nat} (hp : p < n) (hv : ¬ hid k p) : ∀ i, sq k L n p i = n ∨ (sq k L n p i < n ∧ ¬ hid k (sq k L n p i) ∧ p + i ≤ sq k L n p i) := by
  intro i
  induction i with
  | zero => exact Or.inr ⟨hp, hv, Nat.le_refl _⟩
  | succ i ih =>
    rw [sq_s]
    rcases ih with e | ⟨h1, h2, h3⟩
    · rw [if_neg (by omega)]
      exact Or.inl rfl
    · rw [if_pos h1]
      rcases nx_n (k := k) (L := L) _ h1 with e | ⟨e1, e2, e3⟩
      · exact Or.inl e
      · exact Or.inr ⟨e2, e3, by omega⟩
theorem sce_s (k L : Nat → Int) (n p f i : Nat) : sce k L n p (f + 1) i = if sq k L n p i < n then sce k L n p f (i + 1) else i := rfl
theorem sce_ok {p : Nat} (hp : p < n) (hv : ¬ hid k p) : ∀ f i, n ≤ p + i + f → (∀ j, j < i → sq k L n p j < n) → (∀ j, j < sce k L n p f i → sq k L n p j < n) ∧ sq k L n p (sce k L n p f i) = n ∧ i ≤ sce k L n p f i := by
  intro f
  induction f with
  | zero =>
    intro i h1 h2
    refine ⟨h2, ?_, Nat.le_refl _⟩
    show sq k L n p i = n
    rcases sq_v (L := L) hp hv i with e | ⟨e1, _, e3⟩ <;> omega
  | succ f ih =>
    intro i h1 h2
    rw [sce_s]
    by_cases z : sq k L n p i < n
    · rw [if_pos z]
      have := ih (i + 1) (by omega) (fun j hj => by
        by_cases y : j = i
        · subst y; exact z
        · exact h2 j (by omega))
      exact ⟨this.1, this.2.1, by omega⟩
    · rw [if_neg z]
      refine ⟨h2, ?_, Nat.le_refl _⟩
      rcases sq_v (L := L) hp hv i with e | ⟨e1, _, e3⟩
      · exact e
      · exact absurd e1 z
theorem sq_end {p : Nat} : ∀ d i, sq k L n p i = n → sq k L n p (i + d) = n := by
  intro d
  induction d with
  | zero => intro i h; exact h
  | succ d ih =>
    intro i h
    rw [← Nat.add_assoc, sq_s, if_neg (by rw [ih i h]; omega)]
theorem scn_ok {p : Nat} (hp : p < n) (hv : ¬ hid k p) : (∀ j, j < scn k L n p → sq k L n p j < n ∧ ¬ hid k (sq k L n p j)) ∧ (∀ j, scn k L n p ≤ j → sq k L n p j = n) ∧ 0 < scn k L n p ∧ p + scn k L n p ≤ n := by
  have h := sce_ok (L := L) hp hv n 0 (by omega) (fun j hj => absurd hj (by omega))
  have h0 : 0 < scn k L n p := by
    unfold scn
    by_cases z : sce k L n p n 0 = 0
    · have := h.2.1
      rw [z] at this
      have e : sq k L n p 0 = p := rfl
      omega
    · omega
  refine ⟨fun j hj => ?_, fun j hj => ?_, h0, ?_⟩
  · have h1 := h.1 j hj
    rcases sq_v (L := L) hp hv j with e | ⟨e1, e2, e3⟩
    · omega
    · exact ⟨e1, e2⟩
  · have := sq_end (j - scn k L n p) _ h.2.1
    rw [show sce k L n p n 0 = scn k L n p from rfl, show scn k L n p + (j - scn k L n p) = j by omega] at this
    exact this
  · have h1 := h.1 (scn k L n p - 1) (show scn k L n p - 1 < scn k L n p by omega)
    rcases sq_v (L := L) hp hv (scn k L n p - 1) with e | ⟨e1, e2, e3⟩ <;> omega
theorem sq_lt {p : Nat} (hp : p < n) (hv : ¬ hid k p) {i j : Nat} (hij : i < j) (hj : j < scn k L n p) : sq k L n p i < sq k L n p j := by
  have hs := scn_ok (L := L) hp hv
  have step : ∀ d, i + 1 + d < scn k L n p → sq k L n p i < sq k L n p (i + 1 + d) := by
    intro d
    induction d with
    | zero =>
      intro h
      have h1 := hs.1 i (by omega)
      have h2 := hs.1 (i + 1) (by omega)
      have e : sq k L n p (i + 1) = nx k L n (sq k L n p i) := by rw [sq_s, if_pos h1.1]
      rcases nx_n (k := k) (L := L) _ h1.1 with q | ⟨q1, q2, q3⟩
      · omega
      · show sq k L n p i < sq k L n p (i + 1)
        omega
    | succ d ih =>
      intro h
      have h0 := ih (by omega)
      have h1 := hs.1 (i + 1 + d) (by omega)
      have h2 := hs.1 (i + 1 + d + 1) (by omega)
      have e : sq k L n p (i + 1 + d + 1) = nx k L n (sq k L n p (i + 1 + d)) := by rw [sq_s, if_pos h1.1]
      rcases nx_n (k := k) (L := L) _ h1.1 with q | ⟨q1, q2, q3⟩
      · omega
      · show sq k L n p i < sq k L n p (i + 1 + d + 1)
        omega
  have := step (j - (i + 1)) (by omega)
  rw [show i + 1 + (j - (i + 1)) = j by omega] at this
  exact this
def ow (k L : Nat → Int) (n : Nat) : Nat → Nat → Nat × Nat
  | 0, x => (x, 0)
  | f + 1, x => if pr k L n x = -1 then (x, 0) else ((ow k L n f (pr k L n x).toNat).1, (ow k L n f (pr k L n x).toNat).2 + 1)
theorem ow_s (k L : Nat → Int) (n f x : Nat) : ow k L n (f + 1) x = if pr k L n x = -1 then (x, 0) else ((ow k L n f (pr k L n x).toNat).1, (ow k L n f (pr k L n x).toNat).2 + 1) := rfl
theorem ow_sq (hL : HL k L n) {p : Nat} (hp : p < n) (hv : ¬ hid k p) (hs : pr k L n p = -1) : ∀ j f, j < scn k L n p → j < f → ow k L n f (sq k L n p j) = (p, j) := by
  have ho := scn_ok (L := L) hp hv
  intro j
  induction j with
  | zero =>
    intro f h1 h2
    cases f with
    | zero => omega
    | succ f =>
      rw [ow_s]
      show (if pr k L n p = -1 then (p, 0) else _) = (p, 0)
      rw [if_pos hs]
  | succ j ih =>
    intro f h1 h2
    cases f with
    | zero => omega
    | succ f =>
      have g1 := ho.1 j (by omega)
      have g2 := ho.1 (j + 1) h1
      have e : nx k L n (sq k L n p j) = sq k L n p (j + 1) := by rw [sq_s, if_pos g1.1]
      have e2 := pr_nx hL g1.1 g1.2 e g2.1
      rw [ow_s, e2, if_neg (by omega), tn, ih f (by omega) (by omega)]
theorem sq_cov (hL : HL k L n) : ∀ m x, x < m → x < n → ¬ hid k x → ∃ p j, p ≤ x ∧ ¬ hid k p ∧ pr k L n p = -1 ∧ j < scn k L n p ∧ sq k L n p j = x := by
  intro m
  induction m with
  | zero => intro x h; omega
  | succ m ih =>
    intro x hxm hx hv
    by_cases z : pr k L n x = -1
    · exact ⟨x, 0, Nat.le_refl _, hv, z, (scn_ok (L := L) hx hv).2.2.1, rfl⟩
    · have hnn : ∃ y : Nat, pr k L n x = y := by
        unfold pr at z ⊢
        by_cases a : 0 ≤ vb k x ∧ L (vb k x).toNat = L x
        · rw [if_pos a] at z ⊢
          exact ⟨(vb k x).toNat, by omega⟩
        · rw [if_neg a] at z ⊢
          by_cases c : k x = 20
          · rw [if_pos c] at z ⊢
            unfold mt at z ⊢
            rw [if_neg (by omega), if_pos c] at z ⊢
            rcases fo_in (k := k) (n := n) (j := x) x with e | ⟨q, e, _⟩
            · exact absurd e z
            · exact ⟨q, e⟩
          · rw [if_neg c] at z
            exact absurd rfl z
      obtain ⟨y, hy⟩ := hnn
      have h1 := nx_pr hL hx hv hy
      obtain ⟨p, j, g1, g2, g3, g4, g5⟩ := ih y (by omega) (by omega) h1.2.2
      have ho := scn_ok (L := L) (show p < n by omega) g2
      have e : sq k L n p (j + 1) = x := by rw [sq_s, g5, if_pos (by omega), h1.1]
      refine ⟨p, j + 1, by omega, g2, g3, ?_, e⟩
      by_cases w : j + 1 < scn k L n p
      · exact w
      · have := ho.2.1 (j + 1) (by omega)
        omega
end CHN
