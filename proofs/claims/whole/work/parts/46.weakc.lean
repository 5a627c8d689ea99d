/-! pure: the weak steps; spec, and the first side -/
def mx (f g : Nat → Int) (i : Nat) : Nat → Int := fun j => if j < i then f j else g j
theorem mx_0 (f g : Nat → Int) : mx f g 0 = g := by
  funext j
  unfold mx
  rw [if_neg (by omega)]
theorem mx_lt {f g : Nat → Int} {i j : Nat} (h : j < i) : mx f g i j = f j := by unfold mx; rw [if_pos h]
theorem mx_ge {f g : Nat → Int} {i j : Nat} (h : i ≤ j) : mx f g i j = g j := by unfold mx; rw [if_neg (by omega)]
def ag (c : Nat) (T h : Nat → Int) : Prop := ∀ j, j < c → T j = h j
theorem ag_up {c i : Nat} {T f g : Nat → Int} {x : Int} (h : ag c T (mx f g i)) (hx : x = f i) : ag c (tw_up T i x) (mx f g (i + 1)) := fun j hj => by
  by_cases e : j = i
  · subst e; rw [up_at, mx_lt (by omega)]; exact hx
  · rw [up_ne _ _ e, h j hj]
    by_cases d : j < i
    · rw [mx_lt d, mx_lt (by omega)]
    · rw [mx_ge (by omega), mx_ge (by omega)]
theorem ag_skip {c i : Nat} {T f g : Nat → Int} (h : ag c T (mx f g i)) (hx : f i = g i) : ag c T (mx f g (i + 1)) := fun j hj => by
  rw [h j hj]
  by_cases e : j = i
  · subst e; rw [mx_ge (Nat.le_refl _), mx_lt (by omega)]; exact hx.symm
  · by_cases d : j < i
    · rw [mx_lt d, mx_lt (by omega)]
    · rw [mx_ge (by omega), mx_ge (by omega)]
theorem ag_end {c : Nat} {T f g : Nat → Int} (h : ag c T (mx f g c)) : ag c T f := fun j hj => by rw [h j hj, mx_lt hj]
theorem ag_beg {c : Nat} {T f g : Nat → Int} (h : ag c T g) : ag c T (mx f g 0) := fun j hj => by rw [mx_0]; exact h j hj
theorem ag_at {c i : Nat} {T f g : Nat → Int} (h : ag c T (mx f g i)) (hi : i < c) : T i = g i := by rw [h i hi, mx_ge (Nat.le_refl _)]
/-- W1 -/
def s1 (b : Int) (t : Nat → Int) : Nat → Int
  | 0 => if t 0 = 8 then b else t 0
  | k + 1 => if t (k + 1) = 8 then (if 17 ≤ s1 b t k then 11 else s1 b t k) else t (k + 1)
def mk1 (t : Nat → Int) (k : Nat) : Int := if t k = 8 then 1 else 0
/-- W2, W3 -/
def ls (t : Nat → Int) : Nat → Int
  | 0 => if t 0 ≤ 2 then t 0 else -1
  | k + 1 => if t (k + 1) ≤ 2 then t (k + 1) else ls t k
def s2 (t : Nat → Int) (k : Nat) : Int := if t k = 3 ∧ ls t k = 2 then 6 else t k
def s3 (t : Nat → Int) (k : Nat) : Int := if t k = 2 then 1 else t k
/-- W4 -/
def s4 (c : Nat) (t : Nat → Int) : Nat → Int
  | 0 => t 0
  | k + 1 => if k + 2 < c ∧ s4 c t k = t (k + 2) ∧ ((t (k + 1) = 4 ∧ s4 c t k = 3) ∨ (t (k + 1) = 7 ∧ (s4 c t k = 3 ∨ s4 c t k = 6))) then s4 c t k else t (k + 1)
/-- W5 -/
def lf (t : Nat → Int) : Nat → Int
  | 0 => if t 0 = 5 then -1 else t 0
  | k + 1 => if t (k + 1) = 5 then lf t k else t (k + 1)
def rtd (t : Nat → Int) (c : Nat) : Nat → Int
  | 0 => -1
  | d + 1 => if t (c - (d + 1)) = 5 then rtd t c d else t (c - (d + 1))
def rt (t : Nat → Int) (c k : Nat) : Int := rtd t c (c - k)
theorem rt_s {t : Nat → Int} {c k : Nat} (h : k < c) : rt t c k = if t k = 5 then rt t c (k + 1) else t k := by
  unfold rt
  rw [show c - k = (c - (k + 1)) + 1 by omega]
  show (if t (c - (c - (k + 1) + 1)) = 5 then rtd t c (c - (k + 1)) else t (c - (c - (k + 1) + 1))) = _
  rw [show c - (c - (k + 1) + 1) = k by omega]
theorem rt_c (t : Nat → Int) (c : Nat) : rt t c c = -1 := by
  unfold rt
  rw [Nat.sub_self]
  rfl
def s5 (c : Nat) (t : Nat → Int) (k : Nat) : Int := if t k = 5 ∧ (lf t k = 3 ∨ rt t c k = 3) then 3 else t k
/-- W6, W7 -/
def s6 (t : Nat → Int) (k : Nat) : Int := if t k = 4 ∨ t k = 5 ∨ t k = 7 then 11 else t k
def sb (b : Int) (t : Nat → Int) : Nat → Int
  | 0 => if t 0 ≤ 1 then t 0 else b
  | k + 1 => if t (k + 1) ≤ 1 then t (k + 1) else sb b t k
def s7 (b : Int) (t : Nat → Int) (k : Nat) : Int := if t k = 3 ∧ sb b t k = 0 then 0 else t k
def sw (c : Nat) (b : Int) (t : Nat → Int) : Nat → Int := s7 b (s6 (s5 c (s4 c (s3 (s2 (s1 b t))))))
/-- types are in range -/
def ty20 (c : Nat) (t : Nat → Int) : Prop := ∀ j, j < c → 0 ≤ t j ∧ t j ≤ 20
theorem s1_20 {c : Nat} {b : Int} {t : Nat → Int} (hb : b = 0 ∨ b = 1) (h : ty20 c t) : ty20 c (s1 b t) := by
  intro j
  induction j with
  | zero => intro hj; have := h 0 hj; simp only [s1]; split <;> omega
  | succ j ih =>
    intro hj
    have h1 := h (j + 1) hj
    have h2 := ih (by omega)
    simp only [s1]
    split
    · split <;> omega
    · exact h1
theorem s2_20 {c : Nat} {t : Nat → Int} (h : ty20 c t) : ty20 c (s2 t) := fun j hj => by
  have := h j hj
  unfold s2
  split <;> omega
theorem s3_20 {c : Nat} {t : Nat → Int} (h : ty20 c t) : ty20 c (s3 t) := fun j hj => by
  have := h j hj
  unfold s3
  split <;> omega
theorem s4_20 {c : Nat} {t : Nat → Int} (h : ty20 c t) : ty20 c (s4 c t) := by
  intro j
  induction j with
  | zero => intro hj; exact h 0 hj
  | succ j ih =>
    intro hj
    have h1 := h (j + 1) hj
    have h2 := ih (by omega)
    simp only [s4]
    split
    · exact h2
    · exact h1
theorem s5_20 {c : Nat} {t : Nat → Int} (h : ty20 c t) : ty20 c (s5 c t) := fun j hj => by
  have := h j hj
  unfold s5
  split <;> omega
theorem s6_20 {c : Nat} {t : Nat → Int} (h : ty20 c t) : ty20 c (s6 t) := fun j hj => by
  have := h j hj
  unfold s6
  split <;> omega
theorem s7_20 {c : Nat} {b : Int} {t : Nat → Int} (h : ty20 c t) : ty20 c (s7 b t) := fun j hj => by
  have := h j hj
  unfold s7
  split <;> omega
/-- the first side -/
theorem p_w1 {t : Nat → Int} {b : Int} {c : Nat} (hc : c ≤ 64) (hb : b = 0 ∨ b = 1) (ht : ty20 c t) {X : (Nat → Int) → (Nat → Int) → Prop} (hX : ∀ T M, ag c T (s1 b t) → ag c M (mk1 t) → X T M) : ∀ (m i : Nat) (v : Int) (T M : Nat → Int), i + m = c → v = (if i = 0 then b else s1 b t (i - 1)) → ag c T (mx (s1 b t) t i) → (∀ j, j < i → M j = mk1 t j) → twl_se_joinMarks_7 X c b (m + 1) v i T M := by
  intro m
  induction m with
  | zero =>
    intro i v T M hi hv hT hM
    rw [twl_se_joinMarks_7]
    have : i = c := by omega
    subst this
    exact ⟨fun _ => hX T M (ag_end hT) hM, fun h => absurd (Int.le_refl _) h⟩
  | succ m ih =>
    intro i v T M hi hv hT hM
    rw [twl_se_joinMarks_7]
    refine ⟨fun h => absurd h (by omega), fun _ => ⟨⟨by omega, by omega⟩, fun x2 h2 => ?_⟩⟩
    have hi2 : i < c := by omega
    rw [tn] at h2 ⊢
    rw [ag_at hT hi2] at h2
    have e2 : x2 = mk1 t i := h2
    have b2 : 0 ≤ x2 ∧ x2 ≤ 1 := by rw [h2]; split <;> decide
    refine ⟨⟨by omega, by omega⟩, b2, ⟨by omega, by omega⟩, ⟨fun _ => ⟨fun _ => ⟨by omega, by omega⟩, fun _ => ⟨by omega, by omega⟩⟩, fun T' hT' => ⟨⟨by omega, by omega⟩, ⟨by omega, by omega⟩, ?_⟩⟩⟩
    rw [up_at] at hT'
    have hv20 : 0 ≤ v ∧ v ≤ 20 := by
      rw [hv]
      split
      · omega
      · exact s1_20 hb ht (i - 1) (by omega)
    have hA : ag c T' (mx (s1 b t) t (i + 1)) := by
      by_cases d : t i = 8
      · rw [if_pos d] at h2
        have e1 : ¬ x2 = 0 := by omega
        rw [if_neg e1] at hT'
        have e3 : s1 b t i = if 17 ≤ v then 11 else v := by
          rw [hv]
          cases i with
          | zero => simp only [s1]; rw [if_pos d]; simp; omega
          | succ i => simp only [s1]; rw [if_pos d]; simp
        unfold twr_tl_isIsolateMark at hT'
        by_cases d2 : v < 17
        · rw [if_pos d2, if_pos rfl] at hT'
          rw [hT']
          exact ag_up hT (by rw [e3, if_neg (by omega)])
        · rw [if_neg d2, if_neg (by omega)] at hT'
          rw [hT']
          exact ag_up hT (by rw [e3, if_pos (by omega)])
      · rw [if_neg d] at h2
        rw [if_pos h2] at hT'
        rw [hT']
        refine ag_skip hT ?_
        cases i with
        | zero => simp only [s1]; rw [if_neg d]
        | succ i => simp only [s1]; rw [if_neg d]
    rw [sc]
    refine ih (i + 1) _ T' _ (by omega) ?_ hA (up_eq hM e2)
    rw [if_neg (by omega), hA i hi2, mx_lt (by omega)]
    rfl
theorem q_w1 {t T M : Nat → Int} {b : Int} {c : Nat} (hc : c ≤ 64) (hb : b = 0 ∨ b = 1) (ht : ty20 c t) (hT : ag c T t) {K : (Nat → Int) → (Nat → Int) → Prop} (hK : ∀ T M, ag c T (s1 b t) → ag c M (mk1 t) → K T M) : tww_se_joinMarks T M c b K :=
  ⟨c + 1, p_w1 hc hb ht hK c 0 b T M (by omega) rfl (ag_beg hT) (fun j h => absurd h (by omega))⟩
theorem p_w2 {t : Nat → Int} {c : Nat} (hc : c ≤ 64) (ht : ty20 c t) {X : (Nat → Int) → Prop} (hX : ∀ T, ag c T (s3 (s2 t)) → X T) : ∀ (m i : Nat) (v : Int) (T : Nat → Int), i + m = c → v = (if i = 0 then -1 else ls t (i - 1)) → ag c T (mx (s3 (s2 t)) t i) → twl_se_turnArabicNumbers_4 X c (m + 1) v i T := by
  intro m
  induction m with
  | zero =>
    intro i v T hi hv hT
    rw [twl_se_turnArabicNumbers_4]
    have : i = c := by omega
    subst this
    exact ⟨fun _ => hX T (ag_end hT), fun h => absurd (Int.le_refl _) h⟩
  | succ m ih =>
    intro i v T hi hv hT
    rw [twl_se_turnArabicNumbers_4]
    refine ⟨fun h => absurd h (by omega), fun _ => ⟨⟨by omega, by omega⟩, fun J4 hJ4 J16 hJ16 => ?_⟩⟩
    have hi2 : i < c := by omega
    have h20 := ht i hi2
    rw [tn] at hJ4 ⊢
    rw [ag_at hT hi2]
    have els : ls t i = if t i ≤ 2 then t i else v := by
      rw [hv]
      cases i with
      | zero => rfl
      | succ i => simp only [ls]; simp
    have j4 : ∀ x2 : Int, x2 = ls t i → J4 x2 (t i) := by
      intro x2 h2
      refine hJ4 x2 (t i) (fun J6 hJ6 J9 hJ9 => ?_)
      have j6 : ∀ T', ag c T' (mx (s3 (s2 t)) t (i + 1)) → J6 T' := fun T' hT' => hJ6 T' (by
        refine ⟨⟨by omega, by omega⟩, ?_⟩
        rw [sc]
        exact ih (i + 1) x2 T' (by omega) (by rw [if_neg (by omega)]; exact h2) hT')
      have j9 : ¬ (t i = 3 ∧ ls t i = 2) → J9 T := fun d => hJ9 T (by
        refine ⟨fun d2 => ⟨⟨by omega, by omega⟩, j6 _ (ag_up hT ?_)⟩, fun d2 => j6 _ (ag_skip hT ?_)⟩
        · unfold s3 s2
          rw [if_neg d, if_pos d2]
        · unfold s3 s2
          rw [if_neg d, if_neg d2])
      refine ⟨fun d => ⟨fun d2 => ⟨⟨by omega, by omega⟩, j6 _ (ag_up hT ?_)⟩, fun d2 => j9 (fun z => d2 (by rw [h2]; exact z.2))⟩, fun d => j9 (fun z => d z.1)⟩
      have e6 : s2 t i = 6 := by unfold s2; rw [if_pos ⟨d, by rw [← h2]; exact d2⟩]
      unfold s3
      rw [e6, if_neg (by decide)]
    refine ⟨fun d => hJ16 _ (j4 _ (by rw [els, if_pos (by omega)])), fun d => ⟨fun d2 => hJ16 _ (j4 _ (by rw [els, if_pos (by omega)])), fun d2 => ⟨fun d3 => hJ16 _ (j4 _ (by rw [els, if_pos (by omega)])), fun d3 => j4 _ (by rw [els, if_neg (by omega)])⟩⟩⟩
theorem q_w2 {t T : Nat → Int} {c : Nat} (hc : c ≤ 64) (ht : ty20 c t) (hT : ag c T t) {K : (Nat → Int) → Prop} (hK : ∀ T, ag c T (s3 (s2 t)) → K T) : tww_se_turnArabicNumbers T c K :=
  ⟨c + 1, p_w2 hc ht hK c 0 (-1) T (by omega) rfl (ag_beg hT)⟩
theorem s4_s (c : Nat) (t : Nat → Int) (k : Nat) : s4 c t (k + 1) = if k + 2 < c ∧ s4 c t k = t (k + 2) ∧ ((t (k + 1) = 4 ∧ s4 c t k = 3) ∨ (t (k + 1) = 7 ∧ (s4 c t k = 3 ∨ s4 c t k = 6))) then s4 c t k else t (k + 1) := rfl
theorem p_w4 {t : Nat → Int} {c : Nat} (hc : c ≤ 64) (h1c : 1 ≤ c) {X : (Nat → Int) → Prop} (hX : ∀ T, ag c T (s4 c t) → X T) : ∀ (m i : Nat) (T : Nat → Int), i + m + 1 = c → ag c T (mx (s4 c t) t (i + 1)) → twl_se_turnSeparators_2 X c (m + 1) ((i + 1 : Nat) : Int) T := by
  intro m
  induction m with
  | zero =>
    intro i T hi hT
    rw [twl_se_turnSeparators_2]
    refine ⟨⟨by omega, by omega⟩, fun _ => hX T ?_, fun h => absurd (by omega) h⟩
    have : i + 1 = c := by omega
    rw [this] at hT
    exact ag_end hT
  | succ m ih =>
    intro i T hi hT
    rw [twl_se_turnSeparators_2]
    have e0 : Int.toNat (((i + 1 : Nat) : Int) - 1) = i := by omega
    have e2 : Int.toNat (((i + 1 : Nat) : Int) + 1) = i + 2 := by omega
    have a0 : T i = s4 c t i := by rw [hT i (by omega), mx_lt (by omega)]
    have a1 : T (i + 1) = t (i + 1) := by rw [hT (i + 1) (by omega), mx_ge (by omega)]
    have a2 : i + 2 < c → T (i + 2) = t (i + 2) := fun h => by rw [hT (i + 2) (by omega), mx_ge (by omega)]
    refine ⟨⟨by omega, by omega⟩, fun h => ?_, fun h => ?_⟩
    · refine hX T (fun j hj => ?_)
      by_cases d : j < i + 1
      · rw [hT j hj, mx_lt d]
      · have : j = i + 1 := by omega
        subst this
        rw [a1, s4_s, if_neg (by omega)]
    · have h3 : i + 2 < c := by omega
      rw [e0, e2, tn, a0, a1, a2 h3]
      refine ⟨⟨by omega, by omega⟩, ⟨by omega, by omega⟩, ⟨by omega, by omega⟩, ⟨by omega, by omega⟩, fun _ => ⟨⟨by omega, by omega⟩, fun _ => ⟨fun _ => ⟨by omega, by omega⟩, fun _ => ⟨⟨by omega, by omega⟩, fun _ => ⟨fun _ => ⟨by omega, by omega⟩, fun _ _ => ⟨by omega, by omega⟩⟩⟩⟩, fun _ => ⟨⟨by omega, by omega⟩, fun _ => ⟨fun _ => ⟨by omega, by omega⟩, fun _ _ => ⟨by omega, by omega⟩⟩⟩⟩, fun T' hT' => ⟨⟨by omega, by omega⟩, ?_⟩⟩
      have hA : ag c T' (mx (s4 c t) t (i + 1 + 1)) := by
        by_cases d : s4 c t i = t (i + 2) ∧ ((t (i + 1) = 4 ∧ s4 c t i = 3) ∨ (t (i + 1) = 7 ∧ (s4 c t i = 3 ∨ s4 c t i = 6)))
        · have e : T' = tw_up T (i + 1) (s4 c t i) := by
            rw [hT', if_pos d.1]
            rcases d.2 with ⟨q1, q2⟩ | ⟨q1, q2⟩
            · rw [if_pos q1, if_pos q2]
            · rw [if_neg (by omega), if_pos q1]
              rcases q2 with q2 | q2
              · rw [if_pos q2]
              · rw [if_neg (by omega), if_pos q2]
          rw [e]
          exact ag_up hT (by rw [s4_s, if_pos ⟨h3, d⟩])
        · have e : T' = T := by
            rw [hT']
            by_cases q0 : s4 c t i = t (i + 2)
            · rw [if_pos q0]
              have d2 : ¬ ((t (i + 1) = 4 ∧ s4 c t i = 3) ∨ (t (i + 1) = 7 ∧ (s4 c t i = 3 ∨ s4 c t i = 6))) := fun z => d ⟨q0, z⟩
              by_cases q1 : t (i + 1) = 4
              · rw [if_pos q1, if_neg (fun z => d2 (Or.inl ⟨q1, z⟩)), if_neg (by omega)]
              · rw [if_neg q1]
                by_cases q2 : t (i + 1) = 7
                · rw [if_pos q2, if_neg (fun z => d2 (Or.inr ⟨q2, Or.inl z⟩)), if_neg (fun z => d2 (Or.inr ⟨q2, Or.inr z⟩))]
                · rw [if_neg q2]
            · rw [if_neg q0]
          rw [e]
          exact ag_skip hT (by rw [s4_s, if_neg (fun z => d z.2)])
      rw [sc]
      exact ih (i + 1) T' (by omega) hA
theorem q_w4 {t T : Nat → Int} {c : Nat} (hc : c ≤ 64) (h1c : 1 ≤ c) (hT : ag c T t) {K : (Nat → Int) → Prop} (hK : ∀ T, ag c T (s4 c t) → K T) : tww_se_turnSeparators T c K :=
  ⟨c - 1 + 1, p_w4 hc h1c hK (c - 1) 0 T (by omega) (ag_skip (ag_beg hT) rfl)⟩
/-- W5 -/
def f5 (t : Nat → Int) (k : Nat) : Int := if t k = 5 ∧ lf t k = 3 then 3 else t k
theorem lf_f5 (t : Nat → Int) (k : Nat) : f5 t k = 3 ↔ lf t k = 3 := by
  unfold f5
  by_cases c : t k = 5
  · by_cases d : lf t k = 3
    · rw [if_pos ⟨c, d⟩]; simp [d]
    · rw [if_neg (fun z => d z.2)]; omega
  · rw [if_neg (fun z => c z.1)]
    cases k with
    | zero => simp only [lf]; rw [if_neg c]
    | succ k => simp only [lf]; rw [if_neg c]
theorem p_w5 {t : Nat → Int} {c : Nat} (hc : c ≤ 64) {X : (Nat → Int) → Prop} (hX : ∀ T, ag c T (f5 t) → X T) : ∀ (m i : Nat) (T : Nat → Int), i + m + 1 = c → ag c T (mx (f5 t) t (i + 1)) → twl_se_turnTerminators_2 X c (m + 1) ((i + 1 : Nat) : Int) T := by
  intro m
  induction m with
  | zero =>
    intro i T hi hT
    rw [twl_se_turnTerminators_2]
    refine ⟨fun _ => hX T ?_, fun h => absurd (by omega) h⟩
    have : i + 1 = c := by omega
    rw [this] at hT
    exact ag_end hT
  | succ m ih =>
    intro i T hi hT
    rw [twl_se_turnTerminators_2]
    have e0 : Int.toNat (((i + 1 : Nat) : Int) - 1) = i := by omega
    have a0 : T i = f5 t i := by rw [hT i (by omega), mx_lt (by omega)]
    have a1 : T (i + 1) = t (i + 1) := by rw [hT (i + 1) (by omega), mx_ge (by omega)]
    refine ⟨fun h => absurd h (by omega), fun _ => ⟨⟨by omega, by omega⟩, ?_⟩⟩
    rw [e0, tn, a0, a1]
    refine ⟨fun _ => ⟨⟨by omega, by omega⟩, ⟨by omega, by omega⟩, fun _ => ⟨by omega, by omega⟩⟩, fun T' hT' => ⟨⟨by omega, by omega⟩, ?_⟩⟩
    have hl : t (i + 1) = 5 → lf t (i + 1) = lf t i := fun q => by simp only [lf]; rw [if_pos q]
    have hA : ag c T' (mx (f5 t) t (i + 1 + 1)) := by
      by_cases d : t (i + 1) = 5
      · rw [if_pos d] at hT'
        by_cases d2 : f5 t i = 3
        · rw [if_pos d2] at hT'
          rw [hT']
          refine ag_up hT ?_
          unfold f5
          rw [if_pos ⟨d, by rw [hl d]; exact (lf_f5 t i).mp d2⟩]
        · rw [if_neg d2] at hT'
          rw [hT']
          refine ag_skip hT ?_
          unfold f5
          rw [if_neg (fun z => d2 ((lf_f5 t i).mpr (by rw [← hl d]; exact z.2)))]
      · rw [if_neg d] at hT'
        rw [hT']
        refine ag_skip hT ?_
        unfold f5
        rw [if_neg (fun z => d z.1)]
    rw [sc]
    exact ih (i + 1) T' (by omega) hA
theorem lf_5 {t : Nat → Int} {k : Nat} : ¬ lf t k = 5 := by
  induction k with
  | zero => simp only [lf]; split <;> omega
  | succ k ih => simp only [lf]; split
                 · exact ih
                 · assumption
theorem s5_3 {t : Nat → Int} {c k : Nat} (hk : k < c) : s5 c t k = 3 ↔ (lf t k = 3 ∨ rt t c k = 3) := by
  unfold s5
  by_cases d : t k = 5
  · by_cases d2 : lf t k = 3 ∨ rt t c k = 3
    · rw [if_pos ⟨d, d2⟩]; simp [d2]
    · rw [if_neg (fun z => d2 z.2)]
      constructor
      · intro z; omega
      · intro z; exact absurd z d2
  · rw [if_neg (fun z => d z.1)]
    have e1 : lf t k = t k := by
      cases k with
      | zero => simp only [lf]; rw [if_neg d]
      | succ k => simp only [lf]; rw [if_neg d]
    have e2 : rt t c k = t k := by rw [rt_s hk, if_neg d]
    rw [e1, e2]
    simp
theorem p_w5b {t : Nat → Int} {c : Nat} (hc : c ≤ 64) {X : (Nat → Int) → Prop} (hX : ∀ T, ag c T (s5 c t) → X T) : ∀ (m : Nat) (T : Nat → Int), m + 1 ≤ c → ag c T (mx (f5 t) (s5 c t) m) → twl_se_turnTerminators_52 X c (m + 1) ((m : Int) - 1) T := by
  intro m
  induction m with
  | zero =>
    intro T hm hT
    rw [twl_se_turnTerminators_52]
    refine ⟨fun _ => hX T ?_, fun h => absurd (by omega) h⟩
    rw [mx_0] at hT
    exact hT
  | succ m ih =>
    intro T hm hT
    rw [twl_se_turnTerminators_52]
    have e0 : (((m + 1 : Nat) : Int) - 1) = (m : Int) := by omega
    have e1 : Int.toNat ((m : Int) + 1) = m + 1 := by omega
    have a0 : T m = f5 t m := by rw [hT m (by omega), mx_lt (by omega)]
    have a1 : T (m + 1) = s5 c t (m + 1) := by rw [hT (m + 1) (by omega), mx_ge (by omega)]
    rw [e0]
    refine ⟨fun h => absurd h (by omega), fun _ => ⟨⟨by omega, by omega⟩, ?_⟩⟩
    rw [e1, tn, a0, a1]
    refine ⟨fun _ => ⟨⟨by omega, by omega⟩, ⟨by omega, by omega⟩, fun _ => ⟨by omega, by omega⟩⟩, fun T' hT' => ⟨⟨by omega, by omega⟩, ?_⟩⟩
    have key : s5 c t m = if f5 t m = 5 then (if s5 c t (m + 1) = 3 then 3 else f5 t m) else f5 t m := by
      by_cases d : t m = 5
      · by_cases d2 : lf t m = 3
        · have : f5 t m = 3 := by unfold f5; rw [if_pos ⟨d, d2⟩]
          rw [this, if_neg (by decide)]
          unfold s5
          rw [if_pos ⟨d, Or.inl d2⟩]
        · have q : f5 t m = 5 := by unfold f5; rw [if_neg (fun z => d2 z.2)]; exact d
          rw [if_pos q]
          have q2 : rt t c m = rt t c (m + 1) := by rw [rt_s (by omega), if_pos d]
          have q3 : s5 c t (m + 1) = 3 ↔ rt t c m = 3 := by
            rw [s5_3 (by omega), q2]
            constructor
            · rintro (z | z)
              · by_cases d3 : t (m + 1) = 5
                · simp only [lf] at z
                  rw [if_pos d3] at z
                  exact absurd z d2
                · simp only [lf] at z
                  rw [if_neg d3] at z
                  rw [rt_s (by omega), if_neg d3]
                  exact z
              · exact z
            · intro z; exact Or.inr z
          unfold s5 at *
          by_cases d4 : rt t c m = 3
          · rw [if_pos (q3.mpr d4), if_pos ⟨d, Or.inr d4⟩]
          · rw [if_neg (fun z => d4 (q3.mp z)), if_neg (fun z => z.2.elim d2 d4), q]
            exact d
      · have q : f5 t m = t m := by unfold f5; rw [if_neg (fun z => d z.1)]
        rw [q, if_neg d]
        unfold s5
        rw [if_neg (fun z => d z.1)]
    have hA : ag c T' (mx (f5 t) (s5 c t) m) := by
      intro j hj
      by_cases dj : j = m
      · subst dj
        rw [mx_ge (Nat.le_refl _), key, hT']
        by_cases d : f5 t j = 5
        · rw [if_pos d, if_pos d]
          by_cases d2 : s5 c t (j + 1) = 3
          · rw [if_pos d2, if_pos d2, up_at]
          · rw [if_neg d2, if_neg d2, a0]
        · rw [if_neg d, if_neg d, a0]
      · have e : T' j = T j := by
          rw [hT']
          split
          · split
            · exact up_ne _ _ dj
            · rfl
          · rfl
        rw [e, hT j hj]
        by_cases d : j < m
        · rw [mx_lt d, mx_lt (by omega)]
        · rw [mx_ge (by omega), mx_ge (by omega)]
    rw [show ((m : Int) + -1) = (m : Int) - 1 by omega]
    exact ih T' (by omega) hA
theorem q_w5 {t T : Nat → Int} {c : Nat} (hc : c ≤ 64) (h1c : 1 ≤ c) (hT : ag c T t) {K : (Nat → Int) → Prop} (hK : ∀ T, ag c T (s5 c t) → K T) : tww_se_turnTerminators T c K := by
  refine ⟨c - 1 + 1, p_w5 (t := t) hc (fun T hT => ⟨⟨by omega, by omega⟩, c - 1 + 1, ?_⟩) (c - 1) 0 T (by omega) (ag_skip (ag_beg hT) ?_)⟩
  · unfold f5
    by_cases d1 : t 0 = 5
    · rw [if_neg]
      rintro ⟨-, z⟩
      simp only [lf] at z
      rw [if_pos d1] at z
      omega
    · rw [if_neg (fun z => d1 z.1)]
  · rw [show ((c : Int) - 2) = ((c - 1 : Nat) : Int) - 1 by omega]
    refine p_w5b (t := t) hc (X := fun y => K y) hK (c - 1) T (by omega) (fun j hj => ?_)
    by_cases d : j < c - 1
    · rw [mx_lt d, hT j hj]
    · rw [mx_ge (by omega), hT j hj]
      have : j = c - 1 := by omega
      subst this
      unfold f5 s5
      have e : rt t c (c - 1) = if t (c - 1) = 5 then -1 else t (c - 1) := by
        rw [rt_s (by omega), show c - 1 + 1 = c by omega, rt_c]
      by_cases d1 : t (c - 1) = 5
      · rw [if_pos d1] at e
        by_cases d2 : lf t (c - 1) = 3
        · rw [if_pos ⟨d1, d2⟩, if_pos ⟨d1, Or.inl d2⟩]
        · rw [if_neg (fun z => d2 z.2), if_neg (fun z => z.2.elim d2 (fun y => by rw [e] at y; omega))]
      · rw [if_neg (fun z => d1 z.1), if_neg (fun z => d1 z.1)]
/-- W6 -/
theorem p_w6 {t : Nat → Int} {c : Nat} (hc : c ≤ 64) {X : (Nat → Int) → Prop} (hX : ∀ T, ag c T (s6 t) → X T) : ∀ (m i : Nat) (T : Nat → Int), i + m = c → ag c T (mx (s6 t) t i) → twl_se_freeLeftovers_2 X c (m + 1) i T := by
  intro m
  induction m with
  | zero =>
    intro i T hi hT
    rw [twl_se_freeLeftovers_2]
    have : i = c := by omega
    subst this
    exact ⟨fun _ => hX T (ag_end hT), fun h => absurd (Int.le_refl _) h⟩
  | succ m ih =>
    intro i T hi hT
    rw [twl_se_freeLeftovers_2]
    refine ⟨fun h => absurd h (by omega), fun _ => ⟨⟨by omega, by omega⟩, fun J3 hJ3 J5 hJ5 => ?_⟩⟩
    rw [tn] at hJ5 ⊢
    rw [ag_at hT (by omega)]
    have j3 : ∀ T', ag c T' (mx (s6 t) t (i + 1)) → J3 T' := fun T' hT' => hJ3 T' (by
      refine ⟨⟨by omega, by omega⟩, ?_⟩
      rw [sc]
      exact ih (i + 1) T' (by omega) hT')
    have j5 : (t i = 4 ∨ t i = 5 ∨ t i = 7) → J5 := fun d => hJ5 ⟨⟨by omega, by omega⟩, j3 _ (ag_up hT (by unfold s6; rw [if_pos d]))⟩
    refine ⟨fun d => j5 (Or.inl d), fun d => ⟨⟨by omega, by omega⟩, fun d2 => j5 (Or.inr (Or.inl d2)), fun d2 => ⟨⟨by omega, by omega⟩, fun d3 => j5 (Or.inr (Or.inr d3)), fun d3 => j3 _ (ag_skip hT ?_)⟩⟩⟩
    unfold s6
    rw [if_neg]
    rintro (z | z | z)
    · exact d z
    · exact d2 z
    · exact d3 z
theorem q_w6 {t T : Nat → Int} {c : Nat} (hc : c ≤ 64) (hT : ag c T t) {K : (Nat → Int) → Prop} (hK : ∀ T, ag c T (s6 t) → K T) : tww_se_freeLeftovers T c K :=
  ⟨c + 1, p_w6 hc hK c 0 T (by omega) (ag_beg hT)⟩
/-- W7 -/
theorem p_w7 {t : Nat → Int} {b : Int} {c : Nat} (hc : c ≤ 64) (ht : ty20 c t) {X : (Nat → Int) → Prop} (hX : ∀ T, ag c T (s7 b t) → X T) : ∀ (m i : Nat) (v : Int) (T : Nat → Int), i + m = c → v = (if i = 0 then b else sb b t (i - 1)) → ag c T (mx (s7 b t) t i) → twl_se_turnLatinNumbers_7 X c b (m + 1) v i T := by
  intro m
  induction m with
  | zero =>
    intro i v T hi hv hT
    rw [twl_se_turnLatinNumbers_7]
    have : i = c := by omega
    subst this
    exact ⟨fun _ => hX T (ag_end hT), fun h => absurd (Int.le_refl _) h⟩
  | succ m ih =>
    intro i v T hi hv hT
    rw [twl_se_turnLatinNumbers_7]
    refine ⟨fun h => absurd h (by omega), fun _ => ⟨⟨by omega, by omega⟩, fun J4 hJ4 J7 hJ7 => ?_⟩⟩
    have h20 := ht i (by omega)
    have esb : sb b t i = if t i ≤ 1 then t i else v := by
      rw [hv]
      cases i with
      | zero => rfl
      | succ i => simp only [sb]; simp
    have aT := ag_at hT (show i < c by omega)
    rw [tn] at hJ7 ⊢
    rw [aT]
    have j4 : ∀ x T', x = sb b t i → ag c T' (mx (s7 b t) t (i + 1)) → J4 x T' := fun x T' hx hT' => hJ4 x T' (by
      refine ⟨⟨by omega, by omega⟩, ?_⟩
      rw [sc]
      exact ih (i + 1) x T' (by omega) (by rw [if_neg (by omega)]; exact hx) hT')
    have j7 : t i ≤ 1 → J7 T := fun d => hJ7 T ⟨⟨by omega, by omega⟩, j4 _ _ (by rw [aT, esb, if_pos d]) (ag_skip hT (by unfold s7; rw [if_neg (by omega)]))⟩
    refine ⟨fun d => j7 (by omega), fun d => ⟨⟨by omega, by omega⟩, fun d2 => j7 (by omega), fun d2 => ⟨⟨by omega, by omega⟩, fun d3 => ?_, fun d3 => ?_⟩⟩⟩
    · have ev : v = sb b t i := by rw [esb, if_neg (by omega)]
      refine ⟨fun d4 => ⟨⟨by omega, by omega⟩, j4 _ _ ev (ag_up hT ?_)⟩, fun d4 => j4 _ _ ev (ag_skip hT ?_)⟩
      · unfold s7
        rw [if_pos ⟨d3, by rw [← ev]; exact d4⟩]
      · unfold s7
        rw [if_neg (fun z => d4 (by rw [ev]; exact z.2))]
    · have ev : v = sb b t i := by rw [esb, if_neg (by omega)]
      refine j4 _ _ ev (ag_skip hT ?_)
      unfold s7
      rw [if_neg (fun z => d3 z.1)]
theorem q_w7 {t T : Nat → Int} {b : Int} {c : Nat} (hc : c ≤ 64) (ht : ty20 c t) (hT : ag c T t) {K : (Nat → Int) → Prop} (hK : ∀ T, ag c T (s7 b t) → K T) : tww_se_turnLatinNumbers T c b K :=
  ⟨c + 1, p_w7 hc ht hK c 0 b T (by omega) rfl (ag_beg hT)⟩
theorem q_weak {t T M : Nat → Int} {b : Int} {c : Nat} (hc : c ≤ 64) (h1c : 1 ≤ c) (hb : b = 0 ∨ b = 1) (ht : ty20 c t) (hT : ag c T t) {K : (Nat → Int) → (Nat → Int) → Prop} (hK : ∀ T M, ag c T (sw c b t) → ag c M (mk1 t) → K T M) : tww_se_resolveWeak T M c b K :=
  q_w1 hc hb ht hT fun _ M h1 hM => q_w2 hc (s1_20 hb ht) h1 fun _ h2 => q_w4 hc h1c h2 fun _ h4 => q_w5 hc h1c h4 fun _ h5 => q_w6 hc h5 fun _ h6 => q_w7 hc (s6_20 (s5_20 (s4_20 (s3_20 (s2_20 (s1_20 hb ht)))))) h6 fun T h7 => hK T M h7 hM
