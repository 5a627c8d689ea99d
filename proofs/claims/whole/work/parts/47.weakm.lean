/-! pure: the weak steps of the reference; its types are read and set by places of a sequence -/
def sqok (c : Nat) (s : Nat → Nat) (sq : Nat → Int) : Prop := c ≤ 64 ∧ (∀ j, j < c → sq j = (s j : Int) ∧ s j < 64) ∧ ∀ i j, i < c → j < c → s i = s j → i = j
def mv (c : Nat) (s : Nat → Nat) (ty0 T h : Nat → Int) : Prop := (∀ j, j < c → T (s j) = h j) ∧ ∀ p, (∀ j, j < c → s j ≠ p) → T p = ty0 p
theorem at_ok {c : Nat} {s : Nat → Nat} {sq T : Nat → Int} {k : Nat} (h : sqok c s sq) (hk : k < c) : two_mo_at k T sq := by
  obtain ⟨h1, h2, -⟩ := h
  have := h2 k hk
  unfold two_mo_at
  rw [tn, this.1]
  exact ⟨⟨by omega, by omega⟩, ⟨by omega, by omega⟩⟩
theorem at_eq {c : Nat} {s : Nat → Nat} {sq T : Nat → Int} {k : Nat} (h : sqok c s sq) (hk : k < c) : twr_mo_at k T sq = T (s k) := by
  unfold twr_mo_at
  rw [tn, (h.2.1 k hk).1, tn]
theorem set_ok {c : Nat} {s : Nat → Nat} {sq T : Nat → Int} {k : Nat} {x : Int} (h : sqok c s sq) (hk : k < c) : two_mo_set k x T sq := by
  obtain ⟨h1, h2, -⟩ := h
  have := h2 k hk
  unfold two_mo_set
  rw [tn, this.1]
  exact ⟨⟨by omega, by omega⟩, ⟨by omega, by omega⟩⟩
theorem set_eq {c : Nat} {s : Nat → Nat} {sq T : Nat → Int} {k : Nat} {x : Int} (h : sqok c s sq) (hk : k < c) : twu_mo_set__mo_type k x T sq = tw_up T (s k) x := by
  unfold twu_mo_set__mo_type
  rw [tn, (h.2.1 k hk).1, tn]
theorem mv_up {c : Nat} {s : Nat → Nat} {sq ty0 T f g : Nat → Int} {i : Nat} {x : Int} (hs : sqok c s sq) (h : mv c s ty0 T (mx f g i)) (hi : i < c) (hx : x = f i) : mv c s ty0 (tw_up T (s i) x) (mx f g (i + 1)) := by
  refine ⟨fun j hj => ?_, fun p hp => ?_⟩
  · by_cases e : j = i
    · subst e; rw [up_at, mx_lt (by omega)]; exact hx
    · rw [up_ne _ _ (fun z => e (hs.2.2 j i hj hi z)), h.1 j hj]
      by_cases d : j < i
      · rw [mx_lt d, mx_lt (by omega)]
      · rw [mx_ge (by omega), mx_ge (by omega)]
  · rw [up_ne _ _ (fun z => hp i hi z.symm)]
    exact h.2 p hp
theorem mv_skip {c : Nat} {s : Nat → Nat} {ty0 T f g : Nat → Int} {i : Nat} (h : mv c s ty0 T (mx f g i)) (hx : f i = g i) : mv c s ty0 T (mx f g (i + 1)) := by
  refine ⟨fun j hj => ?_, h.2⟩
  rw [h.1 j hj]
  by_cases e : j = i
  · subst e; rw [mx_ge (Nat.le_refl _), mx_lt (by omega)]; exact hx.symm
  · by_cases d : j < i
    · rw [mx_lt d, mx_lt (by omega)]
    · rw [mx_ge (by omega), mx_ge (by omega)]
theorem mv_end {c : Nat} {s : Nat → Nat} {ty0 T f g : Nat → Int} (h : mv c s ty0 T (mx f g c)) : mv c s ty0 T f := ⟨fun j hj => by rw [h.1 j hj, mx_lt hj], h.2⟩
theorem mv_beg {c : Nat} {s : Nat → Nat} {ty0 T f g : Nat → Int} (h : mv c s ty0 T g) : mv c s ty0 T (mx f g 0) := ⟨fun j hj => by rw [mx_0]; exact h.1 j hj, h.2⟩
theorem mv_at {c : Nat} {s : Nat → Nat} {ty0 T f g : Nat → Int} {i : Nat} (h : mv c s ty0 T (mx f g i)) (hi : i < c) : T (s i) = g i := by rw [h.1 i hi, mx_ge (Nat.le_refl _)]
theorem mv_lt {c : Nat} {s : Nat → Nat} {ty0 T f g : Nat → Int} {i j : Nat} (h : mv c s ty0 T (mx f g i)) (hj : j < i) (hi : j < c) : T (s j) = f j := by rw [h.1 j hi, mx_lt hj]
theorem mv_ge {c : Nat} {s : Nat → Nat} {ty0 T f g : Nat → Int} {i j : Nat} (h : mv c s ty0 T (mx f g i)) (hj : i ≤ j) (hi : j < c) : T (s j) = g j := by rw [h.1 j hi, mx_ge hj]
section MWEAK
variable {c : Nat} {s : Nat → Nat} {sq ty0 t : Nat → Int} {b : Int}
theorem pm_w1 (hs : sqok c s sq) (hb : b = 0 ∨ b = 1) (ht : ty20 c t) {X : (Nat → Int) → (Nat → Int) → Prop} (hX : ∀ T M, mv c s ty0 T (s1 b t) → ag c M (mk1 t) → X T M) : ∀ (m i : Nat) (T M : Nat → Int), i + m = c → mv c s ty0 T (mx (s1 b t) t i) → (∀ j, j < i → M j = mk1 t j) → twl_mo_weak_2 X c sq b (m + 1) i T M := by
  have hc := hs.1
  intro m
  induction m with
  | zero =>
    intro i T M hi hT hM
    rw [twl_mo_weak_2]
    have : i = c := by omega
    subst this
    exact ⟨fun _ => hX T M (mv_end hT) hM, fun h => absurd (Int.le_refl _) h⟩
  | succ m ih =>
    intro i T M hi hT hM
    rw [twl_mo_weak_2]
    have hi2 : i < c := by omega
    refine ⟨fun h => absurd h (by omega), fun _ => ⟨at_ok hs hi2, ?_⟩⟩
    rw [at_eq hs hi2, mv_at hT hi2, tn]
    intro x4 h4
    have e4 : x4 = mk1 t i := h4
    have b4 : 0 ≤ x4 ∧ x4 ≤ 1 := by rw [h4]; split <;> decide
    refine ⟨⟨by omega, by omega⟩, b4, fun h => ⟨⟨by omega, by omega⟩, ?_⟩, fun x11 h11 => ⟨⟨by omega, by omega⟩, ⟨fun _ => ⟨fun _ => set_ok hs hi2, fun _ => set_ok hs hi2⟩, fun T' hT' => ⟨⟨by omega, by omega⟩, ?_⟩⟩⟩⟩
    · rw [show ((i : Int) - 1) = ((i - 1 : Nat) : Int) by omega]
      exact at_ok hs (by omega)
    · rw [up_at, set_eq hs hi2, set_eq hs hi2] at hT'
      have e11 : x11 = if i = 0 then b else s1 b t (i - 1) := by
        rw [h11]
        by_cases d : i = 0
        · rw [if_pos (by omega), if_pos d]
        · rw [if_neg (by omega), if_neg d, show ((i : Int) - 1) = ((i - 1 : Nat) : Int) by omega, at_eq hs (by omega), mv_lt hT (by omega) (by omega)]
      have hA : mv c s ty0 T' (mx (s1 b t) t (i + 1)) := by
        by_cases d : t i = 8
        · rw [if_pos d] at h4
          rw [if_neg (by omega)] at hT'
          have e3 : s1 b t i = if 17 ≤ x11 then 11 else x11 := by
            rw [e11]
            cases i with
            | zero => simp only [s1]; rw [if_pos d]; simp; omega
            | succ i => simp only [s1]; rw [if_pos d]; simp
          by_cases d2 : x11 < 17
          · rw [if_pos d2] at hT'
            rw [hT']
            exact mv_up hs hT hi2 (by rw [e3, if_neg (by omega)])
          · rw [if_neg d2] at hT'
            rw [hT']
            exact mv_up hs hT hi2 (by rw [e3, if_pos (by omega)])
        · rw [if_neg d] at h4
          rw [if_pos h4] at hT'
          rw [hT']
          refine mv_skip hT ?_
          cases i with
          | zero => simp only [s1]; rw [if_neg d]
          | succ i => simp only [s1]; rw [if_neg d]
      rw [sc]
      exact ih (i + 1) T' _ (by omega) hA (up_eq hM e4)
theorem pm_w2 (hs : sqok c s sq) {M : Nat → Int} {X : (Nat → Int) → Prop} (hX : ∀ T, mv c s ty0 T (s2 t) → X T) : ∀ (m i : Nat) (v : Int) (T : Nat → Int), i + m = c → v = (if i = 0 then -1 else ls t (i - 1)) → mv c s ty0 T (mx (s2 t) t i) → twl_mo_weak_86 X c sq M b (m + 1) v i T := by
  have hc := hs.1
  intro m
  induction m with
  | zero =>
    intro i v T hi hv hT
    rw [twl_mo_weak_86]
    have : i = c := by omega
    subst this
    exact ⟨fun _ => hX T (mv_end hT), fun h => absurd (Int.le_refl _) h⟩
  | succ m ih =>
    intro i v T hi hv hT
    rw [twl_mo_weak_86]
    have hi2 : i < c := by omega
    refine ⟨fun h => absurd h (by omega), fun _ => ⟨at_ok hs hi2, fun _ => at_ok hs hi2, fun x h => ⟨at_ok hs hi2, ⟨fun _ _ => set_ok hs hi2, fun T' hT' => ⟨⟨by omega, by omega⟩, ?_⟩⟩⟩⟩⟩
    rw [at_eq hs hi2, mv_at hT hi2] at h hT'
    rw [set_eq hs hi2] at hT'
    have els : x = ls t i := by
      rw [h, hv]
      cases i with
      | zero =>
        simp only [ls]
        by_cases d : t 0 ≤ 2
        · rw [if_pos d, if_neg (by omega)]
        · rw [if_neg d, if_pos (by omega)]; rfl
      | succ i =>
        simp only [ls]
        by_cases d : t (i + 1) ≤ 2
        · rw [if_pos d, if_neg (by omega)]
        · rw [if_neg d, if_pos (by omega)]; simp
    have hA : mv c s ty0 T' (mx (s2 t) t (i + 1)) := by
      by_cases d : t i = 3 ∧ ls t i = 2
      · rw [if_pos d.1, if_pos (by rw [els]; exact d.2)] at hT'
        rw [hT']
        exact mv_up hs hT hi2 (by unfold s2; rw [if_pos d])
      · have e : T' = T := by
          rw [hT']
          split
          · split
            · exact absurd ⟨‹_›, by rw [← els]; assumption⟩ d
            · rfl
          · rfl
        rw [e]
        exact mv_skip hT (by unfold s2; rw [if_neg d])
    rw [sc]
    exact ih (i + 1) x T' (by omega) (by rw [if_neg (by omega)]; exact els) hA
theorem pm_w3 (hs : sqok c s sq) {M : Nat → Int} {X : (Nat → Int) → Prop} (hX : ∀ T, mv c s ty0 T (s3 t) → X T) : ∀ (m i : Nat) (T : Nat → Int), i + m = c → mv c s ty0 T (mx (s3 t) t i) → twl_mo_weak_142 X c sq M b (m + 1) i T := by
  have hc := hs.1
  intro m
  induction m with
  | zero =>
    intro i T hi hT
    rw [twl_mo_weak_142]
    have : i = c := by omega
    subst this
    exact ⟨fun _ => hX T (mv_end hT), fun h => absurd (Int.le_refl _) h⟩
  | succ m ih =>
    intro i T hi hT
    rw [twl_mo_weak_142]
    have hi2 : i < c := by omega
    refine ⟨fun h => absurd h (by omega), fun _ => ⟨at_ok hs hi2, fun _ => set_ok hs hi2, fun T' hT' => ⟨⟨by omega, by omega⟩, ?_⟩⟩⟩
    rw [at_eq hs hi2, mv_at hT hi2, set_eq hs hi2] at hT'
    have hA : mv c s ty0 T' (mx (s3 t) t (i + 1)) := by
      by_cases d : t i = 2
      · rw [if_pos d] at hT'
        rw [hT']
        exact mv_up hs hT hi2 (by unfold s3; rw [if_pos d])
      · rw [if_neg d] at hT'
        rw [hT']
        exact mv_skip hT (by unfold s3; rw [if_neg d])
    rw [sc]
    exact ih (i + 1) T' (by omega) hA
theorem pm_w4 (hs : sqok c s sq) (h1c : 1 ≤ c) {M : Nat → Int} {X : (Nat → Int) → Prop} (hX : ∀ T, mv c s ty0 T (s4 c t) → X T) : ∀ (m i : Nat) (T : Nat → Int), i + m + 1 = c → mv c s ty0 T (mx (s4 c t) t (i + 1)) → twl_mo_weak_173 X c sq M b (m + 1) ((i + 1 : Nat) : Int) T := by
  have hc := hs.1
  intro m
  induction m with
  | zero =>
    intro i T hi hT
    rw [twl_mo_weak_173]
    refine ⟨⟨by omega, by omega⟩, fun _ => hX T ?_, fun h => absurd (by omega) h⟩
    have : i + 1 = c := by omega
    rw [this] at hT
    exact mv_end hT
  | succ m ih =>
    intro i T hi hT
    rw [twl_mo_weak_173]
    have e0 : (((i + 1 : Nat) : Int) - 1) = (i : Int) := by omega
    have e2 : (((i + 1 : Nat) : Int) + 1) = ((i + 2 : Nat) : Int) := by omega
    refine ⟨⟨by omega, by omega⟩, fun h => ?_, fun h => ?_⟩
    · refine hX T ⟨fun j hj => ?_, hT.2⟩
      by_cases d : j < i + 1
      · exact mv_lt hT d hj
      · have : j = i + 1 := by omega
        subst this
        rw [mv_ge hT (Nat.le_refl _) hj, s4_s, if_neg (by omega)]
    · have h3 : i + 2 < c := by omega
      have a0 : T (s i) = s4 c t i := mv_lt hT (by omega) (by omega)
      have a1 : T (s (i + 1)) = t (i + 1) := mv_ge hT (by omega) (by omega)
      have a2 : T (s (i + 2)) = t (i + 2) := mv_ge hT (by omega) (by omega)
      rw [e0, e2, at_eq hs (by omega), at_eq hs (by omega), at_eq hs (by omega), a0, a1, a2]
      refine ⟨⟨by omega, by omega⟩, at_ok hs (by omega), ⟨by omega, by omega⟩, at_ok hs (by omega), fun J90 hJ90 J113 hJ113 => ?_⟩
      have j90 : ∀ x89 : Int, (¬ x89 = 0 ↔ (s4 c t i = t (i + 2) ∧ (s4 c t i = 3 ∨ (s4 c t i = 6 ∧ t (i + 1) = 7)))) → J90 x89 := by
        intro x89 h89
        refine hJ90 x89 ⟨at_ok hs (by omega), fun J95 hJ95 J98 hJ98 => ?_⟩
        have j95 : ∀ T', mv c s ty0 T' (mx (s4 c t) t (i + 1 + 1)) → J95 T' := fun T' hT' => hJ95 T' (by
          exact ⟨⟨by omega, by omega⟩, ih (i + 1) T' (by omega) hT'⟩)
        have j98 : (t (i + 1) = 4 ∨ t (i + 1) = 7) → J98 x89 := fun d => hJ98 x89 (by
          refine ⟨fun z => j95 T (mv_skip hT ?_), fun z => ⟨⟨by omega, by omega⟩, at_ok hs (by omega), set_ok hs (by omega), ?_⟩⟩
          · have q : ¬ (s4 c t i = t (i + 2) ∧ (s4 c t i = 3 ∨ (s4 c t i = 6 ∧ t (i + 1) = 7))) := fun y => (h89.mpr y) z
            rw [s4_s, if_neg]
            rintro ⟨-, y1, y2⟩
            refine q ⟨y1, ?_⟩
            omega
          · have q := h89.mp z
            rw [set_eq hs (by omega)]
            refine j95 _ (mv_up hs hT (by omega) ?_)
            rw [s4_s, if_pos ⟨h3, q.1, by omega⟩])
        refine ⟨fun d => j98 (Or.inl d), fun d => ⟨at_ok hs (by omega), fun d2 => j98 (Or.inr d2), fun d2 => j95 T (mv_skip hT ?_)⟩⟩
        rw [s4_s, if_neg]
        rintro ⟨-, -, y⟩
        omega
      refine ⟨fun d => ⟨⟨by omega, by omega⟩, at_ok hs (by omega), fun J118 hJ118 => ⟨fun d2 => hJ118 (j90 1 ⟨fun _ => ⟨d, Or.inl d2⟩, fun _ => by decide⟩), fun d2 => ⟨⟨by omega, by omega⟩, at_ok hs (by omega), fun d3 => ⟨at_ok hs (by omega), fun d4 => hJ118 (j90 1 ⟨fun _ => ⟨d, Or.inr ⟨d3, d4⟩⟩, fun _ => by decide⟩), fun d4 => hJ113 (j90 0 ⟨fun z => absurd rfl z, fun z => by omega⟩)⟩, fun d3 => hJ113 (j90 0 ⟨fun z => absurd rfl z, fun z => by omega⟩)⟩⟩⟩, fun d => hJ113 (j90 0 ⟨fun z => absurd rfl z, fun z => absurd z.1 d⟩)⟩
theorem pm_run (hs : sqok c s sq) {T : Nat → Int} {k0 : Nat} {v : Int} (hT : mv c s ty0 T (mx (s5 c t) t k0)) {X : Int → Prop} (hX : ∀ y, k0 ≤ y → y ≤ c → (∀ j, k0 ≤ j → j < y → t j = 5) → (y = c ∨ ¬ t y = 5) → X (y : Int)) : ∀ (m y : Nat), y + m = c → k0 ≤ y → (∀ j, k0 ≤ j → j < y → t j = 5) → twl_mo_terminators_12 X v T c sq (m + 1) y := by
  have hc := hs.1
  intro m
  induction m with
  | zero =>
    intro y hy h1 h2
    rw [twl_mo_terminators_12]
    exact ⟨fun _ => hX y h1 (by omega) h2 (Or.inl (by omega)), fun h => absurd (by omega) h⟩
  | succ m ih =>
    intro y hy h1 h2
    rw [twl_mo_terminators_12]
    refine ⟨fun h => absurd h (by omega), fun _ => ⟨at_ok hs (by omega), ?_⟩⟩
    rw [at_eq hs (by omega), mv_ge hT h1 (by omega)]
    refine ⟨fun d => ⟨⟨by omega, by omega⟩, ?_⟩, fun d => hX y h1 (by omega) h2 (Or.inr d)⟩
    rw [sc]
    refine ih (y + 1) (by omega) (by omega) (fun j h3 h4 => ?_)
    by_cases e : j = y
    · rw [e]; exact d
    · exact h2 j h3 (by omega)
theorem pm_fill (hs : sqok c s sq) {y : Nat} (hy : y ≤ c) {v1 v3 : Int} (h3 : ¬ v3 = 0) {X : (Nat → Int) → Prop} (hX : ∀ T, mv c s ty0 T (mx (s5 c t) t y) → X T) : ∀ (m q : Nat) (T : Nat → Int), q + m = y → (∀ j, q ≤ j → j < y → s5 c t j = 3) → mv c s ty0 T (mx (s5 c t) t q) → twl_mo_terminators_81 X v1 y v3 c sq (m + 1) q T := by
  have hc := hs.1
  intro m
  induction m with
  | zero =>
    intro q T hq h1 hT
    rw [twl_mo_terminators_81]
    have : q = y := by omega
    subst this
    exact ⟨fun _ => hX T hT, fun h => absurd (Int.le_refl _) h⟩
  | succ m ih =>
    intro q T hq h1 hT
    rw [twl_mo_terminators_81]
    refine ⟨fun h => absurd h (by omega), fun _ => ⟨fun z => absurd z h3, fun _ => ⟨set_ok hs (by omega), ⟨by omega, by omega⟩, ?_⟩⟩⟩
    rw [set_eq hs (by omega), sc]
    exact ih (q + 1) _ (by omega) (fun j h4 h5 => h1 j (by omega) h5) (mv_up hs hT (by omega) (h1 q (Nat.le_refl _) (by omega)).symm)
theorem lf_run {k0 : Nat} : ∀ d, (∀ j, k0 ≤ j → j ≤ k0 + d → t j = 5) → lf t (k0 + d) = if k0 = 0 then -1 else lf t (k0 - 1) := by
  intro d
  induction d with
  | zero =>
    intro h
    have := h k0 (Nat.le_refl _) (by omega)
    cases k0 with
    | zero => show (if t 0 = 5 then -1 else t 0) = _; rw [if_pos this, if_pos rfl]
    | succ k => show (if t (k + 1) = 5 then lf t k else t (k + 1)) = _; rw [if_pos this, if_neg (by omega)]; rfl
  | succ d ih =>
    intro h
    have := h (k0 + d + 1) (by omega) (by omega)
    show (if t (k0 + d + 1) = 5 then lf t (k0 + d) else t (k0 + d + 1)) = _
    rw [if_pos this]
    exact ih (fun j h1 h2 => h j h1 (by omega))
theorem rt_run {y : Nat} (hy : y ≤ c) (hb : y = c ∨ ¬ t y = 5) : ∀ d k, k + d = y → (∀ j, k ≤ j → j < y → t j = 5) → rt t c k = if y = c then -1 else t y := by
  intro d
  induction d with
  | zero =>
    intro k hk _
    have : k = y := by omega
    subst this
    by_cases e : k = c
    · rw [if_pos e, e, rt_c]
    · rw [if_neg e, rt_s (by omega), if_neg (hb.resolve_left e)]
  | succ d ih =>
    intro k hk h
    rw [rt_s (by omega), if_pos (h k (Nat.le_refl _) (by omega))]
    exact ih (k + 1) (by omega) (fun j h1 h2 => h j (by omega) h2)
theorem lf_no {k : Nat} (h : ¬ t k = 5) : lf t k = t k := by
  cases k with
  | zero => show (if t 0 = 5 then -1 else t 0) = _; rw [if_neg h]
  | succ k => show (if t (k + 1) = 5 then lf t k else t (k + 1)) = _; rw [if_neg h]
theorem pm_w5 (hs : sqok c s sq) {X : (Nat → Int) → Prop} (hX : ∀ T, mv c s ty0 T (s5 c t) → X T) : ∀ (m k0 : Nat) (T : Nat → Int), c - k0 ≤ m → k0 ≤ c → ((k0 = 0 ∨ ¬ t (k0 - 1) = 5) ∨ k0 = c ∨ ¬ t k0 = 5) → mv c s ty0 T (mx (s5 c t) t k0) → twl_mo_terminators_2 X c sq (m + 1) k0 T := by
  have hc := hs.1
  intro m
  induction m with
  | zero =>
    intro k0 T h1 h2 h3 hT
    rw [twl_mo_terminators_2]
    have : k0 = c := by omega
    subst this
    exact ⟨fun _ => hX T (mv_end hT), fun h => absurd (Int.le_refl _) h⟩
  | succ m ih =>
    intro k0 T h1 h2 h3 hT
    rw [twl_mo_terminators_2]
    refine ⟨fun h => ?_, fun h => ⟨c - k0 + 1, pm_run hs hT (fun y hy1 hy2 hy3 hy4 J9 hJ9 J25 hJ25 => ?_) (c - k0) k0 (by omega) (Nat.le_refl _) (fun j h4 h5 => absurd h4 (by omega))⟩⟩
    · have : k0 = c := by omega
      subst this
      exact hX T (mv_end hT)
    · have next : ∀ T', mv c s ty0 T' (mx (s5 c t) t y) → ((y : Int) ≤ k0 → tw_rg ((k0 : Int) + 1)) ∧ (∀ x19 : Int, x19 = (if (y : Int) ≤ k0 then ((k0 : Int) + 1) else y) → twl_mo_terminators_2 X c sq (m + 1) x19 T') := fun T' hT' => by
        refine ⟨fun _ => ⟨by omega, by omega⟩, fun x19 h19 => ?_⟩
        by_cases d : y = k0
        · subst d
          rw [h19, if_pos (Int.le_refl _), sc]
          have hk : ¬ t y = 5 := hy4.resolve_left (by omega)
          exact ih (y + 1) T' (by omega) (by omega) (Or.inl (Or.inr hk)) (mv_skip hT' (by unfold s5; rw [if_neg (fun z => hk z.1)]))
        · rw [h19, if_neg (by omega)]
          exact ih y T' (by omega) hy2 (Or.inr hy4) hT'
      have run : k0 < y → ∀ j, k0 ≤ j → j < y → (lf t j = 3 ↔ (0 < k0 ∧ t (k0 - 1) = 3)) ∧ (rt t c j = 3 ↔ (y < c ∧ t y = 3)) := fun hk j hj1 hj2 => by
        have h5 : k0 = 0 ∨ ¬ t (k0 - 1) = 5 := by
          rcases h3 with z | z | z
          · exact z
          · omega
          · exact absurd (hy3 k0 (Nat.le_refl _) hk) z
        have e1 := lf_run (t := t) (k0 := k0) (j - k0) (fun i q1 q2 => hy3 i q1 (by omega))
        rw [show k0 + (j - k0) = j by omega] at e1
        have e2 := rt_run (t := t) hy2 hy4 (y - j) j (by omega) (fun i q1 q2 => hy3 i (by omega) q2)
        rw [e1, e2]
        constructor
        · by_cases z : k0 = 0
          · rw [if_pos z]; omega
          · rw [if_neg z, lf_no (h5.resolve_left z)]; omega
        · by_cases z : y = c
          · rw [if_pos z]; omega
          · rw [if_neg z]; omega
      have j9 : ∀ x8 : Int, (¬ x8 = 0 ↔ (k0 < y ∧ ((0 < k0 ∧ t (k0 - 1) = 3) ∨ (y < c ∧ t y = 3)))) → J9 x8 := by
        intro x8 h8
        refine hJ9 x8 ?_
        by_cases d : x8 = 0
        · have hno : ∀ j, k0 ≤ j → j < y → s5 c t j = t j := fun j q1 q2 => by
            have hr := run (by omega) j q1 q2
            unfold s5
            rw [if_neg]
            rintro ⟨-, z⟩
            exact (h8.mpr ⟨by omega, z.imp hr.1.mp hr.2.mp⟩) d
          have hT' : mv c s ty0 T (mx (s5 c t) t y) := ⟨fun j hj => by
            rw [hT.1 j hj]
            by_cases q : j < k0
            · rw [mx_lt q, mx_lt (by omega)]
            · rw [mx_ge (by omega)]
              by_cases q2 : j < y
              · rw [mx_lt q2, hno j (by omega) q2]
              · rw [mx_ge (by omega)], hT.2⟩
          refine ⟨1, ?_⟩
          rw [twl_mo_terminators_81]
          exact ⟨fun _ => next T hT', fun _ => ⟨fun _ => next T hT', fun z => absurd d z⟩⟩
        · have hyes := h8.mp d
          refine ⟨y - k0 + 1, pm_fill hs hy2 d (fun T' hT' => next T' hT') (y - k0) k0 T (by omega) (fun j q1 q2 => ?_) hT⟩
          have hr := run hyes.1 j q1 q2
          unfold s5
          rw [if_pos ⟨hy3 j q1 q2, hyes.2.imp hr.1.mpr hr.2.mpr⟩]
      refine ⟨fun d => hJ25 (j9 0 ⟨fun z => absurd rfl z, fun z => by omega⟩), fun d J26 hJ26 J27 hJ27 => ?_⟩
      have hky : k0 < y := by omega
      have j27 : ¬ (0 < k0 ∧ t (k0 - 1) = 3) → J27 := fun q => hJ27 (by
        refine ⟨fun d2 => hJ25 (j9 0 ⟨fun z => absurd rfl z, fun z => by omega⟩), fun d2 => ⟨at_ok hs (by omega), ?_⟩⟩
        rw [at_eq hs (by omega), mv_ge hT (by omega) (by omega)]
        exact ⟨fun d3 => hJ26 (j9 1 ⟨fun _ => ⟨hky, Or.inr ⟨by omega, d3⟩⟩, fun _ => by decide⟩), fun d3 => hJ25 (j9 0 ⟨fun z => absurd rfl z, fun z => by omega⟩)⟩)
      refine ⟨fun d2 => j27 (by omega), fun d2 => ⟨⟨by omega, by omega⟩, ?_⟩⟩
      rw [show ((k0 : Int) - 1) = ((k0 - 1 : Nat) : Int) by omega]
      refine ⟨at_ok hs (by omega), ?_⟩
      have h5 : ¬ t (k0 - 1) = 5 := by
        rcases h3 with z | z | z
        · exact z.resolve_left (by omega)
        · omega
        · exact absurd (hy3 k0 (Nat.le_refl _) hky) z
      have e5 : s5 c t (k0 - 1) = t (k0 - 1) := by unfold s5; rw [if_neg (fun z => h5 z.1)]
      rw [at_eq hs (by omega), mv_lt hT (by omega) (by omega), e5]
      exact ⟨fun d3 => hJ26 (j9 1 ⟨fun _ => ⟨hky, Or.inl ⟨by omega, d3⟩⟩, fun _ => by decide⟩), fun d3 => j27 (fun z => d3 z.2)⟩
theorem pm_w6 (hs : sqok c s sq) {X : (Nat → Int) → Prop} (hX : ∀ T, mv c s ty0 T (s6 t) → X T) : ∀ (m i : Nat) (T : Nat → Int), i + m = c → mv c s ty0 T (mx (s6 t) t i) → twl_mo_terminators_122 X c sq (m + 1) i T := by
  have hc := hs.1
  intro m
  induction m with
  | zero =>
    intro i T hi hT
    rw [twl_mo_terminators_122]
    have : i = c := by omega
    subst this
    exact ⟨fun _ => hX T (mv_end hT), fun h => absurd (Int.le_refl _) h⟩
  | succ m ih =>
    intro i T hi hT
    rw [twl_mo_terminators_122]
    have hi2 : i < c := by omega
    refine ⟨fun h => absurd h (by omega), fun _ => ⟨at_ok hs hi2, fun J3 hJ3 J5 hJ5 => ?_⟩⟩
    rw [at_eq hs hi2, mv_at hT hi2]
    rw [set_eq hs hi2] at hJ5
    have j3 : ∀ T', mv c s ty0 T' (mx (s6 t) t (i + 1)) → J3 T' := fun T' hT' => hJ3 T' (by
      refine ⟨⟨by omega, by omega⟩, ?_⟩
      rw [sc]
      exact ih (i + 1) T' (by omega) hT')
    have j5 : (t i = 4 ∨ t i = 5 ∨ t i = 7) → J5 := fun d => hJ5 ⟨set_ok hs hi2, j3 _ (mv_up hs hT hi2 (by unfold s6; rw [if_pos d]))⟩
    refine ⟨fun d => j5 (Or.inl d), fun d => ⟨at_ok hs hi2, fun d2 => j5 (Or.inr (Or.inl d2)), fun d2 => ⟨at_ok hs hi2, fun d3 => j5 (Or.inr (Or.inr d3)), fun d3 => j3 _ (mv_skip hT ?_)⟩⟩⟩
    unfold s6
    rw [if_neg]
    rintro (z | z | z)
    · exact d z
    · exact d2 z
    · exact d3 z
theorem pm_w7 (hs : sqok c s sq) {M : Nat → Int} {X : (Nat → Int) → Prop} (hX : ∀ T, mv c s ty0 T (s7 b t) → X T) : ∀ (m i : Nat) (v : Int) (T : Nat → Int), i + m = c → v = (if i = 0 then b else sb b t (i - 1)) → mv c s ty0 T (mx (s7 b t) t i) → twl_mo_weak_291 X c sq M b (m + 1) v i T := by
  have hc := hs.1
  intro m
  induction m with
  | zero =>
    intro i v T hi hv hT
    rw [twl_mo_weak_291]
    have : i = c := by omega
    subst this
    exact ⟨fun _ => hX T (mv_end hT), fun h => absurd (Int.le_refl _) h⟩
  | succ m ih =>
    intro i v T hi hv hT
    rw [twl_mo_weak_291]
    have hi2 : i < c := by omega
    refine ⟨fun h => absurd h (by omega), fun _ => ⟨at_ok hs hi2, fun _ => at_ok hs hi2, fun x h => ⟨at_ok hs hi2, ⟨fun _ _ => set_ok hs hi2, fun T' hT' => ⟨⟨by omega, by omega⟩, ?_⟩⟩⟩⟩⟩
    rw [at_eq hs hi2, mv_at hT hi2] at h hT'
    rw [set_eq hs hi2] at hT'
    have els : x = sb b t i := by
      rw [h, hv]
      cases i with
      | zero =>
        simp only [sb]
        by_cases d : t 0 ≤ 1
        · rw [if_pos d, if_neg (by omega)]
        · rw [if_neg d, if_pos (by omega)]; rfl
      | succ i =>
        simp only [sb]
        by_cases d : t (i + 1) ≤ 1
        · rw [if_pos d, if_neg (by omega)]
        · rw [if_neg d, if_pos (by omega)]; simp
    have hA : mv c s ty0 T' (mx (s7 b t) t (i + 1)) := by
      by_cases d : t i = 3 ∧ sb b t i = 0
      · rw [if_pos d.1, if_pos (by rw [els]; exact d.2)] at hT'
        rw [hT']
        exact mv_up hs hT hi2 (by unfold s7; rw [if_pos d])
      · have e : T' = T := by
          rw [hT']
          split
          · split
            · exact absurd ⟨‹_›, by rw [← els]; assumption⟩ d
            · rfl
          · rfl
        rw [e]
        exact mv_skip hT (by unfold s7; rw [if_neg d])
    rw [sc]
    exact ih (i + 1) x T' (by omega) (by rw [if_neg (by omega)]; exact els) hA
theorem qm_weak (hs : sqok c s sq) (h1c : 1 ≤ c) (hb : b = 0 ∨ b = 1) (ht : ty20 c t) {T M : Nat → Int} (hT : mv c s ty0 T t) {K : (Nat → Int) → (Nat → Int) → Prop} (hK : ∀ T M, mv c s ty0 T (sw c b t) → ag c M (mk1 t) → K T M) : tww_mo_weak T c sq M b K :=
  ⟨c + 1, pm_w1 hs hb ht (fun T M h1 hM => ⟨c + 1, pm_w2 (t := s1 b t) hs (fun T h2 => ⟨c + 1, pm_w3 (t := s2 (s1 b t)) hs (fun T h3 => ⟨c - 1 + 1, pm_w4 (t := s3 (s2 (s1 b t))) hs h1c (fun T h4 => ⟨c + 1, pm_w5 (t := s4 c (s3 (s2 (s1 b t)))) hs (fun T h5 => ⟨c + 1, pm_w6 (t := s5 c (s4 c (s3 (s2 (s1 b t))))) hs (fun T h6 => ⟨c + 1, pm_w7 (t := s6 (s5 c (s4 c (s3 (s2 (s1 b t)))))) hs (fun T h7 => hK T M h7 hM) c 0 b T (by omega) rfl (mv_beg h6)⟩) c 0 T (by omega) (mv_beg h5)⟩) c 0 T (by omega) (by omega) (Or.inl (Or.inl rfl)) (mv_beg h4)⟩) (c - 1) 0 T (by omega) (mv_skip (mv_beg h3) rfl)⟩) c 0 T (by omega) (mv_beg h2)⟩) c 0 (-1) T (by omega) rfl (mv_beg h1)⟩) c 0 T M (by omega) (mv_beg hT) (fun j h => absurd h (by omega))⟩
end MWEAK
