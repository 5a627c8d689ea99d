/-! pure: the neutral steps of both sides -/
def so (x : Int) : Int := if x = 0 then 0 else (if x = 1 then 1 else (if x = 3 then 1 else (if x = 6 then 1 else (-1))))
theorem so_se (v : Int) (T : Nat → Int) : twr_se_strongAt v T = so (T (Int.toNat v)) := rfl
theorem so_mo {c : Nat} {s : Nat → Nat} {sq T : Nat → Int} {k : Nat} (h : sqok c s sq) (hk : k < c) : twr_mo_strong k T sq = so (T (s k)) := by
  unfold twr_mo_strong
  rw [at_eq h hk]
  rfl
/-- types behind the weak steps -/
def wk4 (c : Nat) (t : Nat → Int) : Prop := ∀ j, j < c → t j = 0 ∨ t j = 1 ∨ t j = 3 ∨ t j = 6 ∨ (9 ≤ t j ∧ t j ≤ 20)
theorem so_9 {x : Int} (h : x = 0 ∨ x = 1 ∨ x = 3 ∨ x = 6 ∨ (9 ≤ x ∧ x ≤ 20)) : so x = -1 ↔ 9 ≤ x := by
  unfold so
  repeat' split
  all_goals omega
theorem so_01 (x : Int) : so x = -1 ∨ so x = 0 ∨ so x = 1 := by
  unfold so
  repeat' split
  all_goals omega
def lnn (b : Int) (t : Nat → Int) : Nat → Int
  | 0 => b
  | k + 1 => if so (t k) = -1 then lnn b t k else so (t k)
def rnd (e : Int) (t : Nat → Int) (c : Nat) : Nat → Int
  | 0 => e
  | d + 1 => if so (t (c - (d + 1))) = -1 then rnd e t c d else so (t (c - (d + 1)))
def rnn (e : Int) (t : Nat → Int) (c k : Nat) : Int := rnd e t c (c - k)
theorem rnn_s {e : Int} {t : Nat → Int} {c k : Nat} (h : k < c) : rnn e t c k = if so (t k) = -1 then rnn e t c (k + 1) else so (t k) := by
  unfold rnn
  rw [show c - k = (c - (k + 1)) + 1 by omega]
  show (if so (t (c - (c - (k + 1) + 1))) = -1 then rnd e t c (c - (k + 1)) else so (t (c - (c - (k + 1) + 1)))) = _
  rw [show c - (c - (k + 1) + 1) = k by omega]
theorem rnn_c (e : Int) (t : Nat → Int) (c : Nat) : rnn e t c c = e := by
  unfold rnn
  rw [Nat.sub_self]
  rfl
def sn (c : Nat) (b e em : Int) (t : Nat → Int) (k : Nat) : Int := if so (t k) = -1 then (if lnn b t k = rnn e t c k then lnn b t k else em) else t k
theorem lnn_run {b : Int} {t : Nat → Int} {k0 : Nat} (h0 : k0 = 0 ∨ ¬ so (t (k0 - 1)) = -1) : ∀ d, (∀ j, k0 ≤ j → j < k0 + d → so (t j) = -1) → lnn b t (k0 + d) = if k0 = 0 then b else so (t (k0 - 1)) := by
  intro d
  induction d with
  | zero =>
    intro _
    cases k0 with
    | zero => rfl
    | succ k =>
      show (if so (t k) = -1 then lnn b t k else so (t k)) = _
      have h1 : ¬ so (t k) = -1 := h0.resolve_left (by omega)
      rw [if_neg h1, if_neg (by omega)]
      rfl
  | succ d ih =>
    intro h
    show (if so (t (k0 + d)) = -1 then lnn b t (k0 + d) else so (t (k0 + d))) = _
    rw [if_pos (h (k0 + d) (by omega) (by omega))]
    exact ih (fun j h1 h2 => h j h1 (by omega))
theorem rnn_run {e : Int} {t : Nat → Int} {c y : Nat} (hy : y ≤ c) (hb : y = c ∨ ¬ so (t y) = -1) : ∀ d k, k + d = y → (∀ j, k ≤ j → j < y → so (t j) = -1) → rnn e t c k = if y = c then e else so (t y) := by
  intro d
  induction d with
  | zero =>
    intro k hk _
    have : k = y := by omega
    subst this
    by_cases z : k = c
    · rw [if_pos z, z, rnn_c]
    · rw [if_neg z, rnn_s (by omega), if_neg (hb.resolve_left z)]
  | succ d ih =>
    intro k hk h
    rw [rnn_s (by omega), if_pos (h k (Nat.le_refl _) (by omega))]
    exact ih (k + 1) (by omega) (fun j h1 h2 => h j (by omega) h2)
theorem sn_run {b e em : Int} {t : Nat → Int} {c x y : Nat} (h0 : x = 0 ∨ ¬ so (t (x - 1)) = -1) (hy : y ≤ c) (hb : y = c ∨ ¬ so (t y) = -1) (hr : ∀ j, x ≤ j → j < y → so (t j) = -1) {j : Nat} (h1 : x ≤ j) (h2 : j < y) : sn c b e em t j = if (if x = 0 then b else so (t (x - 1))) = (if y = c then e else so (t y)) then (if x = 0 then b else so (t (x - 1))) else em := by
  have e1 := lnn_run (b := b) h0 (j - x) (fun i q1 q2 => hr i q1 (by omega))
  rw [show x + (j - x) = j by omega] at e1
  have e2 := rnn_run (e := e) hy hb (y - j) j (by omega) (fun i q1 q2 => hr i (by omega) q2)
  unfold sn
  rw [if_pos (hr j h1 h2), e1, e2]
theorem sn_no {b e em : Int} {t : Nat → Int} {c k : Nat} (h : ¬ so (t k) = -1) : sn c b e em t k = t k := by
  unfold sn
  rw [if_neg h]
theorem sn_4 {b e em : Int} {t : Nat → Int} {c : Nat} (hb : b = 0 ∨ b = 1) (he : em = 0 ∨ em = 1) (ht : wk4 c t) : ∀ j, j < c → sn c b e em t j = 0 ∨ sn c b e em t j = 1 ∨ sn c b e em t j = 3 ∨ sn c b e em t j = 6 := fun j hj => by
  have hl : ∀ k, lnn b t k = 0 ∨ lnn b t k = 1 := by
    intro k
    induction k with
    | zero => exact hb
    | succ k ih =>
      show (if so (t k) = -1 then lnn b t k else so (t k)) = 0 ∨ (if so (t k) = -1 then lnn b t k else so (t k)) = 1
      have := so_01 (t k)
      split
      · exact ih
      · omega
  have h1 := hl j
  have h2 := ht j hj
  have h3 := so_9 h2
  unfold sn
  split
  · split
    · omega
    · omega
  · omega
/-- the first side -/
theorem p_nfill {c : Nat} {t f : Nat → Int} {x y : Nat} {v : Int} (hy : y ≤ c) (hc : c ≤ 64) (hv : ∀ j, x ≤ j → j < y → f j = v) {X : (Nat → Int) → Prop} (hX : ∀ T, ag c T (mx f t y) → X T) : ∀ (m q : Nat) (T : Nat → Int), q + m = y → x ≤ q → ag c T (mx f t q) → twl_se_fillTypes_3 X y v (m + 1) q T := by
  intro m
  induction m with
  | zero =>
    intro q T hq hx hT
    rw [twl_se_fillTypes_3]
    have : q = y := by omega
    subst this
    exact ⟨fun _ => hX T hT, fun h => absurd (Int.le_refl _) h⟩
  | succ m ih =>
    intro q T hq hx hT
    rw [twl_se_fillTypes_3]
    refine ⟨fun h => absurd h (by omega), fun _ => ⟨⟨by omega, by omega⟩, ⟨by omega, by omega⟩, ?_⟩⟩
    rw [sc, tn]
    exact ih (q + 1) _ (by omega) (by omega) (ag_up hT (hv q hx (by omega)).symm)
theorem p_neu {c : Nat} {t : Nat → Int} {b e em : Int} (hc : c ≤ 64) {X : (Nat → Int) → Prop} (hX : ∀ T, ag c T (sn c b e em t) → X T) : ∀ (m i x : Nat) (T : Nat → Int), i + m = c + 1 → x ≤ i → (i = c + 1 → x = c + 1) → (x ≤ c → x = 0 ∨ ¬ so (t (x - 1)) = -1) → (∀ j, x ≤ j → j < i → so (t j) = -1) → ag c T (mx (sn c b e em t) t x) → twl_se_resolveNeutral_4 X c em b e (m + 1) x i T := by
  intro m
  induction m with
  | zero =>
    intro i x T hi h1 h2 h3 h4 hT
    rw [twl_se_resolveNeutral_4]
    refine ⟨fun _ => hX T (fun j hj => ?_), fun h => absurd (by omega) h⟩
    rw [hT j hj, mx_lt (by omega)]
  | succ m ih =>
    intro i x T hi h1 h2 h3 h4 hT
    rw [twl_se_resolveNeutral_4]
    refine ⟨fun h => absurd h (by omega), fun _ J3 hJ3 J5 hJ5 => ?_⟩
    have j5 : (i = c ∨ ¬ so (t i) = -1) → J5 := fun d => hJ5 (by
      refine ⟨fun q => ⟨⟨by omega, by omega⟩, ⟨by omega, by omega⟩⟩, fun x10 h10 => ⟨fun q => ⟨by omega, by omega⟩, fun x14 h14 x15 h15 => ⟨i - x + 1, ?_⟩⟩⟩
      have h3' := h3 (by omega)
      have e10 : x10 = if x = 0 then b else so (t (x - 1)) := by
        rw [h10]
        by_cases z : x = 0
        · rw [if_pos (by omega), if_pos z]
        · rw [if_neg (by omega), if_neg z, so_se, tnm, hT (x - 1) (by omega), mx_lt (by omega), sn_no (h3'.resolve_left z)]
      have e14 : x14 = if i = c then e else so (t i) := by
        rw [h14]
        by_cases z : i = c
        · rw [if_pos (by omega), if_pos z]
        · rw [if_neg (by omega), if_neg z, so_se, tn, hT i (by omega), mx_ge h1]
      have e15 : ∀ j, x ≤ j → j < i → sn c b e em t j = x15 := fun j q1 q2 => by
        rw [sn_run h3' (by omega) d h4 q1 q2, h15, e10, e14]
      refine p_nfill (x := x) (by omega) hc e15 (fun T' hT' => ⟨⟨by omega, by omega⟩, hJ3 _ _ ⟨⟨by omega, by omega⟩, ?_⟩⟩) (i - x) x T (by omega) (Nat.le_refl _) hT
      rw [sc]
      refine ih (i + 1) (i + 1) T' (by omega) (Nat.le_refl _) (fun z => z) (fun z => Or.inr (d.resolve_left (by omega))) (fun j q1 q2 => absurd q1 (by omega)) ?_
      by_cases z : i = c
      · intro j hj
        rw [hT' j hj, mx_lt (by omega), mx_lt (by omega)]
      · exact ag_skip hT' (sn_no (d.resolve_left z)))
    refine ⟨fun d => j5 (Or.inl (by omega)), fun d => ⟨⟨by omega, by omega⟩, ?_⟩⟩
    rw [so_se, tn, hT i (by omega), mx_ge h1]
    refine ⟨fun d2 => hJ3 _ _ ⟨⟨by omega, by omega⟩, ?_⟩, fun d2 => j5 (Or.inr d2)⟩
    rw [sc]
    refine ih (i + 1) x T (by omega) (by omega) (fun z => absurd z (by omega)) h3 (fun j q1 q2 => ?_) hT
    by_cases z : j = i
    · rw [z]; exact d2
    · exact h4 j q1 (by omega)
theorem q_neu {c : Nat} {t T : Nat → Int} {b e em : Int} (hc : c ≤ 64) (hT : ag c T t) {K : (Nat → Int) → Prop} (hK : ∀ T, ag c T (sn c b e em t) → K T) : tww_se_resolveNeutral T c em b e K :=
  ⟨c + 1 + 1, p_neu hc hK (c + 1) 0 0 T (by omega) (Nat.le_refl _) (fun z => by omega) (fun _ => Or.inl rfl) (fun j q1 q2 => absurd q1 (by omega)) (ag_beg hT)⟩
section MNEU
variable {c : Nat} {s : Nat → Nat} {sq ty0 t : Nat → Int} {b e em : Int}
theorem pm_nrun (hs : sqok c s sq) (ht : wk4 c t) {T : Nat → Int} {k0 : Nat} {v : Int} (hT : mv c s ty0 T (mx (sn c b e em t) t k0)) {X : Int → Prop} (hX : ∀ y, k0 ≤ y → y ≤ c → (∀ j, k0 ≤ j → j < y → so (t j) = -1) → (y = c ∨ ¬ so (t y) = -1) → X (y : Int)) : ∀ (m y : Nat), y + m = c → k0 ≤ y → (∀ j, k0 ≤ j → j < y → so (t j) = -1) → twl_mo_neutral_12 X v T c sq b e em (m + 1) y := by
  have hc := hs.1
  intro m
  induction m with
  | zero =>
    intro y hy h1 h2
    rw [twl_mo_neutral_12]
    exact ⟨fun _ => hX y h1 (by omega) h2 (Or.inl (by omega)), fun h => absurd (by omega) h⟩
  | succ m ih =>
    intro y hy h1 h2
    rw [twl_mo_neutral_12]
    refine ⟨fun h => absurd h (by omega), fun _ => ⟨at_ok hs (by omega), ?_⟩⟩
    rw [at_eq hs (by omega), mv_ge hT h1 (by omega)]
    have h9 := so_9 (ht y (by omega))
    refine ⟨fun d => hX y h1 (by omega) h2 (Or.inr (fun z => by have := h9.mp z; omega)), fun d => ⟨⟨by omega, by omega⟩, ?_⟩⟩
    rw [sc]
    refine ih (y + 1) (by omega) (by omega) (fun j h3 h4 => ?_)
    by_cases z : j = y
    · rw [z]; exact h9.mpr (by omega)
    · exact h2 j h3 (by omega)
theorem pm_nfill (hs : sqok c s sq) {f : Nat → Int} {y : Nat} (hy : y ≤ c) {v1 v3 v4 v : Int} (hv : (if v3 = v4 then v3 else em) = v) {X : (Nat → Int) → Prop} (hX : ∀ T, mv c s ty0 T (mx f t y) → X T) : ∀ (m q : Nat) (T : Nat → Int), q + m = y → (∀ j, q ≤ j → j < y → f j = v) → mv c s ty0 T (mx f t q) → twl_mo_neutral_85 X v1 y v3 v4 c sq b e em (m + 1) q T := by
  have hc := hs.1
  intro m
  induction m with
  | zero =>
    intro q T hq h1 hT
    rw [twl_mo_neutral_85]
    have : q = y := by omega
    subst this
    exact ⟨fun _ => hX T hT, fun h => absurd (Int.le_refl _) h⟩
  | succ m ih =>
    intro q T hq h1 hT
    rw [twl_mo_neutral_85]
    refine ⟨fun h => absurd h (by omega), fun _ x25 h25 => ⟨set_ok hs (by omega), ⟨by omega, by omega⟩, ?_⟩⟩
    rw [set_eq hs (by omega), sc]
    exact ih (q + 1) _ (by omega) (fun j h4 h5 => h1 j (by omega) h5) (mv_up hs hT (by omega) (by rw [h25, hv, h1 q (Nat.le_refl _) (by omega)]))
theorem pm_neu (hs : sqok c s sq) (ht : wk4 c t) {X : (Nat → Int) → Prop} (hX : ∀ T, mv c s ty0 T (sn c b e em t) → X T) : ∀ (m k0 : Nat) (T : Nat → Int), c - k0 ≤ m → k0 ≤ c → ((k0 = 0 ∨ ¬ so (t (k0 - 1)) = -1) ∨ k0 = c ∨ ¬ so (t k0) = -1) → mv c s ty0 T (mx (sn c b e em t) t k0) → twl_mo_neutral_2 X c sq b e em (m + 1) k0 T := by
  have hc := hs.1
  intro m
  induction m with
  | zero =>
    intro k0 T h1 h2 h3 hT
    rw [twl_mo_neutral_2]
    have : k0 = c := by omega
    subst this
    exact ⟨fun _ => hX T (mv_end hT), fun h => absurd (Int.le_refl _) h⟩
  | succ m ih =>
    intro k0 T h1 h2 h3 hT
    rw [twl_mo_neutral_2]
    refine ⟨fun h => ?_, fun h => ⟨c - k0 + 1, pm_nrun hs ht hT (fun y hy1 hy2 hy3 hy4 J9 hJ9 => ?_) (c - k0) k0 (by omega) (Nat.le_refl _) (fun j h4 h5 => absurd h4 (by omega))⟩⟩
    · have : k0 = c := by omega
      subst this
      exact hX T (mv_end hT)
    · have next : ∀ T', mv c s ty0 T' (mx (sn c b e em t) t y) → J9 T' := fun T' hT' => hJ9 T' (by
        refine ⟨fun _ => ⟨by omega, by omega⟩, fun x19 h19 => ?_⟩
        by_cases d : y = k0
        · subst d
          rw [h19, if_pos (Int.le_refl _), sc]
          have hk : ¬ so (t y) = -1 := hy4.resolve_left (by omega)
          exact ih (y + 1) T' (by omega) (by omega) (Or.inl (Or.inr hk)) (mv_skip hT' (sn_no hk))
        · rw [h19, if_neg (by omega)]
          exact ih y T' (by omega) hy2 (Or.inr hy4) hT')
      refine ⟨fun d => next T (by rw [show y = k0 by omega]; exact hT), fun d => ?_⟩
      have hky : k0 < y := by omega
      have h5 : k0 = 0 ∨ ¬ so (t (k0 - 1)) = -1 := by
        rcases h3 with z | z | z
        · exact z
        · omega
        · exact absurd (hy3 k0 (Nat.le_refl _) hky) z
      refine ⟨fun q => ⟨⟨by omega, by omega⟩, ?_⟩, fun x20 h20 => ⟨fun q => ?_, fun x24 h24 => ⟨y - k0 + 1, ?_⟩⟩⟩
      · rw [show ((k0 : Int) - 1) = ((k0 - 1 : Nat) : Int) by omega]
        exact at_ok hs (by omega)
      · exact at_ok hs (by omega)
      · have e20 : x20 = if k0 = 0 then b else so (t (k0 - 1)) := by
          rw [h20]
          by_cases z : k0 = 0
          · rw [if_pos (by omega), if_pos z]
          · rw [if_neg (by omega), if_neg z, show ((k0 : Int) - 1) = ((k0 - 1 : Nat) : Int) by omega, so_mo hs (by omega), mv_lt hT (by omega) (by omega), sn_no (h5.resolve_left z)]
        have e24 : x24 = if y = c then e else so (t y) := by
          rw [h24]
          by_cases z : y = c
          · rw [if_pos (by omega), if_pos z]
          · rw [if_neg (by omega), if_neg z, so_mo hs (by omega), mv_ge hT (by omega) (by omega)]
        refine pm_nfill hs hy2 (f := sn c b e em t) rfl (fun T' hT' => next T' hT') (y - k0) k0 T (by omega) (fun j q1 q2 => ?_) hT
        rw [sn_run h5 hy2 hy4 hy3 q1 q2, e20, e24]
theorem qm_neu (hs : sqok c s sq) (ht : wk4 c t) {T : Nat → Int} (hT : mv c s ty0 T t) {K : (Nat → Int) → Prop} (hK : ∀ T, mv c s ty0 T (sn c b e em t) → K T) : tww_mo_neutral T c sq b e em K :=
  ⟨c + 1, pm_neu hs ht hK c 0 T (by omega) (by omega) (Or.inl (Or.inl rfl)) (mv_beg hT)⟩
end MNEU
