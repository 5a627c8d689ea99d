/-! pure: brackets get their types, of both sides -/
def sbt (t : Nat → Int) (em : Int) (a : Nat) : Nat → Int
  | 0 => -1
  | m + 1 => if sbt t em a m = em then em else if so (t (a + m + 1)) = -1 then sbt t em a m else so (t (a + m + 1))
theorem sbt_s (t : Nat → Int) (em : Int) (a m : Nat) : sbt t em a (m + 1) = if sbt t em a m = em then em else if so (t (a + m + 1)) = -1 then sbt t em a m else so (t (a + m + 1)) := rfl
theorem sbt_em {t : Nat → Int} {em : Int} {a : Nat} : ∀ d m, sbt t em a m = em → sbt t em a (m + d) = em := by
  intro d
  induction d with
  | zero => intro m h; exact h
  | succ d ih =>
    intro m h
    rw [show m + (d + 1) = m + d + 1 by omega, sbt_s, if_pos (ih m h)]
theorem sbt_01 (t : Nat → Int) {em : Int} (he : em = 0 ∨ em = 1) (a : Nat) : ∀ m, sbt t em a m = -1 ∨ sbt t em a m = 0 ∨ sbt t em a m = 1 := by
  intro m
  induction m with
  | zero => exact Or.inl rfl
  | succ m ih =>
    rw [sbt_s]
    have := so_01 (t (a + m + 1))
    split
    · omega
    · split <;> omega
def gE (mk : Nat → Int) (c : Nat) : Nat → Nat → Nat
  | 0, q => q
  | f + 1, q => if q < c ∧ ¬ mk q = 0 then gE mk c f (q + 1) else q
def gvf (mk : Nat → Int) (c : Nat) (x : Int) (k : Nat) (t : Nat → Int) : Nat → Int := fun j => if k ≤ j ∧ j < gE mk c (c - (k + 1)) (k + 1) then x else t j
def xst (b em : Int) (t : Nat → Int) (a d : Nat) : Int := if sbt t em a (d - a - 1) = em then em else if lnn b t a = sbt t em a (d - a - 1) then sbt t em a (d - a - 1) else em
def stl (mk : Nat → Int) (c : Nat) (b em : Int) (t : Nat → Int) (a d : Nat) : Nat → Int := if sbt t em a (d - a - 1) = -1 then t else gvf mk c (xst b em t a d) d (gvf mk c (xst b em t a d) a t)
def rs (mk : Nat → Int) (c : Nat) (b em : Int) (pn t : Nat → Int) : Nat → (Nat → Int)
  | 0 => t
  | k + 1 => if (k : Int) < pn k then stl mk c b em (rs mk c b em pn t k) k (pn k).toNat else rs mk c b em pn t k
theorem rs_s (mk : Nat → Int) (c : Nat) (b em : Int) (pn t : Nat → Int) (k : Nat) : rs mk c b em pn t (k + 1) = if (k : Int) < pn k then stl mk c b em (rs mk c b em pn t k) k (pn k).toNat else rs mk c b em pn t k := rfl
theorem xst_01 (b : Int) {em : Int} (t : Nat → Int) (a d : Nat) (he : em = 0 ∨ em = 1) (h : ¬ sbt t em a (d - a - 1) = -1) : xst b em t a d = 0 ∨ xst b em t a d = 1 := by
  have := sbt_01 t he a (d - a - 1)
  unfold xst
  split
  · exact he
  · split
    · omega
    · exact he
theorem rs_4 {mk : Nat → Int} {c : Nat} {b em : Int} {pn t : Nat → Int} (he : em = 0 ∨ em = 1) (ht : wk4 c t) : ∀ k, wk4 c (rs mk c b em pn t k) := by
  have gv4 : ∀ (x : Int) (k : Nat) (t : Nat → Int), (x = 0 ∨ x = 1) → wk4 c t → wk4 c (gvf mk c x k t) := fun x k t hx h j hj => by
    unfold gvf
    split
    · rcases hx with z | z
      · exact Or.inl z
      · exact Or.inr (Or.inl z)
    · exact h j hj
  intro k
  induction k with
  | zero => exact ht
  | succ k ih =>
    rw [rs_s]
    split
    · unfold stl
      split
      · exact ih
      · next h =>
        have hx := xst_01 b _ k _ he h
        exact gv4 _ _ _ hx (gv4 _ _ _ hx ih)
    · exact ih
section CSET
variable {c : Nat} {t T M mk : Nat → Int} {b em : Int}
theorem p_sbt (hc : c ≤ 64) (he : em = 0 ∨ em = 1) (hT : ag c T t) {a d : Nat} (hd : a < d) (hdc : d ≤ c) {K X : Int → Prop} (hK : K (sbt t em a (d - a - 1))) (hX : X (sbt t em a (d - a - 1))) : ∀ (m i : Nat), i + m = d - a - 1 → (¬ sbt t em a i = em) → twl_br_strongBetween_8 K X d T em (m + 1) (sbt t em a i) ((a + i + 1 : Nat) : Int) := by
  intro m
  induction m with
  | zero =>
    intro i hi hne
    rw [twl_br_strongBetween_8]
    rw [show i = d - a - 1 by omega]
    exact ⟨fun _ => hX, fun h => absurd (by omega) h⟩
  | succ m ih =>
    intro i hi hne
    rw [twl_br_strongBetween_8]
    refine ⟨fun h => absurd h (by omega), fun _ => ⟨⟨by omega, by omega⟩, ?_⟩⟩
    rw [so_se, tn, hT (a + i + 1) (by omega)]
    refine ⟨fun e => ?_, fun e x5 h5 => ⟨⟨by omega, by omega⟩, ?_⟩⟩
    · have e1 : sbt t em a (i + 1) = em := by
        rw [sbt_s, if_neg hne, if_neg (by omega)]
        exact e
      have e2 := sbt_em (d - a - 1 - (i + 1)) (i + 1) e1
      rw [show i + 1 + (d - a - 1 - (i + 1)) = d - a - 1 by omega] at e2
      rw [e, ← e2]
      exact hK
    · have e5 : x5 = sbt t em a (i + 1) := by rw [h5, sbt_s, if_neg hne]
      rw [e5, sc]
      refine ih (i + 1) (by omega) (fun z => ?_)
      rw [sbt_s, if_neg hne] at z
      split at z
      · exact hne z
      · exact e z
theorem q_sbt (hc : c ≤ 64) (he : em = 0 ∨ em = 1) (hT : ag c T t) {a d : Nat} (hd : a < d) (hdc : d ≤ c) {K : Int → Prop} (hK : K (sbt t em a (d - a - 1))) : tww_br_strongBetween a d T em K :=
  ⟨⟨by omega, by omega⟩, d - a - 1 + 1, p_sbt hc he hT hd hdc (X := fun y => K y) hK hK (d - a - 1) 0 (by omega) (fun z => by have : (-1 : Int) = em := z; omega)⟩
theorem p_sbf (hc : c ≤ 64) (hT : ag c T t) {K : Int → Prop} : ∀ (i : Nat), i ≤ c → K (lnn b t i) → twl_br_strongBefore_4 (fun y => two_se_strongAt y T ∧ K (twr_se_strongAt y T)) (K b) T b (i + 1) ((i : Int) - 1) := by
  intro i
  induction i with
  | zero =>
    intro _ hK
    rw [twl_br_strongBefore_4]
    exact ⟨fun _ => hK, fun h => absurd (by omega) h⟩
  | succ i ih =>
    intro hi hK
    rw [twl_br_strongBefore_4]
    rw [show (((i + 1 : Nat) : Int) - 1) = (i : Int) by omega]
    refine ⟨fun h => absurd h (by omega), fun _ => ⟨⟨by omega, by omega⟩, ?_⟩⟩
    have el : lnn b t (i + 1) = if so (t i) = -1 then lnn b t i else so (t i) := rfl
    rw [so_se, tn, hT i (by omega)]
    refine ⟨fun e => ⟨⟨by omega, by omega⟩, ?_⟩, fun e => ⟨⟨by omega, by omega⟩, ?_⟩⟩
    · rw [show ((i : Int) + -1) = (i : Int) - 1 by omega]
      rw [el, if_pos e] at hK
      exact ih (by omega) hK
    · rw [el, if_neg e] at hK
      exact hK
theorem q_sbf (hc : c ≤ 64) (hT : ag c T t) {a : Nat} (ha : a ≤ c) {K : Int → Prop} (hK : K (lnn b t a)) : tww_br_strongBefore a T b K :=
  ⟨⟨by omega, by omega⟩, a + 1, p_sbf hc hT a ha hK⟩
theorem p_give (hc : c ≤ 64) (hM : ag c M mk) {x : Int} {k : Nat} {X : (Nat → Int) → Prop} : ∀ (m q : Nat) (T : Nat → Int), q + m = c → k ≤ q → (∀ T', ag c T' (fun j => if k ≤ j ∧ j < gE mk c m q then x else t j) → X T') → ag c T (fun j => if k ≤ j ∧ j < q then x else t j) → twl_br_give_12 X x M c (m + 1) q T := by
  intro m
  induction m with
  | zero =>
    intro q T hq hk hX hT
    rw [twl_br_give_12]
    exact ⟨fun _ => hX T hT, fun h => absurd (by omega) h⟩
  | succ m ih =>
    intro q T hq hk hX hT
    rw [twl_br_give_12]
    refine ⟨fun h => absurd h (by omega), fun _ => ⟨⟨by omega, by omega⟩, ?_⟩⟩
    rw [tn, hM q (by omega)]
    have eg : gE mk c (m + 1) q = if q < c ∧ ¬ mk q = 0 then gE mk c m (q + 1) else q := rfl
    refine ⟨fun e => hX T ?_, fun e => ⟨⟨by omega, by omega⟩, ⟨by omega, by omega⟩, ?_⟩⟩
    · rw [eg, if_neg (fun z => z.2 e)]
      exact hT
    · rw [eg, if_pos ⟨by omega, e⟩] at hX
      rw [sc]
      refine ih (q + 1) _ (by omega) (by omega) hX (fun j hj => ?_)
      by_cases z : j = q
      · subst z
        rw [up_at]
        show x = if k ≤ j ∧ j < j + 1 then x else t j
        rw [if_pos ⟨hk, by omega⟩]
      · rw [up_ne _ _ z, hT j hj]
        show (if k ≤ j ∧ j < q then x else t j) = if k ≤ j ∧ j < q + 1 then x else t j
        by_cases y : k ≤ j ∧ j < q
        · rw [if_pos y, if_pos (by omega)]
        · rw [if_neg y, if_neg (by omega)]
theorem q_give (hc : c ≤ 64) (hM : ag c M mk) (hT : ag c T t) {x : Int} {k : Nat} (hk : k < c) {K : (Nat → Int) → Prop} (hK : ∀ T', ag c T' (gvf mk c x k t) → K T') : tww_br_give k x T M c K := by
  refine ⟨⟨by omega, by omega⟩, ⟨by omega, by omega⟩, c - (k + 1) + 1, ?_⟩
  rw [sc, tn]
  refine p_give (t := t) (k := k) hc hM (c - (k + 1)) (k + 1) _ (by omega) (by omega) hK (fun j hj => ?_)
  show _ = if k ≤ j ∧ j < k + 1 then x else t j
  by_cases z : j = k
  · subst z
    rw [up_at, if_pos ⟨Nat.le_refl _, by omega⟩]
  · rw [up_ne _ _ z, if_neg (by omega)]
    exact hT j hj
theorem q_settle (hc : c ≤ 64) (he : em = 0 ∨ em = 1) (hM : ag c M mk) (hT : ag c T t) {a d : Nat} (ha : a < d) (hd : d < c) {K : (Nat → Int) → Prop} (hK : ∀ T', ag c T' (stl mk c b em t a d) → K T') : tww_br_settle a d T M c em b K := by
  unfold tww_br_settle
  refine q_sbt hc he hT ha (by omega) ⟨fun z => hK T (by unfold stl; rw [if_pos z]; exact hT), fun z J3 hJ3 => ?_⟩
  have j3 : J3 (xst b em t a d) := hJ3 _ (q_give hc hM hT (by omega) (fun T1 h1 => q_give hc hM h1 hd (fun T2 h2 => hK T2 (by unfold stl; rw [if_neg z]; exact h2))))
  refine ⟨fun e => ?_, fun e => q_sbf hc hT (by omega) ⟨fun e2 => ?_, fun e2 => ?_⟩⟩
  · have : xst b em t a d = sbt t em a (d - a - 1) := by unfold xst; rw [if_pos e]; exact e.symm
    rw [← this]
    exact j3
  · have : xst b em t a d = sbt t em a (d - a - 1) := by unfold xst; rw [if_neg e, if_pos e2]
    rw [← this]
    exact j3
  · have : xst b em t a d = em := by unfold xst; rw [if_neg e, if_neg e2]
    rw [this] at j3
    exact j3
theorem p_res (hc : c ≤ 64) (he : em = 0 ∨ em = 1) (hM : ag c M mk) {pr sq P A pn : Nat → Int} (hP : ag c P pn) (hpn : ∀ j, j < c → pn j < c) {X : (Nat → Int) → Prop} (hX : ∀ T, ag c T (rs mk c b em pn t c) → X T) : ∀ (m k : Nat) (T : Nat → Int), k + m = c → ag c T (rs mk c b em pn t k) → twl_br_resolve_8 X pr sq M c em b P A (m + 1) k T := by
  intro m
  induction m with
  | zero =>
    intro k T hk hT
    rw [twl_br_resolve_8]
    have : k = c := by omega
    subst this
    exact ⟨fun _ => hX T hT, fun h => absurd (Int.le_refl _) h⟩
  | succ m ih =>
    intro k T hk hT
    rw [twl_br_resolve_8]
    have hpk := hpn k (by omega)
    refine ⟨fun h => absurd h (by omega), fun _ => ⟨⟨by omega, by omega⟩, fun J5 hJ5 => ?_⟩⟩
    rw [tn, hP k (by omega)]
    have j5 : ∀ T', ag c T' (rs mk c b em pn t (k + 1)) → J5 T' := fun T' hT' => hJ5 T' (by
      refine ⟨⟨by omega, by omega⟩, ?_⟩
      rw [sc]
      exact ih (k + 1) T' (by omega) hT')
    refine ⟨fun d => j5 T (by rw [rs_s, if_neg (by omega)]; exact hT), fun d => ⟨⟨by omega, by omega⟩, ?_⟩⟩
    rw [show pn k = ((pn k).toNat : Int) by omega]
    refine q_settle hc he hM hT (by omega) (by omega) (fun T' hT' => j5 T' ?_)
    rw [rs_s, if_pos (by omega)]
    exact hT'
end CSET
section MSET
variable {c : Nat} {s : Nat → Nat} {sq ty0 t T M mk : Nat → Int} {b em : Int}
def sa (t : Nat → Int) (x : Int) (a : Nat) : Nat → Int
  | 0 => 0
  | m + 1 => if sa t x a m = 0 ∧ ¬ so (t (a + m + 1)) = x then 0 else 1
theorem sa_s (t : Nat → Int) (x : Int) (a m : Nat) : sa t x a (m + 1) = if sa t x a m = 0 ∧ ¬ so (t (a + m + 1)) = x then 0 else 1 := rfl
theorem sa_h (em w y z x : Int) (he : em = 0 ∨ em = 1) (hw : w = -1 ∨ w = 0 ∨ w = 1) (hx : x = if ¬ y = 0 then em else if ¬ z = 0 then 1 - em else -1) : (if x = em then em else if w = -1 then x else w) = if ¬ (if y = 0 ∧ ¬ w = em then (0 : Int) else 1) = 0 then em else if ¬ (if z = 0 ∧ ¬ w = 1 - em then (0 : Int) else 1) = 0 then 1 - em else -1 := by
  subst hx
  rcases he with rfl | rfl <;> rcases hw with rfl | rfl | rfl <;> by_cases hy : y = 0 <;> by_cases hz : z = 0 <;> simp [hy, hz]
theorem sa_sbt (he : em = 0 ∨ em = 1) (a : Nat) : ∀ m, sbt t em a m = if ¬ sa t em a m = 0 then em else if ¬ sa t (1 - em) a m = 0 then 1 - em else -1 := by
  intro m
  induction m with
  | zero => rfl
  | succ m ih =>
    rw [sbt_s]
    exact sa_h em _ _ _ _ he (so_01 (t (a + m + 1))) ih
theorem pm_enc (hs : sqok c s sq) (he : em = 0 ∨ em = 1) (hT : mv c s ty0 T t) {a d : Nat} (hd : a < d) (hdc : d ≤ c) {X : Int → Int → Prop} (hX : X (sa t em a (d - a - 1)) (sa t (1 - em) a (d - a - 1))) : ∀ (m i : Nat), i + m = d - a - 1 → twl_mo_enclose_10 X a d T c sq M b em (m + 1) (sa t em a i) (sa t (1 - em) a i) ((a + i + 1 : Nat) : Int) := by
  have hc := hs.1
  intro m
  induction m with
  | zero =>
    intro i hi
    rw [twl_mo_enclose_10]
    rw [show i = d - a - 1 by omega]
    exact ⟨fun _ => hX, fun h => absurd (by omega) h⟩
  | succ m ih =>
    intro i hi
    rw [twl_mo_enclose_10]
    refine ⟨fun h => absurd h (by omega), fun _ J3 hJ3 J16 hJ16 => ?_⟩
    rw [so_mo hs (by omega), hT.1 (a + i + 1) (by omega)] at hJ3 ⊢
    have j3 : ∀ x2 : Int, x2 = sa t em a (i + 1) → J3 x2 := by
      intro x2 h2
      refine hJ3 x2 (fun J6 hJ6 J9 hJ9 => ?_)
      have j6 : ∀ x5 : Int, x5 = sa t (1 - em) a (i + 1) → J6 x2 x5 := fun x5 h5 => hJ6 x2 x5 (by
        refine ⟨⟨by omega, by omega⟩, ?_⟩
        rw [h2, h5, sc]
        exact ih (i + 1) (by omega))
      refine ⟨fun z => ⟨at_ok hs (by omega), ⟨by omega, by omega⟩, fun y => hJ9 _ (j6 1 (by rw [sa_s, if_neg (fun w => w.2 y)])), fun y => j6 0 (by rw [sa_s, if_pos ⟨z, y⟩])⟩, fun z => hJ9 _ (j6 1 (by rw [sa_s, if_neg (fun w => z w.1)]))⟩
    refine ⟨fun z => ⟨at_ok hs (by omega), fun y => hJ16 (j3 1 (by rw [sa_s, if_neg (fun w => w.2 y)])), fun y => j3 0 (by rw [sa_s, if_pos ⟨z, y⟩])⟩, fun z => hJ16 (j3 1 (by rw [sa_s, if_neg (fun w => z w.1)]))⟩
theorem pm_ctx (hs : sqok c s sq) (hT : mv c s ty0 T t) {a : Nat} (ha : a ≤ c) {v2 v3 : Int} {X : Int → Prop} (hX : X (lnn b t a)) : ∀ (m i : Nat), i + m = a → twl_mo_enclose_91 X a v2 v3 T c sq M b em (m + 1) (lnn b t i) i := by
  have hc := hs.1
  intro m
  induction m with
  | zero =>
    intro i hi
    rw [twl_mo_enclose_91]
    have : i = a := by omega
    subst this
    exact ⟨fun _ => hX, fun h => absurd (Int.le_refl _) h⟩
  | succ m ih =>
    intro i hi
    rw [twl_mo_enclose_91]
    refine ⟨fun h => absurd h (by omega), fun _ => ⟨at_ok hs (by omega), fun _ => at_ok hs (by omega), fun x h => ⟨⟨by omega, by omega⟩, ?_⟩⟩⟩
    rw [so_mo hs (by omega), hT.1 i (by omega)] at h
    have h01 := so_01 (t i)
    have e : x = lnn b t (i + 1) := by
      rw [h]
      show _ = if so (t i) = -1 then lnn b t i else so (t i)
      by_cases z : so (t i) = -1
      · rw [if_pos z, if_pos (by omega)]
      · rw [if_neg z, if_neg (by omega)]
    rw [e, sc]
    exact ih (i + 1) (by omega)
theorem pm_give (hs : sqok c s sq) (hM : ag c M mk) {x : Int} {k : Nat} {X : (Nat → Int) → Prop} : ∀ (m q : Nat) (T : Nat → Int), q + m = c → k ≤ q → (∀ T', mv c s ty0 T' (fun j => if k ≤ j ∧ j < gE mk c m q then x else t j) → X T') → mv c s ty0 T (fun j => if k ≤ j ∧ j < q then x else t j) → twl_mo_give_10 X x c sq M (m + 1) q T := by
  have hc := hs.1
  intro m
  induction m with
  | zero =>
    intro q T hq hk hX hT
    rw [twl_mo_give_10]
    exact ⟨fun _ => hX T hT, fun h => absurd (by omega) h⟩
  | succ m ih =>
    intro q T hq hk hX hT
    rw [twl_mo_give_10]
    refine ⟨fun h => absurd h (by omega), fun _ => ⟨⟨by omega, by omega⟩, ?_⟩⟩
    rw [tn, hM q (by omega)]
    have eg : gE mk c (m + 1) q = if q < c ∧ ¬ mk q = 0 then gE mk c m (q + 1) else q := rfl
    refine ⟨fun e => hX T ?_, fun e => ⟨set_ok hs (by omega), ⟨by omega, by omega⟩, ?_⟩⟩
    · rw [eg, if_neg (fun z => z.2 e)]
      exact hT
    · rw [eg, if_pos ⟨by omega, e⟩] at hX
      rw [set_eq hs (by omega), sc]
      refine ih (q + 1) _ (by omega) (by omega) hX ⟨fun j hj => ?_, fun p hp => ?_⟩
      · by_cases z : j = q
        · subst z
          rw [up_at]
          show x = if k ≤ j ∧ j < j + 1 then x else t j
          rw [if_pos ⟨hk, by omega⟩]
        · rw [up_ne _ _ (fun w => z (hs.2.2 j q hj (by omega) w)), hT.1 j hj]
          show (if k ≤ j ∧ j < q then x else t j) = if k ≤ j ∧ j < q + 1 then x else t j
          by_cases y : k ≤ j ∧ j < q
          · rw [if_pos y, if_pos (by omega)]
          · rw [if_neg y, if_neg (by omega)]
      · rw [up_ne _ _ (fun z => hp q (by omega) z.symm)]
        exact hT.2 p hp
theorem qm_give (hs : sqok c s sq) (hM : ag c M mk) (hT : mv c s ty0 T t) {x : Int} {k : Nat} (hk : k < c) {K : (Nat → Int) → Prop} (hK : ∀ T', mv c s ty0 T' (gvf mk c x k t) → K T') : tww_mo_give k x T c sq M K := by
  have hc := hs.1
  refine ⟨set_ok hs hk, ⟨by omega, by omega⟩, c - (k + 1) + 1, ?_⟩
  rw [set_eq hs hk, sc]
  refine pm_give (t := t) (k := k) hs hM (c - (k + 1)) (k + 1) _ (by omega) (by omega) hK ⟨fun j hj => ?_, fun p hp => ?_⟩
  · show _ = if k ≤ j ∧ j < k + 1 then x else t j
    by_cases z : j = k
    · subst z
      rw [up_at, if_pos ⟨Nat.le_refl _, by omega⟩]
    · rw [up_ne _ _ (fun w => z (hs.2.2 j k hj hk w)), if_neg (by omega)]
      exact hT.1 j hj
  · rw [up_ne _ _ (fun z => hp k hk z.symm)]
    exact hT.2 p hp
theorem lnn_01 (hb : b = 0 ∨ b = 1) : ∀ k, lnn b t k = 0 ∨ lnn b t k = 1 := by
  intro k
  induction k with
  | zero => exact hb
  | succ k ih =>
    show (if so (t k) = -1 then lnn b t k else so (t k)) = 0 ∨ (if so (t k) = -1 then lnn b t k else so (t k)) = 1
    have := so_01 (t k)
    split
    · exact ih
    · omega
theorem qm_settle (hs : sqok c s sq) (hb : b = 0 ∨ b = 1) (he : em = 0 ∨ em = 1) (hM : ag c M mk) (hT : mv c s ty0 T t) {a d : Nat} (ha : a < d) (hd : d < c) {K : (Nat → Int) → Prop} (hK : ∀ T', mv c s ty0 T' (stl mk c b em t a d) → K T') : tww_mo_enclose a d T c sq M b em K := by
  have hc := hs.1
  refine ⟨⟨by omega, by omega⟩, d - a - 1 + 1, ?_⟩
  refine pm_enc hs he hT ha (by omega) (fun J25 hJ25 => ?_) (d - a - 1) 0 (by omega)
  have hsb := sa_sbt (t := t) he a (d - a - 1)
  have hl := lnn_01 (t := t) hb a
  have j25 : (¬ sa t em a (d - a - 1) = 0 ∨ ¬ sa t (1 - em) a (d - a - 1) = 0) → J25 := fun hz => hJ25 (by
    refine ⟨a + 1, pm_ctx hs hT (by omega) (fun J41 hJ41 J44 hJ44 => ?_) a 0 (by omega)⟩
    have hne : ¬ sbt t em a (d - a - 1) = -1 := by
      rw [hsb]
      split
      · omega
      · rw [if_pos (hz.resolve_left ‹_›)]
        omega
    have j41 : J41 (xst b em t a d) := hJ41 _ (qm_give hs hM hT (by omega) (fun T1 h1 => qm_give hs hM h1 hd (fun T2 h2 => hK T2 (by unfold stl; rw [if_neg hne]; exact h2))))
    refine ⟨fun z => ?_, fun z => hJ44 ?_⟩
    · have e1 : sbt t em a (d - a - 1) = 1 - em := by
        rw [hsb, if_neg (fun y => y z), if_pos (hz.resolve_left (fun y => y z))]
      refine ⟨fun y => hJ44 ?_, fun y => ⟨⟨by omega, by omega⟩, ?_⟩⟩
      · have : xst b em t a d = em := by unfold xst; rw [e1, if_neg (by omega), if_neg (by omega)]
        rw [← this]
        exact j41
      · have : xst b em t a d = 1 - em := by unfold xst; rw [e1, if_neg (by omega), if_pos (by omega)]
        rw [← this]
        exact j41
    · have e1 : sbt t em a (d - a - 1) = em := by rw [hsb, if_pos z]
      have : xst b em t a d = em := by unfold xst; rw [if_pos e1]
      rw [← this]
      exact j41)
  refine ⟨fun z => ⟨fun y => hK T ?_, fun y => j25 (Or.inr y)⟩, fun z => j25 (Or.inl z)⟩
  have : sbt t em a (d - a - 1) = -1 := by rw [hsb, if_neg (fun w => w z), if_neg (fun w => w y)]
  unfold stl
  rw [if_pos this]
  exact hT
theorem pm_193 (hs : sqok c s sq) {j : Nat} (hj : j < c) {v2 : Int} {pr P A : Nat → Int} {X : Int → Prop} (hX : X (j : Int)) : ∀ (m q : Nat), q + m = j → twl_mo_brackets_193 X v2 (s j : Int) pr T P c sq M b em A (m + 1) q := by
  have hc := hs.1
  intro m
  induction m with
  | zero =>
    intro q hq
    rw [twl_mo_brackets_193]
    have : q = j := by omega
    subst this
    rw [tn, (hs.2.1 q hj).1]
    exact ⟨⟨by omega, by omega⟩, fun _ => hX, fun h => absurd rfl h⟩
  | succ m ih =>
    intro q hq
    rw [twl_mo_brackets_193]
    rw [tn, (hs.2.1 q (by omega)).1]
    refine ⟨⟨by omega, by omega⟩, fun h => ?_, fun _ => ⟨⟨by omega, by omega⟩, ?_⟩⟩
    · have := hs.2.2 q j (by omega) hj (by omega)
      omega
    · rw [sc]
      exact ih (q + 1) (by omega)
theorem pm_res (hs : sqok c s sq) (hinc : ∀ i j, i < j → j < c → s i < s j) (hb : b = 0 ∨ b = 1) (he : em = 0 ∨ em = 1) (hM : ag c M mk) {pr P A p0 pn : Nat → Int} (hP : mpn c s p0 P pn) (hpn : ∀ j, j < c → pn j = -1 ∨ ∃ i : Nat, pn j = i ∧ i < c ∧ i ≠ j) {X : (Nat → Int) → Prop} (hX : ∀ T, mv c s ty0 T (rs mk c b em pn t c) → X T) : ∀ (m k : Nat) (T : Nat → Int), k + m = c → mv c s ty0 T (rs mk c b em pn t k) → twl_mo_brackets_160 X pr P c sq M b em A (m + 1) k T := by
  have hc := hs.1
  intro m
  induction m with
  | zero =>
    intro k T hk hT
    rw [twl_mo_brackets_160]
    have : k = c := by omega
    subst this
    exact ⟨fun _ => hX T hT, fun h => absurd (Int.le_refl _) h⟩
  | succ m ih =>
    intro k T hk hT
    rw [twl_mo_brackets_160]
    have hk2 : k < c := by omega
    have hsk := hs.2.1 k hk2
    refine ⟨fun h => absurd h (by omega), fun _ => ⟨⟨by omega, by omega⟩, ?_⟩⟩
    rw [tn, hsk.1, tn, hP.1 k hk2]
    refine ⟨⟨by omega, by omega⟩, ⟨by omega, by omega⟩, fun J5 hJ5 => ?_⟩
    have j5 : ∀ T', mv c s ty0 T' (rs mk c b em pn t (k + 1)) → J5 T' := fun T' hT' => hJ5 T' (by
      refine ⟨⟨by omega, by omega⟩, ?_⟩
      rw [sc]
      exact ih (k + 1) T' (by omega) hT')
    rcases hpn k hk2 with z | ⟨i, z1, z2, z3⟩
    · rw [if_pos z]
      exact ⟨fun _ => j5 T (by rw [rs_s, if_neg (by omega)]; exact hT), fun h => absurd (by omega) h⟩
    · rw [if_neg (by omega), z1, tn]
      by_cases q : k < i
      · have h1 := hinc k i q z2
        refine ⟨fun h => absurd h (by omega), fun _ => ⟨i - k + 1, pm_193 hs z2 (qm_settle hs hb he hM hT q z2 (fun T' hT' => j5 T' ?_)) (i - k) k (by omega)⟩⟩
        rw [rs_s, if_pos (by omega), z1, tn]
        exact hT'
      · have h1 := hinc i k (by omega) hk2
        exact ⟨fun _ => j5 T (by rw [rs_s, if_neg (by omega)]; exact hT), fun h => absurd (by omega) h⟩
end MSET
