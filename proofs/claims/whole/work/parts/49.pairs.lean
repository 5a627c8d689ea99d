/-! pure: pairs of brackets in a sequence, of both sides -/
def fdr (pq : Nat → Int) (num : Int) : List Nat → Option (Nat × List Nat)
  | [] => none
  | x :: r => if pq x = num then some (x, r) else fdr pq num r
def bst (pq : Nat → Int) : Nat → List Nat × (Nat → Int)
  | 0 => ([], fun _ => -1)
  | k + 1 => if 0 < pq k then (k :: (bst pq k).1, (bst pq k).2) else if pq k < 0 then (match fdr pq (-pq k) (bst pq k).1 with
    | some (x, r) => (r, tw_up (tw_up (bst pq k).2 x k) k x)
    | none => bst pq k) else bst pq k
theorem bst_s (pq : Nat → Int) (k : Nat) : bst pq (k + 1) = if 0 < pq k then (k :: (bst pq k).1, (bst pq k).2) else if pq k < 0 then (match fdr pq (-pq k) (bst pq k).1 with
    | some (x, r) => (r, tw_up (tw_up (bst pq k).2 x k) k x)
    | none => bst pq k) else bst pq k := rfl
theorem fdr_some {pq : Nat → Int} {num : Int} : ∀ {l : List Nat} {x : Nat} {r : List Nat}, fdr pq num l = some (x, r) → x ∈ l ∧ (∀ y, y ∈ r → y ∈ l) ∧ pq x = num ∧ ∃ p, l = p ++ x :: r
  | [], x, r, h => by cases h
  | y :: q, x, r, h => by
    unfold fdr at h
    split at h
    · cases h
      exact ⟨List.mem_cons_self, fun z hz => List.mem_cons_of_mem _ hz, ‹_›, [], rfl⟩
    · obtain ⟨h1, h2, h3, p, h4⟩ := fdr_some h
      exact ⟨List.mem_cons_of_mem _ h1, fun z hz => List.mem_cons_of_mem _ (h2 z hz), h3, y :: p, by rw [h4]; rfl⟩
/-- the list as it lies in an array -/
def lr (A : Nat → Int) : List Nat → Prop
  | [] => True
  | x :: r => A r.length = (x : Int) ∧ lr A r
theorem lr_up {A : Nat → Int} {n : Nat} {x : Int} : ∀ {l : List Nat}, l.length ≤ n → lr A l → lr (tw_up A n x) l
  | [], _, _ => trivial
  | y :: r, h, hl => by
    have h1 : r.length + 1 ≤ n := h
    exact ⟨by rw [up_ne _ _ (by omega)]; exact hl.1, lr_up (by omega) hl.2⟩
theorem lr_push {A : Nat → Int} {l : List Nat} {k : Nat} (h : lr A l) : lr (tw_up A l.length (k : Int)) (k :: l) := ⟨up_at _ _ _, lr_up (Nat.le_refl _) h⟩
theorem lr_drop {A : Nat → Int} {r : List Nat} : ∀ {p : List Nat}, lr A (p ++ r) → lr A r
  | [], h => h
  | _ :: p, h => lr_drop (p := p) h.2
/-- what holds of the list and the partners -/
def bok (pq : Nat → Int) (k : Nat) : Prop := (∀ x, x ∈ (bst pq k).1 → x < k ∧ 0 < pq x ∧ (bst pq k).2 x = -1) ∧ (bst pq k).1.Nodup ∧ (∀ j, k ≤ j → (bst pq k).2 j = -1) ∧ ∀ j, (bst pq k).2 j = -1 ∨ ∃ i : Nat, (bst pq k).2 j = i ∧ i ≠ j ∧ i < k ∧ j < k ∧ (bst pq k).2 i = j
theorem bok_all (pq : Nat → Int) : ∀ k, bok pq k := by
  intro k
  induction k with
  | zero => exact ⟨fun x h => absurd h List.not_mem_nil, List.nodup_nil, fun _ _ => rfl, fun _ => Or.inl rfl⟩
  | succ k ih =>
    obtain ⟨h1, h2, h3, h4⟩ := ih
    have keep : bst pq (k + 1) = bst pq k → bok pq (k + 1) := fun e => by
      unfold bok
      rw [e]
      refine ⟨fun x hx => ⟨by have := (h1 x hx).1; omega, (h1 x hx).2⟩, h2, fun j hj => h3 j (by omega), fun j => ?_⟩
      rcases h4 j with z | ⟨i, z1, z2, z3, z4, z5⟩
      · exact Or.inl z
      · exact Or.inr ⟨i, z1, z2, by omega, by omega, z5⟩
    by_cases c1 : 0 < pq k
    · have e : bst pq (k + 1) = (k :: (bst pq k).1, (bst pq k).2) := by rw [bst_s, if_pos c1]
      unfold bok
      rw [e]
      refine ⟨fun x hx => ?_, List.nodup_cons.mpr ⟨fun z => by have := (h1 k z).1; omega, h2⟩, fun j hj => h3 j (by omega), fun j => ?_⟩
      · rcases List.mem_cons.mp hx with rfl | hx
        · exact ⟨by omega, c1, h3 x (Nat.le_refl _)⟩
        · exact ⟨by have := (h1 x hx).1; omega, (h1 x hx).2⟩
      · rcases h4 j with z | ⟨i, z1, z2, z3, z4, z5⟩
        · exact Or.inl z
        · exact Or.inr ⟨i, z1, z2, by omega, by omega, z5⟩
    · by_cases c2 : pq k < 0
      · cases hf : fdr pq (-pq k) (bst pq k).1 with
        | none => exact keep (by rw [bst_s, if_neg c1, if_pos c2, hf])
        | some q =>
          obtain ⟨x, r⟩ := q
          have e : bst pq (k + 1) = (r, tw_up (tw_up (bst pq k).2 x k) k x) := by rw [bst_s, if_neg c1, if_pos c2, hf]
          obtain ⟨f1, f2, f3, p, f4⟩ := fdr_some hf
          have hx := h1 x f1
          have hnd : x ∉ r ∧ r.Nodup := by
            rw [f4] at h2
            have := (List.nodup_append.mp h2).2.1
            exact List.nodup_cons.mp this
          unfold bok
          rw [e]
          refine ⟨fun y hy => ?_, hnd.2, fun j hj => ?_, fun j => ?_⟩
          · have hy1 := h1 y (f2 y hy)
            have hyx : y ≠ x := fun z => hnd.1 (z ▸ hy)
            exact ⟨by omega, hy1.2.1, by show tw_up (tw_up _ x k) k x y = -1; rw [up_ne _ _ (by omega), up_ne _ _ hyx]; exact hy1.2.2⟩
          · show tw_up (tw_up _ x k) k x j = -1
            rw [up_ne _ _ (by omega), up_ne _ _ (by omega)]
            exact h3 j (by omega)
          · show tw_up (tw_up _ x k) k x j = -1 ∨ ∃ i : Nat, tw_up (tw_up _ x k) k x j = i ∧ i ≠ j ∧ i < k + 1 ∧ j < k + 1 ∧ tw_up (tw_up _ x k) k x i = j
            by_cases d1 : j = k
            · subst d1
              refine Or.inr ⟨x, up_at _ _ _, by omega, by omega, by omega, ?_⟩
              rw [up_ne _ _ (by omega), up_at]
            · by_cases d2 : j = x
              · subst d2
                refine Or.inr ⟨k, ?_, by omega, by omega, by omega, up_at _ _ _⟩
                rw [up_ne _ _ d1, up_at]
              · rw [up_ne _ _ d1, up_ne _ _ d2]
                rcases h4 j with z | ⟨i, z1, z2, z3, z4, z5⟩
                · exact Or.inl z
                · have d3 : i ≠ x := fun z => by
                    rw [z, hx.2.2] at z5
                    omega
                  exact Or.inr ⟨i, z1, z2, by omega, by omega, by rw [up_ne _ _ (by omega), up_ne _ _ d3]; exact z5⟩
      · exact keep (by rw [bst_s, if_neg c1, if_neg c2])
theorem bst_len (pq : Nat → Int) : ∀ k, (bst pq k).1.length ≤ k := by
  intro k
  induction k with
  | zero => exact Nat.le_refl _
  | succ k ih =>
    rw [bst_s]
    split
    · show (bst pq k).1.length + 1 ≤ k + 1
      omega
    · split
      · cases hf : fdr pq (-pq k) (bst pq k).1 with
        | none => show (bst pq k).1.length ≤ k + 1; omega
        | some q =>
          obtain ⟨x, r⟩ := q
          obtain ⟨-, -, -, p, f4⟩ := fdr_some hf
          have : (bst pq k).1.length = p.length + (r.length + 1) := by rw [f4, List.length_append]; rfl
          show r.length ≤ k + 1
          omega
      · omega
/-- the first side; pr: pairs by place, s: places, t: types -/
def pqf (pr t : Nat → Int) (s : Nat → Nat) : Nat → Int := fun k => if t k = 11 then pr (s k) else 0
section CPAIR
variable {c : Nat} {s : Nat → Nat} {sq pr t T : Nat → Int}
theorem p_close (hs : sqok c s sq) {A P : Nat → Int} {K : Int → (Nat → Int) → Prop} {X : Prop} {v4 num : Int} {k : Nat} (hk : k < c) (hnum : ¬ num = 0) : ∀ (l : List Nat), l.length ≤ 64 → lr A l → (∀ x, x ∈ l → x < k ∧ 0 < pqf pr t s x) → (fdr (pqf pr t s) num l = none → X) → (∀ x r, fdr (pqf pr t s) num l = some (x, r) → K r.length (tw_up (tw_up P x k) k x)) → twl_br_close_20 K X k v4 num pr sq P A (l.length + 1) ((l.length : Int) - 1)
  | [], _, _, _, h1, _ => by
    rw [twl_br_close_20]
    exact ⟨fun _ => h1 rfl, fun h => absurd (by show ((0 : Nat) : Int) - 1 < 0; omega) h⟩
  | x :: r, hl, hA, hx, h1, h2 => by
    have hc := hs.1
    rw [twl_br_close_20]
    have hl1 : r.length + 1 ≤ 64 := hl
    have hxx := hx x List.mem_cons_self
    have hsx := hs.2.1 x (by omega)
    have e0 : (((x :: r).length : Nat) : Int) - 1 = (r.length : Int) := by show ((r.length + 1 : Nat) : Int) - 1 = _; omega
    have epq : pqf pr t s x = pr (s x) := by
      have := hxx.2
      unfold pqf at this ⊢
      split at this
      · rw [if_pos ‹_›]
      · omega
    rw [e0]
    refine ⟨fun h => absurd h (by omega), fun _ => ?_⟩
    rw [tn, hA.1, tn, hsx.1, tn, tn]
    have f0 : fdr (pqf pr t s) num (x :: r) = if pqf pr t s x = num then some (x, r) else fdr (pqf pr t s) num r := rfl
    refine ⟨⟨by omega, by omega⟩, ⟨by omega, by omega⟩, ⟨by omega, by omega⟩, fun d => ⟨⟨by omega, by omega⟩, ⟨by omega, by omega⟩, h2 x r (by rw [f0, epq, if_pos d])⟩, fun d => ⟨⟨by omega, by omega⟩, ?_⟩⟩
    have f1 : fdr (pqf pr t s) num (x :: r) = fdr (pqf pr t s) num r := by rw [f0, epq, if_neg d]
    rw [f1] at h1 h2
    have := p_close hs (A := A) (P := P) (K := K) (X := X) (v4 := v4) hk hnum r (by omega) hA.2 (fun y hy => hx y (List.mem_cons_of_mem _ hy)) h1 h2
    rw [show ((r.length : Int) + -1) = (r.length : Int) - 1 by omega]
    exact this
theorem p_pairs (hs : sqok c s sq) (hT : ag c T t) (hpr : ∀ j, j < 64 → -3 ≤ pr j ∧ pr j ≤ 3) {X : (Nat → Int) → (Nat → Int) → Prop} (hX : ∀ P A, ag c P (bst (pqf pr t s) c).2 → X P A) : ∀ (m k : Nat) (P A : Nat → Int), k + m = c → (∀ j, j < k → P j = (bst (pqf pr t s) k).2 j) → lr A (bst (pqf pr t s) k).1 → twl_br_pairUp_5 X pr sq T c (m + 1) ((bst (pqf pr t s) k).1.length : Int) k P A := by
  have hc := hs.1
  intro m
  induction m with
  | zero =>
    intro k P A hk hP hA
    rw [twl_br_pairUp_5]
    have : k = c := by omega
    subst this
    exact ⟨fun _ => hX P A hP, fun h => absurd (Int.le_refl _) h⟩
  | succ m ih =>
    intro k P A hk hP hA
    rw [twl_br_pairUp_5]
    have hk2 : k < c := by omega
    have hsk := hs.2.1 k hk2
    have hb := bok_all (pqf pr t s) k
    have hlen := bst_len (pqf pr t s) k
    have hp3 := hpr (s k) hsk.2
    refine ⟨fun h => absurd h (by omega), fun _ => ⟨⟨by omega, by omega⟩, ⟨by omega, by omega⟩, ?_⟩⟩
    rw [tn, hsk.1, tn, hT k hk2]
    refine ⟨⟨by omega, by omega⟩, fun J7 hJ7 => ?_⟩
    have hP1 : ∀ j, j < k + 1 → tw_up P k (-1) j = (bst (pqf pr t s) k).2 j := up_eq hP (hb.2.2.1 k (Nat.le_refl _)).symm
    have j7 : ∀ P' A', (∀ j, j < k + 1 → P' j = (bst (pqf pr t s) (k + 1)).2 j) → lr A' (bst (pqf pr t s) (k + 1)).1 → J7 ((bst (pqf pr t s) (k + 1)).1.length : Int) P' A' := fun P' A' hP' hA' => hJ7 _ _ _ (by
      refine ⟨⟨by omega, by omega⟩, ?_⟩
      rw [sc]
      exact ih (k + 1) P' A' (by omega) hP' hA')
    have skip : pqf pr t s k = 0 → J7 ((bst (pqf pr t s) k).1.length : Int) (tw_up P k (-1)) A := fun z => by
      have e : bst (pqf pr t s) (k + 1) = bst (pqf pr t s) k := by rw [bst_s, if_neg (by omega), if_neg (by omega)]
      have := j7 (tw_up P k (-1)) A (by rw [e]; exact hP1) (by rw [e]; exact hA)
      rw [e] at this
      exact this
    have epq : t k = 11 → pqf pr t s k = pr (s k) := fun z => by unfold pqf; rw [if_pos z]
    refine ⟨fun d => skip ?_, fun d => ⟨⟨by omega, by omega⟩, fun d2 => ⟨fun d3 => ?_, fun d3 => ?_⟩, fun d2 => skip ?_⟩⟩
    · unfold pqf
      split
      · exact d
      · rfl
    · have e : bst (pqf pr t s) (k + 1) = (k :: (bst (pqf pr t s) k).1, (bst (pqf pr t s) k).2) := by rw [bst_s, if_pos (by rw [epq d2]; omega)]
      refine ⟨⟨by omega, by omega⟩, ⟨by omega, by omega⟩, ?_⟩
      have := j7 (tw_up P k (-1)) (tw_up A (bst (pqf pr t s) k).1.length k) (by rw [e]; exact hP1) (by rw [e]; exact lr_push hA)
      rw [e] at this
      rw [tn]
      exact this
    · have hneg : pqf pr t s k < 0 := by rw [epq d2]; omega
      have e0 : bst (pqf pr t s) (k + 1) = match fdr (pqf pr t s) (-pqf pr t s k) (bst (pqf pr t s) k).1 with
        | some (x, r) => (r, tw_up (tw_up (bst (pqf pr t s) k).2 x k) k x)
        | none => bst (pqf pr t s) k := by rw [bst_s, if_neg (by omega), if_pos hneg]
      refine ⟨⟨by omega, by omega⟩, ?_⟩
      rw [tn, hsk.1, tn, ← epq d2]
      refine ⟨⟨by omega, by omega⟩, ⟨by rw [epq d2]; omega, by rw [epq d2]; omega⟩, ⟨by omega, by omega⟩, (bst (pqf pr t s) k).1.length + 1, ?_⟩
      refine p_close hs hk2 (by rw [epq d2]; omega) _ (by omega) hA (fun x hx => ⟨(hb.1 x hx).1, (hb.1 x hx).2.1⟩) (fun hf => ?_) (fun x r hf => ?_)
      · rw [hf] at e0
        have := j7 (tw_up P k (-1)) A (by rw [e0]; exact hP1) (by rw [e0]; exact hA)
        rw [e0] at this
        exact this
      · rw [hf] at e0
        obtain ⟨f1, f2, f3, p, f4⟩ := fdr_some hf
        have hxk := (hb.1 x f1).1
        have := j7 (tw_up (tw_up (tw_up P k (-1)) x k) k x) A (by
          rw [e0]
          intro j hj
          by_cases q1 : j = k
          · rw [q1]; show _ = tw_up (tw_up _ x k) k x k; rw [up_at, up_at]
          · show _ = tw_up (tw_up _ x k) k x j
            rw [up_ne _ _ q1, up_ne _ _ q1]
            by_cases q2 : j = x
            · rw [q2, up_at, up_at]
            · rw [up_ne _ _ q2, up_ne _ _ q2]; exact hP1 j hj) (by
          rw [e0]
          rw [f4] at hA
          exact (lr_drop hA).2)
        rw [e0] at this
        exact this
    · unfold pqf
      rw [if_neg d2]
theorem q_pairs (hs : sqok c s sq) (hT : ag c T t) (hpr : ∀ j, j < 64 → -3 ≤ pr j ∧ pr j ≤ 3) {P A : Nat → Int} {K : (Nat → Int) → (Nat → Int) → Prop} (hK : ∀ P A, ag c P (bst (pqf pr t s) c).2 → K P A) : tww_br_pairUp pr sq T c P A K :=
  ⟨c + 1, p_pairs hs hT hpr hK c 0 P A (by omega) (fun j h => absurd h (by omega)) trivial⟩
end CPAIR
/-- the reference's partners, by place -/
def mpn (c : Nat) (s : Nat → Nat) (p0 P pn : Nat → Int) : Prop := (∀ j, j < c → P (s j) = if pn j = -1 then -1 else (s (pn j).toNat : Int)) ∧ ∀ p, (∀ j, j < c → s j ≠ p) → P p = p0 p
section MPAIR
variable {c : Nat} {s : Nat → Nat} {sq pr t T p0 ty0 : Nat → Int} {mk : Nat → Int} {b em : Int}
theorem pm_close (hs : sqok c s sq) {A P : Nat → Int} {X : Int → Prop} {v1 v2 v3 : Int} {k : Nat} (hk : k ≤ c) (h3 : tw_rg (-v3)) : ∀ (l : List Nat), l.length ≤ 64 → lr A l → (∀ x, x ∈ l → x < k ∧ 0 < pqf pr t s x) → (fdr (pqf pr t s) (-v3) l = none → X (-1)) → (∀ x r, fdr (pqf pr t s) (-v3) l = some (x, r) → X r.length) → twl_mo_brackets_65 X v1 v2 v3 pr T P c sq mk b em A (l.length + 1) ((l.length : Int) - 1)
  | [], _, _, _, h1, _ => by
    rw [twl_mo_brackets_65]
    exact ⟨fun _ => h1 rfl, fun h => absurd (by show ((0 : Nat) : Int) - 1 < 0; omega) h⟩
  | x :: r, hl, hA, hx, h1, h2 => by
    have hc := hs.1
    rw [twl_mo_brackets_65]
    have hl1 : r.length + 1 ≤ 64 := hl
    have hxx := hx x List.mem_cons_self
    have hsx := hs.2.1 x (by omega)
    have e0 : (((x :: r).length : Nat) : Int) - 1 = (r.length : Int) := by show ((r.length + 1 : Nat) : Int) - 1 = _; omega
    have epq : pqf pr t s x = pr (s x) := by
      have := hxx.2
      unfold pqf at this ⊢
      split at this
      · rw [if_pos ‹_›]
      · omega
    rw [e0]
    refine ⟨fun h => absurd h (by omega), fun _ => ?_⟩
    rw [tn, hA.1, tn, hsx.1, tn]
    have f0 : fdr (pqf pr t s) (-v3) (x :: r) = if pqf pr t s x = -v3 then some (x, r) else fdr (pqf pr t s) (-v3) r := rfl
    refine ⟨⟨by omega, by omega⟩, ⟨by omega, by omega⟩, ⟨by omega, by omega⟩, h3, fun d => h2 x r (by rw [f0, epq, if_pos d]), fun d => ⟨⟨by omega, by omega⟩, ?_⟩⟩
    have f1 : fdr (pqf pr t s) (-v3) (x :: r) = fdr (pqf pr t s) (-v3) r := by rw [f0, epq, if_neg d]
    rw [f1] at h1 h2
    have := pm_close hs (A := A) (P := P) (X := X) (v1 := v1) (v2 := v2) hk h3 r (by omega) hA.2 (fun y hy => hx y (List.mem_cons_of_mem _ hy)) h1 h2
    rw [show ((r.length : Int) + -1) = (r.length : Int) - 1 by omega]
    exact this
theorem lr_at {A : Nat → Int} {x : Nat} {r : List Nat} : ∀ {p : List Nat}, lr A (p ++ x :: r) → A r.length = (x : Int)
  | [], h => h.1
  | _ :: p, h => lr_at (p := p) h.2
theorem pm_pairs (hs : sqok c s sq) (hT : mv c s ty0 T t) (hpr : ∀ j, j < 64 → -3 ≤ pr j ∧ pr j ≤ 3) {X : (Nat → Int) → (Nat → Int) → Prop} (hX : ∀ P A, mpn c s p0 P (bst (pqf pr t s) c).2 → X P A) : ∀ (m k : Nat) (P A : Nat → Int), k + m = c → mpn c s p0 P (bst (pqf pr t s) k).2 → lr A (bst (pqf pr t s) k).1 → twl_mo_brackets_4 X pr T c sq mk b em (m + 1) ((bst (pqf pr t s) k).1.length : Int) k P A := by
  have hc := hs.1
  intro m
  induction m with
  | zero =>
    intro k P A hk hP hA
    rw [twl_mo_brackets_4]
    have : k = c := by omega
    subst this
    exact ⟨fun _ => hX P A hP, fun h => absurd (Int.le_refl _) h⟩
  | succ m ih =>
    intro k P A hk hP hA
    rw [twl_mo_brackets_4]
    have hk2 : k < c := by omega
    have hsk := hs.2.1 k hk2
    have hb := bok_all (pqf pr t s) k
    have hlen := bst_len (pqf pr t s) k
    have hp3 := hpr (s k) hsk.2
    refine ⟨fun h => absurd h (by omega), fun _ => ⟨at_ok hs hk2, ?_⟩⟩
    rw [at_eq hs hk2, hT.1 k hk2, tn, hsk.1, tn]
    refine ⟨fun _ => ⟨⟨by omega, by omega⟩, ⟨by omega, by omega⟩⟩, fun x6 h6 => ?_⟩
    have e6 : x6 = pqf pr t s k := h6
    have b6 : -3 ≤ x6 ∧ x6 ≤ 3 := by rw [h6]; split <;> omega
    refine ⟨fun _ => ⟨⟨by omega, by omega⟩, ⟨by omega, by omega⟩⟩, fun x9 h9 A' hA' => ⟨fun _ => ?_, fun x12 h12 => ?_⟩⟩
    · rw [h9]; split <;> exact ⟨by omega, by omega⟩
    · have go : ∀ P' A', mpn c s p0 P' (bst (pqf pr t s) (k + 1)).2 → lr A' (bst (pqf pr t s) (k + 1)).1 → ∀ z : Int, z = ((bst (pqf pr t s) (k + 1)).1.length : Int) → tw_rg ((k : Int) + 1) ∧ twl_mo_brackets_4 X pr T c sq mk b em (m + 1) z ((k : Int) + 1) P' A' := fun P' A' hP' hA' z hz => by
        refine ⟨⟨by omega, by omega⟩, ?_⟩
        rw [sc, hz]
        exact ih (k + 1) P' A' (by omega) hP' hA'
      by_cases c1 : 0 < x6
      · have e : bst (pqf pr t s) (k + 1) = (k :: (bst (pqf pr t s) k).1, (bst (pqf pr t s) k).2) := by rw [bst_s, if_pos (by rw [← e6]; exact c1)]
        rw [if_neg (by omega)] at h9 hA'
        rw [if_pos (by omega)] at h12
        refine ⟨1, ?_⟩
        rw [twl_mo_brackets_65, h12]
        refine ⟨fun _ => ⟨fun h => absurd (by decide) h, fun x29 h29 P' hP' => ?_⟩, fun h => absurd (by decide) h⟩
        rw [if_pos (by decide)] at h29 hP'
        rw [hP']
        refine go P A' (by rw [e]; exact hP) (by rw [e, hA', tn]; exact lr_push hA) x29 (by rw [h29, h9, e]; rfl)
      · by_cases c2 : x6 < 0
        · rw [if_pos (by omega)] at h9 hA'
          rw [if_neg (by omega)] at h12
          have e0 : bst (pqf pr t s) (k + 1) = match fdr (pqf pr t s) (-pqf pr t s k) (bst (pqf pr t s) k).1 with
            | some (x, r) => (r, tw_up (tw_up (bst (pqf pr t s) k).2 x k) k x)
            | none => bst (pqf pr t s) k := by rw [bst_s, if_neg (by rw [← e6]; exact c1), if_pos (by rw [← e6]; exact c2)]
          rw [← e6] at e0
          refine ⟨(bst (pqf pr t s) k).1.length + 1, ?_⟩
          rw [h12, h9, hA']
          refine pm_close hs (k := k) (by omega) ⟨by omega, by omega⟩ _ (by omega) hA (fun x hx => ⟨(hb.1 x hx).1, (hb.1 x hx).2.1⟩) (fun hf => ?_) (fun x r hf => ?_)
          · rw [hf] at e0
            refine ⟨fun h => absurd (by decide) h, fun x29 h29 P' hP' => ?_⟩
            rw [if_pos (by decide)] at h29 hP'
            rw [hP']
            exact go P A (by rw [e0]; exact hP) (by rw [e0]; exact hA) x29 (by rw [h29, e0])
          · rw [hf] at e0
            obtain ⟨f1, f2, f3, p, f4⟩ := fdr_some hf
            have hxk := (hb.1 x f1).1
            have hsx := hs.2.1 x (by omega)
            have hAr : A r.length = (x : Int) := by rw [f4] at hA; exact lr_at hA
            have hrl : r.length < 64 := by
              have : (bst (pqf pr t s) k).1.length = p.length + (r.length + 1) := by rw [f4, List.length_append]; rfl
              omega
            rw [tn, hAr, tn, hsx.1, tn]
            refine ⟨fun _ => ⟨⟨by omega, by omega⟩, ⟨by omega, by omega⟩, ⟨by omega, by omega⟩, ⟨by omega, by omega⟩, ⟨by omega, by omega⟩, ⟨by omega, by omega⟩, ⟨by omega, by omega⟩, ⟨by omega, by omega⟩⟩, fun x29 h29 P' hP' => ?_⟩
            rw [if_neg (by omega)] at h29 hP'
            rw [hP']
            refine go _ A ?_ (by rw [e0]; rw [f4] at hA; exact (lr_drop hA).2) x29 (by rw [h29, e0])
            rw [e0]
            refine ⟨fun j hj => ?_, fun q hq => ?_⟩
            · show tw_up (tw_up P (s k) (s x)) (s x) (s k) (s j) = if tw_up (tw_up (bst (pqf pr t s) k).2 x k) k x j = -1 then -1 else (s (tw_up (tw_up (bst (pqf pr t s) k).2 x k) k x j).toNat : Int)
              by_cases q1 : j = k
              · subst q1
                rw [up_ne _ _ (fun z => by have := hs.2.2 j x hj (by omega) z; omega), up_at, up_at, if_neg (by omega), tn]
              · rw [up_ne (tw_up (bst (pqf pr t s) k).2 x k) _ q1]
                by_cases q2 : j = x
                · subst q2
                  rw [up_at, up_at, if_neg (by omega), tn]
                · rw [up_ne _ _ (fun z => q2 (hs.2.2 j x hj (by omega) z)), up_ne _ _ (fun z => q1 (hs.2.2 j k hj hk2 z)), up_ne _ _ q2]
                  exact hP.1 j hj
            · rw [up_ne _ _ (fun z => hq x (by omega) z.symm), up_ne _ _ (fun z => hq k hk2 z.symm)]
              exact hP.2 q hq
        · have e : bst (pqf pr t s) (k + 1) = bst (pqf pr t s) k := by rw [bst_s, if_neg (by rw [← e6]; exact c1), if_neg (by rw [← e6]; exact c2)]
          rw [if_pos (by omega)] at h9 hA'
          rw [if_pos (by omega)] at h12
          refine ⟨1, ?_⟩
          rw [twl_mo_brackets_65, h12]
          refine ⟨fun _ => ⟨fun h => absurd (by decide) h, fun x29 h29 P' hP' => ?_⟩, fun h => absurd (by decide) h⟩
          rw [if_pos (by decide)] at h29 hP'
          rw [hP', hA']
          exact go P A (by rw [e]; exact hP) (by rw [e]; exact hA) x29 (by rw [h29, h9, e])
end MPAIR
