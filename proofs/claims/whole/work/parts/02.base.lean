/-! ints of the machine as Int within their range; references as numbers of cells; a memory as a list of cells; a judgement over them (tw_rn) and its rows -/
def tw_I (z : Int) : Int32 := Int32.ofInt z
abbrev tw_rg (z : Int) : Prop := -2147483648 ≤ z ∧ z ≤ 2147483647
theorem tw_I_toInt {z : Int} (h : tw_rg z) : (tw_I z).toInt = z := Int32.toInt_ofInt_of_le (by have := h.1; omega) (by have := h.2; omega)
theorem tw_rg_of (x : Int32) : tw_rg x.toInt := ⟨by have := x.le_toInt; omega, by have := x.toInt_lt; omega⟩
theorem tw_I_of (x : Int32) : tw_I x.toInt = x := Int32.ofInt_toInt x
theorem tw_I_lt {a b : Int} (ha : tw_rg a) (hb : tw_rg b) : tw_I a < tw_I b ↔ a < b := by rw [Int32.lt_iff_toInt_lt, tw_I_toInt ha, tw_I_toInt hb]
theorem tw_I_le {a b : Int} (ha : tw_rg a) (hb : tw_rg b) : tw_I a ≤ tw_I b ↔ a ≤ b := by rw [Int32.le_iff_toInt_le, tw_I_toInt ha, tw_I_toInt hb]
theorem tw_I_eq {a b : Int} (ha : tw_rg a) (hb : tw_rg b) : tw_I a = tw_I b ↔ a = b := by rw [← Int32.toInt_inj, tw_I_toInt ha, tw_I_toInt hb]
theorem tw_rg0 : tw_rg 0 := by unfold tw_rg; omega
theorem tw_I_0 : tw_I 0 = 0 := rfl
theorem tw_I_lt0 {a : Int} (ha : tw_rg a) : tw_I a < 0 ↔ a < 0 := tw_I_lt ha tw_rg0
theorem tw_I_le0 {a : Int} (ha : tw_rg a) : tw_I a ≤ 0 ↔ a ≤ 0 := tw_I_le ha tw_rg0
theorem tw_I_gt0 {a : Int} (ha : tw_rg a) : 0 < tw_I a ↔ 0 < a := tw_I_lt tw_rg0 ha
theorem tw_I_ge0 {a : Int} (ha : tw_rg a) : 0 ≤ tw_I a ↔ 0 ≤ a := tw_I_le tw_rg0 ha
theorem tw_I_eq0 {a : Int} (ha : tw_rg a) : tw_I a = 0 ↔ a = 0 := tw_I_eq ha tw_rg0
theorem tw_I_add (a b : Int) : tw_I a + tw_I b = tw_I (a + b) := (Int32.ofInt_add a b).symm
theorem tw_I_sub (a b : Int) : tw_I a - tw_I b = tw_I (a - b) := (Int32.ofInt_sub a b).symm
theorem tw_I_neg (a : Int) : -tw_I a = tw_I (-a) := (Int32.ofInt_neg a).symm
theorem tw_I_cl {i : Int} (h : tw_rg i) : (tw_I i).toNatClampNeg = i.toNat := Int32.toNatClampNeg_ofInt_of_le (by have := h.1; omega) (by have := h.2; omega)
theorem tw_I_in {i : Int} {n : Nat} (h : tw_rg i) (h0 : 0 ≤ i) (h1 : i < (n : Int)) : vp_in (tw_I i) n := vp_in_iff.mpr ⟨by rw [tw_I_toInt h]; exact h0, by rw [tw_I_toInt h]; exact h1⟩
theorem tw_I_nat {a : Int} (h0 : 0 ≤ a) : tw_I a = nI a.toNat := by
  obtain ⟨n, rfl⟩ := Int.eq_ofNat_of_zero_le h0
  rfl
theorem tw_rg_div {a b : Int} (ha : tw_rg a) (h0 : 0 ≤ a) (h1 : 0 < b) : tw_rg (a / b) := by
  have h2 := Int.ediv_nonneg h0 (Int.le_of_lt h1)
  have h3 := Int.ediv_le_self b h0
  have := ha.2
  unfold tw_rg
  omega
theorem tw_rg_mod {a b : Int} (hb : tw_rg b) (h1 : 0 < b) : tw_rg (a % b) := by
  have h2 := Int.emod_nonneg a (by omega : b ≠ 0)
  have h3 := Int.emod_lt_of_pos a h1
  have := hb.2
  unfold tw_rg
  omega
theorem tw_I_ne0 {b : Int} (hb : tw_rg b) (h1 : 0 < b) : ¬ tw_I b = 0 := fun h => by
  have := (tw_I_eq0 hb).mp h
  omega
theorem tw_I_div {a b : Int} (ha : tw_rg a) (hb : tw_rg b) (h0 : 0 ≤ a) (h1 : 0 < b) : tw_I a / tw_I b = tw_I (a / b) := by
  have hm : tw_I b ≠ -1 := fun h => by
    have h2 := congrArg Int32.toInt h
    rw [tw_I_toInt hb] at h2
    have h3 : (-1 : Int32).toInt = -1 := by decide
    omega
  rw [← Int32.toInt_inj, Int32.toInt_div_of_ne_right _ _ hm, tw_I_toInt ha, tw_I_toInt hb, tw_I_toInt (tw_rg_div ha h0 h1), Int.tdiv_eq_ediv_of_nonneg h0]
theorem tw_I_rem {a b : Int} (ha : tw_rg a) (hb : tw_rg b) (h0 : 0 ≤ a) (h1 : 0 < b) : tw_I a - tw_I a / tw_I b * tw_I b = tw_I (a % b) := by
  rw [← Int32.toInt_inj, rem_toInt, tw_I_toInt ha, tw_I_toInt hb, tw_I_toInt (tw_rg_mod hb h1), Int.tmod_eq_emod_of_nonneg h0]
theorem tw_I_and1 {a : Int} (ha : tw_rg a) (h0 : 0 ≤ a) : tw_I a &&& tw_I 1 = tw_I (a % 2) := by
  have h2 := Int.emod_nonneg a (by omega : (2 : Int) ≠ 0)
  have h3 := ha.2
  rw [tw_I_nat h0, tw_I_nat h2, pk_andN (n := a.toNat) (by omega) 1 rfl]
  congr 1
  omega
/-- values -/
abbrev tw_v : Type := Int ⊕ Nat
def tw_cv (ad : Nat → Nat) (v : tw_v) : Value := match v with
  | .inl z => .int (tw_I z)
  | .inr k => .ref (ad k)
def tw_okv (v : tw_v) : Prop := match v with
  | .inl z => tw_rg z
  | .inr _ => True
theorem tw_cat (ad : Nat → Nat) (v : tw_v) : (tw_cv ad v).category = 1 := by cases v <;> rfl
/-- cells: an array (of booleans?, its length, its contents), or an object (the number of its kind, its fields) -/
abbrev tw_c : Type := (Bool × Nat × (Nat → Int)) ⊕ (Nat × List tw_v)
def tw_cc (ad : Nat → Nat) (cI cZ : ClassId) (c : tw_c) : va_E := match c with
  | .inl (z, n, f) => .inl (if z then cZ else cI, n, .inl fun j => tw_I (f j))
  | .inr (ci, fs) => .inr (ci, fs.map (tw_cv ad))
def tw_okc (c : tw_c) : Prop := match c with
  | .inl (_, _, f) => ∀ j, tw_rg (f j)
  | .inr (_, fs) => ∀ v ∈ fs, tw_okv v
def tw_wl (ad : Nat → Nat) (cI cZ : ClassId) (mem : List tw_c) : va_W := mem.zipIdx.map fun q => (ad q.2, tw_cc ad cI cZ q.1)
theorem tw_wl_at {ad : Nat → Nat} {cI cZ : ClassId} {mem : List tw_c} {q : Nat} {c : tw_c} (h : mem[q]? = some c) : (tw_wl ad cI cZ mem)[q]? = some (ad q, tw_cc ad cI cZ c) := by
  unfold tw_wl
  rw [List.getElem?_map, List.getElem?_zipIdx, h]
  simp
theorem tw_wl_set {ad : Nat → Nat} {cI cZ : ClassId} {mem : List tw_c} {q : Nat} {c : tw_c} : (tw_wl ad cI cZ mem).set q (ad q, tw_cc ad cI cZ c) = tw_wl ad cI cZ (mem.set q c) := by
  apply List.ext_getElem?
  intro i
  unfold tw_wl
  rw [List.getElem?_set, List.getElem?_map, List.getElem?_map, List.getElem?_zipIdx, List.getElem?_zipIdx, List.getElem?_set]
  by_cases h : q = i
  · subst h
    by_cases h2 : q < mem.length
    · simp [h2]
    · simp [h2]
  · simp [h]
theorem tw_wl_mem {ad : Nat → Nat} {cI cZ : ClassId} {mem : List tw_c} {k : Nat} {q : Nat × va_E} (h : (tw_wl ad cI cZ mem)[k]? = some q) : k < mem.length ∧ q.1 = ad k := by
  unfold tw_wl at h
  rw [List.getElem?_map, List.getElem?_zipIdx] at h
  by_cases h2 : k < mem.length
  · rw [List.getElem?_eq_getElem h2] at h
    simp at h
    exact ⟨h2, by rw [← h]⟩
  · rw [List.getElem?_eq_none (by omega)] at h
    simp at h
theorem tw_set_ok {mem : List tw_c} {q : Nat} {c : tw_c} (h : ∀ c ∈ mem, tw_okc c) (hc : tw_okc c) : ∀ c' ∈ mem.set q c, tw_okc c' := fun c' h' => by
  rcases List.mem_or_eq_of_mem_set h' with h1 | h1
  · exact h c' h1
  · rw [h1]; exact hc
theorem tw_setv_ok {fs : List tw_v} {j : Nat} {v : tw_v} (h : ∀ v ∈ fs, tw_okv v) (hv : tw_okv v) : ∀ w ∈ fs.set j v, tw_okv w := fun w h' => by
  rcases List.mem_or_eq_of_mem_set h' with h1 | h1
  · exact h w h1
  · rw [h1]; exact hv
def tw_up (f : Nat → Int) (k : Nat) (x : Int) : Nat → Int := fun j => if j = k then x else f j
theorem tw_up_ok {f : Nat → Int} {k : Nat} {x : Int} (h : ∀ j, tw_rg (f j)) (hx : tw_rg x) : ∀ j, tw_rg (tw_up f k x j) := fun j => by
  unfold tw_up
  split
  · exact hx
  · exact h j
theorem tw_up_I (f : Nat → Int) (k : Nat) (x : Int) : upd (fun j => tw_I (f j)) k (tw_I x) = fun j => tw_I (tw_up f k x j) := by
  funext j
  unfold upd tw_up
  split <;> rfl
/-- locals: none where nothing is known -/
def tw_lr (ad : Nat → Nat) (ls : Array Slot) (nL : Nat) (L : List (Option tw_v)) : Prop := ls.size = nL ∧ lv_wf ls ∧ ∀ (i : Nat) (v : tw_v), L[i]? = some (some v) → ls[i]? = some (.val (tw_cv ad v))
def tw_prs (ad : Nat → Nat) (L : List (Option tw_v)) : List (Nat × Value) := L.zipIdx.filterMap fun q => q.1.map fun v => (q.2, tw_cv ad v)
theorem tw_prs_mem {ad : Nat → Nat} {L : List (Option tw_v)} {q : Nat × Value} : q ∈ tw_prs ad L ↔ ∃ v, L[q.1]? = some (some v) ∧ q.2 = tw_cv ad v := by
  unfold tw_prs
  rw [List.mem_filterMap]
  constructor
  · rintro ⟨⟨o, i⟩, h1, h2⟩
    have h3 := List.mem_zipIdx_iff_getElem?.mp h1
    cases o with
    | none => simp at h2
    | some v =>
      simp at h2
      subst h2
      exact ⟨v, h3, rfl⟩
  · rintro ⟨v, h1, h2⟩
    refine ⟨(some v, q.1), List.mem_zipIdx_iff_getElem?.mpr h1, ?_⟩
    obtain ⟨i, x⟩ := q
    simp at h2 ⊢
    exact h2.symm
theorem tw_lr_has {ad : Nat → Nat} {ls : Array Slot} {nL : Nat} {L : List (Option tw_v)} (h : tw_lr ad ls nL L) : lv_has ls nL (tw_prs ad L) := by
  refine ⟨h.1, h.2.1, fun q hq => ?_⟩
  obtain ⟨v, h1, h2⟩ := tw_prs_mem.mp hq
  rw [h2]
  exact h.2.2 q.1 v h1
theorem tw_lr_set {ad : Nat → Nat} {ls' : Array Slot} {nL i : Nat} {L : List (Option tw_v)} {v : tw_v} (h : lv_has ls' nL ((i, tw_cv ad v) :: (tw_prs ad L).filter (fun q => !(q.1 == i) && !(q.1 + 1 == i && q.2.category == 2)))) : tw_lr ad ls' nL (L.set i (some v)) := by
  refine ⟨h.1, h.2.1, fun j w hj => ?_⟩
  rw [List.getElem?_set] at hj
  by_cases hij : i = j
  · subst hij
    rw [if_pos rfl] at hj
    split at hj
    · cases hj
      exact h.2.2 (i, tw_cv ad v) List.mem_cons_self
    · cases hj
  · rw [if_neg hij] at hj
    refine h.2.2 (j, tw_cv ad w) (List.mem_cons_of_mem _ (List.mem_filter.mpr ⟨tw_prs_mem.mpr ⟨w, hj, rfl⟩, ?_⟩))
    have h1 : (tw_cv ad w).category = 1 := tw_cat ad w
    have h2 : ¬ j = i := fun h => hij h.symm
    simp [h1, h2]
/-- fewer locals are known -/
def tw_le : List (Option tw_v) → List (Option tw_v) → Prop
  | [], _ => True
  | none :: a, [] => tw_le a []
  | none :: a, _ :: b => tw_le a b
  | some _ :: _, [] => False
  | some v :: a, x :: b => x = some v ∧ tw_le a b
theorem tw_le_at : ∀ (a b : List (Option tw_v)), tw_le a b → ∀ (i : Nat) (v : tw_v), a[i]? = some (some v) → b[i]? = some (some v)
  | [], _, _, i, v, h => by simp at h
  | none :: a, [], hl, i, v, h => by
    cases i with
    | zero => simp at h
    | succ i =>
      have := tw_le_at a [] hl i v (by simpa using h)
      simp at this
  | none :: a, _ :: b, hl, i, v, h => by
    cases i with
    | zero => simp at h
    | succ i => simpa using tw_le_at a b hl i v (by simpa using h)
  | some _ :: _, [], hl, _, _, _ => hl.elim
  | some w :: a, x :: b, hl, i, v, h => by
    cases i with
    | zero => rw [hl.1]; simpa using h
    | succ i => simpa using tw_le_at a b hl.2 i v (by simpa using h)
/-- the contexts: of a world, of a method's run -/
abbrev tw_N : Type := List (String × Nat × MethodName × String)
abbrev tw_Y : Type := Launch × va_G × List vw_C × (Nat → Nat) × Nat × ClassId × ClassId × tw_N
/-- links of nest mates -/
def tw_nw (Ns : tw_N) (U : State) : Prop := ∀ q ∈ Ns, va_Nw (.methodLinkNest q.1 q.2.1 q.2.2.1 q.2.2.2) U
theorem tw_nw.warm {Ns : tw_N} {s U : State} (hW : s.WarmedH U.vm) (h : tw_nw Ns s) : tw_nw Ns U := fun q hq => va_Nw.warmM hW (h q hq)
theorem tw_nw.same {Ns : tw_N} {s U : State} (hv : s.vm = U.vm) (h : tw_nw Ns s) : tw_nw Ns U := fun q hq => va_Nw.same rfl hv (h q hq)
abbrev tw_Z : Type := Program × Env × Room × State × MethodId × Array Value × List Frame × Method × Code
abbrev tw_P : Type := Option Int → List tw_c → Prop
def tw_A (ad : Nat → Nat) (N sz : Nat) (q : Nat) : Prop := (∃ k, k < N ∧ q = ad k) ∨ sz ≤ q
abbrev tw_ty (cI cZ : ClassId) : List (ClassId × FieldType) := [(cI, .int), (cZ, .boolean)]
def tw_rm (d : Nat) : Room := { frames := d, cells := 0, slots := 0, locals := 40 * d }
def tw_Qc (Y : tw_Y) (sz : Nat) (Post : tw_P) : Array Value → State → Outcome → State → Prop := match Y with
  | (_, D, cl, ad, N, cI, cZ, _) => fun _ st oc t => (∃ (r : Option Int) (mem : List tw_c), oc = .returned (r.map fun z => .int (tw_I z)) ∧ Post r mem ∧ (∀ z, r = some z → tw_rg z) ∧ (∀ c ∈ mem, tw_okc c) ∧ mem.length = N ∧ va_P D cl (tw_wl ad cI cZ mem) t.heap ∧ va_K D cl (tw_ty cI cZ) t ∧ va_D (tw_A ad N sz) (tw_wl ad cI cZ mem)) ∧ va_F (tw_A ad N sz) st t
def tw_rn (Y : tw_Y) (Z : tw_Z) (Post : tw_P) (pc : Nat) (L : List (Option tw_v)) (S : List tw_v) (mem : List tw_c) : Prop := match Y, Z with
  | (l, D, cl, ad, N, cI, cZ, Ns), (p, e, R, s, m, args, below, meth, c) =>
    (∀ (i : Nat) (v : tw_v), L[i]? = some (some v) → tw_okv v) → (∀ v ∈ S, tw_okv v) → (∀ c ∈ mem, tw_okc c) → mem.length = N →
    ∀ (H : Heap) (locs : List Loc) (ls : Array Slot), va_P D cl (tw_wl ad cI cZ mem) H → va_D (tw_A ad N s.heap.size) (tw_wl ad cI cZ mem) → va_S (tw_A ad N s.heap.size) s.heap H locs → tw_lr ad ls c.maxLocals L →
    W p l e R s m args below meth c H locs 0 0 (MQ below (tw_Qc (l, D, cl, ad, N, cI, cZ, Ns) s.heap.size Post) args s 0 0 (tw_A ad N s.heap.size)) (F0 m pc ls (S.map (tw_cv ad)))
def tw_cx (Y : tw_Y) (Z : tw_Z) (cc : ByteArray) (own : String) (Ts : List Cond) (ret : Option FieldType) (d nL : Nat) : Prop := match Y, Z with
  | (_, D, cl, _, _, cI, cZ, Ns), (p, _, R, s, m, args, _, meth, c) => p.tables.exec = Jvm.exec ∧ c.code = cc ∧ s.vm.findClass own = some m.cls ∧ (∀ w ∈ Ts, w.before args s = true) ∧ va_K D cl (tw_ty cI cZ) s ∧ meth.sig.returnType = ret ∧ meth.locks = false ∧ R = tw_rm d ∧ c.maxLocals = nL ∧ tw_nw Ns s
/-- a method's contract -/
def tw_ct (Y : tw_Y) (y : MethodName) (ws : List Cond) (d : Nat) (As : List tw_v) (mem : List tw_c) (Post : tw_P) : Prop := match Y with
  | (l, D, cl, ad, N, cI, cZ, Ns) => (∀ v ∈ As, tw_okv v) → (∀ c ∈ mem, tw_okc c) → mem.length = N → ∀ sz : Nat,
    Met l y ws (tw_rm d) (va_Pc (As.map (tw_cv ad)) (fun U => U.heap.size = sz ∧ va_P D cl (tw_wl ad cI cZ mem) U.heap ∧ va_K D cl (tw_ty cI cZ) U ∧ va_D (fun _ => True) (tw_wl ad cI cZ mem) ∧ tw_nw Ns U)) (tw_Qc (l, D, cl, ad, N, cI, cZ, Ns) sz Post) 0 0 (tw_A ad N sz)
theorem tw_sl (ad : Nat → Nat) (As : List tw_v) : lg_sl (As.map (tw_cv ad)) = As.map fun v => Slot.val (tw_cv ad v) := by
  unfold lg_sl
  induction As with
  | nil => rfl
  | cons a l ih => simp [tw_cat] at ih ⊢; exact ih
theorem tw_args (ad : Nat → Nat) : ∀ (As : List tw_v) (k i : Nat) (v : tw_v), As[i]? = some v → (k + i, tw_cv ad v) ∈ lv_args k (As.map (tw_cv ad))
  | [], _, i, v, h => by simp at h
  | a :: l, k, i, v, h => by
    have hc : ¬ (tw_cv ad a).category = 2 := by rw [tw_cat]; decide
    show _ ∈ (k, tw_cv ad a) :: lv_args (if (tw_cv ad a).category = 2 then k + 2 else k + 1) (l.map (tw_cv ad))
    rw [if_neg hc]
    cases i with
    | zero =>
      simp at h
      subst h
      exact List.mem_cons_self
    | succ i =>
      have := tw_args ad l (k + 1) i v (by simpa using h)
      rw [show k + (i + 1) = k + 1 + i by omega]
      exact List.mem_cons_of_mem _ this
/-- from the walk of the body to the contract -/
theorem tw_of {Y : tw_Y} {y : MethodName} {cc : ByteArray} {nL d : Nat} {ret : Option FieldType} {Wg : List Cond} {As : List tw_v} {mem : List tw_c} {Post : tw_P} {own : String} {L0 : List (Option tw_v)}
    (hy : plainName y.cls = true) (hown : y.cls = own) (hL0 : As.map some ++ List.replicate (nL - As.length) none = L0) (hn : As.length ≤ nL)
    (body : ∀ Z : tw_Z, tw_cx Y Z cc own Wg ret d nL → tw_rn Y Z Post 0 L0 [] mem) : tw_ct Y y (Cond.code y cc nL ret :: Wg) d As mem Post := by
  obtain ⟨l, D, cl, ad, N, cI, cZ, Ns⟩ := Y
  intro hAs hM hN sz
  refine Met.ofW (cc := cc) (maxL := nL) (ret := ret) hy rfl ?_
  intro p e s m args below meth c s₁ B hml hv
  obtain ⟨rfl, hsz, hP, hK, hD0, hNs⟩ := hv
  have hx := B.exec
  have hb := B.bytes
  have hr := B.returns
  have hts := atoms_spec (ws := Cond.code y cc nL ret :: Wg) B.pre
  have ho : s.vm.findClass y.cls = some m.cls := findClass_of_methodNamed B.named
  rw [hown] at ho
  have hlocks := B.notSynchronized
  subst hsz
  have hD : va_D (tw_A ad N s.heap.size) (tw_wl ad cI cZ mem) := hD0.weaken (fun k q hq _ => by
    obtain ⟨h1, h2⟩ := tw_wl_mem hq
    exact Or.inl ⟨k, by rw [← hN]; exact h1, h2⟩)
  have hlen : (lg_sl (As.map (tw_cv ad))).length = As.length := by rw [tw_sl]; simp
  have hl := lv_entry (As.map (tw_cv ad)) (n := nL) (by rw [hlen]; exact hn)
  rw [lg_entry_eq]
  generalize (lg_sl (As.map (tw_cv ad)) ++ List.replicate (nL - (lg_sl (As.map (tw_cv ad))).length) Slot.unset).toArray = ls at hl ⊢
  have hat : ∀ (i : Nat) (v : tw_v), L0[i]? = some (some v) → As[i]? = some v := fun i v h => by
    rw [← hL0] at h
    by_cases hi : i < As.length
    · rw [List.getElem?_append_left (by simpa using hi)] at h
      simpa using h
    · rw [List.getElem?_append_right (by simpa using hi)] at h
      have := List.eq_of_mem_replicate (List.mem_of_getElem? h)
      cases this
  have hlr : tw_lr ad ls c.maxLocals L0 := ⟨by rw [hml]; exact hl.1, hl.2.1, fun i v h => by
    have h2 := tw_args ad As 0 i v (hat i v h)
    rw [Nat.zero_add] at h2
    exact hl.2.2 _ h2⟩
  have hB := body (p, e, (headSpec (Cond.code y cc nL ret :: Wg) (tw_rm d)).room, s, m, (As.map (tw_cv ad)).toArray, below, meth, c) ⟨hx, hb, ho, fun w h => hts w (List.mem_cons_of_mem _ h), hK, hr, hlocks, rfl, hml, hNs⟩
  exact hB (fun i v h => hAs v (List.mem_of_getElem? (hat i v h))) (fun v h => by cases h) hM hN s.heap [] ls hP hD va_S.rf hlr
theorem tw_le_0 {b : List (Option tw_v)} : tw_le [] b := trivial
theorem tw_le_n {a b : List (Option tw_v)} {x : Option tw_v} (h : tw_le a b) : tw_le (none :: a) (x :: b) := h
theorem tw_le_s {a b : List (Option tw_v)} {v : tw_v} (h : tw_le a b) : tw_le (some v :: a) (some v :: b) := ⟨rfl, h⟩
