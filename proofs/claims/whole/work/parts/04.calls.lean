section TWCALLS
variable {Y : tw_Y} {Z : tw_Z} {Post : tw_P} {pc : Nat} {L L' : List (Option tw_v)} {S : List tw_v} {mem mem' : List tw_c} {cc : ByteArray} {own : String} {Ts : List Cond} {ret : Option FieldType} {d nL : Nat}
def tw_cl (Y : tw_Y) : List vw_C := Y.2.2.1
def tw_ns (Y : tw_Y) : tw_N := Y.2.2.2.2.2.2.2
theorem tw_get {ref C : String} {T : u_T} {Nf ci index q kf : Nat} {fs : List tw_v} {v : tw_v} (hX : tw_cx Y Z cc own Ts ret d nL) (hd : decode cc pc = .ok (.getfield index, 3)) (hin : ∀ w ∈ u_ws C T Nf, w ∈ Ts) (hc : (tw_cl Y)[ci]? = some (C, T, Nf)) (hk : kf < Nf) (hlink : Cond.fieldLink own index ref (T kf).2.1 (T kf).2.2.1 ∈ Ts) (href : ref = (T kf).1) (hq : mem[q]? = some (.inr (ci, fs))) (hv : fs[kf]? = some v) (k : tw_rn Y Z Post (pc + 3) L (v :: S) mem) : tw_rn Y Z Post pc L (.inr q :: S) mem := by
  obtain ⟨l, D, cl, ad, N, cI, cZ, Ns⟩ := Y
  obtain ⟨p, e, R, s, m, args, below, meth, c⟩ := Z
  obtain ⟨hx, hb, ho, hts, hK, hret, hlk, hR, hnL, hNs⟩ := hX
  intro hL hS hM hN H locs ls hP hD hSt hl
  obtain ⟨-, h2⟩ := List.forall_mem_cons.mp hS
  have hc : cl[ci]? = some (C, T, Nf) := hc
  subst href
  have ov : tw_okv v := hM _ (List.mem_of_getElem? hq) v (List.mem_of_getElem? hv)
  exact va_get (v := tw_cv ad v) hx hb hts hin ho hK hP q (tw_wl_at hq) hc kf hk (hts _ hlink) (fun _ h => h) (by rw [List.getElem?_map, hv]; rfl) hd (k hL (List.forall_mem_cons.mpr ⟨ov, h2⟩) hM hN H locs ls hP hD hSt hl)
theorem tw_put {ref C : String} {T : u_T} {Nf ci index q kf : Nat} {fs : List tw_v} {x : Int} {ty : FieldType} (ty0 : Nat → FieldType) (hX : tw_cx Y Z cc own Ts ret d nL) (hd : decode cc pc = .ok (.putfield index, 3)) (hin : ∀ w ∈ u_ws C T Nf, w ∈ Ts) (hty : ∀ k, k < Nf → parseFieldDescriptor (T k).2.2.1 = some (ty0 k)) (hnm : ∀ a, a < Nf → ∀ b, b < Nf → a ≠ b → (T a).2.1 ≠ (T b).2.1) (hc : (tw_cl Y)[ci]? = some (C, T, Nf)) (hk : kf < Nf) (hlink : Cond.fieldLink own index ref (T kf).2.1 (T kf).2.2.1 ∈ Ts) (href : ref = (T kf).1) (hfin : (T kf).2.2.2 = false) (hdt : ty0 kf = ty) (hz : ty = .int ∨ (ty = .boolean ∧ 0 ≤ x ∧ x ≤ 1)) (hq : mem[q]? = some (.inr (ci, fs))) (hlf : kf < fs.length) (hm : mem.set q (.inr (ci, fs.set kf (.inl x))) = mem') (k : tw_rn Y Z Post (pc + 3) L S mem') : tw_rn Y Z Post pc L (.inl x :: .inr q :: S) mem := by
  obtain ⟨l, D, cl, ad, N, cI, cZ, Ns⟩ := Y
  obtain ⟨p, e, R, s, m, args, below, meth, c⟩ := Z
  obtain ⟨hx, hb, ho, hts, hK, hret, hlk, hR, hnL, hNs⟩ := hX
  intro hL hS hM hN H locs ls hP hD hSt hl
  obtain ⟨rx, h1⟩ := List.forall_mem_cons.mp hS
  obtain ⟨-, h2⟩ := List.forall_mem_cons.mp h1
  have hc : cl[ci]? = some (C, T, Nf) := hc
  subst href hm
  have of : ∀ v ∈ fs, tw_okv v := hM _ (List.mem_of_getElem? hq)
  have hn : narrow ty (.int (tw_I x)) = .int (tw_I x) ∧ fits ty (.int (tw_I x)) = true := by
    rcases hz with rfl | ⟨rfl, h3, h4⟩
    · exact ⟨rfl, rfl⟩
    · rcases (by omega : x = 0 ∨ x = 1) with rfl | rfl <;> exact ⟨rfl, rfl⟩
  refine va_put (v := .int (tw_I x)) hx hb hts hin ty0 hty hnm ho hK hP hD hSt q (tw_wl_at hq) hc kf hk (hts _ hlink) (fun _ h => h) hfin (by rw [hty kf hk, hdt]) hn.1 hn.2 (by rw [List.length_map]; exact hlf) hd (fun H1 locs1 hP1 hD1 hS1 => ?_)
  have e1 : (tw_wl ad cI cZ mem).set q (ad q, .inr (ci, (fs.map (tw_cv ad)).set kf (.int (tw_I x)))) = tw_wl ad cI cZ (mem.set q (.inr (ci, fs.set kf (.inl x)))) := by
    rw [← tw_wl_set]
    congr 3
    show _ = (ci, (fs.set kf (.inl x)).map (tw_cv ad))
    rw [List.map_set]
    rfl
  have hP1 := e1 ▸ hP1
  have hD1 := e1 ▸ hD1
  exact k hL h2 (tw_set_ok hM (tw_setv_ok of rx)) (by rw [List.length_set]; exact hN) H1 locs1 ls hP1 hD1 hS1 hl
/-- where a call goes on -/
abbrev tw_go (Y : tw_Y) (Z : tw_Z) (Post : tw_P) (pc : Nat) (L : List (Option tw_v)) (S : List tw_v) : tw_P := fun r mem => match r with
  | some z => tw_rn Y Z Post pc L (.inl z :: S) mem
  | none => tw_rn Y Z Post pc L S mem
theorem tw_cont {l : Launch} {D : va_G} {cl : List vw_C} {ad : Nat → Nat} {N : Nat} {cI cZ : ClassId} {Ns : tw_N} {p : Program} {e : Env} {R : Room} {s : State} {m : MethodId} {args a : Array Value} {below : List Frame} {meth : Method} {c : Code} {H : Heap} {locs : List Loc} {ls : Array Slot} {st0 : List Value}
    (hL : ∀ (i : Nat) (v : tw_v), L[i]? = some (some v) → tw_okv v) (hS : ∀ v ∈ S, tw_okv v) (hSt : va_S (tw_A ad N s.heap.size) s.heap H locs) (hl : tw_lr ad ls c.maxLocals L)
    (hr : va_Run p l e R s m args below meth c H locs 0 0 0 0 (F0 m pc ls st0) (S.map (tw_cv ad)) (tw_Qc (l, D, cl, ad, N, cI, cZ, Ns) H.size (tw_go (l, D, cl, ad, N, cI, cZ, Ns) (p, e, R, s, m, args, below, meth, c) Post (pc + 3) L S) a) (tw_A ad N H.size)) :
    W p l e R s m args below meth c H locs 0 0 (MQ below (tw_Qc (l, D, cl, ad, N, cI, cZ, Ns) s.heap.size Post) args s 0 0 (tw_A ad N s.heap.size)) (F0 m pc ls st0) := by
  intro T hT X
  obtain ⟨v, st₀, t, T', L1, h0, X', hL1, e1, e2, ⟨⟨r, mem', hv, hp, hrr, hmo, hml, hPm, hKm, hDm⟩, hz, hk⟩, st⟩ := hr T hT X
  rw [h0] at hz hk
  have hsub : ∀ q, tw_A ad N H.size q → tw_A ad N s.heap.size q := fun q h => by
    rcases h with h | h
    · exact Or.inl h
    · exact Or.inr (Nat.le_trans hSt.1 h)
  have hD' : va_D (tw_A ad N s.heap.size) (tw_wl ad cI cZ mem') := hDm.weaken (fun k q _ h => hsub _ h)
  have hP' : va_P D cl (tw_wl ad cI cZ mem') T'.heap := by rw [e1]; exact hPm
  have hS' : va_S (tw_A ad N s.heap.size) s.heap T'.heap (locs ++ L1) := ⟨Nat.le_trans hSt.1 (by rw [e1]; exact hz), fun q h1 h2 => by rw [e1, hk q (Nat.lt_of_lt_of_le h1 hSt.1) (fun z => h2 (hsub q z))]; exact hSt.2.1 q h1 h2, fun q hq => by
    rcases List.mem_append.mp hq with h | h
    · exact hSt.2.2 q h
    · exact hsub _ (hL1 q h)⟩
  cases r with
  | none =>
    have hv : v = none := by injection hv
    subst hv
    have hp : tw_rn (l, D, cl, ad, N, cI, cZ, Ns) (p, e, R, s, m, args, below, meth, c) Post (pc + 3) L S mem' := hp
    obtain ⟨t2, a1, b1⟩ := hp hL hS hmo hml T'.heap (locs ++ L1) ls hP' hD' hS' hl T' rfl X'
    exact ⟨t2, st t2 a1, b1⟩
  | some z =>
    have hv : v = some (.int (tw_I z)) := by injection hv
    subst hv
    have hp : tw_rn (l, D, cl, ad, N, cI, cZ, Ns) (p, e, R, s, m, args, below, meth, c) Post (pc + 3) L (.inl z :: S) mem' := hp
    obtain ⟨t2, a1, b1⟩ := hp hL (List.forall_mem_cons.mpr ⟨hrr z rfl, hS⟩) hmo hml T'.heap (locs ++ L1) ls hP' hD' hS' hl T' rfl X'
    exact ⟨t2, st t2 a1, b1⟩
/-- the words: one list for all -/
theorem tw_gi {w0 : Cond} (h : ∀ w ∈ Ts, goodWord w = true) (h0 : w0 ∈ Ts) : GoodIn Ts (w0 :: Ts) := fun w hw => by
  rcases List.mem_cons.mp hw with rfl | hw
  · exact ⟨h0, good_of_word (h _ h0)⟩
  · exact ⟨hw, good_of_word (h _ hw)⟩
theorem tw_blind {ad : Nat → Nat} {D : va_G} {cl : List vw_C} {cI cZ : ClassId} {Ns : tw_N} {As : List tw_v} {sz : Nat} : FrameBlind (va_Pc (As.map (tw_cv ad)) (fun U => U.heap.size = sz ∧ va_P D cl (tw_wl ad cI cZ mem) U.heap ∧ va_K D cl (tw_ty cI cZ) U ∧ va_D (fun _ => True) (tw_wl ad cI cZ mem) ∧ tw_nw Ns U)) := fun a U g mk q => by
  obtain ⟨q0, q1, qP, qK, qD, qN⟩ := q
  exact ⟨q0, q1, qP, va_K.moved (u := U) (U := U.calling g mk a) (Vm.Alike.refl U.vm) qK, qD, tw_nw.same rfl qN⟩
variable {y : MethodName} {bytes : ByteArray} {maxL d' index n : Nat} {rt : Option FieldType} {As : List tw_v}
/-- what a call needs besides its words -/
def tw_dc (y : MethodName) (n : Nat) : Prop := y.cls ≠ "java/lang/invoke/MethodHandle" ∧ y.cls ≠ "java/lang/invoke/VarHandle" ∧ (parseMethodDescriptor y.desc).map (fun d => d.parameters.length) = some n
theorem tw_callS (hX : tw_cx Y Z cc own Ts ret d nL) (hd : decode cc pc = .ok (.invokestatic index, 3)) (hw : ∀ w ∈ Ts, goodWord w = true) (hcode : Cond.code y bytes maxL rt ∈ Ts) (hlink : Cond.methodLink own index y ∈ Ts) (hstat : Cond.static y ∈ Ts) (hini : Cond.initialized y.cls ∈ Ts) (hdc : tw_dc y n) (hroom : d' + 1 ≤ d ∧ maxL ≤ 21) (hn : As.length = n) (hS8 : S.length ≤ 8)
    (hct : tw_ct Y y (Cond.code y bytes maxL rt :: Ts) d' As mem (tw_go Y Z Post (pc + 3) L S)) : tw_rn Y Z Post pc L (As.reverse ++ S) mem := by
  obtain ⟨l, D, cl, ad, N, cI, cZ, Ns⟩ := Y
  obtain ⟨p, e, R, s, m, args, below, meth, c⟩ := Z
  obtain ⟨hx, hb, ho, hts, hK, hret, hlk, hR, hnL, hNs⟩ := hX
  intro hL hS hM hN H locs ls hP hD hSt hl
  have hA : ∀ v ∈ As, tw_okv v := fun v h => hS v (List.mem_append_left _ (List.mem_reverse.mpr h))
  have hS2 : ∀ v ∈ S, tw_okv v := fun v h => hS v (List.mem_append_right _ h)
  have hcat : ((S.map (tw_cv ad)).map fun v => v.category).sum ≤ 8 := by
    have : (S.map (tw_cv ad)).map (fun v => v.category) = List.replicate S.length 1 := by
      rw [List.map_map, List.eq_replicate_iff]
      simp [tw_cat]
    rw [this]
    simp
    exact hS8
  refine tw_cont hL hS2 hSt hl (va_runS (As := As.map (tw_cv ad)) (n := n) ⟨hx, hb, rfl, ho, hts⟩ (hct hA hM hN H.size) (bytes := bytes) (maxL := maxL) (ret := rt)
    ⟨callB_of n hts (tw_gi hw hcode) rfl rfl rfl (hts _ hini) (hts _ hlink) hdc (by rw [hR]; exact ⟨hroom.1, by show 8 + (maxL + 11) + 40 * d' ≤ 40 * d; omega⟩), hts _ hstat⟩
    ⟨tw_blind, fun U hU hW => ⟨rfl, by rw [hU], by rw [hU]; exact hP, va_K.moved hW.alike hK, hD.weaken (fun _ _ _ _ => trivial), tw_nw.warm hW hNs⟩⟩ rfl (by rw [List.length_map]; exact hn) hl.1 ?_ (lv_room hcat) hd ⟨Nat.zero_le _, Nat.zero_le _⟩)
  show List.map (tw_cv ad) (As.reverse ++ S) = _
  rw [List.map_append, List.map_reverse]
theorem tw_callSN {host : String} (hX : tw_cx Y Z cc own Ts ret d nL) (hd : decode cc pc = .ok (.invokestatic index, 3)) (hw : ∀ w ∈ Ts, goodWord w = true) (hcode : Cond.code y bytes maxL rt ∈ Ts) (hlink : (own, index, y, host) ∈ tw_ns Y) (hstat : Cond.static y ∈ Ts) (hini : Cond.initialized y.cls ∈ Ts) (hdc : tw_dc y n) (hroom : d' + 1 ≤ d ∧ maxL ≤ 21) (hn : As.length = n) (hS8 : S.length ≤ 8)
    (hct : tw_ct Y y (Cond.code y bytes maxL rt :: Ts) d' As mem (tw_go Y Z Post (pc + 3) L S)) : tw_rn Y Z Post pc L (As.reverse ++ S) mem := by
  obtain ⟨l, D, cl, ad, N, cI, cZ, Ns⟩ := Y
  obtain ⟨p, e, R, s, m, args, below, meth, c⟩ := Z
  obtain ⟨hx, hb, ho, hts, hK, hret, hlk, hR, hnL, hNs⟩ := hX
  intro hL hS hM hN H locs ls hP hD hSt hl
  have hA : ∀ v ∈ As, tw_okv v := fun v h => hS v (List.mem_append_left _ (List.mem_reverse.mpr h))
  have hS2 : ∀ v ∈ S, tw_okv v := fun v h => hS v (List.mem_append_right _ h)
  have hcat : ((S.map (tw_cv ad)).map fun v => v.category).sum ≤ 8 := by
    have : (S.map (tw_cv ad)).map (fun v => v.category) = List.replicate S.length 1 := by
      rw [List.map_map, List.eq_replicate_iff]
      simp [tw_cat]
    rw [this]
    simp
    exact hS8
  refine tw_cont hL hS2 hSt hl (va_runSN (As := As.map (tw_cv ad)) (n := n) (host := host) ⟨hx, hb, rfl, ho, hts⟩ (hct hA hM hN H.size) (bytes := bytes) (maxL := maxL) (ret := rt)
    ⟨va_cnB n hts (tw_gi hw hcode) rfl rfl rfl (hNs _ hlink) (hts _ hini) hdc (by rw [hR]; exact ⟨hroom.1, by show 8 + (maxL + 11) + 40 * d' ≤ 40 * d; omega⟩), hts _ hstat, trivial⟩
    ⟨tw_blind, fun U hU hW => ⟨rfl, by rw [hU], by rw [hU]; exact hP, va_K.moved hW.alike hK, hD.weaken (fun _ _ _ _ => trivial), tw_nw.warm hW hNs⟩⟩ rfl (by rw [List.length_map]; exact hn) hl.1 ?_ (lv_room hcat) hd ⟨Nat.zero_le _, Nat.zero_le _⟩)
  show List.map (tw_cv ad) (As.reverse ++ S) = _
  rw [List.map_append, List.map_reverse]
theorem tw_callV {q ci : Nat} {fs : List tw_v} {T : u_T} {Nf : Nat} (hX : tw_cx Y Z cc own Ts ret d nL) (hd : decode cc pc = .ok (.invokevirtual index, 3)) (hw : ∀ w ∈ Ts, goodWord w = true) (hcode : Cond.code y bytes maxL rt ∈ Ts) (hlink : Cond.methodLink own index y ∈ Ts) (hinst : Cond.instanceMethod y ∈ Ts) (hsel : Cond.selects y.cls y y ∈ Ts) (hini : Cond.initialized y.cls ∈ Ts) (hdc : tw_dc y n) (hc : (tw_cl Y)[ci]? = some (y.cls, T, Nf)) (hq : mem[q]? = some (.inr (ci, fs))) (hroom : d' + 1 ≤ d ∧ maxL ≤ 21) (hn : As.length = n) (hS8 : S.length ≤ 8)
    (hct : tw_ct Y y (Cond.code y bytes maxL rt :: Ts) d' (.inr q :: As) mem (tw_go Y Z Post (pc + 3) L S)) : tw_rn Y Z Post pc L (As.reverse ++ .inr q :: S) mem := by
  obtain ⟨l, D, cl, ad, N, cI, cZ, Ns⟩ := Y
  obtain ⟨p, e, R, s, m, args, below, meth, c⟩ := Z
  obtain ⟨hx, hb, ho, hts, hK, hret, hlk, hR, hnL, hNs⟩ := hX
  intro hL hS hM hN H locs ls hP hD hSt hl
  have hA : ∀ v ∈ (.inr q :: As : List tw_v), tw_okv v := fun v h => by
    rcases List.mem_cons.mp h with rfl | h
    · exact trivial
    · exact hS v (List.mem_append_left _ (List.mem_reverse.mpr h))
  have hS2 : ∀ v ∈ S, tw_okv v := fun v h => hS v (List.mem_append_right _ (List.mem_cons_of_mem _ h))
  have hc : cl[ci]? = some (y.cls, T, Nf) := hc
  have hcat : ((S.map (tw_cv ad)).map fun v => v.category).sum ≤ 8 := by
    have : (S.map (tw_cv ad)).map (fun v => v.category) = List.replicate S.length 1 := by
      rw [List.map_map, List.eq_replicate_iff]
      simp [tw_cat]
    rw [this]
    simp
    exact hS8
  refine tw_cont hL hS2 hSt hl (va_runV (As := As.map (tw_cv ad)) (n := n) (b := ad q) (C := y.cls) ⟨hx, hb, rfl, ho, hts⟩ (hct hA hM hN H.size) (bytes := bytes) (maxL := maxL) (ret := rt)
    ⟨callB_of n hts (tw_gi hw hcode) rfl rfl rfl (hts _ hini) (hts _ hlink) hdc (by rw [hR]; exact ⟨hroom.1, by show 8 + (maxL + 11) + 40 * d' ≤ 40 * d; omega⟩), hts _ hinst, hts _ hsel⟩
    ⟨tw_blind (As := .inr q :: As), va_recv hK hP hc (tw_wl_at hq), fun U hU hW => ⟨rfl, by rw [hU], by rw [hU]; exact hP, va_K.moved hW.alike hK, hD.weaken (fun _ _ _ _ => trivial), tw_nw.warm hW hNs⟩⟩ rfl (by rw [List.length_map]; exact hn) hl.1 ?_ (lv_room hcat) hd ⟨Nat.zero_le _, Nat.zero_le _⟩)
  show List.map (tw_cv ad) (As.reverse ++ .inr q :: S) = _
  rw [List.map_append, List.map_reverse]
  rfl
theorem tw_max {a b : Int} (hX : tw_cx Y Z cc own Ts ret d nL) (hd : decode cc pc = .ok (.invokestatic index, 3)) (hlink : Cond.methodLink own index Lib.Math.max.name ∈ Ts) (hstat : Cond.static Lib.Math.max.name ∈ Ts) (hini : Cond.initialized "java/lang/Math" ∈ Ts) (hcode : Cond.code Lib.Math.max.name Lib.Math.max.code 2 (some .int) ∈ Ts) (hroom : 1 ≤ d) (hS8 : S.length ≤ 8) (k : tw_rn Y Z Post (pc + 3) L (.inl (if a < b then b else a) :: S) mem) : tw_rn Y Z Post pc L (.inl b :: .inl a :: S) mem := by
  obtain ⟨l, D, cl, ad, N, cI, cZ, Ns⟩ := Y
  obtain ⟨p, e, R, s, m, args, below, meth, c⟩ := Z
  obtain ⟨hx, hb, ho, hts, hK, hret, hlk, hR, hnL, hNs⟩ := hX
  intro hL hS hM hN H locs ls hP hD hSt hl
  obtain ⟨rb, h1⟩ := List.forall_mem_cons.mp hS
  obtain ⟨ra, h2⟩ := List.forall_mem_cons.mp h1
  have rb : tw_rg b := rb
  have ra : tw_rg a := ra
  have hcat : ((S.map (tw_cv ad)).map fun v => v.category).sum ≤ 8 := by
    have : (S.map (tw_cv ad)).map (fun v => v.category) = List.replicate S.length 1 := by
      rw [List.map_map, List.eq_replicate_iff]
      simp [tw_cat]
    rw [this]
    simp
    exact hS8
  refine va_mmax hx hb hl.1.symm ho (hts _ hlink) (hts _ hstat) (hts _ hini) (hts _ hcode) (by rw [hR]; exact hroom) (by rw [hR]; show _ ≤ 40 * d; omega) (by rw [hR]; exact Nat.zero_le _) (by rw [hR]; exact Nat.zero_le _) hd ?_
  have e1 : (if tw_I a < tw_I b then tw_I b else tw_I a) = tw_I (if a < b then b else a) := by
    by_cases h : a < b
    · rw [if_pos h, if_pos ((tw_I_lt ra rb).mpr h)]
    · rw [if_neg h, if_neg (fun q => h ((tw_I_lt ra rb).mp q))]
  rw [e1]
  have rm : tw_rg (if a < b then b else a) := by split <;> assumption
  exact k hL (List.forall_mem_cons.mpr ⟨rm, h2⟩) hM hN H locs ls hP hD hSt hl
end TWCALLS
