/-! the law: two worlds (the first: 34 cells, the second: 18), the script, and the rows of its own code -/
def R_law : String := "TwoWayLinesLaw"
abbrev tl_Z : Type := Program × Launch × Env × State × MethodId × List Frame × Method × Code × Nat × Nat × (Nat → Int) × va_G × (Nat → Nat) × (Nat → Nat) × ClassId × ClassId
def tl_al (b : Nat) (ad1 ad2 : Nat → Nat) : Nat → Nat := fun k => if k = 0 then b else if k = 1 then ad1 0 else ad2 0
def tl_A (s : State) (q : Nat) : Prop := s.heap.size ≤ q
def tl_w (D : va_G) (ad1 ad2 : Nat → Nat) (cI cZ : ClassId) (s : State) (H : Heap) (locs : List Loc) (mem1 mem2 : List tw_c) : Prop := va_P D tw_cls (tw_wl ad1 cI cZ mem1) H ∧ va_P D tw_cls (tw_wl ad2 cI cZ mem2) H ∧ va_D (tl_A s) (tw_wl ad1 cI cZ mem1) ∧ va_D (tl_A s) (tw_wl ad2 cI cZ mem2) ∧ va_S (tl_A s) s.heap H locs ∧ (∀ c ∈ mem1, tw_okc c) ∧ (∀ c ∈ mem2, tw_okc c) ∧ mem1.length = 34 ∧ mem2.length = 18
def lw_Q (_ : Array Value) (s : State) (o : Outcome) (t : State) : Prop := o = .returned (some (.int 1)) ∧ Framed s o t [] 52 2427
def lw_Z (below : List Frame) (a : Array Value) (s : State) : State → Prop := fun t => ∃ o, t.status = .running ∧ Ended t below o ∧ lw_Q a s o t
def tl_ln (Z : tl_Z) (pc : Nat) (L : List (Option tw_v)) (S : List tw_v) (mem1 mem2 : List tw_c) : Prop := match Z with
  | (p, l, e, s, m, below, meth, c, b, _, _, D, ad1, ad2, cI, cZ) =>
    (∀ (i : Nat) (v : tw_v), L[i]? = some (some v) → tw_okv v) → (∀ v ∈ S, tw_okv v) →
    ∀ (H : Heap) (locs : List Loc) (ls : Array Slot), tl_w D ad1 ad2 cI cZ s H locs mem1 mem2 → tw_lr (tl_al b ad1 ad2) ls c.maxLocals L →
    W p l e room_1 s m #[Value.ref b] below meth c H locs 52 2427 (lw_Z below #[Value.ref b] s) (F0 m pc ls (S.map (tw_cv (tl_al b ad1 ad2))))
def tl_cx (Z : tl_Z) : Prop := match Z with
  | (p, _, _, s, m, _, meth, c, b, Ls, ys, D, ad1, ad2, cI, cZ) => p.tables.exec = Jvm.exec ∧ c.code = code ∧ s.vm.findClass R_law = some m.cls ∧ (∀ w ∈ tw_Wg, w.before #[Value.ref b] s = true) ∧ va_K D tw_cls (tw_ty cI cZ) s ∧ meth.sig.returnType = ret ∧ meth.locks = false ∧ c.maxLocals = 4 ∧ tw_nw tw_Nst s ∧ va_X b Ls (fun j => tw_I (ys j)) s s.heap ∧ b < s.heap.size ∧ (∀ k, tw_rg (ys k)) ∧ Ls ≤ 2560 ∧ ∀ i, i < 34 → ∀ j, j < 18 → ad1 i ≠ ad2 j
def tl_L (Z : tl_Z) : Nat := Z.2.2.2.2.2.2.2.2.2.1
def tl_ys (Z : tl_Z) : Nat → Int := Z.2.2.2.2.2.2.2.2.2.2.1
/-- the law's own end, with 1 on the stack, nothing written that was there before, its room as the claim has it -/
theorem lw_ret {p : Program} {l : Launch} {e : Env} {s : State} {m : MethodId} {below : List Frame} {meth : Method} {c : Code} {b : Nat} (hx : p.tables.exec = Jvm.exec) (hb : c.code = code) (hr : meth.sig.returnType = ret) (hlocks : meth.locks = false) {pc : Nat} {H : Heap} {ls : Array Slot} (hdg : decode code pc = .ok (.ireturn, 1)) : W p l e room_1 s m #[Value.ref b] below meth c H [] 52 2427 (lw_Z below #[Value.ref b] s) (F0 m pc ls [.int 1]) := by
  intro T hT X
  obtain ⟨fs, hret, hrun, hended, hW, hframe⟩ := X.leave (v := some (.int 1)) (hlocks := hlocks) (fun h => by rw [hr] at h; cases h)
  have hmeth' : T.vm.method? m = some meth := X.method'
  refine ⟨T.setFrames fs, ?_, .returned (some (.int 1)), hrun, hended, rfl, ⟨_, rfl⟩, hW, hframe⟩
  jvm_step X.here [X.here.top, hx, hb, hdg, hmeth', hr, ret, narrow_b1]
  (try refine ⟨rfl, ?_⟩); (try refine ⟨rfl, ?_⟩)
  first | (intro acts; rw [hret _ acts rfl rfl rfl]) | rw [hret _ _ rfl rfl rfl]
  exact Steps.refl _
section TLROWS
variable {Z : tl_Z} {pc : Nat} {L L' : List (Option tw_v)} {S : List tw_v} {mem1 mem2 : List tw_c}
theorem tl_iconst {n : Int} (hX : tl_cx Z) (hd : decode code pc = .ok (.iconst n, 1)) (hn : tw_rg n) (k : tl_ln Z (pc + 1) L (.inl n :: S) mem1 mem2) : tl_ln Z pc L (S) mem1 mem2 := by
  obtain ⟨p, l, e, s, m, below, meth, c, b, Ls, ys, D, ad1, ad2, cI, cZ⟩ := Z
  obtain ⟨hx, hb, ho, hts, hK, hret, hlk, hnL, hNs, hXs, hbl, hys, hLs, hap⟩ := hX
  intro hL hS H locs ls hw hl
  exact lv_iconst hx hb hd rfl (k hL (List.forall_mem_cons.mpr ⟨hn, hS⟩) H locs ls hw hl)
theorem tl_bipush {n : Int} (hX : tl_cx Z) (hd : decode code pc = .ok (.bipush n, 2)) (hv : (Int8.ofInt n).toInt32 = tw_I n) (hn : tw_rg n) (k : tl_ln Z (pc + 2) L (.inl n :: S) mem1 mem2) : tl_ln Z pc L (S) mem1 mem2 := by
  obtain ⟨p, l, e, s, m, below, meth, c, b, Ls, ys, D, ad1, ad2, cI, cZ⟩ := Z
  obtain ⟨hx, hb, ho, hts, hK, hret, hlk, hnL, hNs, hXs, hbl, hys, hLs, hap⟩ := hX
  intro hL hS H locs ls hw hl
  exact lv_bipush hx hb hd hv (k hL (List.forall_mem_cons.mpr ⟨hn, hS⟩) H locs ls hw hl)
theorem tl_iload_n {j : Fin 4} {i : Nat} {z : Int} (hX : tl_cx Z) (hd : decode code pc = .ok (.iload_n j, 1)) (hi : (j : Nat) = i) (h0 : L[i]? = some (some (.inl z))) (k : tl_ln Z (pc + 1) L (.inl z :: S) mem1 mem2) : tl_ln Z pc L (S) mem1 mem2 := by
  obtain ⟨p, l, e, s, m, below, meth, c, b, Ls, ys, D, ad1, ad2, cI, cZ⟩ := Z
  obtain ⟨hx, hb, ho, hts, hK, hret, hlk, hnL, hNs, hXs, hbl, hys, hLs, hap⟩ := hX
  intro hL hS H locs ls hw hl
  exact lv_iload_n hx hb hd hi (hl.2.2 i (.inl z) h0) (k hL (List.forall_mem_cons.mpr ⟨hL i _ h0, hS⟩) H locs ls hw hl)
theorem tl_aload_n {j : Fin 4} {i : Nat} {z : Nat} (hX : tl_cx Z) (hd : decode code pc = .ok (.aload_n j, 1)) (hi : (j : Nat) = i) (h0 : L[i]? = some (some (.inr z))) (k : tl_ln Z (pc + 1) L (.inr z :: S) mem1 mem2) : tl_ln Z pc L (S) mem1 mem2 := by
  obtain ⟨p, l, e, s, m, below, meth, c, b, Ls, ys, D, ad1, ad2, cI, cZ⟩ := Z
  obtain ⟨hx, hb, ho, hts, hK, hret, hlk, hnL, hNs, hXs, hbl, hys, hLs, hap⟩ := hX
  intro hL hS H locs ls hw hl
  exact lv_aload_n hx hb hd hi (hl.2.2 i (.inr z) h0) (k hL (List.forall_mem_cons.mpr ⟨hL i _ h0, hS⟩) H locs ls hw hl)
theorem tl_istore_n {j : Fin 4} {i : Nat} {z : Int} (hX : tl_cx Z) (hd : decode code pc = .ok (.istore_n j, 1)) (hi : (j : Nat) = i) (hn : i < 4) (hL' : L.set i (some (.inl z)) = L') (k : tl_ln Z (pc + 1) L' S mem1 mem2) : tl_ln Z pc L (.inl z :: S) mem1 mem2 := by
  obtain ⟨p, l, e, s, m, below, meth, c, b, Ls, ys, D, ad1, ad2, cI, cZ⟩ := Z
  obtain ⟨hx, hb, ho, hts, hK, hret, hlk, hnL, hNs, hXs, hbl, hys, hLs, hap⟩ := hX
  intro hL hS H locs ls hw hl
  subst hL'
  obtain ⟨h1, h2⟩ := List.forall_mem_cons.mp hS
  exact lv_istore_n hx hb hd hi (tw_lr_has hl) (by rw [hnL]; exact hn) rfl (fun ls' h' => k (tw_setl_ok hL h1) h2 H locs ls' hw (tw_lr_set h'))
theorem tl_iinc {i : Nat} {n z : Int} (hX : tl_cx Z) (hd : decode code pc = .ok (.iinc i n, 3)) (h0 : L[i]? = some (some (.inl z))) (hn : i < 4) (hr : tw_rg (z + n)) (hL' : L.set i (some (.inl (z + n))) = L') (k : tl_ln Z (pc + 3) L' S mem1 mem2) : tl_ln Z pc L (S) mem1 mem2 := by
  obtain ⟨p, l, e, s, m, below, meth, c, b, Ls, ys, D, ad1, ad2, cI, cZ⟩ := Z
  obtain ⟨hx, hb, ho, hts, hK, hret, hlk, hnL, hNs, hXs, hbl, hys, hLs, hap⟩ := hX
  intro hL hS H locs ls hw hl
  subst hL'
  obtain ⟨j, hj⟩ := List.getElem?_of_mem (tw_prs_mem (ad := tl_al b ad1 ad2) (q := (i, tw_cv (tl_al b ad1 ad2) (.inl z))).mpr ⟨.inl z, h0, rfl⟩)
  exact lv_iinc hx hb hd (tw_lr_has hl) hj (tw_I_add z n) (by rw [hnL]; exact hn) rfl (fun ls' h' => k (tw_setl_ok hL hr) hS H locs ls' hw (tw_lr_set (v := .inl (z + n)) h'))
theorem tl_iadd {x y : Int} (hX : tl_cx Z) (hd : decode code pc = .ok (.iadd, 1)) (hr : tw_rg (x + y)) (k : tl_ln Z (pc + 1) L (.inl (x + y) :: S) mem1 mem2) : tl_ln Z pc L (.inl y :: .inl x :: S) mem1 mem2 := by
  obtain ⟨p, l, e, s, m, below, meth, c, b, Ls, ys, D, ad1, ad2, cI, cZ⟩ := Z
  obtain ⟨hx, hb, ho, hts, hK, hret, hlk, hnL, hNs, hXs, hbl, hys, hLs, hap⟩ := hX
  intro hL hS H locs ls hw hl
  obtain ⟨ry, h1⟩ := List.forall_mem_cons.mp hS
  obtain ⟨rx, h2⟩ := List.forall_mem_cons.mp h1
  refine lv_iadd hx hb hd ?_
  rw [tw_I_add x y]
  exact k hL (List.forall_mem_cons.mpr ⟨hr, h2⟩) H locs ls hw hl
theorem tl_isub {x y : Int} (hX : tl_cx Z) (hd : decode code pc = .ok (.isub, 1)) (hr : tw_rg (x - y)) (k : tl_ln Z (pc + 1) L (.inl (x - y) :: S) mem1 mem2) : tl_ln Z pc L (.inl y :: .inl x :: S) mem1 mem2 := by
  obtain ⟨p, l, e, s, m, below, meth, c, b, Ls, ys, D, ad1, ad2, cI, cZ⟩ := Z
  obtain ⟨hx, hb, ho, hts, hK, hret, hlk, hnL, hNs, hXs, hbl, hys, hLs, hap⟩ := hX
  intro hL hS H locs ls hw hl
  obtain ⟨ry, h1⟩ := List.forall_mem_cons.mp hS
  obtain ⟨rx, h2⟩ := List.forall_mem_cons.mp h1
  refine lv_isub hx hb hd ?_
  rw [tw_I_sub x y]
  exact k hL (List.forall_mem_cons.mpr ⟨hr, h2⟩) H locs ls hw hl
theorem tl_and31 {x : Int} (hX : tl_cx Z) (hd : decode code pc = .ok (.iand, 1)) (k : ∀ z : Int, 0 ≤ z ∧ z < 32 → tl_ln Z (pc + 1) L (.inl z :: S) mem1 mem2) : tl_ln Z pc L (.inl 31 :: .inl x :: S) mem1 mem2 := by
  obtain ⟨p, l, e, s, m, below, meth, c, b, Ls, ys, D, ad1, ad2, cI, cZ⟩ := Z
  obtain ⟨hx, hb, ho, hts, hK, hret, hlk, hnL, hNs, hXs, hbl, hys, hLs, hap⟩ := hX
  intro hL hS H locs ls hw hl
  obtain ⟨ry, h1⟩ := List.forall_mem_cons.mp hS
  obtain ⟨rx, h2⟩ := List.forall_mem_cons.mp h1
  refine lv_iand hx hb hd ?_
  have e1 : ∃ z : Int, (0 ≤ z ∧ z < 32) ∧ tw_I x &&& tw_I 31 = tw_I z := by
    refine ⟨(((tw_I x).toBitVec.toNat % 2 ^ 5 : Nat) : Int), ⟨by omega, by omega⟩, ?_⟩
    rw [pk_and (tw_I x) 5 (by decide)]
    rfl
  obtain ⟨z, hz, e2⟩ := e1
  rw [e2]
  exact k z hz hL (List.forall_mem_cons.mpr ⟨⟨by omega, by omega⟩, h2⟩) H locs ls hw hl
theorem tl_sld {i : Int} (hX : tl_cx Z) (hd : decode code pc = .ok (.iaload, 1)) (h0 : 0 ≤ i ∧ i < (tl_L Z : Int)) (k : tl_ln Z (pc + 1) L (.inl (tl_ys Z i.toNat) :: S) mem1 mem2) : tl_ln Z pc L (.inl i :: .inr 0 :: S) mem1 mem2 := by
  obtain ⟨p, l, e, s, m, below, meth, c, b, Ls, ys, D, ad1, ad2, cI, cZ⟩ := Z
  obtain ⟨hx, hb, ho, hts, hK, hret, hlk, hnL, hNs, hXs, hbl, hys, hLs, hap⟩ := hX
  intro hL hS H locs ls hw hl
  obtain ⟨ri, h1⟩ := List.forall_mem_cons.mp hS
  obtain ⟨-, h2⟩ := List.forall_mem_cons.mp h1
  have ri : tw_rg i := ri
  have h0 : 0 ≤ i ∧ i < (Ls : Int) := h0
  refine va_sld (A := tl_A s) (b := b) hx hb hXs hbl (fun h => by unfold tl_A at h; omega) hw.2.2.2.2.1 (tw_I_in ri h0.1 h0.2) hd ?_
  rw [tw_I_cl ri]
  exact k hL (List.forall_mem_cons.mpr ⟨hys i.toNat, h2⟩) H locs ls hw hl
theorem tl_slen  (hX : tl_cx Z) (hd : decode code pc = .ok (.arraylength, 1)) (k : tl_ln Z (pc + 1) L (.inl (tl_L Z : Int) :: S) mem1 mem2) : tl_ln Z pc L (.inr 0 :: S) mem1 mem2 := by
  obtain ⟨p, l, e, s, m, below, meth, c, b, Ls, ys, D, ad1, ad2, cI, cZ⟩ := Z
  obtain ⟨hx, hb, ho, hts, hK, hret, hlk, hnL, hNs, hXs, hbl, hys, hLs, hap⟩ := hX
  intro hL hS H locs ls hw hl
  obtain ⟨-, h2⟩ := List.forall_mem_cons.mp hS
  refine va_slen (A := tl_A s) (b := b) hx hb hXs hbl (fun h => by unfold tl_A at h; omega) hw.2.2.2.2.1 hd ?_
  exact k hL (List.forall_mem_cons.mpr ⟨⟨by show (-2147483648 : Int) ≤ (Ls : Int); omega, by show (Ls : Int) ≤ 2147483647; omega⟩, h2⟩) H locs ls hw hl
theorem tl_icmp_gt {x y off : Int} {tgt : Nat} (hX : tl_cx Z) (hd : decode code pc = .ok (.if_icmp .gt off, 3)) (ht : (pc : Int) + off = (tgt : Int)) (kt : y < x → tl_ln Z tgt L S mem1 mem2) (kf : ¬ y < x → tl_ln Z (pc + 3) L S mem1 mem2)  : tl_ln Z pc L (.inl y :: .inl x :: S) mem1 mem2 := by
  obtain ⟨p, l, e, s, m, below, meth, c, b, Ls, ys, D, ad1, ad2, cI, cZ⟩ := Z
  obtain ⟨hx, hb, ho, hts, hK, hret, hlk, hnL, hNs, hXs, hbl, hys, hLs, hap⟩ := hX
  intro hL hS H locs ls hw hl
  obtain ⟨ry, h1⟩ := List.forall_mem_cons.mp hS
  obtain ⟨rx, h2⟩ := List.forall_mem_cons.mp h1
  have ry : tw_rg y := ry
  have rx : tw_rg x := rx
  exact lv_icmp_gt hx hb hd ht (fun h => kt ((tw_I_lt ry rx).mp h) hL h2 H locs ls hw hl) (fun h => kf (fun q => h ((tw_I_lt ry rx).mpr q)) hL h2 H locs ls hw hl)
theorem tl_icmp_same {x off : Int} {tgt : Nat} (hX : tl_cx Z) (hd : decode code pc = .ok (.if_icmp .eq off, 3)) (ht : (pc : Int) + off = (tgt : Int)) (kt : tl_ln Z tgt L S mem1 mem2)  : tl_ln Z pc L (.inl x :: .inl x :: S) mem1 mem2 := by
  obtain ⟨p, l, e, s, m, below, meth, c, b, Ls, ys, D, ad1, ad2, cI, cZ⟩ := Z
  obtain ⟨hx, hb, ho, hts, hK, hret, hlk, hnL, hNs, hXs, hbl, hys, hLs, hap⟩ := hX
  intro hL hS H locs ls hw hl
  obtain ⟨ry, h1⟩ := List.forall_mem_cons.mp hS
  obtain ⟨rx, h2⟩ := List.forall_mem_cons.mp h1
  exact lv_icmp_eq hx hb hd ht (fun h => kt hL h2 H locs ls hw hl) (fun h => absurd rfl h)
theorem tl_goto {off : Int} {tgt : Nat} (hX : tl_cx Z) (hd : decode code pc = .ok (.goto off, 3)) (ht : (pc : Int) + off = (tgt : Int)) (k : tl_ln Z tgt L S mem1 mem2)  : tl_ln Z pc L (S) mem1 mem2 := by
  obtain ⟨p, l, e, s, m, below, meth, c, b, Ls, ys, D, ad1, ad2, cI, cZ⟩ := Z
  obtain ⟨hx, hb, ho, hts, hK, hret, hlk, hnL, hNs, hXs, hbl, hys, hLs, hap⟩ := hX
  intro hL hS H locs ls hw hl
  exact lv_goto hx hb hd ht (k hL hS H locs ls hw hl)
theorem tl_table {z off dflt hi : Int} {tgt len : Nat} {offs : Array Int} (hX : tl_cx Z) (hd : decode code pc = .ok (.tableswitch dflt 0 hi offs, len)) (h1 : 0 ≤ z ∧ z ≤ hi) (hoff : offs[z.toNat]? = some off) (ht : (pc : Int) + off = (tgt : Int)) (k : tl_ln Z tgt L S mem1 mem2)  : tl_ln Z pc L (.inl z :: S) mem1 mem2 := by
  obtain ⟨p, l, e, s, m, below, meth, c, b, Ls, ys, D, ad1, ad2, cI, cZ⟩ := Z
  obtain ⟨hx, hb, ho, hts, hK, hret, hlk, hnL, hNs, hXs, hbl, hys, hLs, hap⟩ := hX
  intro hL hS H locs ls hw hl
  obtain ⟨rz, h2⟩ := List.forall_mem_cons.mp hS
  have rz : tw_rg z := rz
  have e1 : (tw_I z).toInt = z := tw_I_toInt rz
  exact lv_tableIn (x := tw_I z) hx hb hd (by rw [e1]; omega) (by rw [e1]; omega) (by rw [e1, Int.sub_zero]; exact hoff) ht (k hL h2 H locs ls hw hl)
theorem tl_tableOut {z dflt hi : Int} {tgt len : Nat} {offs : Array Int} (hX : tl_cx Z) (hd : decode code pc = .ok (.tableswitch dflt 0 hi offs, len)) (h1 : hi < z) (ht : (pc : Int) + dflt = (tgt : Int)) (k : tl_ln Z tgt L S mem1 mem2)  : tl_ln Z pc L (.inl z :: S) mem1 mem2 := by
  obtain ⟨p, l, e, s, m, below, meth, c, b, Ls, ys, D, ad1, ad2, cI, cZ⟩ := Z
  obtain ⟨hx, hb, ho, hts, hK, hret, hlk, hnL, hNs, hXs, hbl, hys, hLs, hap⟩ := hX
  intro hL hS H locs ls hw hl
  obtain ⟨rz, h2⟩ := List.forall_mem_cons.mp hS
  have rz : tw_rg z := rz
  have e1 : (tw_I z).toInt = z := tw_I_toInt rz
  exact lv_tableOut (x := tw_I z) hx hb hd (Or.inr (by rw [e1]; exact h1)) ht (k hL h2 H locs ls hw hl)
theorem tl_ret  (hX : tl_cx Z) (hd : decode code pc = .ok (.ireturn, 1))  : tl_ln Z pc L ([.inl 1]) mem1 mem2 := by
  obtain ⟨p, l, e, s, m, below, meth, c, b, Ls, ys, D, ad1, ad2, cI, cZ⟩ := Z
  obtain ⟨hx, hb, ho, hts, hK, hret, hlk, hnL, hNs, hXs, hbl, hys, hLs, hap⟩ := hX
  intro hL hS H locs ls hw hl
  exact va_forget (fun q hq => hw.2.2.2.2.1.2.2 q hq) (lw_ret hx hb hret hlk hd)
abbrev tl_go1 (Z : tl_Z) (pc : Nat) (L : List (Option tw_v)) (S : List tw_v) (mem2 : List tw_c) : tw_P := fun r mem => match r with
  | some z => tl_ln Z (pc + 3) L (.inl z :: S) mem mem2
  | none => tl_ln Z (pc + 3) L S mem mem2
def tl_Y1 (Z : tl_Z) : tw_Y := match Z with
  | (_, l, _, _, _, _, _, _, _, _, _, D, ad1, ad2, cI, cZ) => tw_YC l D ad1 cI cZ
theorem tl_call1 {As : List Int} {y : MethodName} {bytes : ByteArray} {maxL d' index n : Nat} {rt : Option FieldType} {T : u_T} {Nf ci : Nat} {fs : List tw_v} (hX : tl_cx Z) (hd : decode code pc = .ok (.invokevirtual index, 3)) (hcode : Cond.code y bytes maxL rt ∈ tw_Wg) (hlink : Cond.methodLink R_law index y ∈ tw_Wg) (hinst : Cond.instanceMethod y ∈ tw_Wg) (hsel : Cond.selects y.cls y y ∈ tw_Wg) (hini : Cond.initialized y.cls ∈ tw_Wg) (hdc : tw_dc y n) (hc : tw_cls[ci]? = some (y.cls, T, Nf)) (hq : mem1[0]? = some (.inr (ci, fs))) (hroom : d' ≤ 8 ∧ maxL ≤ 21) (hn : As.length = n) (hS8 : S.length ≤ 8)
    (hct : tw_ct (tl_Y1 Z) y (Cond.code y bytes maxL rt :: tw_Wg) d' (.inr 0 :: As.map Sum.inl) mem1 (tl_go1 Z pc L S mem2)) : tl_ln Z pc L ((As.map Sum.inl).reverse ++ .inr 1 :: S) mem1 mem2 := by
  obtain ⟨p, l, e, s, m, below, meth, c, b, Ls, ys, D, ad1, ad2, cI, cZ⟩ := Z
  obtain ⟨hx, hb, ho, hts, hK, hret, hlk, hnL, hNs, hXs, hbl, hys, hLs, hap⟩ := hX
  intro hL hS H locs ls hw hl
  obtain ⟨hP1, hP2, hD1, hD2, hSt, hM1, hM2, hN1, hN2⟩ := hw
  have hA : ∀ v ∈ (.inr 0 :: As.map Sum.inl : List tw_v), tw_okv v := fun v h => by
    rcases List.mem_cons.mp h with rfl | h
    · exact trivial
    · exact hS v (List.mem_append_left _ (List.mem_reverse.mpr h))
  have hS2 : ∀ v ∈ S, tw_okv v := fun v h => hS v (List.mem_append_right _ (List.mem_cons_of_mem _ h))
  have hcat : ((S.map (tw_cv (tl_al b ad1 ad2))).map fun v => v.category).sum ≤ 8 := by
    have : (S.map (tw_cv (tl_al b ad1 ad2))).map (fun v => v.category) = List.replicate S.length 1 := by
      rw [List.map_map, List.eq_replicate_iff]
      simp [tw_cat]
    rw [this]
    simp
    exact hS8
  have hmap : (As.map Sum.inl : List tw_v).map (tw_cv (tl_al b ad1 ad2)) = (As.map Sum.inl : List tw_v).map (tw_cv ad1) := by
    rw [List.map_map, List.map_map]
    rfl
  have hrun := va_runV (As := (As.map Sum.inl : List tw_v).map (tw_cv ad1)) (n := n) (b := ad1 0) (C := y.cls) (R := room_1) (e := e) (below := below) (meth := meth) (locs := locs) (cells := 52) (slots := 2427) (rest := S.map (tw_cv (tl_al b ad1 ad2))) (g := F0 m pc ls (((As.map Sum.inl).reverse ++ .inr 1 :: S : List tw_v).map (tw_cv (tl_al b ad1 ad2)))) (nL := c.maxLocals) ⟨hx, hb, rfl, ho, hts⟩ (hct hA hM1 hN1 H.size) (bytes := bytes) (maxL := maxL) (ret := rt)
    ⟨callB_of n hts (tw_gi tw_good hcode) rfl rfl rfl (hts _ hini) (hts _ hlink) hdc ⟨by show d' + 1 ≤ 10; omega, by show 8 + (maxL + 11) + 40 * d' ≤ 360; omega⟩, hts _ hinst, hts _ hsel⟩
    ⟨tw_blind (As := .inr 0 :: As.map Sum.inl), va_recv hK hP1 hc (tw_wl_at hq), fun U hU hW => ⟨rfl, by rw [hU], by rw [hU]; exact hP1, va_K.moved hW.alike hK, hD1.weaken (fun _ _ _ _ => trivial), tw_nw.warm hW hNs⟩⟩ rfl (by rw [List.length_map, List.length_map]; exact hn) hl.1 (by
      show List.map _ _ = _
      rw [List.map_append, List.map_reverse, hmap]
      rfl) (lv_room hcat) hd ⟨Nat.le_of_ble_eq_true rfl, Nat.le_of_ble_eq_true rfl⟩
  intro T0 hT X
  obtain ⟨v, st₀, t, T', L1, h0, X', hL1, e1, e2, ⟨⟨r, mem', hv, hp, hrr, hmo, hml, hPm, hKm, hDm⟩, hz, hk⟩, st⟩ := hrun T0 hT X
  rw [h0] at hz hk
  have hadge : ∀ k, k < 34 → s.heap.size ≤ ad1 k := fun k hk0 => by
    have h1 : k < mem1.length := by rw [hN1]; exact hk0
    exact hD1.2 k _ (tw_wl_at (List.getElem?_eq_getElem h1))
  have hsub : ∀ q, tw_A ad1 34 H.size q → tl_A s q := fun q h => by
    rcases h with ⟨k, hk0, rfl⟩ | h
    · exact hadge k hk0
    · exact Nat.le_trans hSt.1 h
  have hD' : va_D (tl_A s) (tw_wl ad1 cI cZ mem') := hDm.weaken (fun k q _ h => hsub _ h)
  have hP' : va_P D tw_cls (tw_wl ad1 cI cZ mem') T'.heap := by rw [e1]; exact hPm
  have hPo : va_P D tw_cls (tw_wl ad2 cI cZ mem2) T'.heap := by
    refine hP2.kept (fun k q hq0 => ?_)
    obtain ⟨h1, h2⟩ := tw_wl_mem hq0
    rw [e1]
    refine hk q.1 ((hP2 k q hq0).lt) (fun hz0 => ?_)
    rcases hz0 with ⟨j, hj, h3⟩ | h3
    · exact hap j hj k (by rw [← hN2]; exact h1) (h3.symm.trans h2)
    · have := (hP2 k q hq0).lt
      omega
  have hS' : va_S (tl_A s) s.heap T'.heap (locs ++ L1) := ⟨Nat.le_trans hSt.1 (by rw [e1]; exact hz), fun q h1 h2 => by rw [e1, hk q (Nat.lt_of_lt_of_le h1 hSt.1) (fun z => h2 (hsub q z))]; exact hSt.2.1 q h1 h2, fun q hq0 => by
    rcases List.mem_append.mp hq0 with h | h
    · exact hSt.2.2 q h
    · exact hsub _ (hL1 q h)⟩
  have hw' : tl_w D ad1 ad2 cI cZ s T'.heap (locs ++ L1) mem' mem2 := ⟨hP', hPo, hD', hD2, hS', hmo, hM2, hml, hN2⟩
  cases r with
  | none =>
    have hv : v = none := by injection hv
    subst hv
    have hp : tl_ln (p, l, e, s, m, below, meth, c, b, Ls, ys, D, ad1, ad2, cI, cZ) (pc + 3) L S mem' mem2 := hp
    obtain ⟨t2, a1, b1⟩ := hp hL hS2 T'.heap (locs ++ L1) ls hw' hl T' rfl X'
    exact ⟨t2, st t2 a1, b1⟩
  | some z =>
    have hv : v = some (.int (tw_I z)) := by injection hv
    subst hv
    have hp : tl_ln (p, l, e, s, m, below, meth, c, b, Ls, ys, D, ad1, ad2, cI, cZ) (pc + 3) L (.inl z :: S) mem' mem2 := hp
    obtain ⟨t2, a1, b1⟩ := hp hL (List.forall_mem_cons.mpr ⟨hrr z rfl, hS2⟩) T'.heap (locs ++ L1) ls hw' hl T' rfl X'
    exact ⟨t2, st t2 a1, b1⟩
abbrev tl_go2 (Z : tl_Z) (pc : Nat) (L : List (Option tw_v)) (S : List tw_v) (mem1 : List tw_c) : tw_P := fun r mem => match r with
  | some z => tl_ln Z (pc + 3) L (.inl z :: S) mem1 mem
  | none => tl_ln Z (pc + 3) L S mem1 mem
def tl_Y2 (Z : tl_Z) : tw_Y := match Z with
  | (_, l, _, _, _, _, _, _, _, _, _, D, ad1, ad2, cI, cZ) => tw_YM l D ad2 cI cZ
theorem tl_call2 {As : List Int} {y : MethodName} {bytes : ByteArray} {maxL d' index n : Nat} {rt : Option FieldType} {T : u_T} {Nf ci : Nat} {fs : List tw_v} (hX : tl_cx Z) (hd : decode code pc = .ok (.invokevirtual index, 3)) (hcode : Cond.code y bytes maxL rt ∈ tw_Wg) (hlink : Cond.methodLink R_law index y ∈ tw_Wg) (hinst : Cond.instanceMethod y ∈ tw_Wg) (hsel : Cond.selects y.cls y y ∈ tw_Wg) (hini : Cond.initialized y.cls ∈ tw_Wg) (hdc : tw_dc y n) (hc : tw_cls[ci]? = some (y.cls, T, Nf)) (hq : mem2[0]? = some (.inr (ci, fs))) (hroom : d' ≤ 8 ∧ maxL ≤ 21) (hn : As.length = n) (hS8 : S.length ≤ 8)
    (hct : tw_ct (tl_Y2 Z) y (Cond.code y bytes maxL rt :: tw_Wg) d' (.inr 0 :: As.map Sum.inl) mem2 (tl_go2 Z pc L S mem1)) : tl_ln Z pc L ((As.map Sum.inl).reverse ++ .inr 2 :: S) mem1 mem2 := by
  obtain ⟨p, l, e, s, m, below, meth, c, b, Ls, ys, D, ad1, ad2, cI, cZ⟩ := Z
  obtain ⟨hx, hb, ho, hts, hK, hret, hlk, hnL, hNs, hXs, hbl, hys, hLs, hap⟩ := hX
  intro hL hS H locs ls hw hl
  obtain ⟨hP1, hP2, hD1, hD2, hSt, hM1, hM2, hN1, hN2⟩ := hw
  have hA : ∀ v ∈ (.inr 0 :: As.map Sum.inl : List tw_v), tw_okv v := fun v h => by
    rcases List.mem_cons.mp h with rfl | h
    · exact trivial
    · exact hS v (List.mem_append_left _ (List.mem_reverse.mpr h))
  have hS2 : ∀ v ∈ S, tw_okv v := fun v h => hS v (List.mem_append_right _ (List.mem_cons_of_mem _ h))
  have hcat : ((S.map (tw_cv (tl_al b ad1 ad2))).map fun v => v.category).sum ≤ 8 := by
    have : (S.map (tw_cv (tl_al b ad1 ad2))).map (fun v => v.category) = List.replicate S.length 1 := by
      rw [List.map_map, List.eq_replicate_iff]
      simp [tw_cat]
    rw [this]
    simp
    exact hS8
  have hmap : (As.map Sum.inl : List tw_v).map (tw_cv (tl_al b ad1 ad2)) = (As.map Sum.inl : List tw_v).map (tw_cv ad2) := by
    rw [List.map_map, List.map_map]
    rfl
  have hrun := va_runV (As := (As.map Sum.inl : List tw_v).map (tw_cv ad2)) (n := n) (b := ad2 0) (C := y.cls) (R := room_1) (e := e) (below := below) (meth := meth) (locs := locs) (cells := 52) (slots := 2427) (rest := S.map (tw_cv (tl_al b ad1 ad2))) (g := F0 m pc ls (((As.map Sum.inl).reverse ++ .inr 2 :: S : List tw_v).map (tw_cv (tl_al b ad1 ad2)))) (nL := c.maxLocals) ⟨hx, hb, rfl, ho, hts⟩ (hct hA hM2 hN2 H.size) (bytes := bytes) (maxL := maxL) (ret := rt)
    ⟨callB_of n hts (tw_gi tw_good hcode) rfl rfl rfl (hts _ hini) (hts _ hlink) hdc ⟨by show d' + 1 ≤ 10; omega, by show 8 + (maxL + 11) + 40 * d' ≤ 360; omega⟩, hts _ hinst, hts _ hsel⟩
    ⟨tw_blind (As := .inr 0 :: As.map Sum.inl), va_recv hK hP2 hc (tw_wl_at hq), fun U hU hW => ⟨rfl, by rw [hU], by rw [hU]; exact hP2, va_K.moved hW.alike hK, hD2.weaken (fun _ _ _ _ => trivial), fun q hq => absurd hq List.not_mem_nil⟩⟩ rfl (by rw [List.length_map, List.length_map]; exact hn) hl.1 (by
      show List.map _ _ = _
      rw [List.map_append, List.map_reverse, hmap]
      rfl) (lv_room hcat) hd ⟨Nat.le_of_ble_eq_true rfl, Nat.le_of_ble_eq_true rfl⟩
  intro T0 hT X
  obtain ⟨v, st₀, t, T', L1, h0, X', hL1, e1, e2, ⟨⟨r, mem', hv, hp, hrr, hmo, hml, hPm, hKm, hDm⟩, hz, hk⟩, st⟩ := hrun T0 hT X
  rw [h0] at hz hk
  have hadge : ∀ k, k < 18 → s.heap.size ≤ ad2 k := fun k hk0 => by
    have h1 : k < mem2.length := by rw [hN2]; exact hk0
    exact hD2.2 k _ (tw_wl_at (List.getElem?_eq_getElem h1))
  have hsub : ∀ q, tw_A ad2 18 H.size q → tl_A s q := fun q h => by
    rcases h with ⟨k, hk0, rfl⟩ | h
    · exact hadge k hk0
    · exact Nat.le_trans hSt.1 h
  have hD' : va_D (tl_A s) (tw_wl ad2 cI cZ mem') := hDm.weaken (fun k q _ h => hsub _ h)
  have hP' : va_P D tw_cls (tw_wl ad2 cI cZ mem') T'.heap := by rw [e1]; exact hPm
  have hPo : va_P D tw_cls (tw_wl ad1 cI cZ mem1) T'.heap := by
    refine hP1.kept (fun k q hq0 => ?_)
    obtain ⟨h1, h2⟩ := tw_wl_mem hq0
    rw [e1]
    refine hk q.1 ((hP1 k q hq0).lt) (fun hz0 => ?_)
    rcases hz0 with ⟨j, hj, h3⟩ | h3
    · exact hap k (by rw [← hN1]; exact h1) j hj (h2.symm.trans h3)
    · have := (hP1 k q hq0).lt
      omega
  have hS' : va_S (tl_A s) s.heap T'.heap (locs ++ L1) := ⟨Nat.le_trans hSt.1 (by rw [e1]; exact hz), fun q h1 h2 => by rw [e1, hk q (Nat.lt_of_lt_of_le h1 hSt.1) (fun z => h2 (hsub q z))]; exact hSt.2.1 q h1 h2, fun q hq0 => by
    rcases List.mem_append.mp hq0 with h | h
    · exact hSt.2.2 q h
    · exact hsub _ (hL1 q h)⟩
  have hw' : tl_w D ad1 ad2 cI cZ s T'.heap (locs ++ L1) mem1 mem' := ⟨hPo, hP', hD1, hD', hS', hM1, hmo, hN1, hml⟩
  cases r with
  | none =>
    have hv : v = none := by injection hv
    subst hv
    have hp : tl_ln (p, l, e, s, m, below, meth, c, b, Ls, ys, D, ad1, ad2, cI, cZ) (pc + 3) L S mem1 mem' := hp
    obtain ⟨t2, a1, b1⟩ := hp hL hS2 T'.heap (locs ++ L1) ls hw' hl T' rfl X'
    exact ⟨t2, st t2 a1, b1⟩
  | some z =>
    have hv : v = some (.int (tw_I z)) := by injection hv
    subst hv
    have hp : tl_ln (p, l, e, s, m, below, meth, c, b, Ls, ys, D, ad1, ad2, cI, cZ) (pc + 3) L (.inl z :: S) mem1 mem' := hp
    obtain ⟨t2, a1, b1⟩ := hp hL (List.forall_mem_cons.mpr ⟨hrr z rfl, hS2⟩) T'.heap (locs ++ L1) ls hw' hl T' rfl X'
    exact ⟨t2, st t2 a1, b1⟩
end TLROWS
