theorem tww_88 : (Jvm.Cond.classLink "TwoWayLinesLaw" (7 : Nat) "TwoWayLines") ∈ tw_Wg := tw_Wg_of (i := 88) (by decide +kernel) rfl
theorem tww_89 : (Jvm.Cond.instantiable "TwoWayLines" (6 : Nat)) ∈ tw_Wg := tw_Wg_of (i := 89) (by decide +kernel) rfl
theorem tww_90 : (Jvm.Cond.methodLink "TwoWayLinesLaw" (9 : Nat) ({ cls := "TwoWayLines", name := "<init>", desc := "()V" } : Jvm.MethodName)) ∈ tw_Wg := tw_Wg_of (i := 90) (by decide +kernel) rfl
theorem tww_91 : (Jvm.Cond.instanceMethod ({ cls := "TwoWayLines", name := "<init>", desc := "()V" } : Jvm.MethodName)) ∈ tw_Wg := tw_Wg_of (i := 91) (by decide +kernel) rfl
theorem tww_92 : (Jvm.Cond.code ({ cls := "TwoWayLines", name := "<init>", desc := "()V" } : Jvm.MethodName) prog_1_method_1_code (1 : Nat) (Option.none : Option Jvm.ClassFile.FieldType)) ∈ tw_Wg := tw_Wg_of (i := 92) (by decide +kernel) rfl
theorem tww_681 : (Jvm.Cond.classLink "TwoWayLinesLaw" (10 : Nat) "TwoWayLinesModel") ∈ tw_Wg := tw_Wg_of (i := 681) (by decide +kernel) rfl
theorem tww_682 : (Jvm.Cond.instantiable "TwoWayLinesModel" (31 : Nat)) ∈ tw_Wg := tw_Wg_of (i := 682) (by decide +kernel) rfl
theorem tww_683 : (Jvm.Cond.methodLink "TwoWayLinesLaw" (12 : Nat) ({ cls := "TwoWayLinesModel", name := "<init>", desc := "()V" } : Jvm.MethodName)) ∈ tw_Wg := tw_Wg_of (i := 683) (by decide +kernel) rfl
theorem tww_684 : (Jvm.Cond.instanceMethod ({ cls := "TwoWayLinesModel", name := "<init>", desc := "()V" } : Jvm.MethodName)) ∈ tw_Wg := tw_Wg_of (i := 684) (by decide +kernel) rfl
theorem tww_685 : (Jvm.Cond.code ({ cls := "TwoWayLinesModel", name := "<init>", desc := "()V" } : Jvm.MethodName) prog_11_method_1_code (1 : Nat) (Option.none : Option Jvm.ClassFile.FieldType)) ∈ tw_Wg := tw_Wg_of (i := 685) (by decide +kernel) rfl
def lw_At (p : Program) (s : State) (m : MethodId) (meth : Method) (c : Code) (b L : Nat) (xs : Nat → Int32) : Prop :=
  p.tables.exec = Jvm.exec ∧ c.code = code ∧ meth.sig.returnType = ret ∧ c.maxLocals = 4 ∧ s.vm.findClass R_law = some m.cls ∧ (∀ w ∈ lw_tbl, w.before #[Value.ref b] s = true) ∧ va_X b L xs s s.heap ∧ b < s.heap.size ∧ meth.locks = false ∧ (Jvm.Cond.and given_1 narrow_1).before #[Value.ref b] s = true
theorem tl_nst_0 : Cond.methodLinkNest twR_ma 27 twy_tl_isOpener "TwoWayLines" ∈ lw_tbl := List.mem_of_getElem? (i := 392) (by decide +kernel)
theorem tl_nst_1 : Cond.methodLinkNest twR_ex 90 twy_tl_isOdd "TwoWayLines" ∈ lw_tbl := List.mem_of_getElem? (i := 426) (by decide +kernel)
theorem tl_nst_2 : Cond.methodLinkNest twR_ex 59 twy_tl_isHidden "TwoWayLines" ∈ lw_tbl := List.mem_of_getElem? (i := 415) (by decide +kernel)
theorem tl_nst_3 : Cond.methodLinkNest twR_ex 70 twy_tl_isOpener "TwoWayLines" ∈ lw_tbl := List.mem_of_getElem? (i := 444) (by decide +kernel)
theorem tl_nst_4 : Cond.methodLinkNest twR_le 100 twy_tl_isHidden "TwoWayLines" ∈ lw_tbl := List.mem_of_getElem? (i := 462) (by decide +kernel)
theorem tl_nst_5 : Cond.methodLinkNest twR_le 120 twy_tl_isOpener "TwoWayLines" ∈ lw_tbl := List.mem_of_getElem? (i := 479) (by decide +kernel)
theorem tl_nst_6 : Cond.methodLinkNest twR_le 134 twy_tl_sideOf "TwoWayLines" ∈ lw_tbl := List.mem_of_getElem? (i := 488) (by decide +kernel)
theorem tl_nst_7 : Cond.methodLinkNest twR_se 53 twy_tl_isIsolateMark "TwoWayLines" ∈ lw_tbl := List.mem_of_getElem? (i := 507) (by decide +kernel)
theorem tl_nst_8 : Cond.methodLinkNest twR_le 161 twy_tl_isOdd "TwoWayLines" ∈ lw_tbl := List.mem_of_getElem? (i := 582) (by decide +kernel)
theorem tl_nst_9 : Cond.methodLinkNest twR_sh 40 twy_tl_isIsolateMark "TwoWayLines" ∈ lw_tbl := List.mem_of_getElem? (i := 614) (by decide +kernel)
theorem tl_nst_10 : Cond.methodLinkNest twR_sh 44 twy_tl_isHidden "TwoWayLines" ∈ lw_tbl := List.mem_of_getElem? (i := 615) (by decide +kernel)
theorem tl_nst {args : Array Value} {s : State} (h : ∀ w ∈ lw_tbl, w.before args s = true) : tw_nw tw_Nst s := List.forall_mem_cons.mpr ⟨va_Nw.of rfl (h _ tl_nst_0), List.forall_mem_cons.mpr ⟨va_Nw.of rfl (h _ tl_nst_1), List.forall_mem_cons.mpr ⟨va_Nw.of rfl (h _ tl_nst_2), List.forall_mem_cons.mpr ⟨va_Nw.of rfl (h _ tl_nst_3), List.forall_mem_cons.mpr ⟨va_Nw.of rfl (h _ tl_nst_4), List.forall_mem_cons.mpr ⟨va_Nw.of rfl (h _ tl_nst_5), List.forall_mem_cons.mpr ⟨va_Nw.of rfl (h _ tl_nst_6), List.forall_mem_cons.mpr ⟨va_Nw.of rfl (h _ tl_nst_7), List.forall_mem_cons.mpr ⟨va_Nw.of rfl (h _ tl_nst_8), List.forall_mem_cons.mpr ⟨va_Nw.of rfl (h _ tl_nst_9), List.forall_mem_cons.mpr ⟨va_Nw.of rfl (h _ tl_nst_10), fun _ h => absurd h List.not_mem_nil⟩⟩⟩⟩⟩⟩⟩⟩⟩⟩⟩
theorem tl_nsi_0 : Cond.methodLinkNest twR_le 11 twy_ma_init "TwoWayLines" ∈ lw_tbl := List.mem_of_getElem? (i := 146) (by decide +kernel)
theorem tl_nsi_1 : Cond.methodLinkNest twR_le 34 twy_ex_init "TwoWayLines" ∈ lw_tbl := List.mem_of_getElem? (i := 162) (by decide +kernel)
theorem tl_nsi_2 : Cond.methodLinkNest twR_le 41 twy_se_init "TwoWayLines" ∈ lw_tbl := List.mem_of_getElem? (i := 199) (by decide +kernel)
theorem tl_nsi_3 : Cond.methodLinkNest twR_le 48 twy_br_init "TwoWayLines" ∈ lw_tbl := List.mem_of_getElem? (i := 239) (by decide +kernel)
theorem tl_nsi_4 : Cond.methodLinkNest twR_tl 9 twy_pa_init "TwoWayLines" ∈ lw_tbl := List.mem_of_getElem? (i := 98) (by decide +kernel)
theorem tl_nsi_5 : Cond.methodLinkNest twR_tl 18 twy_le_init "TwoWayLines" ∈ lw_tbl := List.mem_of_getElem? (i := 140) (by decide +kernel)
theorem tl_nsi_6 : Cond.methodLinkNest twR_tl 25 twy_fi_init "TwoWayLines" ∈ lw_tbl := List.mem_of_getElem? (i := 285) (by decide +kernel)
theorem tl_nsi_7 : Cond.methodLinkNest twR_tl 32 twy_sh_init "TwoWayLines" ∈ lw_tbl := List.mem_of_getElem? (i := 313) (by decide +kernel)
theorem tl_nsi {args : Array Value} {s : State} (h : ∀ w ∈ lw_tbl, w.before args s = true) : tw_nw tw_Nsi s := List.forall_mem_cons.mpr ⟨va_Nw.of rfl (h _ tl_nsi_0), List.forall_mem_cons.mpr ⟨va_Nw.of rfl (h _ tl_nsi_1), List.forall_mem_cons.mpr ⟨va_Nw.of rfl (h _ tl_nsi_2), List.forall_mem_cons.mpr ⟨va_Nw.of rfl (h _ tl_nsi_3), List.forall_mem_cons.mpr ⟨va_Nw.of rfl (h _ tl_nsi_4), List.forall_mem_cons.mpr ⟨va_Nw.of rfl (h _ tl_nsi_5), List.forall_mem_cons.mpr ⟨va_Nw.of rfl (h _ tl_nsi_6), List.forall_mem_cons.mpr ⟨va_Nw.of rfl (h _ tl_nsi_7), fun _ h => absurd h List.not_mem_nil⟩⟩⟩⟩⟩⟩⟩⟩
theorem tl_left {α : Type} {a b : List α} {k : Nat} {q : α} (h : a[k]? = some q) : (a ++ b)[k]? = some q := by
  rw [List.getElem?_append_left (List.getElem?_eq_some_iff.mp h).1]; exact h
theorem tl_right {α : Type} {a b : List α} {k : Nat} {q : α} (h : b[k]? = some q) : (a ++ b)[a.length + k]? = some q := by
  rw [List.getElem?_append_right (by omega), show a.length + k - a.length = k by omega]; exact h
theorem tl_wC (cI cZ : ClassId) (u : Nat → Nat) : twx_tl cI cZ u = tw_wl u cI cZ (tw_mC (fun _ => 0) (fun _ => 0) (fun _ => 0) (fun _ => 0) 0 2 (fun _ => 0) (fun _ => 0) (fun _ => 0) (fun _ => 0) (fun _ => 0) 0 (fun _ => 0) (fun _ => 0) (fun _ => 0) (fun _ => 0) (fun _ => 0) 0 0 0 0 (fun _ => 0) (fun _ => 0) (fun _ => 0) 0 0 0 0 (fun _ => 0) (fun _ => 0) (fun _ => 0) (fun _ => 0) (fun _ => 0) 0 (fun _ => 0) (fun _ => 0) (fun _ => 0) 10 1) := rfl
theorem tl_wM (cI cZ : ClassId) (u : Nat → Nat) : twx_mo cI cZ u = tw_wl u cI cZ (tw_mM 2 10 0 (fun _ => 0) (fun _ => 0) (fun _ => 0) (fun _ => 0) 0 0 (fun _ => 0) (fun _ => 0) (fun _ => 0) (fun _ => 0) 0 (fun _ => 0) (fun _ => 0) (fun _ => 0) 0 0 0 0 (fun _ => 0) (fun _ => 0) 0 0 0 (fun _ => 0) 0 (fun _ => 0) (fun _ => 0) (fun _ => 0)) := rfl
theorem tl_okC : ∀ c ∈ (tw_mC (fun _ => 0) (fun _ => 0) (fun _ => 0) (fun _ => 0) 0 2 (fun _ => 0) (fun _ => 0) (fun _ => 0) (fun _ => 0) (fun _ => 0) 0 (fun _ => 0) (fun _ => 0) (fun _ => 0) (fun _ => 0) (fun _ => 0) 0 0 0 0 (fun _ => 0) (fun _ => 0) (fun _ => 0) 0 0 0 0 (fun _ => 0) (fun _ => 0) (fun _ => 0) (fun _ => 0) (fun _ => 0) 0 (fun _ => 0) (fun _ => 0) (fun _ => 0) 10 1), tw_okc c := by
  unfold tw_mC
  simp [tw_okc, tw_okv, tw_rg]
theorem tl_okM : ∀ c ∈ (tw_mM 2 10 0 (fun _ => 0) (fun _ => 0) (fun _ => 0) (fun _ => 0) 0 0 (fun _ => 0) (fun _ => 0) (fun _ => 0) (fun _ => 0) 0 (fun _ => 0) (fun _ => 0) (fun _ => 0) 0 0 0 0 (fun _ => 0) (fun _ => 0) 0 0 0 (fun _ => 0) 0 (fun _ => 0) (fun _ => 0) (fun _ => 0)), tw_okc c := by
  unfold tw_mM
  simp [tw_okc, tw_okv, tw_rg]
set_option maxRecDepth 100000 in
set_option maxHeartbeats 4000000 in
theorem tl_start_open {p : Program} {e : Env} {s : State} {m : MethodId} {below : List Frame} {meth : Method} {c : Code} (l : Launch) {b L : Nat} {xs : Nat → Int32} (hL : L ≤ 2560) (C0 : lw_At p s m meth c b L xs)
  (hloop : ∀ Z : tl_Z, tl_cx Z → tl_ln Z 18 [some (.inr 0), some (.inr 1), some (.inr 2), some (.inl 0)] [] (tw_mC (fun _ => 0) (fun _ => 0) (fun _ => 0) (fun _ => 0) 0 2 (fun _ => 0) (fun _ => 0) (fun _ => 0) (fun _ => 0) (fun _ => 0) 0 (fun _ => 0) (fun _ => 0) (fun _ => 0) (fun _ => 0) (fun _ => 0) 0 0 0 0 (fun _ => 0) (fun _ => 0) (fun _ => 0) 0 0 0 0 (fun _ => 0) (fun _ => 0) (fun _ => 0) (fun _ => 0) (fun _ => 0) 0 (fun _ => 0) (fun _ => 0) (fun _ => 0) 10 1) (tw_mM 2 10 0 (fun _ => 0) (fun _ => 0) (fun _ => 0) (fun _ => 0) 0 0 (fun _ => 0) (fun _ => 0) (fun _ => 0) (fun _ => 0) 0 (fun _ => 0) (fun _ => 0) (fun _ => 0) 0 0 0 0 (fun _ => 0) (fun _ => 0) 0 0 0 (fun _ => 0) 0 (fun _ => 0) (fun _ => 0) (fun _ => 0))) : W p l e room_1 s m #[Value.ref b] below meth c s.heap [] 0 0 (lw_Z below #[Value.ref b] s) (entryFrame m ([Value.ref b] : List Value).toArray 4) := by
  obtain ⟨hx, hb, hr, hml, hown, hts0, hXs, hbl, hlocks, hgv⟩ := C0
  have hts : ∀ w ∈ tw_Wg, w.before #[Value.ref b] s = true := fun w h => hts0 w (tw_Wg_in w h)
  obtain ⟨c0, i0, k0⟩ := u_known (C := twR_tl) (T := twT_tl) (N := 6) hts twin_tl (hts _ tww_89)
  obtain ⟨c1, i1, k1⟩ := u_known (C := twR_pa) (T := twT_pa) (N := 6) hts twin_pa (hts _ tww_97)
  obtain ⟨c2, i2, k2⟩ := u_known (C := twR_le) (T := twT_le) (N := 8) hts twin_le (hts _ tww_139)
  obtain ⟨c3, i3, k3⟩ := u_known (C := twR_ma) (T := twT_ma) (N := 2) hts twin_ma (hts _ tww_145)
  obtain ⟨c4, i4, k4⟩ := u_known (C := twR_ex) (T := twT_ex) (N := 9) hts twin_ex (hts _ tww_161)
  obtain ⟨c5, i5, k5⟩ := u_known (C := twR_se) (T := twT_se) (N := 7) hts twin_se (hts _ tww_198)
  obtain ⟨c6, i6, k6⟩ := u_known (C := twR_br) (T := twT_br) (N := 2) hts twin_br (hts _ tww_238)
  obtain ⟨c7, i7, k7⟩ := u_known (C := twR_fi) (T := twT_fi) (N := 5) hts twin_fi (hts _ tww_284)
  obtain ⟨c8, i8, k8⟩ := u_known (C := twR_sh) (T := twT_sh) (N := 2) hts twin_sh (hts _ tww_312)
  obtain ⟨c9, i9, k9⟩ := u_known (C := twR_mo) (T := twT_mo) (N := 31) hts twin_mo (hts _ tww_682)
  obtain ⟨D, hk1⟩ : ∃ D : va_G, ∀ (c : Nat) (q : vw_C), tw_cls[c]? = some q → u_Kn s q.1 q.2.1 q.2.2 (D.1 c) (D.2 c) := by
    refine ⟨(fun c => ([c0, c1, c2, c3, c4, c5, c6, c7, c8, c9] : List ClassId).getD c 0, fun c => ([i0, i1, i2, i3, i4, i5, i6, i7, i8, i9] : List (Nat → Nat)).getD c (fun _ => 0)), fun c q h => ?_⟩
    match c, h with
    | 0, h => cases h; exact k0
    | 1, h => cases h; exact k1
    | 2, h => cases h; exact k2
    | 3, h => cases h; exact k3
    | 4, h => cases h; exact k4
    | 5, h => cases h; exact k5
    | 6, h => cases h; exact k6
    | 7, h => cases h; exact k7
    | 8, h => cases h; exact k8
    | 9, h => cases h; exact k9
    | n + 10, h => simp at h
  obtain ⟨cI, kcI, compI, nI, mI, tI⟩ := Cond.arrayClass_spec (hts _ tww_137)
  obtain ⟨cZ, kcZ, compZ, nZ, mZ, tZ⟩ := Cond.arrayClass_spec (hts _ tww_196)
  have hK : va_K D tw_cls (tw_ty cI cZ) s := by
    refine ⟨hk1, fun k q hk => ?_⟩
    match k, hk with
    | 0, hk => cases hk; exact ⟨fun n z => ⟨fun k h => (by cases h), kcI, mI, compI, tI⟩, nI⟩
    | 1, hk => cases hk; exact ⟨fun n z => ⟨fun k h => (by cases h), kcZ, mZ, compZ, tZ⟩, nZ⟩
    | n + 2, hk => simp at hk
  have hNst : tw_nw tw_Nst s := tl_nst hts0
  have hNsi : tw_nw tw_Nsi s := tl_nsi hts0
  obtain ⟨ys, hys, rfl⟩ : ∃ ys : Nat → Int, (∀ k, tw_rg (ys k)) ∧ xs = fun k => tw_I (ys k) := ⟨fun k => (xs k).toInt, fun k => tw_rg_of _, by funext k; exact (tw_I_of _).symm⟩
  have hl := lv_entry ([Value.ref b]) (n := 4) (Nat.le_of_ble_eq_true rfl)
  rw [lg_entry_eq]
  generalize (lg_sl ([Value.ref b]) ++ List.replicate (4 - (lg_sl ([Value.ref b])).length) Slot.unset).toArray = ls at hl ⊢
  have hl : lv_has ls 4 [(0, .ref b)] := hl
  have hA : ∀ q : Nat, s.heap.size ≤ q → tl_A s q := fun q h => h
  have hS : va_S (tl_A s) s.heap s.heap [] := va_S.rf
  have hP : va_P D tw_cls [] s.heap := fun k q h => by simp at h
  have hD : va_D (tl_A s) [] := ⟨fun i j p q h => by simp at h, fun k q h => by simp at h⟩
  refine va_new (D := D) (ci := 0) (fs := [.null, .null, .null, .null, .int (tw_I 0), .int (tw_I 0)]) (C := twR_tl) (T := twT_tl) (N := 6) hx hb hts twin_tl twt_tl twtok_tl hown (hts _ tww_88) (hts _ tww_89) (hts _ tww_77) hK hP hD hS hA rfl (fun j hj => by rcases (show j = 0 ∨ j = 1 ∨ j = 2 ∨ j = 3 ∨ j = 4 ∨ j = 5 by omega) with rfl | rfl | rfl | rfl | rfl | rfl <;> rfl) (Nat.le_of_ble_eq_true rfl) (Nat.le_of_ble_eq_true rfl) twd_law_0 (fun q0 H hP hD hS => ?_)
  have hP : va_P D tw_cls [(q0, .inr (0, [.null, .null, .null, .null, .int (tw_I 0), .int (tw_I 0)]))] H := hP
  have hD : va_D (tl_A s) [(q0, .inr (0, [.null, .null, .null, .null, .int (tw_I 0), .int (tw_I 0)]))] := hD
  refine lv_dup hx hb twd_law_3 rfl ?_
  have hPc := hP.sub (ws' := [(q0, .inr (0, [.null, .null, .null, .null, .int (tw_I 0), .int (tw_I 0)]))]) [0] rfl
  have hDc := hD.sub (ws' := [(q0, .inr (0, [.null, .null, .null, .null, .int (tw_I 0), .int (tw_I 0)]))]) [0] (by decide) rfl
  have hFc := va_free (wc := [(q0, .inr (0, [.null, .null, .null, .null, .int (tw_I 0), .int (tw_I 0)]))]) hD hS hA [0] rfl
  refine va_callv (va_runI (As := []) (n := 0) (rest := [.ref q0]) ⟨hx, hb, hml, hown, hts⟩ (twi_tl (l := l) (D := D) (cI := cI) (cZ := cZ) q0 H.size) (cwI 0 hts (tw_gi tw_good tww_92) rfl rfl rfl (hts _ tww_77) (hts _ tww_90) (hts _ tww_91) rfl twk_tl_init ⟨Nat.le_of_ble_eq_true rfl, Nat.le_of_ble_eq_true rfl⟩) ⟨fun a U g mk q => by obtain ⟨g0, g1, gP, gK, gD, gN⟩ := q; exact ⟨g0, g1, gP, va_K.moved (u := U) (U := U.calling g mk a) (Vm.Alike.refl U.vm) gK, gD, tw_nw.same rfl gN⟩, fun U hU hW => ⟨rfl, by rw [hU], by rw [hU]; exact hPc, va_K.moved hW.alike hK, hDc.weaken (fun _ _ _ _ => trivial), tw_nw.warm hW hNsi⟩⟩ rfl rfl hl.1 rfl (lv_room (Nat.le_of_ble_eq_true rfl)) twd_law_4 ⟨Nat.le_of_ble_eq_true rfl, Nat.le_of_ble_eq_true rfl⟩) hS (fun q _ h => hFc q h) hFc (fun u1 t H1 locs ht hvm hw hB hz1 hk1 hS => ?_)
  obtain ⟨hP1, hK1, hD1⟩ := hB
  rw [ht] at hP1
  have hw : u1 0 = q0 := hw
  subst hw
  obtain ⟨hP, hD⟩ := va_join (wr := []) (w1 := twx_tl cI cZ u1) hP hD [0] [] rfl rfl (by decide) (by decide) hk1 hFc hP1 hD1
  generalize H1 = H at hP hS ⊢
  have hP : va_P D tw_cls (twx_tl cI cZ u1) H := hP
  have hD : va_D (tl_A s) (twx_tl cI cZ u1) := hD
  refine lv_astore_n hx hb twd_law_7 rfl hl (by decide) rfl (fun ls hl => ?_)
  have hl : lv_has ls 4 [(1, .ref (u1 0)), (0, .ref b)] := hl
  refine va_new (D := D) (ci := 9) (fs := [.int (tw_I 0), .int (tw_I 0), .int (tw_I 0), .null, .null, .null, .null, .int (tw_I 0), .int (tw_I 0), .null, .null, .null, .null, .int (tw_I 0), .null, .null, .null, .int (tw_I 0), .int (tw_I 0), .int (tw_I 0), .int (tw_I 0), .null, .null, .int (tw_I 0), .int (tw_I 0), .int (tw_I 0), .null, .int (tw_I 0), .null, .null, .null]) (C := twR_mo) (T := twT_mo) (N := 31) hx hb hts twin_mo twt_mo twtok_mo hown (hts _ tww_681) (hts _ tww_682) (hts _ tww_86) hK hP hD hS hA rfl (fun j hj => by rcases (show j = 0 ∨ j = 1 ∨ j = 2 ∨ j = 3 ∨ j = 4 ∨ j = 5 ∨ j = 6 ∨ j = 7 ∨ j = 8 ∨ j = 9 ∨ j = 10 ∨ j = 11 ∨ j = 12 ∨ j = 13 ∨ j = 14 ∨ j = 15 ∨ j = 16 ∨ j = 17 ∨ j = 18 ∨ j = 19 ∨ j = 20 ∨ j = 21 ∨ j = 22 ∨ j = 23 ∨ j = 24 ∨ j = 25 ∨ j = 26 ∨ j = 27 ∨ j = 28 ∨ j = 29 ∨ j = 30 by omega) with rfl | rfl | rfl | rfl | rfl | rfl | rfl | rfl | rfl | rfl | rfl | rfl | rfl | rfl | rfl | rfl | rfl | rfl | rfl | rfl | rfl | rfl | rfl | rfl | rfl | rfl | rfl | rfl | rfl | rfl | rfl <;> rfl) (Nat.le_of_ble_eq_true rfl) (Nat.le_of_ble_eq_true rfl) twd_law_8 (fun q8 H hP hD hS => ?_)
  have hP : va_P D tw_cls (twx_tl cI cZ u1 ++ [(q8, .inr (9, [.int (tw_I 0), .int (tw_I 0), .int (tw_I 0), .null, .null, .null, .null, .int (tw_I 0), .int (tw_I 0), .null, .null, .null, .null, .int (tw_I 0), .null, .null, .null, .int (tw_I 0), .int (tw_I 0), .int (tw_I 0), .int (tw_I 0), .null, .null, .int (tw_I 0), .int (tw_I 0), .int (tw_I 0), .null, .int (tw_I 0), .null, .null, .null]))]) H := hP
  have hD : va_D (tl_A s) (twx_tl cI cZ u1 ++ [(q8, .inr (9, [.int (tw_I 0), .int (tw_I 0), .int (tw_I 0), .null, .null, .null, .null, .int (tw_I 0), .int (tw_I 0), .null, .null, .null, .null, .int (tw_I 0), .null, .null, .null, .int (tw_I 0), .int (tw_I 0), .int (tw_I 0), .int (tw_I 0), .null, .null, .int (tw_I 0), .int (tw_I 0), .int (tw_I 0), .null, .int (tw_I 0), .null, .null, .null]))]) := hD
  refine lv_dup hx hb twd_law_11 rfl ?_
  have hPc := hP.sub (ws' := [(q8, .inr (9, [.int (tw_I 0), .int (tw_I 0), .int (tw_I 0), .null, .null, .null, .null, .int (tw_I 0), .int (tw_I 0), .null, .null, .null, .null, .int (tw_I 0), .null, .null, .null, .int (tw_I 0), .int (tw_I 0), .int (tw_I 0), .int (tw_I 0), .null, .null, .int (tw_I 0), .int (tw_I 0), .int (tw_I 0), .null, .int (tw_I 0), .null, .null, .null]))]) [34] rfl
  have hDc := hD.sub (ws' := [(q8, .inr (9, [.int (tw_I 0), .int (tw_I 0), .int (tw_I 0), .null, .null, .null, .null, .int (tw_I 0), .int (tw_I 0), .null, .null, .null, .null, .int (tw_I 0), .null, .null, .null, .int (tw_I 0), .int (tw_I 0), .int (tw_I 0), .int (tw_I 0), .null, .null, .int (tw_I 0), .int (tw_I 0), .int (tw_I 0), .null, .int (tw_I 0), .null, .null, .null]))]) [34] (by decide) rfl
  have hFc := va_free (wc := [(q8, .inr (9, [.int (tw_I 0), .int (tw_I 0), .int (tw_I 0), .null, .null, .null, .null, .int (tw_I 0), .int (tw_I 0), .null, .null, .null, .null, .int (tw_I 0), .null, .null, .null, .int (tw_I 0), .int (tw_I 0), .int (tw_I 0), .int (tw_I 0), .null, .null, .int (tw_I 0), .int (tw_I 0), .int (tw_I 0), .null, .int (tw_I 0), .null, .null, .null]))]) hD hS hA [34] rfl
  refine va_callv (va_runI (As := []) (n := 0) (rest := [.ref q8]) ⟨hx, hb, hml, hown, hts⟩ (twi_mo (l := l) (D := D) (cI := cI) (cZ := cZ) q8 H.size) (cwI 0 hts (tw_gi tw_good tww_685) rfl rfl rfl (hts _ tww_86) (hts _ tww_683) (hts _ tww_684) rfl twk_mo_init ⟨Nat.le_of_ble_eq_true rfl, Nat.le_of_ble_eq_true rfl⟩) ⟨fun a U g mk q => by obtain ⟨g0, g1, gP, gK, gD, gN⟩ := q; exact ⟨g0, g1, gP, va_K.moved (u := U) (U := U.calling g mk a) (Vm.Alike.refl U.vm) gK, gD, tw_nw.same rfl gN⟩, fun U hU hW => ⟨rfl, by rw [hU], by rw [hU]; exact hPc, va_K.moved hW.alike hK, hDc.weaken (fun _ _ _ _ => trivial), tw_nw.warm hW hNsi⟩⟩ rfl rfl hl.1 rfl (lv_room (Nat.le_of_ble_eq_true rfl)) twd_law_12 ⟨Nat.le_of_ble_eq_true rfl, Nat.le_of_ble_eq_true rfl⟩) hS (fun q _ h => hFc q h) hFc (fun u2 t H1 locs ht hvm hw hB hz1 hk1 hS => ?_)
  obtain ⟨hP1, hK1, hD1⟩ := hB
  rw [ht] at hP1
  have hw : u2 0 = q8 := hw
  subst hw
  obtain ⟨hP, hD⟩ := va_join (wr := twx_tl cI cZ u1) (w1 := twx_mo cI cZ u2) hP hD [34] [0, 1, 2, 3, 4, 5, 6, 7, 8, 9, 10, 11, 12, 13, 14, 15, 16, 17, 18, 19, 20, 21, 22, 23, 24, 25, 26, 27, 28, 29, 30, 31, 32, 33] rfl rfl (by decide) (by decide) hk1 hFc hP1 hD1
  generalize H1 = H at hP hS ⊢
  rw [tl_wC, tl_wM] at hP hD
  refine lv_astore_n hx hb twd_law_15 rfl hl (by decide) rfl (fun ls hl => ?_)
  have hl : lv_has ls 4 [(2, .ref (u2 0)), (1, .ref (u1 0)), (0, .ref b)] := hl
  refine lv_iconst (v := tw_I 0) hx hb twd_law_16 (by decide +kernel) ?_
  refine lv_istore_n hx hb twd_law_17 rfl hl (by decide) rfl (fun ls hl => ?_)
  have hl : lv_has ls 4 [(3, .int (tw_I 0)), (2, .ref (u2 0)), (1, .ref (u1 0)), (0, .ref b)] := hl
  have hN1 : ((tw_mC (fun _ => 0) (fun _ => 0) (fun _ => 0) (fun _ => 0) 0 2 (fun _ => 0) (fun _ => 0) (fun _ => 0) (fun _ => 0) (fun _ => 0) 0 (fun _ => 0) (fun _ => 0) (fun _ => 0) (fun _ => 0) (fun _ => 0) 0 0 0 0 (fun _ => 0) (fun _ => 0) (fun _ => 0) 0 0 0 0 (fun _ => 0) (fun _ => 0) (fun _ => 0) (fun _ => 0) (fun _ => 0) 0 (fun _ => 0) (fun _ => 0) (fun _ => 0) 10 1) : List tw_c).length = 34 := rfl
  have hN2 : ((tw_mM 2 10 0 (fun _ => 0) (fun _ => 0) (fun _ => 0) (fun _ => 0) 0 0 (fun _ => 0) (fun _ => 0) (fun _ => 0) (fun _ => 0) 0 (fun _ => 0) (fun _ => 0) (fun _ => 0) 0 0 0 0 (fun _ => 0) (fun _ => 0) 0 0 0 (fun _ => 0) 0 (fun _ => 0) (fun _ => 0) (fun _ => 0)) : List tw_c).length = 18 := rfl
  have hlen : (tw_wl u1 cI cZ (tw_mC (fun _ => 0) (fun _ => 0) (fun _ => 0) (fun _ => 0) 0 2 (fun _ => 0) (fun _ => 0) (fun _ => 0) (fun _ => 0) (fun _ => 0) 0 (fun _ => 0) (fun _ => 0) (fun _ => 0) (fun _ => 0) (fun _ => 0) 0 0 0 0 (fun _ => 0) (fun _ => 0) (fun _ => 0) 0 0 0 0 (fun _ => 0) (fun _ => 0) (fun _ => 0) (fun _ => 0) (fun _ => 0) 0 (fun _ => 0) (fun _ => 0) (fun _ => 0) 10 1)).length = 34 := rfl
  have hap : ∀ i, i < 34 → ∀ j, j < 18 → u1 i ≠ u2 j := fun i hi j hj h9 => by
    have e1 := tw_wl_at (ad := u1) (cI := cI) (cZ := cZ) (List.getElem?_eq_getElem (l := (tw_mC (fun _ => 0) (fun _ => 0) (fun _ => 0) (fun _ => 0) 0 2 (fun _ => 0) (fun _ => 0) (fun _ => 0) (fun _ => 0) (fun _ => 0) 0 (fun _ => 0) (fun _ => 0) (fun _ => 0) (fun _ => 0) (fun _ => 0) 0 0 0 0 (fun _ => 0) (fun _ => 0) (fun _ => 0) 0 0 0 0 (fun _ => 0) (fun _ => 0) (fun _ => 0) (fun _ => 0) (fun _ => 0) 0 (fun _ => 0) (fun _ => 0) (fun _ => 0) 10 1)) (i := i) (by rw [hN1]; exact hi))
    have e2 := tw_wl_at (ad := u2) (cI := cI) (cZ := cZ) (List.getElem?_eq_getElem (l := (tw_mM 2 10 0 (fun _ => 0) (fun _ => 0) (fun _ => 0) (fun _ => 0) 0 0 (fun _ => 0) (fun _ => 0) (fun _ => 0) (fun _ => 0) 0 (fun _ => 0) (fun _ => 0) (fun _ => 0) 0 0 0 0 (fun _ => 0) (fun _ => 0) 0 0 0 (fun _ => 0) 0 (fun _ => 0) (fun _ => 0) (fun _ => 0))) (i := j) (by rw [hN2]; exact hj))
    have e3 := hD.1 _ _ _ _ (tl_left e1) (tl_right e2) h9
    rw [hlen] at e3
    omega
  have hw : tl_w D u1 u2 cI cZ s H locs (tw_mC (fun _ => 0) (fun _ => 0) (fun _ => 0) (fun _ => 0) 0 2 (fun _ => 0) (fun _ => 0) (fun _ => 0) (fun _ => 0) (fun _ => 0) 0 (fun _ => 0) (fun _ => 0) (fun _ => 0) (fun _ => 0) (fun _ => 0) 0 0 0 0 (fun _ => 0) (fun _ => 0) (fun _ => 0) 0 0 0 0 (fun _ => 0) (fun _ => 0) (fun _ => 0) (fun _ => 0) (fun _ => 0) 0 (fun _ => 0) (fun _ => 0) (fun _ => 0) 10 1) (tw_mM 2 10 0 (fun _ => 0) (fun _ => 0) (fun _ => 0) (fun _ => 0) 0 0 (fun _ => 0) (fun _ => 0) (fun _ => 0) (fun _ => 0) 0 (fun _ => 0) (fun _ => 0) (fun _ => 0) 0 0 0 0 (fun _ => 0) (fun _ => 0) 0 0 0 (fun _ => 0) 0 (fun _ => 0) (fun _ => 0) (fun _ => 0)) := ⟨fun k q h => hP k q (tl_left h), fun k q h => hP _ q (tl_right h), ⟨fun i j x y h1 h2 h3 => hD.1 i j x y (tl_left h1) (tl_left h2) h3, fun k q h => hD.2 k q (tl_left h)⟩, ⟨fun i j x y h1 h2 h3 => by have := hD.1 _ _ x y (tl_right h1) (tl_right h2) h3; omega, fun k q h => hD.2 _ q (tl_right h)⟩, hS, tl_okC, tl_okM, hN1, hN2⟩
  have hlr : tw_lr (tl_al b u1 u2) ls c.maxLocals [some (.inr 0), some (.inr 1), some (.inr 2), some (.inl 0)] := ⟨by rw [hml]; exact hl.1, hl.2.1, fun i v h => by
    match i, h with
    | 0, h => cases h; exact lv_at hl 3 rfl
    | 1, h => cases h; exact lv_at hl 2 rfl
    | 2, h => cases h; exact lv_at hl 1 rfl
    | 3, h => cases h; exact lv_at hl 0 rfl
    | n + 4, h => simp at h⟩
  have hZ : tl_cx (p, l, e, s, m, below, meth, c, b, L, ys, D, u1, u2, cI, cZ) := ⟨hx, hb, hown, hts, hK, hr, hlocks, hml, hNst, hXs, hbl, hys, hL, hap⟩
  refine hloop _ hZ (fun i v h => ?_) (fun v h => by cases h) H locs ls hw hlr
  match i, h with
  | 0, h => cases h; exact trivial
  | 1, h => cases h; exact trivial
  | 2, h => cases h; exact trivial
  | 3, h => cases h; exact tw_rg0
  | n + 4, h => simp at h
