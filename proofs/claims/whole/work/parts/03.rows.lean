section TWROWS
variable {Y : tw_Y} {Z : tw_Z} {Post : tw_P} {pc : Nat} {L L' : List (Option tw_v)} {S : List tw_v} {mem mem' : List tw_c} {cc : ByteArray} {own : String} {Ts : List Cond} {ret : Option FieldType} {d nL : Nat}
theorem tw_iconst {n : Int} (hX : tw_cx Y Z cc own Ts ret d nL) (hd : decode cc pc = .ok (.iconst n, 1)) (hn : tw_rg n) (k : tw_rn Y Z Post (pc + 1) L (.inl n :: S) mem) : tw_rn Y Z Post pc L (S) mem := by
  obtain ⟨l, D, cl, ad, N, cI, cZ, Ns⟩ := Y
  obtain ⟨p, e, R, s, m, args, below, meth, c⟩ := Z
  obtain ⟨hx, hb, ho, hts, hK, hret, hlk, hR, hnL, hNs⟩ := hX
  intro hL hS hM hN H locs ls hP hD hSt hl
  exact lv_iconst hx hb hd rfl (k hL (List.forall_mem_cons.mpr ⟨hn, hS⟩) hM hN H locs ls hP hD hSt hl)
theorem tw_bipush {n : Int} (hX : tw_cx Y Z cc own Ts ret d nL) (hd : decode cc pc = .ok (.bipush n, 2)) (hv : (Int8.ofInt n).toInt32 = tw_I n) (hn : tw_rg n) (k : tw_rn Y Z Post (pc + 2) L (.inl n :: S) mem) : tw_rn Y Z Post pc L (S) mem := by
  obtain ⟨l, D, cl, ad, N, cI, cZ, Ns⟩ := Y
  obtain ⟨p, e, R, s, m, args, below, meth, c⟩ := Z
  obtain ⟨hx, hb, ho, hts, hK, hret, hlk, hR, hnL, hNs⟩ := hX
  intro hL hS hM hN H locs ls hP hD hSt hl
  exact lv_bipush hx hb hd hv (k hL (List.forall_mem_cons.mpr ⟨hn, hS⟩) hM hN H locs ls hP hD hSt hl)
theorem tw_iload_n {j : Fin 4} {i : Nat} {z : Int} (hX : tw_cx Y Z cc own Ts ret d nL) (hd : decode cc pc = .ok (.iload_n j, 1)) (hi : (j : Nat) = i) (h0 : L[i]? = some (some (.inl z))) (k : tw_rn Y Z Post (pc + 1) L (.inl z :: S) mem) : tw_rn Y Z Post pc L (S) mem := by
  obtain ⟨l, D, cl, ad, N, cI, cZ, Ns⟩ := Y
  obtain ⟨p, e, R, s, m, args, below, meth, c⟩ := Z
  obtain ⟨hx, hb, ho, hts, hK, hret, hlk, hR, hnL, hNs⟩ := hX
  intro hL hS hM hN H locs ls hP hD hSt hl
  exact lv_iload_n hx hb hd hi (hl.2.2 i (.inl z) h0) (k hL (List.forall_mem_cons.mpr ⟨hL i _ h0, hS⟩) hM hN H locs ls hP hD hSt hl)
theorem tw_iload {i : Nat} {z : Int} (hX : tw_cx Y Z cc own Ts ret d nL) (hd : decode cc pc = .ok (.iload i, 2)) (h0 : L[i]? = some (some (.inl z))) (k : tw_rn Y Z Post (pc + 2) L (.inl z :: S) mem) : tw_rn Y Z Post pc L (S) mem := by
  obtain ⟨l, D, cl, ad, N, cI, cZ, Ns⟩ := Y
  obtain ⟨p, e, R, s, m, args, below, meth, c⟩ := Z
  obtain ⟨hx, hb, ho, hts, hK, hret, hlk, hR, hnL, hNs⟩ := hX
  intro hL hS hM hN H locs ls hP hD hSt hl
  exact lv_iload hx hb hd (hl.2.2 i (.inl z) h0) (k hL (List.forall_mem_cons.mpr ⟨hL i _ h0, hS⟩) hM hN H locs ls hP hD hSt hl)
theorem tw_aload_n {j : Fin 4} {i : Nat} {z : Nat} (hX : tw_cx Y Z cc own Ts ret d nL) (hd : decode cc pc = .ok (.aload_n j, 1)) (hi : (j : Nat) = i) (h0 : L[i]? = some (some (.inr z))) (k : tw_rn Y Z Post (pc + 1) L (.inr z :: S) mem) : tw_rn Y Z Post pc L (S) mem := by
  obtain ⟨l, D, cl, ad, N, cI, cZ, Ns⟩ := Y
  obtain ⟨p, e, R, s, m, args, below, meth, c⟩ := Z
  obtain ⟨hx, hb, ho, hts, hK, hret, hlk, hR, hnL, hNs⟩ := hX
  intro hL hS hM hN H locs ls hP hD hSt hl
  exact lv_aload_n hx hb hd hi (hl.2.2 i (.inr z) h0) (k hL (List.forall_mem_cons.mpr ⟨hL i _ h0, hS⟩) hM hN H locs ls hP hD hSt hl)
theorem tw_aload {i : Nat} {z : Nat} (hX : tw_cx Y Z cc own Ts ret d nL) (hd : decode cc pc = .ok (.aload i, 2)) (h0 : L[i]? = some (some (.inr z))) (k : tw_rn Y Z Post (pc + 2) L (.inr z :: S) mem) : tw_rn Y Z Post pc L (S) mem := by
  obtain ⟨l, D, cl, ad, N, cI, cZ, Ns⟩ := Y
  obtain ⟨p, e, R, s, m, args, below, meth, c⟩ := Z
  obtain ⟨hx, hb, ho, hts, hK, hret, hlk, hR, hnL, hNs⟩ := hX
  intro hL hS hM hN H locs ls hP hD hSt hl
  exact lv_aload hx hb hd (hl.2.2 i (.inr z) h0) (k hL (List.forall_mem_cons.mpr ⟨hL i _ h0, hS⟩) hM hN H locs ls hP hD hSt hl)
theorem tw_setl_ok {i : Nat} {v : tw_v} (h : ∀ (i : Nat) (v : tw_v), L[i]? = some (some v) → tw_okv v) (hv : tw_okv v) : ∀ (j : Nat) (w : tw_v), (L.set i (some v))[j]? = some (some w) → tw_okv w := fun j w hj => by
  rw [List.getElem?_set] at hj
  by_cases hij : i = j
  · rw [if_pos hij] at hj
    split at hj
    · cases hj; exact hv
    · cases hj
  · rw [if_neg hij] at hj
    exact h j w hj
theorem tw_istore_n {j : Fin 4} {i : Nat} {z : Int} (hX : tw_cx Y Z cc own Ts ret d nL) (hd : decode cc pc = .ok (.istore_n j, 1)) (hi : (j : Nat) = i) (hn : i < nL) (hL' : L.set i (some (.inl z)) = L') (k : tw_rn Y Z Post (pc + 1) L' S mem) : tw_rn Y Z Post pc L (.inl z :: S) mem := by
  obtain ⟨l, D, cl, ad, N, cI, cZ, Ns⟩ := Y
  obtain ⟨p, e, R, s, m, args, below, meth, c⟩ := Z
  obtain ⟨hx, hb, ho, hts, hK, hret, hlk, hR, hnL, hNs⟩ := hX
  intro hL hS hM hN H locs ls hP hD hSt hl
  subst hL'
  obtain ⟨h1, h2⟩ := List.forall_mem_cons.mp hS
  exact lv_istore_n hx hb hd hi (tw_lr_has hl) (by rw [hnL]; exact hn) rfl (fun ls' h' => k (tw_setl_ok hL h1) h2 hM hN H locs ls' hP hD hSt (tw_lr_set h'))
theorem tw_istore {i : Nat} {z : Int} (hX : tw_cx Y Z cc own Ts ret d nL) (hd : decode cc pc = .ok (.istore i, 2)) (hn : i < nL) (hL' : L.set i (some (.inl z)) = L') (k : tw_rn Y Z Post (pc + 2) L' S mem) : tw_rn Y Z Post pc L (.inl z :: S) mem := by
  obtain ⟨l, D, cl, ad, N, cI, cZ, Ns⟩ := Y
  obtain ⟨p, e, R, s, m, args, below, meth, c⟩ := Z
  obtain ⟨hx, hb, ho, hts, hK, hret, hlk, hR, hnL, hNs⟩ := hX
  intro hL hS hM hN H locs ls hP hD hSt hl
  subst hL'
  obtain ⟨h1, h2⟩ := List.forall_mem_cons.mp hS
  exact lv_istore hx hb hd (tw_lr_has hl) (by rw [hnL]; exact hn) rfl (fun ls' h' => k (tw_setl_ok hL h1) h2 hM hN H locs ls' hP hD hSt (tw_lr_set h'))
theorem tw_astore_n {j : Fin 4} {i : Nat} {z : Nat} (hX : tw_cx Y Z cc own Ts ret d nL) (hd : decode cc pc = .ok (.astore_n j, 1)) (hi : (j : Nat) = i) (hn : i < nL) (hL' : L.set i (some (.inr z)) = L') (k : tw_rn Y Z Post (pc + 1) L' S mem) : tw_rn Y Z Post pc L (.inr z :: S) mem := by
  obtain ⟨l, D, cl, ad, N, cI, cZ, Ns⟩ := Y
  obtain ⟨p, e, R, s, m, args, below, meth, c⟩ := Z
  obtain ⟨hx, hb, ho, hts, hK, hret, hlk, hR, hnL, hNs⟩ := hX
  intro hL hS hM hN H locs ls hP hD hSt hl
  subst hL'
  obtain ⟨h1, h2⟩ := List.forall_mem_cons.mp hS
  exact lv_astore_n hx hb hd hi (tw_lr_has hl) (by rw [hnL]; exact hn) rfl (fun ls' h' => k (tw_setl_ok hL h1) h2 hM hN H locs ls' hP hD hSt (tw_lr_set h'))
theorem tw_astore {i : Nat} {z : Nat} (hX : tw_cx Y Z cc own Ts ret d nL) (hd : decode cc pc = .ok (.astore i, 2)) (hn : i < nL) (hL' : L.set i (some (.inr z)) = L') (k : tw_rn Y Z Post (pc + 2) L' S mem) : tw_rn Y Z Post pc L (.inr z :: S) mem := by
  obtain ⟨l, D, cl, ad, N, cI, cZ, Ns⟩ := Y
  obtain ⟨p, e, R, s, m, args, below, meth, c⟩ := Z
  obtain ⟨hx, hb, ho, hts, hK, hret, hlk, hR, hnL, hNs⟩ := hX
  intro hL hS hM hN H locs ls hP hD hSt hl
  subst hL'
  obtain ⟨h1, h2⟩ := List.forall_mem_cons.mp hS
  exact lv_astore hx hb hd (tw_lr_has hl) (by rw [hnL]; exact hn) rfl (fun ls' h' => k (tw_setl_ok hL h1) h2 hM hN H locs ls' hP hD hSt (tw_lr_set h'))
theorem tw_iinc {i : Nat} {n z : Int} (hX : tw_cx Y Z cc own Ts ret d nL) (hd : decode cc pc = .ok (.iinc i n, 3)) (h0 : L[i]? = some (some (.inl z))) (hn : i < nL) (hr : tw_rg (z + n)) (hL' : L.set i (some (.inl (z + n))) = L') (k : tw_rn Y Z Post (pc + 3) L' S mem) : tw_rn Y Z Post pc L S mem := by
  obtain ⟨l, D, cl, ad, N, cI, cZ, Ns⟩ := Y
  obtain ⟨p, e, R, s, m, args, below, meth, c⟩ := Z
  obtain ⟨hx, hb, ho, hts, hK, hret, hlk, hR, hnL, hNs⟩ := hX
  intro hL hS hM hN H locs ls hP hD hSt hl
  subst hL'
  obtain ⟨j, hj⟩ := List.getElem?_of_mem (tw_prs_mem (ad := ad) (q := (i, tw_cv ad (.inl z))).mpr ⟨.inl z, h0, rfl⟩)
  exact lv_iinc hx hb hd (tw_lr_has hl) hj (tw_I_add z n) (by rw [hnL]; exact hn) rfl (fun ls' h' => k (tw_setl_ok hL hr) hS hM hN H locs ls' hP hD hSt (tw_lr_set (v := .inl (z + n)) h'))
theorem tw_iadd {a b : Int} (hX : tw_cx Y Z cc own Ts ret d nL) (hd : decode cc pc = .ok (.iadd, 1)) (hr : tw_rg (a + b)) (k : tw_rn Y Z Post (pc + 1) L (.inl (a + b) :: S) mem) : tw_rn Y Z Post pc L (.inl b :: .inl a :: S) mem := by
  obtain ⟨l, D, cl, ad, N, cI, cZ, Ns⟩ := Y
  obtain ⟨p, e, R, s, m, args, below, meth, c⟩ := Z
  obtain ⟨hx, hb, ho, hts, hK, hret, hlk, hR, hnL, hNs⟩ := hX
  intro hL hS hM hN H locs ls hP hD hSt hl
  obtain ⟨rb, h1⟩ := List.forall_mem_cons.mp hS
  obtain ⟨ra, h2⟩ := List.forall_mem_cons.mp h1
  have rb : tw_rg b := rb
  have ra : tw_rg a := ra
  refine lv_iadd hx hb hd ?_
  rw [tw_I_add a b]
  exact k hL (List.forall_mem_cons.mpr ⟨hr, h2⟩) hM hN H locs ls hP hD hSt hl
theorem tw_isub {a b : Int} (hX : tw_cx Y Z cc own Ts ret d nL) (hd : decode cc pc = .ok (.isub, 1)) (hr : tw_rg (a - b)) (k : tw_rn Y Z Post (pc + 1) L (.inl (a - b) :: S) mem) : tw_rn Y Z Post pc L (.inl b :: .inl a :: S) mem := by
  obtain ⟨l, D, cl, ad, N, cI, cZ, Ns⟩ := Y
  obtain ⟨p, e, R, s, m, args, below, meth, c⟩ := Z
  obtain ⟨hx, hb, ho, hts, hK, hret, hlk, hR, hnL, hNs⟩ := hX
  intro hL hS hM hN H locs ls hP hD hSt hl
  obtain ⟨rb, h1⟩ := List.forall_mem_cons.mp hS
  obtain ⟨ra, h2⟩ := List.forall_mem_cons.mp h1
  have rb : tw_rg b := rb
  have ra : tw_rg a := ra
  refine lv_isub hx hb hd ?_
  rw [tw_I_sub a b]
  exact k hL (List.forall_mem_cons.mpr ⟨hr, h2⟩) hM hN H locs ls hP hD hSt hl
theorem tw_idiv {a b : Int} (hX : tw_cx Y Z cc own Ts ret d nL) (hd : decode cc pc = .ok (.idiv, 1)) (h0 : 0 ≤ a) (hp : 0 < b) (k : tw_rn Y Z Post (pc + 1) L (.inl (a / b) :: S) mem) : tw_rn Y Z Post pc L (.inl b :: .inl a :: S) mem := by
  obtain ⟨l, D, cl, ad, N, cI, cZ, Ns⟩ := Y
  obtain ⟨p, e, R, s, m, args, below, meth, c⟩ := Z
  obtain ⟨hx, hb, ho, hts, hK, hret, hlk, hR, hnL, hNs⟩ := hX
  intro hL hS hM hN H locs ls hP hD hSt hl
  obtain ⟨rb, h1⟩ := List.forall_mem_cons.mp hS
  obtain ⟨ra, h2⟩ := List.forall_mem_cons.mp h1
  have rb : tw_rg b := rb
  have ra : tw_rg a := ra
  refine lv_idiv hx hb hd (tw_I_ne0 rb hp) ?_
  rw [tw_I_div ra rb h0 hp]
  exact k hL (List.forall_mem_cons.mpr ⟨tw_rg_div ra h0 hp, h2⟩) hM hN H locs ls hP hD hSt hl
theorem tw_irem {a b : Int} (hX : tw_cx Y Z cc own Ts ret d nL) (hd : decode cc pc = .ok (.irem, 1)) (h0 : 0 ≤ a) (hp : 0 < b) (k : tw_rn Y Z Post (pc + 1) L (.inl (a % b) :: S) mem) : tw_rn Y Z Post pc L (.inl b :: .inl a :: S) mem := by
  obtain ⟨l, D, cl, ad, N, cI, cZ, Ns⟩ := Y
  obtain ⟨p, e, R, s, m, args, below, meth, c⟩ := Z
  obtain ⟨hx, hb, ho, hts, hK, hret, hlk, hR, hnL, hNs⟩ := hX
  intro hL hS hM hN H locs ls hP hD hSt hl
  obtain ⟨rb, h1⟩ := List.forall_mem_cons.mp hS
  obtain ⟨ra, h2⟩ := List.forall_mem_cons.mp h1
  have rb : tw_rg b := rb
  have ra : tw_rg a := ra
  refine lv_irem hx hb hd (tw_I_ne0 rb hp) ?_
  rw [tw_I_rem ra rb h0 hp]
  exact k hL (List.forall_mem_cons.mpr ⟨tw_rg_mod rb hp, h2⟩) hM hN H locs ls hP hD hSt hl
theorem tw_iand1 {a : Int} (hX : tw_cx Y Z cc own Ts ret d nL) (hd : decode cc pc = .ok (.iand, 1)) (h0 : 0 ≤ a) (k : tw_rn Y Z Post (pc + 1) L (.inl (a % 2) :: S) mem) : tw_rn Y Z Post pc L (.inl 1 :: .inl a :: S) mem := by
  obtain ⟨l, D, cl, ad, N, cI, cZ, Ns⟩ := Y
  obtain ⟨p, e, R, s, m, args, below, meth, c⟩ := Z
  obtain ⟨hx, hb, ho, hts, hK, hret, hlk, hR, hnL, hNs⟩ := hX
  intro hL hS hM hN H locs ls hP hD hSt hl
  obtain ⟨rb, h1⟩ := List.forall_mem_cons.mp hS
  obtain ⟨ra, h2⟩ := List.forall_mem_cons.mp h1
  have ra : tw_rg a := ra
  refine lv_iand hx hb hd ?_
  rw [tw_I_and1 ra h0]
  exact k hL (List.forall_mem_cons.mpr ⟨tw_rg_mod (b := 2) (by unfold tw_rg; omega) (by omega), h2⟩) hM hN H locs ls hP hD hSt hl
theorem tw_ineg {a : Int} (hX : tw_cx Y Z cc own Ts ret d nL) (hd : decode cc pc = .ok (.ineg, 1)) (hr : tw_rg (-a)) (k : tw_rn Y Z Post (pc + 1) L (.inl (-a) :: S) mem) : tw_rn Y Z Post pc L (.inl a :: S) mem := by
  obtain ⟨l, D, cl, ad, N, cI, cZ, Ns⟩ := Y
  obtain ⟨p, e, R, s, m, args, below, meth, c⟩ := Z
  obtain ⟨hx, hb, ho, hts, hK, hret, hlk, hR, hnL, hNs⟩ := hX
  intro hL hS hM hN H locs ls hP hD hSt hl
  obtain ⟨ra, h2⟩ := List.forall_mem_cons.mp hS
  refine lv_ineg hx hb hd ?_
  rw [tw_I_neg a]
  exact k hL (List.forall_mem_cons.mpr ⟨hr, h2⟩) hM hN H locs ls hP hD hSt hl
theorem tw_dup {x : tw_v} (hX : tw_cx Y Z cc own Ts ret d nL) (hd : decode cc pc = .ok (.dup, 1)) (k : tw_rn Y Z Post (pc + 1) L (x :: x :: S) mem) : tw_rn Y Z Post pc L (x :: S) mem := by
  obtain ⟨l, D, cl, ad, N, cI, cZ, Ns⟩ := Y
  obtain ⟨p, e, R, s, m, args, below, meth, c⟩ := Z
  obtain ⟨hx, hb, ho, hts, hK, hret, hlk, hR, hnL, hNs⟩ := hX
  intro hL hS hM hN H locs ls hP hD hSt hl
  obtain ⟨o0, h0⟩ := List.forall_mem_cons.mp hS
  exact lv_dup hx hb hd (tw_cat ad x) (k hL (List.forall_mem_cons.mpr ⟨o0, (List.forall_mem_cons.mpr ⟨o0, h0⟩)⟩) hM hN H locs ls hP hD hSt hl)
theorem tw_pop {x : tw_v} (hX : tw_cx Y Z cc own Ts ret d nL) (hd : decode cc pc = .ok (.pop, 1)) (k : tw_rn Y Z Post (pc + 1) L (S) mem) : tw_rn Y Z Post pc L (x :: S) mem := by
  obtain ⟨l, D, cl, ad, N, cI, cZ, Ns⟩ := Y
  obtain ⟨p, e, R, s, m, args, below, meth, c⟩ := Z
  obtain ⟨hx, hb, ho, hts, hK, hret, hlk, hR, hnL, hNs⟩ := hX
  intro hL hS hM hN H locs ls hP hD hSt hl
  obtain ⟨o0, h0⟩ := List.forall_mem_cons.mp hS
  exact lv_pop hx hb hd (tw_cat ad x) (k hL h0 hM hN H locs ls hP hD hSt hl)
theorem tw_dup_x1 {x y : tw_v} (hX : tw_cx Y Z cc own Ts ret d nL) (hd : decode cc pc = .ok (.dup_x1, 1)) (k : tw_rn Y Z Post (pc + 1) L (x :: y :: x :: S) mem) : tw_rn Y Z Post pc L (x :: y :: S) mem := by
  obtain ⟨l, D, cl, ad, N, cI, cZ, Ns⟩ := Y
  obtain ⟨p, e, R, s, m, args, below, meth, c⟩ := Z
  obtain ⟨hx, hb, ho, hts, hK, hret, hlk, hR, hnL, hNs⟩ := hX
  intro hL hS hM hN H locs ls hP hD hSt hl
  obtain ⟨o0, h0⟩ := List.forall_mem_cons.mp hS
  obtain ⟨o1, h1⟩ := List.forall_mem_cons.mp h0
  exact lv_dup_x1 hx hb hd (tw_cat ad x) (tw_cat ad y) (k hL (List.forall_mem_cons.mpr ⟨o0, (List.forall_mem_cons.mpr ⟨o1, (List.forall_mem_cons.mpr ⟨o0, h1⟩)⟩)⟩) hM hN H locs ls hP hD hSt hl)
theorem tw_dup2 {x y : tw_v} (hX : tw_cx Y Z cc own Ts ret d nL) (hd : decode cc pc = .ok (.dup2, 1)) (k : tw_rn Y Z Post (pc + 1) L (x :: y :: x :: y :: S) mem) : tw_rn Y Z Post pc L (x :: y :: S) mem := by
  obtain ⟨l, D, cl, ad, N, cI, cZ, Ns⟩ := Y
  obtain ⟨p, e, R, s, m, args, below, meth, c⟩ := Z
  obtain ⟨hx, hb, ho, hts, hK, hret, hlk, hR, hnL, hNs⟩ := hX
  intro hL hS hM hN H locs ls hP hD hSt hl
  obtain ⟨o0, h0⟩ := List.forall_mem_cons.mp hS
  obtain ⟨o1, h1⟩ := List.forall_mem_cons.mp h0
  exact lv_dup2_11 hx hb hd (tw_cat ad x) (tw_cat ad y) (k hL (List.forall_mem_cons.mpr ⟨o0, (List.forall_mem_cons.mpr ⟨o1, (List.forall_mem_cons.mpr ⟨o0, (List.forall_mem_cons.mpr ⟨o1, h1⟩)⟩)⟩)⟩) hM hN H locs ls hP hD hSt hl)
theorem tw_icmp_eq {a b off : Int} {tgt : Nat} (hX : tw_cx Y Z cc own Ts ret d nL) (hd : decode cc pc = .ok (.if_icmp .eq off, 3)) (ht : (pc : Int) + off = (tgt : Int)) (kt : a = b → tw_rn Y Z Post tgt L S mem) (kf : ¬ a = b → tw_rn Y Z Post (pc + 3) L S mem) : tw_rn Y Z Post pc L (.inl b :: .inl a :: S) mem := by
  obtain ⟨l, D, cl, ad, N, cI, cZ, Ns⟩ := Y
  obtain ⟨p, e, R, s, m, args, below, meth, c⟩ := Z
  obtain ⟨hx, hb, ho, hts, hK, hret, hlk, hR, hnL, hNs⟩ := hX
  intro hL hS hM hN H locs ls hP hD hSt hl
  obtain ⟨rb, h1⟩ := List.forall_mem_cons.mp hS
  obtain ⟨ra, h2⟩ := List.forall_mem_cons.mp h1
  have rb : tw_rg b := rb
  have ra : tw_rg a := ra
  exact lv_icmp_eq hx hb hd ht (fun h => kt ((tw_I_eq ra rb).mp h) hL h2 hM hN H locs ls hP hD hSt hl) (fun h => kf (fun q => h ((tw_I_eq ra rb).mpr q)) hL h2 hM hN H locs ls hP hD hSt hl)
theorem tw_icmp_ne {a b off : Int} {tgt : Nat} (hX : tw_cx Y Z cc own Ts ret d nL) (hd : decode cc pc = .ok (.if_icmp .ne off, 3)) (ht : (pc : Int) + off = (tgt : Int)) (kt : ¬ a = b → tw_rn Y Z Post tgt L S mem) (kf : a = b → tw_rn Y Z Post (pc + 3) L S mem) : tw_rn Y Z Post pc L (.inl b :: .inl a :: S) mem := by
  obtain ⟨l, D, cl, ad, N, cI, cZ, Ns⟩ := Y
  obtain ⟨p, e, R, s, m, args, below, meth, c⟩ := Z
  obtain ⟨hx, hb, ho, hts, hK, hret, hlk, hR, hnL, hNs⟩ := hX
  intro hL hS hM hN H locs ls hP hD hSt hl
  obtain ⟨rb, h1⟩ := List.forall_mem_cons.mp hS
  obtain ⟨ra, h2⟩ := List.forall_mem_cons.mp h1
  have rb : tw_rg b := rb
  have ra : tw_rg a := ra
  exact lv_icmp_ne hx hb hd ht (fun h => kt (fun q => h ((tw_I_eq ra rb).mpr q)) hL h2 hM hN H locs ls hP hD hSt hl) (fun h => kf ((tw_I_eq ra rb).mp h) hL h2 hM hN H locs ls hP hD hSt hl)
theorem tw_icmp_lt {a b off : Int} {tgt : Nat} (hX : tw_cx Y Z cc own Ts ret d nL) (hd : decode cc pc = .ok (.if_icmp .lt off, 3)) (ht : (pc : Int) + off = (tgt : Int)) (kt : a < b → tw_rn Y Z Post tgt L S mem) (kf : ¬ a < b → tw_rn Y Z Post (pc + 3) L S mem) : tw_rn Y Z Post pc L (.inl b :: .inl a :: S) mem := by
  obtain ⟨l, D, cl, ad, N, cI, cZ, Ns⟩ := Y
  obtain ⟨p, e, R, s, m, args, below, meth, c⟩ := Z
  obtain ⟨hx, hb, ho, hts, hK, hret, hlk, hR, hnL, hNs⟩ := hX
  intro hL hS hM hN H locs ls hP hD hSt hl
  obtain ⟨rb, h1⟩ := List.forall_mem_cons.mp hS
  obtain ⟨ra, h2⟩ := List.forall_mem_cons.mp h1
  have rb : tw_rg b := rb
  have ra : tw_rg a := ra
  exact lv_icmp_lt hx hb hd ht (fun h => kt ((tw_I_lt ra rb).mp h) hL h2 hM hN H locs ls hP hD hSt hl) (fun h => kf (fun q => h ((tw_I_lt ra rb).mpr q)) hL h2 hM hN H locs ls hP hD hSt hl)
theorem tw_icmp_ge {a b off : Int} {tgt : Nat} (hX : tw_cx Y Z cc own Ts ret d nL) (hd : decode cc pc = .ok (.if_icmp .ge off, 3)) (ht : (pc : Int) + off = (tgt : Int)) (kt : b ≤ a → tw_rn Y Z Post tgt L S mem) (kf : ¬ b ≤ a → tw_rn Y Z Post (pc + 3) L S mem) : tw_rn Y Z Post pc L (.inl b :: .inl a :: S) mem := by
  obtain ⟨l, D, cl, ad, N, cI, cZ, Ns⟩ := Y
  obtain ⟨p, e, R, s, m, args, below, meth, c⟩ := Z
  obtain ⟨hx, hb, ho, hts, hK, hret, hlk, hR, hnL, hNs⟩ := hX
  intro hL hS hM hN H locs ls hP hD hSt hl
  obtain ⟨rb, h1⟩ := List.forall_mem_cons.mp hS
  obtain ⟨ra, h2⟩ := List.forall_mem_cons.mp h1
  have rb : tw_rg b := rb
  have ra : tw_rg a := ra
  exact lv_icmp_ge hx hb hd ht (fun h => kt ((tw_I_le rb ra).mp h) hL h2 hM hN H locs ls hP hD hSt hl) (fun h => kf (fun q => h ((tw_I_le rb ra).mpr q)) hL h2 hM hN H locs ls hP hD hSt hl)
theorem tw_icmp_gt {a b off : Int} {tgt : Nat} (hX : tw_cx Y Z cc own Ts ret d nL) (hd : decode cc pc = .ok (.if_icmp .gt off, 3)) (ht : (pc : Int) + off = (tgt : Int)) (kt : b < a → tw_rn Y Z Post tgt L S mem) (kf : ¬ b < a → tw_rn Y Z Post (pc + 3) L S mem) : tw_rn Y Z Post pc L (.inl b :: .inl a :: S) mem := by
  obtain ⟨l, D, cl, ad, N, cI, cZ, Ns⟩ := Y
  obtain ⟨p, e, R, s, m, args, below, meth, c⟩ := Z
  obtain ⟨hx, hb, ho, hts, hK, hret, hlk, hR, hnL, hNs⟩ := hX
  intro hL hS hM hN H locs ls hP hD hSt hl
  obtain ⟨rb, h1⟩ := List.forall_mem_cons.mp hS
  obtain ⟨ra, h2⟩ := List.forall_mem_cons.mp h1
  have rb : tw_rg b := rb
  have ra : tw_rg a := ra
  exact lv_icmp_gt hx hb hd ht (fun h => kt ((tw_I_lt rb ra).mp h) hL h2 hM hN H locs ls hP hD hSt hl) (fun h => kf (fun q => h ((tw_I_lt rb ra).mpr q)) hL h2 hM hN H locs ls hP hD hSt hl)
theorem tw_icmp_le {a b off : Int} {tgt : Nat} (hX : tw_cx Y Z cc own Ts ret d nL) (hd : decode cc pc = .ok (.if_icmp .le off, 3)) (ht : (pc : Int) + off = (tgt : Int)) (kt : a ≤ b → tw_rn Y Z Post tgt L S mem) (kf : ¬ a ≤ b → tw_rn Y Z Post (pc + 3) L S mem) : tw_rn Y Z Post pc L (.inl b :: .inl a :: S) mem := by
  obtain ⟨l, D, cl, ad, N, cI, cZ, Ns⟩ := Y
  obtain ⟨p, e, R, s, m, args, below, meth, c⟩ := Z
  obtain ⟨hx, hb, ho, hts, hK, hret, hlk, hR, hnL, hNs⟩ := hX
  intro hL hS hM hN H locs ls hP hD hSt hl
  obtain ⟨rb, h1⟩ := List.forall_mem_cons.mp hS
  obtain ⟨ra, h2⟩ := List.forall_mem_cons.mp h1
  have rb : tw_rg b := rb
  have ra : tw_rg a := ra
  exact lv_icmp_le hx hb hd ht (fun h => kt ((tw_I_le ra rb).mp h) hL h2 hM hN H locs ls hP hD hSt hl) (fun h => kf (fun q => h ((tw_I_le ra rb).mpr q)) hL h2 hM hN H locs ls hP hD hSt hl)
theorem tw_if_eq {a off : Int} {tgt : Nat} (hX : tw_cx Y Z cc own Ts ret d nL) (hd : decode cc pc = .ok (.ifCond .eq off, 3)) (ht : (pc : Int) + off = (tgt : Int)) (kt : a = 0 → tw_rn Y Z Post tgt L S mem) (kf : ¬ a = 0 → tw_rn Y Z Post (pc + 3) L S mem) : tw_rn Y Z Post pc L (.inl a :: S) mem := by
  obtain ⟨l, D, cl, ad, N, cI, cZ, Ns⟩ := Y
  obtain ⟨p, e, R, s, m, args, below, meth, c⟩ := Z
  obtain ⟨hx, hb, ho, hts, hK, hret, hlk, hR, hnL, hNs⟩ := hX
  intro hL hS hM hN H locs ls hP hD hSt hl
  obtain ⟨ra, h2⟩ := List.forall_mem_cons.mp hS
  have ra : tw_rg a := ra
  exact lv_if_eq hx hb hd ht (fun h => kt ((tw_I_eq0 ra).mp h) hL h2 hM hN H locs ls hP hD hSt hl) (fun h => kf (fun q => h ((tw_I_eq0 ra).mpr q)) hL h2 hM hN H locs ls hP hD hSt hl)
theorem tw_if_ne {a off : Int} {tgt : Nat} (hX : tw_cx Y Z cc own Ts ret d nL) (hd : decode cc pc = .ok (.ifCond .ne off, 3)) (ht : (pc : Int) + off = (tgt : Int)) (kt : ¬ a = 0 → tw_rn Y Z Post tgt L S mem) (kf : a = 0 → tw_rn Y Z Post (pc + 3) L S mem) : tw_rn Y Z Post pc L (.inl a :: S) mem := by
  obtain ⟨l, D, cl, ad, N, cI, cZ, Ns⟩ := Y
  obtain ⟨p, e, R, s, m, args, below, meth, c⟩ := Z
  obtain ⟨hx, hb, ho, hts, hK, hret, hlk, hR, hnL, hNs⟩ := hX
  intro hL hS hM hN H locs ls hP hD hSt hl
  obtain ⟨ra, h2⟩ := List.forall_mem_cons.mp hS
  have ra : tw_rg a := ra
  exact lv_if_ne hx hb hd ht (fun h => kt (fun q => h ((tw_I_eq0 ra).mpr q)) hL h2 hM hN H locs ls hP hD hSt hl) (fun h => kf ((tw_I_eq0 ra).mp h) hL h2 hM hN H locs ls hP hD hSt hl)
theorem tw_if_lt {a off : Int} {tgt : Nat} (hX : tw_cx Y Z cc own Ts ret d nL) (hd : decode cc pc = .ok (.ifCond .lt off, 3)) (ht : (pc : Int) + off = (tgt : Int)) (kt : a < 0 → tw_rn Y Z Post tgt L S mem) (kf : ¬ a < 0 → tw_rn Y Z Post (pc + 3) L S mem) : tw_rn Y Z Post pc L (.inl a :: S) mem := by
  obtain ⟨l, D, cl, ad, N, cI, cZ, Ns⟩ := Y
  obtain ⟨p, e, R, s, m, args, below, meth, c⟩ := Z
  obtain ⟨hx, hb, ho, hts, hK, hret, hlk, hR, hnL, hNs⟩ := hX
  intro hL hS hM hN H locs ls hP hD hSt hl
  obtain ⟨ra, h2⟩ := List.forall_mem_cons.mp hS
  have ra : tw_rg a := ra
  exact lv_if_lt hx hb hd ht (fun h => kt ((tw_I_lt0 ra).mp h) hL h2 hM hN H locs ls hP hD hSt hl) (fun h => kf (fun q => h ((tw_I_lt0 ra).mpr q)) hL h2 hM hN H locs ls hP hD hSt hl)
theorem tw_if_ge {a off : Int} {tgt : Nat} (hX : tw_cx Y Z cc own Ts ret d nL) (hd : decode cc pc = .ok (.ifCond .ge off, 3)) (ht : (pc : Int) + off = (tgt : Int)) (kt : 0 ≤ a → tw_rn Y Z Post tgt L S mem) (kf : ¬ 0 ≤ a → tw_rn Y Z Post (pc + 3) L S mem) : tw_rn Y Z Post pc L (.inl a :: S) mem := by
  obtain ⟨l, D, cl, ad, N, cI, cZ, Ns⟩ := Y
  obtain ⟨p, e, R, s, m, args, below, meth, c⟩ := Z
  obtain ⟨hx, hb, ho, hts, hK, hret, hlk, hR, hnL, hNs⟩ := hX
  intro hL hS hM hN H locs ls hP hD hSt hl
  obtain ⟨ra, h2⟩ := List.forall_mem_cons.mp hS
  have ra : tw_rg a := ra
  exact lv_if_ge hx hb hd ht (fun h => kt ((tw_I_ge0 ra).mp h) hL h2 hM hN H locs ls hP hD hSt hl) (fun h => kf (fun q => h ((tw_I_ge0 ra).mpr q)) hL h2 hM hN H locs ls hP hD hSt hl)
theorem tw_if_gt {a off : Int} {tgt : Nat} (hX : tw_cx Y Z cc own Ts ret d nL) (hd : decode cc pc = .ok (.ifCond .gt off, 3)) (ht : (pc : Int) + off = (tgt : Int)) (kt : 0 < a → tw_rn Y Z Post tgt L S mem) (kf : ¬ 0 < a → tw_rn Y Z Post (pc + 3) L S mem) : tw_rn Y Z Post pc L (.inl a :: S) mem := by
  obtain ⟨l, D, cl, ad, N, cI, cZ, Ns⟩ := Y
  obtain ⟨p, e, R, s, m, args, below, meth, c⟩ := Z
  obtain ⟨hx, hb, ho, hts, hK, hret, hlk, hR, hnL, hNs⟩ := hX
  intro hL hS hM hN H locs ls hP hD hSt hl
  obtain ⟨ra, h2⟩ := List.forall_mem_cons.mp hS
  have ra : tw_rg a := ra
  exact lv_if_gt hx hb hd ht (fun h => kt ((tw_I_gt0 ra).mp h) hL h2 hM hN H locs ls hP hD hSt hl) (fun h => kf (fun q => h ((tw_I_gt0 ra).mpr q)) hL h2 hM hN H locs ls hP hD hSt hl)
theorem tw_if_le {a off : Int} {tgt : Nat} (hX : tw_cx Y Z cc own Ts ret d nL) (hd : decode cc pc = .ok (.ifCond .le off, 3)) (ht : (pc : Int) + off = (tgt : Int)) (kt : a ≤ 0 → tw_rn Y Z Post tgt L S mem) (kf : ¬ a ≤ 0 → tw_rn Y Z Post (pc + 3) L S mem) : tw_rn Y Z Post pc L (.inl a :: S) mem := by
  obtain ⟨l, D, cl, ad, N, cI, cZ, Ns⟩ := Y
  obtain ⟨p, e, R, s, m, args, below, meth, c⟩ := Z
  obtain ⟨hx, hb, ho, hts, hK, hret, hlk, hR, hnL, hNs⟩ := hX
  intro hL hS hM hN H locs ls hP hD hSt hl
  obtain ⟨ra, h2⟩ := List.forall_mem_cons.mp hS
  have ra : tw_rg a := ra
  exact lv_if_le hx hb hd ht (fun h => kt ((tw_I_le0 ra).mp h) hL h2 hM hN H locs ls hP hD hSt hl) (fun h => kf (fun q => h ((tw_I_le0 ra).mpr q)) hL h2 hM hN H locs ls hP hD hSt hl)
theorem tw_goto {off : Int} {tgt : Nat} (hX : tw_cx Y Z cc own Ts ret d nL) (hd : decode cc pc = .ok (.goto off, 3)) (ht : (pc : Int) + off = (tgt : Int)) (k : tw_rn Y Z Post tgt L S mem) : tw_rn Y Z Post pc L S mem := by
  obtain ⟨l, D, cl, ad, N, cI, cZ, Ns⟩ := Y
  obtain ⟨p, e, R, s, m, args, below, meth, c⟩ := Z
  obtain ⟨hx, hb, ho, hts, hK, hret, hlk, hR, hnL, hNs⟩ := hX
  intro hL hS hM hN H locs ls hP hD hSt hl
  exact lv_goto hx hb hd ht (k hL hS hM hN H locs ls hP hD hSt hl)
theorem tw_wk (h : tw_le L' L) (k : tw_rn Y Z Post pc L' S mem) : tw_rn Y Z Post pc L S mem := by
  obtain ⟨l, D, cl, ad, N, cI, cZ, Ns⟩ := Y
  obtain ⟨p, e, R, s, m, args, below, meth, c⟩ := Z
  intro hL hS hM hN H locs ls hP hD hSt hl
  exact k (fun i v hi => hL i v (tw_le_at L' L h i v hi)) hS hM hN H locs ls hP hD hSt ⟨hl.1, hl.2.1, fun i v hi => hl.2.2 i v (tw_le_at L' L h i v hi)⟩
/-- in range, from the walk's own start -/
theorem tw_rgs {a : Int} (k : tw_rg a → tw_rn Y Z Post pc L (.inl a :: S) mem) : tw_rn Y Z Post pc L (.inl a :: S) mem := by
  obtain ⟨l, D, cl, ad, N, cI, cZ, Ns⟩ := Y
  obtain ⟨p, e, R, s, m, args, below, meth, c⟩ := Z
  intro hL hS hM hN H locs ls hP hD hSt hl
  exact k (List.forall_mem_cons.mp hS).1 hL hS hM hN H locs ls hP hD hSt hl
theorem tw_iaload {i : Int} {q n : Nat} {f : Nat → Int} (hX : tw_cx Y Z cc own Ts ret d nL) (hd : decode cc pc = .ok (.iaload, 1)) (hq : mem[q]? = some (.inl (false, n, f))) (h0 : 0 ≤ i ∧ i < (n : Int)) (k : tw_rn Y Z Post (pc + 1) L (.inl (f i.toNat) :: S) mem) : tw_rn Y Z Post pc L (.inl i :: .inr q :: S) mem := by
  obtain ⟨l, D, cl, ad, N, cI, cZ, Ns⟩ := Y
  obtain ⟨p, e, R, s, m, args, below, meth, c⟩ := Z
  obtain ⟨hx, hb, ho, hts, hK, hret, hlk, hR, hnL, hNs⟩ := hX
  intro hL hS hM hN H locs ls hP hD hSt hl
  obtain ⟨ri, h1⟩ := List.forall_mem_cons.mp hS
  obtain ⟨-, h2⟩ := List.forall_mem_cons.mp h1
  have ri : tw_rg i := ri
  refine va_iald hx hb hK hP q 0 (tw_wl_at hq) rfl (tw_I_in ri h0.1 h0.2) hd ?_
  rw [tw_I_cl ri]
  have hf : tw_rg (f i.toNat) := hM _ (List.mem_of_getElem? hq) i.toNat
  exact k hL (List.forall_mem_cons.mpr ⟨hf, h2⟩) hM hN H locs ls hP hD hSt hl
theorem tw_baload {i : Int} {q n : Nat} {f : Nat → Int} (hX : tw_cx Y Z cc own Ts ret d nL) (hd : decode cc pc = .ok (.baload, 1)) (hq : mem[q]? = some (.inl (true, n, f))) (h0 : 0 ≤ i ∧ i < (n : Int)) (k : tw_rn Y Z Post (pc + 1) L (.inl (f i.toNat) :: S) mem) : tw_rn Y Z Post pc L (.inl i :: .inr q :: S) mem := by
  obtain ⟨l, D, cl, ad, N, cI, cZ, Ns⟩ := Y
  obtain ⟨p, e, R, s, m, args, below, meth, c⟩ := Z
  obtain ⟨hx, hb, ho, hts, hK, hret, hlk, hR, hnL, hNs⟩ := hX
  intro hL hS hM hN H locs ls hP hD hSt hl
  obtain ⟨ri, h1⟩ := List.forall_mem_cons.mp hS
  obtain ⟨-, h2⟩ := List.forall_mem_cons.mp h1
  have ri : tw_rg i := ri
  refine va_zald hx hb hK hP q 1 (tw_wl_at hq) rfl (tw_I_in ri h0.1 h0.2) hd ?_
  rw [tw_I_cl ri]
  have hf : tw_rg (f i.toNat) := hM _ (List.mem_of_getElem? hq) i.toNat
  exact k hL (List.forall_mem_cons.mpr ⟨hf, h2⟩) hM hN H locs ls hP hD hSt hl
theorem tw_iastore {i x : Int} {q n : Nat} {f : Nat → Int} (hX : tw_cx Y Z cc own Ts ret d nL) (hd : decode cc pc = .ok (.iastore, 1)) (hq : mem[q]? = some (.inl (false, n, f))) (h0 : 0 ≤ i ∧ i < (n : Int)) (hm : mem.set q (.inl (false, n, tw_up f i.toNat x)) = mem') (k : tw_rn Y Z Post (pc + 1) L S mem') : tw_rn Y Z Post pc L (.inl x :: .inl i :: .inr q :: S) mem := by
  obtain ⟨l, D, cl, ad, N, cI, cZ, Ns⟩ := Y
  obtain ⟨p, e, R, s, m, args, below, meth, c⟩ := Z
  obtain ⟨hx, hb, ho, hts, hK, hret, hlk, hR, hnL, hNs⟩ := hX
  intro hL hS hM hN H locs ls hP hD hSt hl
  subst hm
  obtain ⟨rx, h1⟩ := List.forall_mem_cons.mp hS
  obtain ⟨ri, h2⟩ := List.forall_mem_cons.mp h1
  obtain ⟨-, h3⟩ := List.forall_mem_cons.mp h2
  have ri : tw_rg i := ri
  have rx : tw_rg x := rx
  have hf : ∀ j, tw_rg (f j) := hM _ (List.mem_of_getElem? hq)
  refine va_iast hx hb hK hP hD hSt q 0 (tw_wl_at hq) rfl (tw_I_in ri h0.1 h0.2) hd (fun H1 locs1 hP1 hD1 hS1 => ?_)
  rw [tw_I_cl ri, tw_up_I] at hP1 hD1
  have e1 : (tw_wl ad cI cZ mem).set q (ad q, .inl (cI, n, .inl fun j => tw_I (tw_up f i.toNat x j))) = tw_wl ad cI cZ (mem.set q (.inl (false, n, tw_up f i.toNat x))) := tw_wl_set (c := .inl (false, n, tw_up f i.toNat x))
  have hP1 := e1 ▸ hP1
  have hD1 := e1 ▸ hD1
  exact k hL h3 (tw_set_ok hM (tw_up_ok hf rx)) (by rw [List.length_set]; exact hN) H1 locs1 ls hP1 hD1 hS1 hl
theorem tw_nz {x : Int} (h : 0 ≤ x ∧ x ≤ 1) : vp_nar .boolean (tw_I x) = tw_I x := by
  rcases (by omega : x = 0 ∨ x = 1) with rfl | rfl <;> rfl
theorem tw_bastore {i x : Int} {q n : Nat} {f : Nat → Int} (hX : tw_cx Y Z cc own Ts ret d nL) (hd : decode cc pc = .ok (.bastore, 1)) (hq : mem[q]? = some (.inl (true, n, f))) (h0 : 0 ≤ i ∧ i < (n : Int)) (hz : 0 ≤ x ∧ x ≤ 1) (hm : mem.set q (.inl (true, n, tw_up f i.toNat x)) = mem') (k : tw_rn Y Z Post (pc + 1) L S mem') : tw_rn Y Z Post pc L (.inl x :: .inl i :: .inr q :: S) mem := by
  obtain ⟨l, D, cl, ad, N, cI, cZ, Ns⟩ := Y
  obtain ⟨p, e, R, s, m, args, below, meth, c⟩ := Z
  obtain ⟨hx, hb, ho, hts, hK, hret, hlk, hR, hnL, hNs⟩ := hX
  intro hL hS hM hN H locs ls hP hD hSt hl
  subst hm
  obtain ⟨rx, h1⟩ := List.forall_mem_cons.mp hS
  obtain ⟨ri, h2⟩ := List.forall_mem_cons.mp h1
  obtain ⟨-, h3⟩ := List.forall_mem_cons.mp h2
  have ri : tw_rg i := ri
  have rx : tw_rg x := rx
  have hf : ∀ j, tw_rg (f j) := hM _ (List.mem_of_getElem? hq)
  refine va_zast hx hb hK hP hD hSt q 1 (tw_wl_at hq) rfl (tw_I_in ri h0.1 h0.2) hd (fun H1 locs1 hP1 hD1 hS1 => ?_)
  rw [tw_I_cl ri, tw_nz hz, tw_up_I] at hP1 hD1
  have e1 : (tw_wl ad cI cZ mem).set q (ad q, .inl (cZ, n, .inl fun j => tw_I (tw_up f i.toNat x j))) = tw_wl ad cI cZ (mem.set q (.inl (true, n, tw_up f i.toNat x))) := tw_wl_set (c := .inl (true, n, tw_up f i.toNat x))
  have hP1 := e1 ▸ hP1
  have hD1 := e1 ▸ hD1
  exact k hL h3 (tw_set_ok hM (tw_up_ok hf rx)) (by rw [List.length_set]; exact hN) H1 locs1 ls hP1 hD1 hS1 hl
theorem tw_ret {z : Int} (hX : tw_cx Y Z cc own Ts (some .int) d nL) (hd : decode cc pc = .ok (.ireturn, 1)) (k : Post (some z) mem) : tw_rn Y Z Post pc L [.inl z] mem := by
  obtain ⟨l, D, cl, ad, N, cI, cZ, Ns⟩ := Y
  obtain ⟨p, e, R, s, m, args, below, meth, c⟩ := Z
  obtain ⟨hx, hb, ho, hts, hK, hret, hlk, hR, hnL, hNs⟩ := hX
  intro hL hS hM hN H locs ls hP hD hSt hl
  obtain ⟨rz, -⟩ := List.forall_mem_cons.mp hS
  have rz : tw_rg z := rz
  exact W.iret (v := tw_I z) hx hb hret (fun t ht hW => ⟨⟨some z, mem, rfl, k, fun z' h => by cases h; exact rz, hM, hN, by rw [ht]; exact hP, va_K.moved hW.alike hK, hD⟩, hSt.F ht⟩) hSt.2.2 hd hlk
theorem tw_zret {z : Int} (hX : tw_cx Y Z cc own Ts (some .boolean) d nL) (hd : decode cc pc = .ok (.ireturn, 1)) (hz : 0 ≤ z ∧ z ≤ 1) (k : Post (some z) mem) : tw_rn Y Z Post pc L [.inl z] mem := by
  obtain ⟨l, D, cl, ad, N, cI, cZ, Ns⟩ := Y
  obtain ⟨p, e, R, s, m, args, below, meth, c⟩ := Z
  obtain ⟨hx, hb, ho, hts, hK, hret, hlk, hR, hnL, hNs⟩ := hX
  intro hL hS hM hN H locs ls hP hD hSt hl
  obtain ⟨rz, -⟩ := List.forall_mem_cons.mp hS
  have rz : tw_rg z := rz
  exact W.zret (v := tw_I z) hx hb hret (by rcases (by omega : z = 0 ∨ z = 1) with rfl | rfl <;> rfl) (fun t ht hW => ⟨⟨some z, mem, rfl, k, fun z' h => by cases h; exact rz, hM, hN, by rw [ht]; exact hP, va_K.moved hW.alike hK, hD⟩, hSt.F ht⟩) hSt.2.2 hd hlk
theorem tw_vret (hX : tw_cx Y Z cc own Ts none d nL) (hd : decode cc pc = .ok (.return_, 1)) (k : Post none mem) : tw_rn Y Z Post pc L [] mem := by
  obtain ⟨l, D, cl, ad, N, cI, cZ, Ns⟩ := Y
  obtain ⟨p, e, R, s, m, args, below, meth, c⟩ := Z
  obtain ⟨hx, hb, ho, hts, hK, hret, hlk, hR, hnL, hNs⟩ := hX
  intro hL hS hM hN H locs ls hP hD hSt hl
  exact W.vret hx hb hret (fun t ht hW => ⟨⟨none, mem, rfl, k, (fun z' h => by cases h), hM, hN, by rw [ht]; exact hP, va_K.moved hW.alike hK, hD⟩, hSt.F ht⟩) hSt.2.2 hd hlk
end TWROWS
