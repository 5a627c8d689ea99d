def twl_mo_seen_2 (X29 : Int → Prop) (v2 : Int) (mo_size : Int) (mo_kind : Nat → Int) : Nat → Int → Prop
  | 0, _ => False
  | f + 1, v3 =>
    ((v3 < 0 →
    X29 v3) ∧
    (¬ v3 < 0 →
    ((mo_size ≤ v3 →
      X29 v3) ∧
      (¬ mo_size ≤ v3 →
      (two_mo_hidden v3 mo_kind) ∧ (((twr_mo_hidden v3 mo_kind) = 0 →
        X29 v3) ∧
        (¬ (twr_mo_hidden v3 mo_kind) = 0 →
        (tw_rg (v3 + v2)) ∧ twl_mo_seen_2 X29 v2 mo_size mo_kind f (v3 + v2)))))))
set_option maxRecDepth 100000 in
set_option maxHeartbeats 4000000 in
theorem twt_mo_seen_2 {l : Launch} {D : va_G} {ad : Nat → Nat} {cI cZ : ClassId} {Z : tw_Z} {Post : tw_P} {X29 : Int → Prop} {v2 : Int} {mo_base mo_measure mo_size mo_known mo_root mo_top mo_lostIsolates mo_lostEmbeddings mo_openIsolates mo_n mo_beginning mo_ending mo_embedding mo_lines : Int} {mo_kind mo_group mo_width mo_pair mo_level mo_type mo_resolved mo_partner mo_entry mo_override mo_isolate mo_seq mo_mark mo_list mo_starts mo_shownLevels mo_order : Nat → Int} (hX : tw_cx (tw_YM l D ad cI cZ) Z prog_11_method_22_code twR_mo tw_Wg (some .int) 1 4) (hX29 : ∀ (v3 : Int), X29 v3 → tw_rn (tw_YM l D ad cI cZ) Z Post 29 [some (.inr 0), none, none, some (.inl v3)] [] (tw_mM mo_base mo_measure mo_size mo_kind mo_group mo_width mo_pair mo_known mo_root mo_level mo_type mo_resolved mo_partner mo_top mo_entry mo_override mo_isolate mo_lostIsolates mo_lostEmbeddings mo_openIsolates mo_n mo_seq mo_mark mo_beginning mo_ending mo_embedding mo_list mo_lines mo_starts mo_shownLevels mo_order)) : ∀ (f : Nat) (v3 : Int), twl_mo_seen_2 X29 v2 mo_size mo_kind f v3 → tw_rn (tw_YM l D ad cI cZ) Z Post 2 [some (.inr 0), none, some (.inl v2), some (.inl v3)] [] (tw_mM mo_base mo_measure mo_size mo_kind mo_group mo_width mo_pair mo_known mo_root mo_level mo_type mo_resolved mo_partner mo_top mo_entry mo_override mo_isolate mo_lostIsolates mo_lostEmbeddings mo_openIsolates mo_n mo_seq mo_mark mo_beginning mo_ending mo_embedding mo_list mo_lines mo_starts mo_shownLevels mo_order) := by
  intro f
  induction f with
  | zero => intro v3 h; rw [twl_mo_seen_2] at h; exact h.elim
  | succ f ih =>
    intro v3 h
    rw [twl_mo_seen_2] at h
    refine tw_iload_n hX twd_mo_seen_2 rfl rfl ?_
    refine tw_if_lt hX twd_mo_seen_3 rfl (fun q7 => ?_) (fun q7 => ?_)
    · have h := h.1 q7
      refine tw_wk (L' := [some (.inr 0), none, none, some (.inl v3)]) (tw_le_s (tw_le_n (tw_le_n (tw_le_s tw_le_0)))) ?_
      exact hX29 _ h
    · have h := h.2 q7
      refine tw_iload_n hX twd_mo_seen_6 rfl rfl ?_
      refine tw_aload_n hX twd_mo_seen_7 rfl rfl ?_
      refine tw_get (kf := 2) hX twd_mo_seen_8 twin_mo rfl (by decide) tww_689 rfl rfl rfl ?_
      refine tw_icmp_ge hX twd_mo_seen_11 rfl (fun q6 => ?_) (fun q6 => ?_)
      · have h := h.1 q6
        refine tw_wk (L' := [some (.inr 0), none, none, some (.inl v3)]) (tw_le_s (tw_le_n (tw_le_n (tw_le_s tw_le_0)))) ?_
        exact hX29 _ h
      · have h := h.2 q6
        refine tw_aload_n hX twd_mo_seen_14 rfl rfl ?_
        refine tw_iload_n hX twd_mo_seen_15 rfl rfl ?_
        obtain ⟨c1, h⟩ := h
        refine tw_callV (As := [.inl v3]) (n := 1) hX twd_mo_seen_16 tw_good tww_880 tww_877 tww_879 tww_55 tww_86 twk_mo_hidden rfl rfl ⟨by decide, by decide⟩ rfl (Nat.le_of_ble_eq_true rfl) (twc_mo_hidden c1 (fun z2 e3 => ?_))
        subst e3
        change tw_rn (tw_YM l D ad cI cZ) Z Post 19 [some (.inr 0), none, some (.inl v2), some (.inl v3)] [.inl (twr_mo_hidden v3 mo_kind)] (tw_mM mo_base mo_measure mo_size mo_kind mo_group mo_width mo_pair mo_known mo_root mo_level mo_type mo_resolved mo_partner mo_top mo_entry mo_override mo_isolate mo_lostIsolates mo_lostEmbeddings mo_openIsolates mo_n mo_seq mo_mark mo_beginning mo_ending mo_embedding mo_list mo_lines mo_starts mo_shownLevels mo_order)
        refine tw_if_eq hX twd_mo_seen_19 rfl (fun q5 => ?_) (fun q5 => ?_)
        · have h := h.1 q5
          refine tw_wk (L' := [some (.inr 0), none, none, some (.inl v3)]) (tw_le_s (tw_le_n (tw_le_n (tw_le_s tw_le_0)))) ?_
          exact hX29 _ h
        · have h := h.2 q5
          refine tw_iload_n hX twd_mo_seen_22 rfl rfl ?_
          refine tw_iload_n hX twd_mo_seen_23 rfl rfl ?_
          obtain ⟨c4, h⟩ := h
          refine tw_iadd hX twd_mo_seen_24 c4 ?_
          refine tw_istore_n (L' := [some (.inr 0), none, some (.inl v2), some (.inl (v3 + v2))]) hX twd_mo_seen_25 rfl (by decide) rfl ?_
          refine tw_goto hX twd_mo_seen_26 rfl ?_
          exact ih _ h
def tww_mo_seen (v1 v2 : Int) (mo_size : Int) (mo_kind : Nat → Int) (K : Int → Prop) : Prop :=
  (∃ f12 : Nat, twl_mo_seen_2 (fun (y8 : Int) =>
  (∀ J9 : Prop, ((K (-1)) → J9) →
    ((y8 < 0 →
    J9) ∧
    (¬ y8 < 0 →
    ((y8 < mo_size →
      K y8) ∧
      (¬ y8 < mo_size →
      J9)))))) v2 mo_size mo_kind f12 v1)
set_option maxRecDepth 100000 in
set_option maxHeartbeats 4000000 in
theorem twc_mo_seen {l : Launch} {D : va_G} {ad : Nat → Nat} {cI cZ : ClassId} {Post : tw_P} {K : Int → Prop} {v1 v2 : Int} {mo_base mo_measure mo_size mo_known mo_root mo_top mo_lostIsolates mo_lostEmbeddings mo_openIsolates mo_n mo_beginning mo_ending mo_embedding mo_lines : Int} {mo_kind mo_group mo_width mo_pair mo_level mo_type mo_resolved mo_partner mo_entry mo_override mo_isolate mo_seq mo_mark mo_list mo_starts mo_shownLevels mo_order : Nat → Int} (h : tww_mo_seen v1 v2 mo_size mo_kind K) (hK : ∀ (z : Int), K z → Post (some z) (tw_mM mo_base mo_measure mo_size mo_kind mo_group mo_width mo_pair mo_known mo_root mo_level mo_type mo_resolved mo_partner mo_top mo_entry mo_override mo_isolate mo_lostIsolates mo_lostEmbeddings mo_openIsolates mo_n mo_seq mo_mark mo_beginning mo_ending mo_embedding mo_list mo_lines mo_starts mo_shownLevels mo_order)) : tw_ct (tw_YM l D ad cI cZ) twy_mo_seen (Cond.code twy_mo_seen prog_11_method_22_code 4 (some .int) :: tw_Wg) 1 [.inr 0, .inl v1, .inl v2] (tw_mM mo_base mo_measure mo_size mo_kind mo_group mo_width mo_pair mo_known mo_root mo_level mo_type mo_resolved mo_partner mo_top mo_entry mo_override mo_isolate mo_lostIsolates mo_lostEmbeddings mo_openIsolates mo_n mo_seq mo_mark mo_beginning mo_ending mo_embedding mo_list mo_lines mo_starts mo_shownLevels mo_order) Post := by
  refine tw_of (own := twR_mo) (L0 := [some (.inr 0), some (.inl v1), some (.inl v2), none]) (by decide) rfl rfl (Nat.le_of_ble_eq_true rfl) (fun Z hX => ?_)
  unfold tww_mo_seen at h
  refine tw_iload_n hX twd_mo_seen_0 rfl rfl ?_
  refine tw_istore_n (L' := [some (.inr 0), some (.inl v1), some (.inl v2), some (.inl v1)]) hX twd_mo_seen_1 rfl (by decide) rfl ?_
  obtain ⟨f12, h⟩ := h
  refine tw_wk (L' := [some (.inr 0), none, some (.inl v2), some (.inl v1)]) (tw_le_s (tw_le_n (tw_le_s (tw_le_s tw_le_0)))) ?_
  refine twt_mo_seen_2 hX (fun y8 h => ?_) f12 _ h
  refine tw_iload_n hX twd_mo_seen_29 rfl rfl ?_
  have h := h (tw_rn (tw_YM l D ad cI cZ) Z Post 41 [none, none, none, none] [] (tw_mM mo_base mo_measure mo_size mo_kind mo_group mo_width mo_pair mo_known mo_root mo_level mo_type mo_resolved mo_partner mo_top mo_entry mo_override mo_isolate mo_lostIsolates mo_lostEmbeddings mo_openIsolates mo_n mo_seq mo_mark mo_beginning mo_ending mo_embedding mo_list mo_lines mo_starts mo_shownLevels mo_order)) (by
    intro  h
    refine tw_iconst hX twd_mo_seen_41 ⟨by decide, by decide⟩ ?_
    refine tw_goto hX twd_mo_seen_42 rfl ?_
    exact tw_ret hX twd_mo_seen_46 (hK _ h))
  refine tw_if_lt hX twd_mo_seen_30 rfl (fun q11 => ?_) (fun q11 => ?_)
  · have h := h.1 q11
    refine tw_wk (L' := [none, none, none, none]) (tw_le_n (tw_le_n (tw_le_n (tw_le_n tw_le_0)))) ?_
    exact h
  · have h := h.2 q11
    refine tw_iload_n hX twd_mo_seen_33 rfl rfl ?_
    refine tw_aload_n hX twd_mo_seen_34 rfl rfl ?_
    refine tw_get (kf := 2) hX twd_mo_seen_35 twin_mo rfl (by decide) tww_689 rfl rfl rfl ?_
    refine tw_icmp_lt hX twd_mo_seen_38 rfl (fun q10 => ?_) (fun q10 => ?_)
    · have h := h.1 q10
      refine tw_iload_n hX twd_mo_seen_45 rfl rfl ?_
      exact tw_ret hX twd_mo_seen_46 (hK _ h)
    · have h := h.2 q10
      refine tw_wk (L' := [none, none, none, none]) (tw_le_n (tw_le_n (tw_le_n (tw_le_n tw_le_0)))) ?_
      exact h
def tww_mo_beginsRun (v1 : Int) (mo_size : Int) (mo_kind : Nat → Int) (mo_level : Nat → Int) (K : Int → Prop) : Prop :=
  (tw_rg (v1 - 1)) ∧ tww_mo_seen (v1 - 1) (-1) mo_size mo_kind (fun z2 =>
  (∀ J3 : Prop, ((K 1) → J3) →
  ((z2 < 0 →
  J3) ∧
  (¬ z2 < 0 →
  (0 ≤ z2 ∧ z2 < 64) ∧ (0 ≤ v1 ∧ v1 < 64) ∧ (((mo_level (Int.toNat z2)) = (mo_level (Int.toNat v1)) →
    K 0) ∧
    (¬ (mo_level (Int.toNat z2)) = (mo_level (Int.toNat v1)) →
    J3))))))
set_option maxRecDepth 100000 in
set_option maxHeartbeats 4000000 in
theorem twc_mo_beginsRun {l : Launch} {D : va_G} {ad : Nat → Nat} {cI cZ : ClassId} {Post : tw_P} {K : Int → Prop} {v1 : Int} {mo_base mo_measure mo_size mo_known mo_root mo_top mo_lostIsolates mo_lostEmbeddings mo_openIsolates mo_n mo_beginning mo_ending mo_embedding mo_lines : Int} {mo_kind mo_group mo_width mo_pair mo_level mo_type mo_resolved mo_partner mo_entry mo_override mo_isolate mo_seq mo_mark mo_list mo_starts mo_shownLevels mo_order : Nat → Int} (h : tww_mo_beginsRun v1 mo_size mo_kind mo_level K) (hK : ∀ (z : Int), K z → Post (some z) (tw_mM mo_base mo_measure mo_size mo_kind mo_group mo_width mo_pair mo_known mo_root mo_level mo_type mo_resolved mo_partner mo_top mo_entry mo_override mo_isolate mo_lostIsolates mo_lostEmbeddings mo_openIsolates mo_n mo_seq mo_mark mo_beginning mo_ending mo_embedding mo_list mo_lines mo_starts mo_shownLevels mo_order)) : tw_ct (tw_YM l D ad cI cZ) twy_mo_beginsRun (Cond.code twy_mo_beginsRun prog_11_method_23_code 3 (some .boolean) :: tw_Wg) 2 [.inr 0, .inl v1] (tw_mM mo_base mo_measure mo_size mo_kind mo_group mo_width mo_pair mo_known mo_root mo_level mo_type mo_resolved mo_partner mo_top mo_entry mo_override mo_isolate mo_lostIsolates mo_lostEmbeddings mo_openIsolates mo_n mo_seq mo_mark mo_beginning mo_ending mo_embedding mo_list mo_lines mo_starts mo_shownLevels mo_order) Post := by
  refine tw_of (own := twR_mo) (L0 := [some (.inr 0), some (.inl v1), none]) (by decide) rfl rfl (Nat.le_of_ble_eq_true rfl) (fun Z hX => ?_)
  unfold tww_mo_beginsRun at h
  refine tw_aload_n hX twd_mo_beginsRun_0 rfl rfl ?_
  refine tw_iload_n hX twd_mo_beginsRun_1 rfl rfl ?_
  refine tw_iconst hX twd_mo_beginsRun_2 ⟨by decide, by decide⟩ ?_
  obtain ⟨c1, h⟩ := h
  refine tw_isub hX twd_mo_beginsRun_3 c1 ?_
  refine tw_iconst hX twd_mo_beginsRun_4 ⟨by decide, by decide⟩ ?_
  refine tw_callV (As := [.inl (v1 - 1), .inl ((-1))]) (n := 2) hX twd_mo_beginsRun_5 tw_good tww_888 tww_885 tww_887 tww_57 tww_86 twk_mo_seen rfl rfl ⟨by decide, by decide⟩ rfl (Nat.le_of_ble_eq_true rfl) (twc_mo_seen h (fun z2 h => ?_))
  change tw_rn (tw_YM l D ad cI cZ) Z Post 8 [some (.inr 0), some (.inl v1), none] [.inl z2] (tw_mM mo_base mo_measure mo_size mo_kind mo_group mo_width mo_pair mo_known mo_root mo_level mo_type mo_resolved mo_partner mo_top mo_entry mo_override mo_isolate mo_lostIsolates mo_lostEmbeddings mo_openIsolates mo_n mo_seq mo_mark mo_beginning mo_ending mo_embedding mo_list mo_lines mo_starts mo_shownLevels mo_order)
  refine tw_istore_n (L' := [some (.inr 0), some (.inl v1), some (.inl z2)]) hX twd_mo_beginsRun_8 rfl (by decide) rfl ?_
  refine tw_iload_n hX twd_mo_beginsRun_9 rfl rfl ?_
  have h := h (tw_rn (tw_YM l D ad cI cZ) Z Post 28 [none, none, none] [] (tw_mM mo_base mo_measure mo_size mo_kind mo_group mo_width mo_pair mo_known mo_root mo_level mo_type mo_resolved mo_partner mo_top mo_entry mo_override mo_isolate mo_lostIsolates mo_lostEmbeddings mo_openIsolates mo_n mo_seq mo_mark mo_beginning mo_ending mo_embedding mo_list mo_lines mo_starts mo_shownLevels mo_order)) (by
    intro  h
    refine tw_iconst hX twd_mo_beginsRun_28 ⟨by decide, by decide⟩ ?_
    refine tw_goto hX twd_mo_beginsRun_29 rfl ?_
    exact tw_zret hX twd_mo_beginsRun_33 ⟨by decide, by decide⟩ (hK _ h))
  refine tw_if_lt hX twd_mo_beginsRun_10 rfl (fun q7 => ?_) (fun q7 => ?_)
  · have h := h.1 q7
    refine tw_wk (L' := [none, none, none]) (tw_le_n (tw_le_n (tw_le_n tw_le_0))) ?_
    exact h
  · have h := h.2 q7
    refine tw_aload_n hX twd_mo_beginsRun_13 rfl rfl ?_
    refine tw_get (kf := 9) hX twd_mo_beginsRun_14 twin_mo rfl (by decide) tww_696 rfl rfl rfl ?_
    refine tw_iload_n hX twd_mo_beginsRun_17 rfl rfl ?_
    obtain ⟨c4, h⟩ := h
    refine tw_iaload hX twd_mo_beginsRun_18 rfl c4 ?_
    refine tw_aload_n hX twd_mo_beginsRun_19 rfl rfl ?_
    refine tw_get (kf := 9) hX twd_mo_beginsRun_20 twin_mo rfl (by decide) tww_696 rfl rfl rfl ?_
    refine tw_iload_n hX twd_mo_beginsRun_23 rfl rfl ?_
    obtain ⟨c5, h⟩ := h
    refine tw_iaload hX twd_mo_beginsRun_24 rfl c5 ?_
    refine tw_icmp_eq hX twd_mo_beginsRun_25 rfl (fun q6 => ?_) (fun q6 => ?_)
    · have h := h.1 q6
      refine tw_iconst hX twd_mo_beginsRun_32 ⟨by decide, by decide⟩ ?_
      exact tw_zret hX twd_mo_beginsRun_33 ⟨by decide, by decide⟩ (hK _ h)
    · have h := h.2 q6
      refine tw_wk (L' := [none, none, none]) (tw_le_n (tw_le_n (tw_le_n tw_le_0))) ?_
      exact h
def twl_mo_addRun_2 (X22 : Int → Prop) (mo_size : Int) (mo_kind : Nat → Int) (mo_level : Nat → Int) (mo_n : Int) (mo_seq : Nat → Int) : Nat → Int → Prop
  | 0, _ => False
  | f + 1, v2 =>
    tww_mo_beginsRun v2 mo_size mo_kind mo_level (fun z1 =>
    ((z1 = 0 →
    (tw_rg (v2 - 1)) ∧ tww_mo_seen (v2 - 1) (-1) mo_size mo_kind (fun z3 =>
      twl_mo_addRun_2 X22 mo_size mo_kind mo_level mo_n mo_seq f z3)) ∧
    (¬ z1 = 0 →
    X22 v2)))
set_option maxRecDepth 100000 in
set_option maxHeartbeats 4000000 in
theorem twt_mo_addRun_2 {l : Launch} {D : va_G} {ad : Nat → Nat} {cI cZ : ClassId} {Z : tw_Z} {Post : tw_P} {X22 : Int → Prop} {mo_base mo_measure mo_size mo_known mo_root mo_top mo_lostIsolates mo_lostEmbeddings mo_openIsolates mo_n mo_beginning mo_ending mo_embedding mo_lines : Int} {mo_kind mo_group mo_width mo_pair mo_level mo_type mo_resolved mo_partner mo_entry mo_override mo_isolate mo_seq mo_mark mo_list mo_starts mo_shownLevels mo_order : Nat → Int} (hX : tw_cx (tw_YM l D ad cI cZ) Z prog_11_method_24_code twR_mo tw_Wg none 3 4) (hX22 : ∀ (v2 : Int), X22 v2 → tw_rn (tw_YM l D ad cI cZ) Z Post 22 [some (.inr 0), none, some (.inl v2), none] [] (tw_mM mo_base mo_measure mo_size mo_kind mo_group mo_width mo_pair mo_known mo_root mo_level mo_type mo_resolved mo_partner mo_top mo_entry mo_override mo_isolate mo_lostIsolates mo_lostEmbeddings mo_openIsolates mo_n mo_seq mo_mark mo_beginning mo_ending mo_embedding mo_list mo_lines mo_starts mo_shownLevels mo_order)) : ∀ (f : Nat) (v2 : Int), twl_mo_addRun_2 X22 mo_size mo_kind mo_level mo_n mo_seq f v2 → tw_rn (tw_YM l D ad cI cZ) Z Post 2 [some (.inr 0), none, some (.inl v2), none] [] (tw_mM mo_base mo_measure mo_size mo_kind mo_group mo_width mo_pair mo_known mo_root mo_level mo_type mo_resolved mo_partner mo_top mo_entry mo_override mo_isolate mo_lostIsolates mo_lostEmbeddings mo_openIsolates mo_n mo_seq mo_mark mo_beginning mo_ending mo_embedding mo_list mo_lines mo_starts mo_shownLevels mo_order) := by
  intro f
  induction f with
  | zero => intro v2 h; rw [twl_mo_addRun_2] at h; exact h.elim
  | succ f ih =>
    intro v2 h
    rw [twl_mo_addRun_2] at h
    refine tw_aload_n hX twd_mo_addRun_2 rfl rfl ?_
    refine tw_iload_n hX twd_mo_addRun_3 rfl rfl ?_
    refine tw_callV (As := [.inl v2]) (n := 1) hX twd_mo_addRun_4 tw_good tww_884 tww_881 tww_883 tww_56 tww_86 twk_mo_beginsRun rfl rfl ⟨by decide, by decide⟩ rfl (Nat.le_of_ble_eq_true rfl) (twc_mo_beginsRun h (fun z1 h => ?_))
    change tw_rn (tw_YM l D ad cI cZ) Z Post 7 [some (.inr 0), none, some (.inl v2), none] [.inl z1] (tw_mM mo_base mo_measure mo_size mo_kind mo_group mo_width mo_pair mo_known mo_root mo_level mo_type mo_resolved mo_partner mo_top mo_entry mo_override mo_isolate mo_lostIsolates mo_lostEmbeddings mo_openIsolates mo_n mo_seq mo_mark mo_beginning mo_ending mo_embedding mo_list mo_lines mo_starts mo_shownLevels mo_order)
    refine tw_if_ne hX twd_mo_addRun_7 rfl (fun q4 => ?_) (fun q4 => ?_)
    · have h := h.2 q4
      exact hX22 _ h
    · have h := h.1 q4
      refine tw_aload_n hX twd_mo_addRun_10 rfl rfl ?_
      refine tw_iload_n hX twd_mo_addRun_11 rfl rfl ?_
      refine tw_iconst hX twd_mo_addRun_12 ⟨by decide, by decide⟩ ?_
      obtain ⟨c2, h⟩ := h
      refine tw_isub hX twd_mo_addRun_13 c2 ?_
      refine tw_iconst hX twd_mo_addRun_14 ⟨by decide, by decide⟩ ?_
      refine tw_callV (As := [.inl (v2 - 1), .inl ((-1))]) (n := 2) hX twd_mo_addRun_15 tw_good tww_888 tww_885 tww_887 tww_57 tww_86 twk_mo_seen rfl rfl ⟨by decide, by decide⟩ rfl (Nat.le_of_ble_eq_true rfl) (twc_mo_seen h (fun z3 h => ?_))
      change tw_rn (tw_YM l D ad cI cZ) Z Post 18 [some (.inr 0), none, some (.inl v2), none] [.inl z3] (tw_mM mo_base mo_measure mo_size mo_kind mo_group mo_width mo_pair mo_known mo_root mo_level mo_type mo_resolved mo_partner mo_top mo_entry mo_override mo_isolate mo_lostIsolates mo_lostEmbeddings mo_openIsolates mo_n mo_seq mo_mark mo_beginning mo_ending mo_embedding mo_list mo_lines mo_starts mo_shownLevels mo_order)
      refine tw_istore_n (L' := [some (.inr 0), none, some (.inl z3), none]) hX twd_mo_addRun_18 rfl (by decide) rfl ?_
      refine tw_goto hX twd_mo_addRun_19 rfl ?_
      exact ih _ h
def twl_mo_addRun_29 (X84 : Int → (Nat → Int) → Prop) (v3 : Int) (mo_size : Int) (mo_kind : Nat → Int) (mo_level : Nat → Int) : Nat → Int → Int → (Nat → Int) → Prop
  | 0, _, _, _ => False
  | f + 1, v2, mo_n, mo_seq =>
    ((v2 < 0 →
    X84 mo_n mo_seq) ∧
    (¬ v2 < 0 →
    (0 ≤ v2 ∧ v2 < 64) ∧ (((mo_level (Int.toNat v2)) = v3 →
      ((64 ≤ mo_n →
        X84 mo_n mo_seq) ∧
        (¬ 64 ≤ mo_n →
        (0 ≤ mo_n ∧ mo_n < 64) ∧ (tw_rg (mo_n + 1)) ∧ (tw_rg (v2 + 1)) ∧ tww_mo_seen (v2 + 1) 1 mo_size mo_kind (fun z11 =>
          twl_mo_addRun_29 X84 v3 mo_size mo_kind mo_level f z11 (mo_n + 1) (tw_up mo_seq (Int.toNat mo_n) v2))))) ∧
      (¬ (mo_level (Int.toNat v2)) = v3 →
      X84 mo_n mo_seq))))
set_option maxRecDepth 100000 in
set_option maxHeartbeats 4000000 in
theorem twt_mo_addRun_29 {l : Launch} {D : va_G} {ad : Nat → Nat} {cI cZ : ClassId} {Z : tw_Z} {Post : tw_P} {X84 : Int → (Nat → Int) → Prop} {v3 : Int} {mo_base mo_measure mo_size mo_known mo_root mo_top mo_lostIsolates mo_lostEmbeddings mo_openIsolates mo_beginning mo_ending mo_embedding mo_lines : Int} {mo_kind mo_group mo_width mo_pair mo_level mo_type mo_resolved mo_partner mo_entry mo_override mo_isolate mo_mark mo_list mo_starts mo_shownLevels mo_order : Nat → Int} (hX : tw_cx (tw_YM l D ad cI cZ) Z prog_11_method_24_code twR_mo tw_Wg none 3 4) (hX84 : ∀ (mo_n : Int) (mo_seq : Nat → Int), X84 mo_n mo_seq → tw_rn (tw_YM l D ad cI cZ) Z Post 84 [none, none, none, none] [] (tw_mM mo_base mo_measure mo_size mo_kind mo_group mo_width mo_pair mo_known mo_root mo_level mo_type mo_resolved mo_partner mo_top mo_entry mo_override mo_isolate mo_lostIsolates mo_lostEmbeddings mo_openIsolates mo_n mo_seq mo_mark mo_beginning mo_ending mo_embedding mo_list mo_lines mo_starts mo_shownLevels mo_order)) : ∀ (f : Nat) (v2 : Int) (mo_n : Int) (mo_seq : Nat → Int), twl_mo_addRun_29 X84 v3 mo_size mo_kind mo_level f v2 mo_n mo_seq → tw_rn (tw_YM l D ad cI cZ) Z Post 29 [some (.inr 0), none, some (.inl v2), some (.inl v3)] [] (tw_mM mo_base mo_measure mo_size mo_kind mo_group mo_width mo_pair mo_known mo_root mo_level mo_type mo_resolved mo_partner mo_top mo_entry mo_override mo_isolate mo_lostIsolates mo_lostEmbeddings mo_openIsolates mo_n mo_seq mo_mark mo_beginning mo_ending mo_embedding mo_list mo_lines mo_starts mo_shownLevels mo_order) := by
  intro f
  induction f with
  | zero => intro v2 mo_n mo_seq h; rw [twl_mo_addRun_29] at h; exact h.elim
  | succ f ih =>
    intro v2 mo_n mo_seq h
    rw [twl_mo_addRun_29] at h
    refine tw_iload_n hX twd_mo_addRun_29 rfl rfl ?_
    refine tw_if_lt hX twd_mo_addRun_30 rfl (fun q14 => ?_) (fun q14 => ?_)
    · have h := h.1 q14
      refine tw_wk (L' := [none, none, none, none]) (tw_le_n (tw_le_n (tw_le_n (tw_le_n tw_le_0)))) ?_
      exact hX84 _ _ h
    · have h := h.2 q14
      refine tw_aload_n hX twd_mo_addRun_33 rfl rfl ?_
      refine tw_get (kf := 9) hX twd_mo_addRun_34 twin_mo rfl (by decide) tww_696 rfl rfl rfl ?_
      refine tw_iload_n hX twd_mo_addRun_37 rfl rfl ?_
      obtain ⟨c7, h⟩ := h
      refine tw_iaload hX twd_mo_addRun_38 rfl c7 ?_
      refine tw_iload_n hX twd_mo_addRun_39 rfl rfl ?_
      refine tw_icmp_ne hX twd_mo_addRun_40 rfl (fun q13 => ?_) (fun q13 => ?_)
      · have h := h.2 q13
        refine tw_wk (L' := [none, none, none, none]) (tw_le_n (tw_le_n (tw_le_n (tw_le_n tw_le_0)))) ?_
        exact hX84 _ _ h
      · have h := h.1 q13
        refine tw_aload_n hX twd_mo_addRun_43 rfl rfl ?_
        refine tw_get (kf := 20) hX twd_mo_addRun_44 twin_mo rfl (by decide) tww_707 rfl rfl rfl ?_
        refine tw_bipush hX twd_mo_addRun_47 (by decide +kernel) ⟨by decide, by decide⟩ ?_
        refine tw_icmp_ge hX twd_mo_addRun_49 rfl (fun q12 => ?_) (fun q12 => ?_)
        · have h := h.1 q12
          refine tw_wk (L' := [none, none, none, none]) (tw_le_n (tw_le_n (tw_le_n (tw_le_n tw_le_0)))) ?_
          exact hX84 _ _ h
        · have h := h.2 q12
          refine tw_aload_n hX twd_mo_addRun_52 rfl rfl ?_
          refine tw_get (kf := 21) hX twd_mo_addRun_53 twin_mo rfl (by decide) tww_708 rfl rfl rfl ?_
          refine tw_aload_n hX twd_mo_addRun_56 rfl rfl ?_
          refine tw_get (kf := 20) hX twd_mo_addRun_57 twin_mo rfl (by decide) tww_707 rfl rfl rfl ?_
          refine tw_iload_n hX twd_mo_addRun_60 rfl rfl ?_
          obtain ⟨c8, h⟩ := h
          refine tw_iastore (mem' := (tw_mM mo_base mo_measure mo_size mo_kind mo_group mo_width mo_pair mo_known mo_root mo_level mo_type mo_resolved mo_partner mo_top mo_entry mo_override mo_isolate mo_lostIsolates mo_lostEmbeddings mo_openIsolates mo_n (tw_up mo_seq (Int.toNat mo_n) v2) mo_mark mo_beginning mo_ending mo_embedding mo_list mo_lines mo_starts mo_shownLevels mo_order)) hX twd_mo_addRun_61 rfl c8 rfl ?_
          refine tw_aload_n hX twd_mo_addRun_62 rfl rfl ?_
          refine tw_dup hX twd_mo_addRun_63 ?_
          refine tw_get (kf := 20) hX twd_mo_addRun_64 twin_mo rfl (by decide) tww_707 rfl rfl rfl ?_
          refine tw_iconst hX twd_mo_addRun_67 ⟨by decide, by decide⟩ ?_
          obtain ⟨c9, h⟩ := h
          refine tw_iadd hX twd_mo_addRun_68 c9 ?_
          refine tw_put (kf := 20) (mem' := (tw_mM mo_base mo_measure mo_size mo_kind mo_group mo_width mo_pair mo_known mo_root mo_level mo_type mo_resolved mo_partner mo_top mo_entry mo_override mo_isolate mo_lostIsolates mo_lostEmbeddings mo_openIsolates (mo_n + 1) (tw_up mo_seq (Int.toNat mo_n) v2) mo_mark mo_beginning mo_ending mo_embedding mo_list mo_lines mo_starts mo_shownLevels mo_order)) twt_mo hX twd_mo_addRun_69 twin_mo twtok_mo twnm_mo rfl (by decide) tww_707 rfl rfl rfl (Or.inl rfl) rfl (Nat.le_of_ble_eq_true rfl) rfl ?_
          refine tw_aload_n hX twd_mo_addRun_72 rfl rfl ?_
          refine tw_iload_n hX twd_mo_addRun_73 rfl rfl ?_
          refine tw_iconst hX twd_mo_addRun_74 ⟨by decide, by decide⟩ ?_
          obtain ⟨c10, h⟩ := h
          refine tw_iadd hX twd_mo_addRun_75 c10 ?_
          refine tw_iconst hX twd_mo_addRun_76 ⟨by decide, by decide⟩ ?_
          refine tw_callV (As := [.inl (v2 + 1), .inl 1]) (n := 2) hX twd_mo_addRun_77 tw_good tww_888 tww_885 tww_887 tww_57 tww_86 twk_mo_seen rfl rfl ⟨by decide, by decide⟩ rfl (Nat.le_of_ble_eq_true rfl) (twc_mo_seen h (fun z11 h => ?_))
          change tw_rn (tw_YM l D ad cI cZ) Z Post 80 [some (.inr 0), none, some (.inl v2), some (.inl v3)] [.inl z11] (tw_mM mo_base mo_measure mo_size mo_kind mo_group mo_width mo_pair mo_known mo_root mo_level mo_type mo_resolved mo_partner mo_top mo_entry mo_override mo_isolate mo_lostIsolates mo_lostEmbeddings mo_openIsolates (mo_n + 1) (tw_up mo_seq (Int.toNat mo_n) v2) mo_mark mo_beginning mo_ending mo_embedding mo_list mo_lines mo_starts mo_shownLevels mo_order)
          refine tw_istore_n (L' := [some (.inr 0), none, some (.inl z11), some (.inl v3)]) hX twd_mo_addRun_80 rfl (by decide) rfl ?_
          refine tw_goto hX twd_mo_addRun_81 rfl ?_
          exact ih _ _ _ h
def tww_mo_addRun (v1 : Int) (mo_size : Int) (mo_kind : Nat → Int) (mo_level : Nat → Int) (mo_n : Int) (mo_seq : Nat → Int) (K : Int → (Nat → Int) → Prop) : Prop :=
  (∃ f18 : Nat, twl_mo_addRun_2 (fun (y5 : Int) =>
  (0 ≤ y5 ∧ y5 < 64) ∧ (∃ f17 : Nat, twl_mo_addRun_29 (fun (y15_mo_n : Int) (y16_mo_seq : Nat → Int) =>
    K y15_mo_n y16_mo_seq) (mo_level (Int.toNat y5)) mo_size mo_kind mo_level f17 y5 mo_n mo_seq)) mo_size mo_kind mo_level mo_n mo_seq f18 v1)
set_option maxRecDepth 100000 in
set_option maxHeartbeats 4000000 in
theorem twc_mo_addRun {l : Launch} {D : va_G} {ad : Nat → Nat} {cI cZ : ClassId} {Post : tw_P} {K : Int → (Nat → Int) → Prop} {v1 : Int} {mo_base mo_measure mo_size mo_known mo_root mo_top mo_lostIsolates mo_lostEmbeddings mo_openIsolates mo_n mo_beginning mo_ending mo_embedding mo_lines : Int} {mo_kind mo_group mo_width mo_pair mo_level mo_type mo_resolved mo_partner mo_entry mo_override mo_isolate mo_seq mo_mark mo_list mo_starts mo_shownLevels mo_order : Nat → Int} (h : tww_mo_addRun v1 mo_size mo_kind mo_level mo_n mo_seq K) (hK : ∀ (n_mo_n : Int) (n_mo_seq : Nat → Int), K n_mo_n n_mo_seq → Post none (tw_mM mo_base mo_measure mo_size mo_kind mo_group mo_width mo_pair mo_known mo_root mo_level mo_type mo_resolved mo_partner mo_top mo_entry mo_override mo_isolate mo_lostIsolates mo_lostEmbeddings mo_openIsolates n_mo_n n_mo_seq mo_mark mo_beginning mo_ending mo_embedding mo_list mo_lines mo_starts mo_shownLevels mo_order)) : tw_ct (tw_YM l D ad cI cZ) twy_mo_addRun (Cond.code twy_mo_addRun prog_11_method_24_code 4 none :: tw_Wg) 3 [.inr 0, .inl v1] (tw_mM mo_base mo_measure mo_size mo_kind mo_group mo_width mo_pair mo_known mo_root mo_level mo_type mo_resolved mo_partner mo_top mo_entry mo_override mo_isolate mo_lostIsolates mo_lostEmbeddings mo_openIsolates mo_n mo_seq mo_mark mo_beginning mo_ending mo_embedding mo_list mo_lines mo_starts mo_shownLevels mo_order) Post := by
  refine tw_of (own := twR_mo) (L0 := [some (.inr 0), some (.inl v1), none, none]) (by decide) rfl rfl (Nat.le_of_ble_eq_true rfl) (fun Z hX => ?_)
  unfold tww_mo_addRun at h
  refine tw_iload_n hX twd_mo_addRun_0 rfl rfl ?_
  refine tw_istore_n (L' := [some (.inr 0), some (.inl v1), some (.inl v1), none]) hX twd_mo_addRun_1 rfl (by decide) rfl ?_
  obtain ⟨f18, h⟩ := h
  refine tw_wk (L' := [some (.inr 0), none, some (.inl v1), none]) (tw_le_s (tw_le_n (tw_le_s (tw_le_n tw_le_0)))) ?_
  refine twt_mo_addRun_2 hX (fun y5 h => ?_) f18 _ h
  refine tw_aload_n hX twd_mo_addRun_22 rfl rfl ?_
  refine tw_get (kf := 9) hX twd_mo_addRun_23 twin_mo rfl (by decide) tww_696 rfl rfl rfl ?_
  refine tw_iload_n hX twd_mo_addRun_26 rfl rfl ?_
  obtain ⟨c6, h⟩ := h
  refine tw_iaload hX twd_mo_addRun_27 rfl c6 ?_
  refine tw_istore_n (L' := [some (.inr 0), none, some (.inl y5), some (.inl (mo_level (Int.toNat y5)))]) hX twd_mo_addRun_28 rfl (by decide) rfl ?_
  obtain ⟨f17, h⟩ := h
  refine twt_mo_addRun_29 hX (fun y15_mo_n y16_mo_seq h => ?_) f17 _ _ _ h
  exact tw_vret hX twd_mo_addRun_84 (hK _ _ h)
def tww_mo_bounds (mo_size : Int) (mo_kind : Nat → Int) (mo_root : Int) (mo_level : Nat → Int) (mo_n : Int) (mo_seq : Nat → Int) (mo_beginning : Int) (mo_ending : Int) (mo_embedding : Int) (K : Int → Int → Int → Prop) : Prop :=
  (0 ≤ (mo_seq (Int.toNat 0)) ∧ (mo_seq (Int.toNat 0)) < 64) ∧ (tw_rg (mo_n - 1)) ∧ (0 ≤ (mo_n - 1) ∧ (mo_n - 1) < 64) ∧ (tw_rg ((mo_seq (Int.toNat 0)) - 1)) ∧ tww_mo_seen ((mo_seq (Int.toNat 0)) - 1) (-1) mo_size mo_kind (fun z5 =>
  (two_mo_opener (mo_seq (Int.toNat (mo_n - 1))) mo_kind) ∧ (∀ J12 : Int → Int → Int → Prop, (∀ (x9 : Int) (x10 : Int) (x11 : Int), ((((0 ≤ x10 → ((0 ≤ x10 ∧ x10 < 64)))) ∧
    (∀ x14 : Int, x14 = (if 0 ≤ x10 then (mo_level (Int.toNat x10)) else mo_root) →
    (((0 ≤ x11 → ((0 ≤ x11 ∧ x11 < 64)))) ∧
      (∀ x16 : Int, x16 = (if 0 ≤ x11 then (mo_level (Int.toNat x11)) else mo_root) →
      (∀ x17 : Int, x17 = (if x14 ≤ x9 then x9 else x14) →
        (0 ≤ x17) ∧ (∀ x19 : Int, x19 = (if x16 ≤ x9 then x9 else x16) →
          (0 ≤ x19) ∧ (0 ≤ x9) ∧ K (x17 % 2) (x19 % 2) (x9 % 2)))))))) → J12 x9 x10 x11) →
  ∀ J39 : Int → Int → Int → Prop, (∀ (x36 : Int) (x37 : Int) (x38 : Int), ((tw_rg (x37 + 1)) ∧ tww_mo_seen (x37 + 1) 1 mo_size mo_kind (fun z41 =>
    J12 x36 x38 z41)) → J39 x36 x37 x38) →
  (((twr_mo_opener (mo_seq (Int.toNat (mo_n - 1))) mo_kind) = 0 →
  J39 (mo_level (Int.toNat (mo_seq (Int.toNat 0)))) (mo_seq (Int.toNat (mo_n - 1))) z5) ∧
  (¬ (twr_mo_opener (mo_seq (Int.toNat (mo_n - 1))) mo_kind) = 0 →
  tww_mo_closing (mo_seq (Int.toNat (mo_n - 1))) mo_size mo_kind (fun z42 =>
    ((0 ≤ z42 →
    J39 (mo_level (Int.toNat (mo_seq (Int.toNat 0)))) (mo_seq (Int.toNat (mo_n - 1))) z5) ∧
    (¬ 0 ≤ z42 →
    J12 (mo_level (Int.toNat (mo_seq (Int.toNat 0)))) z5 (-1))))))))
set_option maxRecDepth 100000 in
set_option maxHeartbeats 4000000 in
theorem twc_mo_bounds {l : Launch} {D : va_G} {ad : Nat → Nat} {cI cZ : ClassId} {Post : tw_P} {K : Int → Int → Int → Prop} {mo_base mo_measure mo_size mo_known mo_root mo_top mo_lostIsolates mo_lostEmbeddings mo_openIsolates mo_n mo_beginning mo_ending mo_embedding mo_lines : Int} {mo_kind mo_group mo_width mo_pair mo_level mo_type mo_resolved mo_partner mo_entry mo_override mo_isolate mo_seq mo_mark mo_list mo_starts mo_shownLevels mo_order : Nat → Int} (h : tww_mo_bounds mo_size mo_kind mo_root mo_level mo_n mo_seq mo_beginning mo_ending mo_embedding K) (hK : ∀ (n_mo_beginning : Int) (n_mo_ending : Int) (n_mo_embedding : Int), K n_mo_beginning n_mo_ending n_mo_embedding → Post none (tw_mM mo_base mo_measure mo_size mo_kind mo_group mo_width mo_pair mo_known mo_root mo_level mo_type mo_resolved mo_partner mo_top mo_entry mo_override mo_isolate mo_lostIsolates mo_lostEmbeddings mo_openIsolates mo_n mo_seq mo_mark n_mo_beginning n_mo_ending n_mo_embedding mo_list mo_lines mo_starts mo_shownLevels mo_order)) : tw_ct (tw_YM l D ad cI cZ) twy_mo_bounds (Cond.code twy_mo_bounds prog_11_method_26_code 7 none :: tw_Wg) 2 [.inr 0] (tw_mM mo_base mo_measure mo_size mo_kind mo_group mo_width mo_pair mo_known mo_root mo_level mo_type mo_resolved mo_partner mo_top mo_entry mo_override mo_isolate mo_lostIsolates mo_lostEmbeddings mo_openIsolates mo_n mo_seq mo_mark mo_beginning mo_ending mo_embedding mo_list mo_lines mo_starts mo_shownLevels mo_order) Post := by
  refine tw_of (own := twR_mo) (L0 := [some (.inr 0), none, none, none, none, none, none]) (by decide) rfl rfl (Nat.le_of_ble_eq_true rfl) (fun Z hX => ?_)
  unfold tww_mo_bounds at h
  refine tw_aload_n hX twd_mo_bounds_0 rfl rfl ?_
  refine tw_get (kf := 9) hX twd_mo_bounds_1 twin_mo rfl (by decide) tww_696 rfl rfl rfl ?_
  refine tw_aload_n hX twd_mo_bounds_4 rfl rfl ?_
  refine tw_get (kf := 21) hX twd_mo_bounds_5 twin_mo rfl (by decide) tww_708 rfl rfl rfl ?_
  refine tw_iconst hX twd_mo_bounds_8 ⟨by decide, by decide⟩ ?_
  refine tw_iaload hX twd_mo_bounds_9 rfl ⟨by decide, by decide⟩ ?_
  obtain ⟨c1, h⟩ := h
  refine tw_iaload hX twd_mo_bounds_10 rfl c1 ?_
  refine tw_istore_n (L' := [some (.inr 0), some (.inl (mo_level (Int.toNat (mo_seq (Int.toNat 0))))), none, none, none, none, none]) hX twd_mo_bounds_11 rfl (by decide) rfl ?_
  refine tw_aload_n hX twd_mo_bounds_12 rfl rfl ?_
  refine tw_get (kf := 21) hX twd_mo_bounds_13 twin_mo rfl (by decide) tww_708 rfl rfl rfl ?_
  refine tw_aload_n hX twd_mo_bounds_16 rfl rfl ?_
  refine tw_get (kf := 20) hX twd_mo_bounds_17 twin_mo rfl (by decide) tww_707 rfl rfl rfl ?_
  refine tw_iconst hX twd_mo_bounds_20 ⟨by decide, by decide⟩ ?_
  obtain ⟨c2, h⟩ := h
  refine tw_isub hX twd_mo_bounds_21 c2 ?_
  obtain ⟨c3, h⟩ := h
  refine tw_iaload hX twd_mo_bounds_22 rfl c3 ?_
  refine tw_istore_n (L' := [some (.inr 0), some (.inl (mo_level (Int.toNat (mo_seq (Int.toNat 0))))), some (.inl (mo_seq (Int.toNat (mo_n - 1)))), none, none, none, none]) hX twd_mo_bounds_23 rfl (by decide) rfl ?_
  refine tw_aload_n hX twd_mo_bounds_24 rfl rfl ?_
  refine tw_aload_n hX twd_mo_bounds_25 rfl rfl ?_
  refine tw_get (kf := 21) hX twd_mo_bounds_26 twin_mo rfl (by decide) tww_708 rfl rfl rfl ?_
  refine tw_iconst hX twd_mo_bounds_29 ⟨by decide, by decide⟩ ?_
  refine tw_iaload hX twd_mo_bounds_30 rfl ⟨by decide, by decide⟩ ?_
  refine tw_iconst hX twd_mo_bounds_31 ⟨by decide, by decide⟩ ?_
  obtain ⟨c4, h⟩ := h
  refine tw_isub hX twd_mo_bounds_32 c4 ?_
  refine tw_iconst hX twd_mo_bounds_33 ⟨by decide, by decide⟩ ?_
  refine tw_callV (As := [.inl ((mo_seq (Int.toNat 0)) - 1), .inl ((-1))]) (n := 2) hX twd_mo_bounds_34 tw_good tww_888 tww_885 tww_887 tww_57 tww_86 twk_mo_seen rfl rfl ⟨by decide, by decide⟩ rfl (Nat.le_of_ble_eq_true rfl) (twc_mo_seen h (fun z5 h => ?_))
  change tw_rn (tw_YM l D ad cI cZ) Z Post 37 [some (.inr 0), some (.inl (mo_level (Int.toNat (mo_seq (Int.toNat 0))))), some (.inl (mo_seq (Int.toNat (mo_n - 1)))), none, none, none, none] [.inl z5] (tw_mM mo_base mo_measure mo_size mo_kind mo_group mo_width mo_pair mo_known mo_root mo_level mo_type mo_resolved mo_partner mo_top mo_entry mo_override mo_isolate mo_lostIsolates mo_lostEmbeddings mo_openIsolates mo_n mo_seq mo_mark mo_beginning mo_ending mo_embedding mo_list mo_lines mo_starts mo_shownLevels mo_order)
  refine tw_istore_n (L' := [some (.inr 0), some (.inl (mo_level (Int.toNat (mo_seq (Int.toNat 0))))), some (.inl (mo_seq (Int.toNat (mo_n - 1)))), some (.inl z5), none, none, none]) hX twd_mo_bounds_37 rfl (by decide) rfl ?_
  refine tw_aload_n hX twd_mo_bounds_38 rfl rfl ?_
  refine tw_iload_n hX twd_mo_bounds_39 rfl rfl ?_
  obtain ⟨c6, h⟩ := h
  refine tw_callV (As := [.inl (mo_seq (Int.toNat (mo_n - 1)))]) (n := 1) hX twd_mo_bounds_40 tw_good tww_812 tww_809 tww_811 tww_40 tww_86 twk_mo_opener rfl rfl ⟨by decide, by decide⟩ rfl (Nat.le_of_ble_eq_true rfl) (twc_mo_opener c6 (fun z7 e8 => ?_))
  subst e8
  change tw_rn (tw_YM l D ad cI cZ) Z Post 43 [some (.inr 0), some (.inl (mo_level (Int.toNat (mo_seq (Int.toNat 0))))), some (.inl (mo_seq (Int.toNat (mo_n - 1)))), some (.inl z5), none, none, none] [.inl (twr_mo_opener (mo_seq (Int.toNat (mo_n - 1))) mo_kind)] (tw_mM mo_base mo_measure mo_size mo_kind mo_group mo_width mo_pair mo_known mo_root mo_level mo_type mo_resolved mo_partner mo_top mo_entry mo_override mo_isolate mo_lostIsolates mo_lostEmbeddings mo_openIsolates mo_n mo_seq mo_mark mo_beginning mo_ending mo_embedding mo_list mo_lines mo_starts mo_shownLevels mo_order)
  have h := h (fun (x9 : Int) (x10 : Int) (x11 : Int) => tw_rn (tw_YM l D ad cI cZ) Z Post 66 [some (.inr 0), some (.inl x9), none, some (.inl x10), none, none, none] [.inl x11] (tw_mM mo_base mo_measure mo_size mo_kind mo_group mo_width mo_pair mo_known mo_root mo_level mo_type mo_resolved mo_partner mo_top mo_entry mo_override mo_isolate mo_lostIsolates mo_lostEmbeddings mo_openIsolates mo_n mo_seq mo_mark mo_beginning mo_ending mo_embedding mo_list mo_lines mo_starts mo_shownLevels mo_order)) (by
    intro x9 x10 x11 h
    refine tw_istore (L' := [some (.inr 0), some (.inl x9), none, some (.inl x10), some (.inl x11), none, none]) hX twd_mo_bounds_66 (by decide) rfl ?_
    refine tw_iload_n hX twd_mo_bounds_68 rfl rfl ?_
    obtain ⟨o32, h⟩ := h
    have j33 : ∀ x14 : Int, x14 = (if 0 ≤ x10 then (mo_level (Int.toNat x10)) else mo_root) → tw_rn (tw_YM l D ad cI cZ) Z Post 85 [some (.inr 0), some (.inl x9), none, none, some (.inl x11), none, none] [.inl x14] (tw_mM mo_base mo_measure mo_size mo_kind mo_group mo_width mo_pair mo_known mo_root mo_level mo_type mo_resolved mo_partner mo_top mo_entry mo_override mo_isolate mo_lostIsolates mo_lostEmbeddings mo_openIsolates mo_n mo_seq mo_mark mo_beginning mo_ending mo_embedding mo_list mo_lines mo_starts mo_shownLevels mo_order) := by
      intro x14 e34
      have h := h x14 e34
      refine tw_istore (L' := [some (.inr 0), some (.inl x9), none, none, some (.inl x11), some (.inl x14), none]) hX twd_mo_bounds_85 (by decide) rfl ?_
      refine tw_iload hX twd_mo_bounds_87 rfl ?_
      obtain ⟨o28, h⟩ := h
      have j29 : ∀ x16 : Int, x16 = (if 0 ≤ x11 then (mo_level (Int.toNat x11)) else mo_root) → tw_rn (tw_YM l D ad cI cZ) Z Post 106 [some (.inr 0), some (.inl x9), none, none, none, some (.inl x14), none] [.inl x16] (tw_mM mo_base mo_measure mo_size mo_kind mo_group mo_width mo_pair mo_known mo_root mo_level mo_type mo_resolved mo_partner mo_top mo_entry mo_override mo_isolate mo_lostIsolates mo_lostEmbeddings mo_openIsolates mo_n mo_seq mo_mark mo_beginning mo_ending mo_embedding mo_list mo_lines mo_starts mo_shownLevels mo_order) := by
        intro x16 e30
        have h := h x16 e30
        refine tw_istore (L' := [some (.inr 0), some (.inl x9), none, none, none, some (.inl x14), some (.inl x16)]) hX twd_mo_bounds_106 (by decide) rfl ?_
        refine tw_aload_n hX twd_mo_bounds_108 rfl rfl ?_
        refine tw_iload hX twd_mo_bounds_109 rfl ?_
        refine tw_iload_n hX twd_mo_bounds_111 rfl rfl ?_
        have j25 : ∀ x17 : Int, x17 = (if x14 ≤ x9 then x9 else x14) → tw_rn (tw_YM l D ad cI cZ) Z Post 121 [some (.inr 0), some (.inl x9), none, none, none, none, some (.inl x16)] [.inl x17, .inr 0] (tw_mM mo_base mo_measure mo_size mo_kind mo_group mo_width mo_pair mo_known mo_root mo_level mo_type mo_resolved mo_partner mo_top mo_entry mo_override mo_isolate mo_lostIsolates mo_lostEmbeddings mo_openIsolates mo_n mo_seq mo_mark mo_beginning mo_ending mo_embedding mo_list mo_lines mo_starts mo_shownLevels mo_order) := by
          intro x17 e26
          have h := h x17 e26
          refine tw_iconst hX twd_mo_bounds_121 ⟨by decide, by decide⟩ ?_
          obtain ⟨c18, h⟩ := h
          refine tw_irem hX twd_mo_bounds_122 c18 (by decide) ?_
          refine tw_put (kf := 23) (mem' := (tw_mM mo_base mo_measure mo_size mo_kind mo_group mo_width mo_pair mo_known mo_root mo_level mo_type mo_resolved mo_partner mo_top mo_entry mo_override mo_isolate mo_lostIsolates mo_lostEmbeddings mo_openIsolates mo_n mo_seq mo_mark (x17 % 2) mo_ending mo_embedding mo_list mo_lines mo_starts mo_shownLevels mo_order)) twt_mo hX twd_mo_bounds_123 twin_mo twtok_mo twnm_mo rfl (by decide) tww_710 rfl rfl rfl (Or.inl rfl) rfl (Nat.le_of_ble_eq_true rfl) rfl ?_
          refine tw_aload_n hX twd_mo_bounds_126 rfl rfl ?_
          refine tw_iload hX twd_mo_bounds_127 rfl ?_
          refine tw_iload_n hX twd_mo_bounds_129 rfl rfl ?_
          have j22 : ∀ x19 : Int, x19 = (if x16 ≤ x9 then x9 else x16) → tw_rn (tw_YM l D ad cI cZ) Z Post 139 [some (.inr 0), some (.inl x9), none, none, none, none, none] [.inl x19, .inr 0] (tw_mM mo_base mo_measure mo_size mo_kind mo_group mo_width mo_pair mo_known mo_root mo_level mo_type mo_resolved mo_partner mo_top mo_entry mo_override mo_isolate mo_lostIsolates mo_lostEmbeddings mo_openIsolates mo_n mo_seq mo_mark (x17 % 2) mo_ending mo_embedding mo_list mo_lines mo_starts mo_shownLevels mo_order) := by
            intro x19 e23
            have h := h x19 e23
            refine tw_iconst hX twd_mo_bounds_139 ⟨by decide, by decide⟩ ?_
            obtain ⟨c20, h⟩ := h
            refine tw_irem hX twd_mo_bounds_140 c20 (by decide) ?_
            refine tw_put (kf := 24) (mem' := (tw_mM mo_base mo_measure mo_size mo_kind mo_group mo_width mo_pair mo_known mo_root mo_level mo_type mo_resolved mo_partner mo_top mo_entry mo_override mo_isolate mo_lostIsolates mo_lostEmbeddings mo_openIsolates mo_n mo_seq mo_mark (x17 % 2) (x19 % 2) mo_embedding mo_list mo_lines mo_starts mo_shownLevels mo_order)) twt_mo hX twd_mo_bounds_141 twin_mo twtok_mo twnm_mo rfl (by decide) tww_711 rfl rfl rfl (Or.inl rfl) rfl (Nat.le_of_ble_eq_true rfl) rfl ?_
            refine tw_aload_n hX twd_mo_bounds_144 rfl rfl ?_
            refine tw_iload_n hX twd_mo_bounds_145 rfl rfl ?_
            refine tw_iconst hX twd_mo_bounds_146 ⟨by decide, by decide⟩ ?_
            obtain ⟨c21, h⟩ := h
            refine tw_irem hX twd_mo_bounds_147 c21 (by decide) ?_
            refine tw_put (kf := 25) (mem' := (tw_mM mo_base mo_measure mo_size mo_kind mo_group mo_width mo_pair mo_known mo_root mo_level mo_type mo_resolved mo_partner mo_top mo_entry mo_override mo_isolate mo_lostIsolates mo_lostEmbeddings mo_openIsolates mo_n mo_seq mo_mark (x17 % 2) (x19 % 2) (x9 % 2) mo_list mo_lines mo_starts mo_shownLevels mo_order)) twt_mo hX twd_mo_bounds_148 twin_mo twtok_mo twnm_mo rfl (by decide) tww_712 rfl rfl rfl (Or.inl rfl) rfl (Nat.le_of_ble_eq_true rfl) rfl ?_
            exact tw_vret hX twd_mo_bounds_151 (hK _ _ _ h)
          refine tw_icmp_le hX twd_mo_bounds_130 rfl (fun q24 => ?_) (fun q24 => ?_)
          · have _tw := trivial
            refine tw_iload_n hX twd_mo_bounds_138 rfl rfl ?_
            refine tw_wk (L' := [some (.inr 0), some (.inl x9), none, none, none, none, none]) (tw_le_s (tw_le_s (tw_le_n (tw_le_n (tw_le_n (tw_le_n (tw_le_n tw_le_0))))))) ?_
            exact j22 _ (Eq.symm (if_pos q24))
          · have _tw := trivial
            refine tw_iload hX twd_mo_bounds_133 rfl ?_
            refine tw_goto hX twd_mo_bounds_135 rfl ?_
            refine tw_wk (L' := [some (.inr 0), some (.inl x9), none, none, none, none, none]) (tw_le_s (tw_le_s (tw_le_n (tw_le_n (tw_le_n (tw_le_n (tw_le_n tw_le_0))))))) ?_
            exact j22 _ (Eq.symm (if_neg q24))
        refine tw_icmp_le hX twd_mo_bounds_112 rfl (fun q27 => ?_) (fun q27 => ?_)
        · have _tw := trivial
          refine tw_iload_n hX twd_mo_bounds_120 rfl rfl ?_
          refine tw_wk (L' := [some (.inr 0), some (.inl x9), none, none, none, none, some (.inl x16)]) (tw_le_s (tw_le_s (tw_le_n (tw_le_n (tw_le_n (tw_le_n (tw_le_s tw_le_0))))))) ?_
          exact j25 _ (Eq.symm (if_pos q27))
        · have _tw := trivial
          refine tw_iload hX twd_mo_bounds_115 rfl ?_
          refine tw_goto hX twd_mo_bounds_117 rfl ?_
          refine tw_wk (L' := [some (.inr 0), some (.inl x9), none, none, none, none, some (.inl x16)]) (tw_le_s (tw_le_s (tw_le_n (tw_le_n (tw_le_n (tw_le_n (tw_le_s tw_le_0))))))) ?_
          exact j25 _ (Eq.symm (if_neg q27))
      refine tw_if_ge hX twd_mo_bounds_89 rfl (fun q31 => ?_) (fun q31 => ?_)
      · have _tw := trivial
        have o28 := o28 q31
        refine tw_aload_n hX twd_mo_bounds_99 rfl rfl ?_
        refine tw_get (kf := 9) hX twd_mo_bounds_100 twin_mo rfl (by decide) tww_696 rfl rfl rfl ?_
        refine tw_iload hX twd_mo_bounds_103 rfl ?_
        have c15 := o28
        refine tw_iaload hX twd_mo_bounds_105 rfl c15 ?_
        refine tw_wk (L' := [some (.inr 0), some (.inl x9), none, none, none, some (.inl x14), none]) (tw_le_s (tw_le_s (tw_le_n (tw_le_n (tw_le_n (tw_le_s (tw_le_n tw_le_0))))))) ?_
        exact j29 _ (Eq.symm (if_pos q31))
      · have _tw := trivial
        refine tw_aload_n hX twd_mo_bounds_92 rfl rfl ?_
        refine tw_get (kf := 8) hX twd_mo_bounds_93 twin_mo rfl (by decide) tww_695 rfl rfl rfl ?_
        refine tw_goto hX twd_mo_bounds_96 rfl ?_
        refine tw_wk (L' := [some (.inr 0), some (.inl x9), none, none, none, some (.inl x14), none]) (tw_le_s (tw_le_s (tw_le_n (tw_le_n (tw_le_n (tw_le_s (tw_le_n tw_le_0))))))) ?_
        exact j29 _ (Eq.symm (if_neg q31))
    refine tw_if_ge hX twd_mo_bounds_69 rfl (fun q35 => ?_) (fun q35 => ?_)
    · have _tw := trivial
      have o32 := o32 q35
      refine tw_aload_n hX twd_mo_bounds_79 rfl rfl ?_
      refine tw_get (kf := 9) hX twd_mo_bounds_80 twin_mo rfl (by decide) tww_696 rfl rfl rfl ?_
      refine tw_iload_n hX twd_mo_bounds_83 rfl rfl ?_
      have c13 := o32
      refine tw_iaload hX twd_mo_bounds_84 rfl c13 ?_
      refine tw_wk (L' := [some (.inr 0), some (.inl x9), none, none, some (.inl x11), none, none]) (tw_le_s (tw_le_s (tw_le_n (tw_le_n (tw_le_s (tw_le_n (tw_le_n tw_le_0))))))) ?_
      exact j33 _ (Eq.symm (if_pos q35))
    · have _tw := trivial
      refine tw_aload_n hX twd_mo_bounds_72 rfl rfl ?_
      refine tw_get (kf := 8) hX twd_mo_bounds_73 twin_mo rfl (by decide) tww_695 rfl rfl rfl ?_
      refine tw_goto hX twd_mo_bounds_76 rfl ?_
      refine tw_wk (L' := [some (.inr 0), some (.inl x9), none, none, some (.inl x11), none, none]) (tw_le_s (tw_le_s (tw_le_n (tw_le_n (tw_le_s (tw_le_n (tw_le_n tw_le_0))))))) ?_
      exact j33 _ (Eq.symm (if_neg q35)))
  have h := h (fun (x36 : Int) (x37 : Int) (x38 : Int) => tw_rn (tw_YM l D ad cI cZ) Z Post 58 [some (.inr 0), some (.inl x36), some (.inl x37), some (.inl x38), none, none, none] [] (tw_mM mo_base mo_measure mo_size mo_kind mo_group mo_width mo_pair mo_known mo_root mo_level mo_type mo_resolved mo_partner mo_top mo_entry mo_override mo_isolate mo_lostIsolates mo_lostEmbeddings mo_openIsolates mo_n mo_seq mo_mark mo_beginning mo_ending mo_embedding mo_list mo_lines mo_starts mo_shownLevels mo_order)) (by
    intro x36 x37 x38 h
    refine tw_aload_n hX twd_mo_bounds_58 rfl rfl ?_
    refine tw_iload_n hX twd_mo_bounds_59 rfl rfl ?_
    refine tw_iconst hX twd_mo_bounds_60 ⟨by decide, by decide⟩ ?_
    obtain ⟨c40, h⟩ := h
    refine tw_iadd hX twd_mo_bounds_61 c40 ?_
    refine tw_iconst hX twd_mo_bounds_62 ⟨by decide, by decide⟩ ?_
    refine tw_callV (As := [.inl (x37 + 1), .inl 1]) (n := 2) hX twd_mo_bounds_63 tw_good tww_888 tww_885 tww_887 tww_57 tww_86 twk_mo_seen rfl rfl ⟨by decide, by decide⟩ rfl (Nat.le_of_ble_eq_true rfl) (twc_mo_seen h (fun z41 h => ?_))
    change tw_rn (tw_YM l D ad cI cZ) Z Post 66 [some (.inr 0), some (.inl x36), some (.inl x37), some (.inl x38), none, none, none] [.inl z41] (tw_mM mo_base mo_measure mo_size mo_kind mo_group mo_width mo_pair mo_known mo_root mo_level mo_type mo_resolved mo_partner mo_top mo_entry mo_override mo_isolate mo_lostIsolates mo_lostEmbeddings mo_openIsolates mo_n mo_seq mo_mark mo_beginning mo_ending mo_embedding mo_list mo_lines mo_starts mo_shownLevels mo_order)
    refine tw_wk (L' := [some (.inr 0), some (.inl x36), none, some (.inl x38), none, none, none]) (tw_le_s (tw_le_s (tw_le_n (tw_le_s (tw_le_n (tw_le_n (tw_le_n tw_le_0))))))) ?_
    exact h)
  refine tw_if_eq hX twd_mo_bounds_43 rfl (fun q44 => ?_) (fun q44 => ?_)
  · have h := h.1 q44
    exact h
  · have h := h.2 q44
    refine tw_aload_n hX twd_mo_bounds_46 rfl rfl ?_
    refine tw_iload_n hX twd_mo_bounds_47 rfl rfl ?_
    refine tw_callV (As := [.inl (mo_seq (Int.toNat (mo_n - 1)))]) (n := 1) hX twd_mo_bounds_48 tw_good tww_816 tww_813 tww_815 tww_41 tww_86 twk_mo_closing rfl rfl ⟨by decide, by decide⟩ rfl (Nat.le_of_ble_eq_true rfl) (twc_mo_closing h (fun z42 h => ?_))
    change tw_rn (tw_YM l D ad cI cZ) Z Post 51 [some (.inr 0), some (.inl (mo_level (Int.toNat (mo_seq (Int.toNat 0))))), some (.inl (mo_seq (Int.toNat (mo_n - 1)))), some (.inl z5), none, none, none] [.inl z42] (tw_mM mo_base mo_measure mo_size mo_kind mo_group mo_width mo_pair mo_known mo_root mo_level mo_type mo_resolved mo_partner mo_top mo_entry mo_override mo_isolate mo_lostIsolates mo_lostEmbeddings mo_openIsolates mo_n mo_seq mo_mark mo_beginning mo_ending mo_embedding mo_list mo_lines mo_starts mo_shownLevels mo_order)
    refine tw_if_ge hX twd_mo_bounds_51 rfl (fun q43 => ?_) (fun q43 => ?_)
    · have h := h.1 q43
      exact h
    · have h := h.2 q43
      refine tw_iconst hX twd_mo_bounds_54 ⟨by decide, by decide⟩ ?_
      refine tw_goto hX twd_mo_bounds_55 rfl ?_
      refine tw_wk (L' := [some (.inr 0), some (.inl (mo_level (Int.toNat (mo_seq (Int.toNat 0))))), none, some (.inl z5), none, none, none]) (tw_le_s (tw_le_s (tw_le_n (tw_le_s (tw_le_n (tw_le_n (tw_le_n tw_le_0))))))) ?_
      exact h
def two_mo_at (v1 : Int) (mo_type : Nat → Int) (mo_seq : Nat → Int) : Prop := ((0 ≤ v1 ∧ v1 < 64) ∧ (0 ≤ (mo_seq (Int.toNat v1)) ∧ (mo_seq (Int.toNat v1)) < 64))
def twr_mo_at (v1 : Int) (mo_type : Nat → Int) (mo_seq : Nat → Int) : Int := mo_type (Int.toNat (mo_seq (Int.toNat v1)))
set_option maxRecDepth 100000 in
set_option maxHeartbeats 4000000 in
theorem twc_mo_at {l : Launch} {D : va_G} {ad : Nat → Nat} {cI cZ : ClassId} {Post : tw_P} {v1 : Int} {mo_base mo_measure mo_size mo_known mo_root mo_top mo_lostIsolates mo_lostEmbeddings mo_openIsolates mo_n mo_beginning mo_ending mo_embedding mo_lines : Int} {mo_kind mo_group mo_width mo_pair mo_level mo_type mo_resolved mo_partner mo_entry mo_override mo_isolate mo_seq mo_mark mo_list mo_starts mo_shownLevels mo_order : Nat → Int} (h : two_mo_at v1 mo_type mo_seq) (hK : ∀ (z : Int), z = twr_mo_at v1 mo_type mo_seq → Post (some z) (tw_mM mo_base mo_measure mo_size mo_kind mo_group mo_width mo_pair mo_known mo_root mo_level mo_type mo_resolved mo_partner mo_top mo_entry mo_override mo_isolate mo_lostIsolates mo_lostEmbeddings mo_openIsolates mo_n mo_seq mo_mark mo_beginning mo_ending mo_embedding mo_list mo_lines mo_starts mo_shownLevels mo_order)) : tw_ct (tw_YM l D ad cI cZ) twy_mo_at (Cond.code twy_mo_at prog_11_method_27_code 2 (some .int) :: tw_Wg) 0 [.inr 0, .inl v1] (tw_mM mo_base mo_measure mo_size mo_kind mo_group mo_width mo_pair mo_known mo_root mo_level mo_type mo_resolved mo_partner mo_top mo_entry mo_override mo_isolate mo_lostIsolates mo_lostEmbeddings mo_openIsolates mo_n mo_seq mo_mark mo_beginning mo_ending mo_embedding mo_list mo_lines mo_starts mo_shownLevels mo_order) Post := by
  refine tw_of (own := twR_mo) (L0 := [some (.inr 0), some (.inl v1)]) (by decide) rfl rfl (Nat.le_of_ble_eq_true rfl) (fun Z hX => ?_)
  unfold two_mo_at at h
  refine tw_aload_n hX twd_mo_at_0 rfl rfl ?_
  refine tw_get (kf := 10) hX twd_mo_at_1 twin_mo rfl (by decide) tww_697 rfl rfl rfl ?_
  refine tw_aload_n hX twd_mo_at_4 rfl rfl ?_
  refine tw_get (kf := 21) hX twd_mo_at_5 twin_mo rfl (by decide) tww_708 rfl rfl rfl ?_
  refine tw_iload_n hX twd_mo_at_8 rfl rfl ?_
  obtain ⟨c1, h⟩ := h
  refine tw_iaload hX twd_mo_at_9 rfl c1 ?_
  have c2 := h
  refine tw_iaload hX twd_mo_at_10 rfl c2 ?_
  exact tw_ret hX twd_mo_at_11 (hK _ (Eq.symm rfl))
def two_mo_set (v1 v2 : Int) (mo_type : Nat → Int) (mo_seq : Nat → Int) : Prop := ((0 ≤ v1 ∧ v1 < 64) ∧ (0 ≤ (mo_seq (Int.toNat v1)) ∧ (mo_seq (Int.toNat v1)) < 64))
def twu_mo_set__mo_type (v1 v2 : Int) (mo_type : Nat → Int) (mo_seq : Nat → Int) : Nat → Int := tw_up mo_type (Int.toNat (mo_seq (Int.toNat v1))) v2
set_option maxRecDepth 100000 in
set_option maxHeartbeats 4000000 in
theorem twc_mo_set {l : Launch} {D : va_G} {ad : Nat → Nat} {cI cZ : ClassId} {Post : tw_P} {v1 v2 : Int} {mo_base mo_measure mo_size mo_known mo_root mo_top mo_lostIsolates mo_lostEmbeddings mo_openIsolates mo_n mo_beginning mo_ending mo_embedding mo_lines : Int} {mo_kind mo_group mo_width mo_pair mo_level mo_type mo_resolved mo_partner mo_entry mo_override mo_isolate mo_seq mo_mark mo_list mo_starts mo_shownLevels mo_order : Nat → Int} (h : two_mo_set v1 v2 mo_type mo_seq) (hK : ∀ (n_mo_type : Nat → Int), n_mo_type = twu_mo_set__mo_type v1 v2 mo_type mo_seq → Post none (tw_mM mo_base mo_measure mo_size mo_kind mo_group mo_width mo_pair mo_known mo_root mo_level n_mo_type mo_resolved mo_partner mo_top mo_entry mo_override mo_isolate mo_lostIsolates mo_lostEmbeddings mo_openIsolates mo_n mo_seq mo_mark mo_beginning mo_ending mo_embedding mo_list mo_lines mo_starts mo_shownLevels mo_order)) : tw_ct (tw_YM l D ad cI cZ) twy_mo_set (Cond.code twy_mo_set prog_11_method_28_code 3 none :: tw_Wg) 0 [.inr 0, .inl v1, .inl v2] (tw_mM mo_base mo_measure mo_size mo_kind mo_group mo_width mo_pair mo_known mo_root mo_level mo_type mo_resolved mo_partner mo_top mo_entry mo_override mo_isolate mo_lostIsolates mo_lostEmbeddings mo_openIsolates mo_n mo_seq mo_mark mo_beginning mo_ending mo_embedding mo_list mo_lines mo_starts mo_shownLevels mo_order) Post := by
  refine tw_of (own := twR_mo) (L0 := [some (.inr 0), some (.inl v1), some (.inl v2)]) (by decide) rfl rfl (Nat.le_of_ble_eq_true rfl) (fun Z hX => ?_)
  unfold two_mo_set at h
  refine tw_aload_n hX twd_mo_set_0 rfl rfl ?_
  refine tw_get (kf := 10) hX twd_mo_set_1 twin_mo rfl (by decide) tww_697 rfl rfl rfl ?_
  refine tw_aload_n hX twd_mo_set_4 rfl rfl ?_
  refine tw_get (kf := 21) hX twd_mo_set_5 twin_mo rfl (by decide) tww_708 rfl rfl rfl ?_
  refine tw_iload_n hX twd_mo_set_8 rfl rfl ?_
  obtain ⟨c1, h⟩ := h
  refine tw_iaload hX twd_mo_set_9 rfl c1 ?_
  refine tw_iload_n hX twd_mo_set_10 rfl rfl ?_
  have c2 := h
  refine tw_iastore (mem' := (tw_mM mo_base mo_measure mo_size mo_kind mo_group mo_width mo_pair mo_known mo_root mo_level (tw_up mo_type (Int.toNat (mo_seq (Int.toNat v1))) v2) mo_resolved mo_partner mo_top mo_entry mo_override mo_isolate mo_lostIsolates mo_lostEmbeddings mo_openIsolates mo_n mo_seq mo_mark mo_beginning mo_ending mo_embedding mo_list mo_lines mo_starts mo_shownLevels mo_order)) hX twd_mo_set_11 rfl c2 rfl ?_
  exact tw_vret hX twd_mo_set_12 (hK _ (Eq.symm rfl))
def twl_mo_terminators_12 (X35 : Int → Prop) (v1 : Int) (mo_type : Nat → Int) (mo_n : Int) (mo_seq : Nat → Int) : Nat → Int → Prop
  | 0, _ => False
  | f + 1, v2 =>
    ((mo_n ≤ v2 →
    X35 v2) ∧
    (¬ mo_n ≤ v2 →
    (two_mo_at v2 mo_type mo_seq) ∧ (((twr_mo_at v2 mo_type mo_seq) = 5 →
      (tw_rg (v2 + 1)) ∧ twl_mo_terminators_12 X35 v1 mo_type mo_n mo_seq f (v2 + 1)) ∧
      (¬ (twr_mo_at v2 mo_type mo_seq) = 5 →
      X35 v2))))
set_option maxRecDepth 100000 in
set_option maxHeartbeats 4000000 in
theorem twt_mo_terminators_12 {l : Launch} {D : va_G} {ad : Nat → Nat} {cI cZ : ClassId} {Z : tw_Z} {Post : tw_P} {X35 : Int → Prop} {v1 : Int} {mo_base mo_measure mo_size mo_known mo_root mo_top mo_lostIsolates mo_lostEmbeddings mo_openIsolates mo_n mo_beginning mo_ending mo_embedding mo_lines : Int} {mo_kind mo_group mo_width mo_pair mo_level mo_type mo_resolved mo_partner mo_entry mo_override mo_isolate mo_seq mo_mark mo_list mo_starts mo_shownLevels mo_order : Nat → Int} (hX : tw_cx (tw_YM l D ad cI cZ) Z prog_11_method_30_code twR_mo tw_Wg none 1 5) (hX35 : ∀ (v2 : Int), X35 v2 → tw_rn (tw_YM l D ad cI cZ) Z Post 35 [some (.inr 0), some (.inl v1), some (.inl v2), none, none] [] (tw_mM mo_base mo_measure mo_size mo_kind mo_group mo_width mo_pair mo_known mo_root mo_level mo_type mo_resolved mo_partner mo_top mo_entry mo_override mo_isolate mo_lostIsolates mo_lostEmbeddings mo_openIsolates mo_n mo_seq mo_mark mo_beginning mo_ending mo_embedding mo_list mo_lines mo_starts mo_shownLevels mo_order)) : ∀ (f : Nat) (v2 : Int), twl_mo_terminators_12 X35 v1 mo_type mo_n mo_seq f v2 → tw_rn (tw_YM l D ad cI cZ) Z Post 12 [some (.inr 0), some (.inl v1), some (.inl v2), none, none] [] (tw_mM mo_base mo_measure mo_size mo_kind mo_group mo_width mo_pair mo_known mo_root mo_level mo_type mo_resolved mo_partner mo_top mo_entry mo_override mo_isolate mo_lostIsolates mo_lostEmbeddings mo_openIsolates mo_n mo_seq mo_mark mo_beginning mo_ending mo_embedding mo_list mo_lines mo_starts mo_shownLevels mo_order) := by
  intro f
  induction f with
  | zero => intro v2 h; rw [twl_mo_terminators_12] at h; exact h.elim
  | succ f ih =>
    intro v2 h
    rw [twl_mo_terminators_12] at h
    refine tw_iload_n hX twd_mo_terminators_12 rfl rfl ?_
    refine tw_aload_n hX twd_mo_terminators_13 rfl rfl ?_
    refine tw_get (kf := 20) hX twd_mo_terminators_14 twin_mo rfl (by decide) tww_707 rfl rfl rfl ?_
    refine tw_icmp_ge hX twd_mo_terminators_17 rfl (fun q6 => ?_) (fun q6 => ?_)
    · have h := h.1 q6
      exact hX35 _ h
    · have h := h.2 q6
      refine tw_aload_n hX twd_mo_terminators_20 rfl rfl ?_
      refine tw_iload_n hX twd_mo_terminators_21 rfl rfl ?_
      obtain ⟨c1, h⟩ := h
      refine tw_callV (As := [.inl v2]) (n := 1) hX twd_mo_terminators_22 tw_good tww_905 tww_902 tww_904 tww_61 tww_86 twk_mo_at rfl rfl ⟨by decide, by decide⟩ rfl (Nat.le_of_ble_eq_true rfl) (twc_mo_at c1 (fun z2 e3 => ?_))
      subst e3
      change tw_rn (tw_YM l D ad cI cZ) Z Post 25 [some (.inr 0), some (.inl v1), some (.inl v2), none, none] [.inl (twr_mo_at v2 mo_type mo_seq)] (tw_mM mo_base mo_measure mo_size mo_kind mo_group mo_width mo_pair mo_known mo_root mo_level mo_type mo_resolved mo_partner mo_top mo_entry mo_override mo_isolate mo_lostIsolates mo_lostEmbeddings mo_openIsolates mo_n mo_seq mo_mark mo_beginning mo_ending mo_embedding mo_list mo_lines mo_starts mo_shownLevels mo_order)
      refine tw_iconst hX twd_mo_terminators_25 ⟨by decide, by decide⟩ ?_
      refine tw_icmp_ne hX twd_mo_terminators_26 rfl (fun q5 => ?_) (fun q5 => ?_)
      · have h := h.2 q5
        exact hX35 _ h
      · have h := h.1 q5
        obtain ⟨c4, h⟩ := h
        refine tw_iinc (L' := [some (.inr 0), some (.inl v1), some (.inl (v2 + 1)), none, none]) hX twd_mo_terminators_29 rfl (by decide) c4 rfl ?_
        refine tw_goto hX twd_mo_terminators_32 rfl ?_
        exact ih _ h
def twl_mo_terminators_81 (X104 : (Nat → Int) → Prop) (v1 : Int) (v2 : Int) (v3 : Int) (mo_n : Int) (mo_seq : Nat → Int) : Nat → Int → (Nat → Int) → Prop
  | 0, _, _ => False
  | f + 1, v4, mo_type =>
    ((v2 ≤ v4 →
    X104 mo_type) ∧
    (¬ v2 ≤ v4 →
    ((v3 = 0 →
      X104 mo_type) ∧
      (¬ v3 = 0 →
      (two_mo_set v4 3 mo_type mo_seq) ∧ (tw_rg (v4 + 1)) ∧ twl_mo_terminators_81 X104 v1 v2 v3 mo_n mo_seq f (v4 + 1) (twu_mo_set__mo_type v4 3 mo_type mo_seq)))))
set_option maxRecDepth 100000 in
set_option maxHeartbeats 4000000 in
theorem twt_mo_terminators_81 {l : Launch} {D : va_G} {ad : Nat → Nat} {cI cZ : ClassId} {Z : tw_Z} {Post : tw_P} {X104 : (Nat → Int) → Prop} {v1 : Int} {v2 : Int} {v3 : Int} {mo_base mo_measure mo_size mo_known mo_root mo_top mo_lostIsolates mo_lostEmbeddings mo_openIsolates mo_n mo_beginning mo_ending mo_embedding mo_lines : Int} {mo_kind mo_group mo_width mo_pair mo_level mo_resolved mo_partner mo_entry mo_override mo_isolate mo_seq mo_mark mo_list mo_starts mo_shownLevels mo_order : Nat → Int} (hX : tw_cx (tw_YM l D ad cI cZ) Z prog_11_method_30_code twR_mo tw_Wg none 1 5) (hX104 : ∀ (mo_type : Nat → Int), X104 mo_type → tw_rn (tw_YM l D ad cI cZ) Z Post 104 [some (.inr 0), some (.inl v1), some (.inl v2), none, none] [] (tw_mM mo_base mo_measure mo_size mo_kind mo_group mo_width mo_pair mo_known mo_root mo_level mo_type mo_resolved mo_partner mo_top mo_entry mo_override mo_isolate mo_lostIsolates mo_lostEmbeddings mo_openIsolates mo_n mo_seq mo_mark mo_beginning mo_ending mo_embedding mo_list mo_lines mo_starts mo_shownLevels mo_order)) : ∀ (f : Nat) (v4 : Int) (mo_type : Nat → Int), twl_mo_terminators_81 X104 v1 v2 v3 mo_n mo_seq f v4 mo_type → tw_rn (tw_YM l D ad cI cZ) Z Post 81 [some (.inr 0), some (.inl v1), some (.inl v2), some (.inl v3), some (.inl v4)] [] (tw_mM mo_base mo_measure mo_size mo_kind mo_group mo_width mo_pair mo_known mo_root mo_level mo_type mo_resolved mo_partner mo_top mo_entry mo_override mo_isolate mo_lostIsolates mo_lostEmbeddings mo_openIsolates mo_n mo_seq mo_mark mo_beginning mo_ending mo_embedding mo_list mo_lines mo_starts mo_shownLevels mo_order) := by
  intro f
  induction f with
  | zero => intro v4 mo_type h; rw [twl_mo_terminators_81] at h; exact h.elim
  | succ f ih =>
    intro v4 mo_type h
    rw [twl_mo_terminators_81] at h
    refine tw_iload hX twd_mo_terminators_81 rfl ?_
    refine tw_iload_n hX twd_mo_terminators_83 rfl rfl ?_
    refine tw_icmp_ge hX twd_mo_terminators_84 rfl (fun q16 => ?_) (fun q16 => ?_)
    · have h := h.1 q16
      refine tw_wk (L' := [some (.inr 0), some (.inl v1), some (.inl v2), none, none]) (tw_le_s (tw_le_s (tw_le_s (tw_le_n (tw_le_n tw_le_0))))) ?_
      exact hX104 _ h
    · have h := h.2 q16
      refine tw_iload_n hX twd_mo_terminators_87 rfl rfl ?_
      refine tw_if_eq hX twd_mo_terminators_88 rfl (fun q15 => ?_) (fun q15 => ?_)
      · have h := h.1 q15
        refine tw_wk (L' := [some (.inr 0), some (.inl v1), some (.inl v2), none, none]) (tw_le_s (tw_le_s (tw_le_s (tw_le_n (tw_le_n tw_le_0))))) ?_
        exact hX104 _ h
      · have h := h.2 q15
        refine tw_aload_n hX twd_mo_terminators_91 rfl rfl ?_
        refine tw_iload hX twd_mo_terminators_92 rfl ?_
        refine tw_iconst hX twd_mo_terminators_94 ⟨by decide, by decide⟩ ?_
        obtain ⟨c10, h⟩ := h
        refine tw_callV (As := [.inl v4, .inl 3]) (n := 2) hX twd_mo_terminators_95 tw_good tww_909 tww_906 tww_908 tww_62 tww_86 twk_mo_set rfl rfl ⟨by decide, by decide⟩ rfl (Nat.le_of_ble_eq_true rfl) (twc_mo_set c10 (fun w12 e13 => ?_))
        subst e13
        change tw_rn (tw_YM l D ad cI cZ) Z Post 98 [some (.inr 0), some (.inl v1), some (.inl v2), some (.inl v3), some (.inl v4)] [] (tw_mM mo_base mo_measure mo_size mo_kind mo_group mo_width mo_pair mo_known mo_root mo_level (twu_mo_set__mo_type v4 3 mo_type mo_seq) mo_resolved mo_partner mo_top mo_entry mo_override mo_isolate mo_lostIsolates mo_lostEmbeddings mo_openIsolates mo_n mo_seq mo_mark mo_beginning mo_ending mo_embedding mo_list mo_lines mo_starts mo_shownLevels mo_order)
        obtain ⟨c14, h⟩ := h
        refine tw_iinc (L' := [some (.inr 0), some (.inl v1), some (.inl v2), some (.inl v3), some (.inl (v4 + 1))]) hX twd_mo_terminators_98 rfl (by decide) c14 rfl ?_
        refine tw_goto hX twd_mo_terminators_101 rfl ?_
        exact ih _ _ h
def twl_mo_terminators_2 (X120 : (Nat → Int) → Prop) (mo_n : Int) (mo_seq : Nat → Int) : Nat → Int → (Nat → Int) → Prop
  | 0, _, _ => False
  | f + 1, v1, mo_type =>
    ((mo_n ≤ v1 →
    X120 mo_type) ∧
    (¬ mo_n ≤ v1 →
    (∃ f40 : Nat, twl_mo_terminators_12 (fun (y7 : Int) =>
      (∀ J9 : Int → Prop, (∀ (x8 : Int), ((∃ f24 : Nat, twl_mo_terminators_81 (fun (y17_mo_type : Nat → Int) =>
          (((y7 ≤ v1 → ((tw_rg (v1 + 1))))) ∧
            (∀ x19 : Int, x19 = (if y7 ≤ v1 then (v1 + 1) else y7) →
            twl_mo_terminators_2 X120 mo_n mo_seq f x19 y17_mo_type))) v1 y7 x8 mo_n mo_seq f24 v1 mo_type)) → J9 x8) →
        ∀ J25 : Prop, ((J9 0) → J25) →
        ((y7 ≤ v1 →
        J25) ∧
        (¬ y7 ≤ v1 →
        (∀ J26 : Prop, ((J9 1) → J26) →
          ∀ J27 : Prop, ((((mo_n ≤ y7 →
            J25) ∧
            (¬ mo_n ≤ y7 →
            (two_mo_at y7 mo_type mo_seq) ∧ (((twr_mo_at y7 mo_type mo_seq) = 3 →
              J26) ∧
              (¬ (twr_mo_at y7 mo_type mo_seq) = 3 →
              J25))))) → J27) →
          ((v1 ≤ 0 →
          J27) ∧
          (¬ v1 ≤ 0 →
          (tw_rg (v1 - 1)) ∧ (two_mo_at (v1 - 1) mo_type mo_seq) ∧ (((twr_mo_at (v1 - 1) mo_type mo_seq) = 3 →
            J26) ∧
            (¬ (twr_mo_at (v1 - 1) mo_type mo_seq) = 3 →
            J27))))))))) v1 mo_type mo_n mo_seq f40 v1)))
set_option maxRecDepth 100000 in
set_option maxHeartbeats 4000000 in
theorem twt_mo_terminators_2 {l : Launch} {D : va_G} {ad : Nat → Nat} {cI cZ : ClassId} {Z : tw_Z} {Post : tw_P} {X120 : (Nat → Int) → Prop} {mo_base mo_measure mo_size mo_known mo_root mo_top mo_lostIsolates mo_lostEmbeddings mo_openIsolates mo_n mo_beginning mo_ending mo_embedding mo_lines : Int} {mo_kind mo_group mo_width mo_pair mo_level mo_resolved mo_partner mo_entry mo_override mo_isolate mo_seq mo_mark mo_list mo_starts mo_shownLevels mo_order : Nat → Int} (hX : tw_cx (tw_YM l D ad cI cZ) Z prog_11_method_30_code twR_mo tw_Wg none 1 5) (hX120 : ∀ (mo_type : Nat → Int), X120 mo_type → tw_rn (tw_YM l D ad cI cZ) Z Post 120 [some (.inr 0), none, none, none, none] [] (tw_mM mo_base mo_measure mo_size mo_kind mo_group mo_width mo_pair mo_known mo_root mo_level mo_type mo_resolved mo_partner mo_top mo_entry mo_override mo_isolate mo_lostIsolates mo_lostEmbeddings mo_openIsolates mo_n mo_seq mo_mark mo_beginning mo_ending mo_embedding mo_list mo_lines mo_starts mo_shownLevels mo_order)) : ∀ (f : Nat) (v1 : Int) (mo_type : Nat → Int), twl_mo_terminators_2 X120 mo_n mo_seq f v1 mo_type → tw_rn (tw_YM l D ad cI cZ) Z Post 2 [some (.inr 0), some (.inl v1), none, none, none] [] (tw_mM mo_base mo_measure mo_size mo_kind mo_group mo_width mo_pair mo_known mo_root mo_level mo_type mo_resolved mo_partner mo_top mo_entry mo_override mo_isolate mo_lostIsolates mo_lostEmbeddings mo_openIsolates mo_n mo_seq mo_mark mo_beginning mo_ending mo_embedding mo_list mo_lines mo_starts mo_shownLevels mo_order) := by
  intro f
  induction f with
  | zero => intro v1 mo_type h; rw [twl_mo_terminators_2] at h; exact h.elim
  | succ f ih =>
    intro v1 mo_type h
    rw [twl_mo_terminators_2] at h
    refine tw_iload_n hX twd_mo_terminators_2 rfl rfl ?_
    refine tw_aload_n hX twd_mo_terminators_3 rfl rfl ?_
    refine tw_get (kf := 20) hX twd_mo_terminators_4 twin_mo rfl (by decide) tww_707 rfl rfl rfl ?_
    refine tw_icmp_ge hX twd_mo_terminators_7 rfl (fun q41 => ?_) (fun q41 => ?_)
    · have h := h.1 q41
      refine tw_wk (L' := [some (.inr 0), none, none, none, none]) (tw_le_s (tw_le_n (tw_le_n (tw_le_n (tw_le_n tw_le_0))))) ?_
      exact hX120 _ h
    · have h := h.2 q41
      refine tw_iload_n hX twd_mo_terminators_10 rfl rfl ?_
      refine tw_istore_n (L' := [some (.inr 0), some (.inl v1), some (.inl v1), none, none]) hX twd_mo_terminators_11 rfl (by decide) rfl ?_
      obtain ⟨f40, h⟩ := h
      refine twt_mo_terminators_12 hX (fun y7 h => ?_) f40 _ h
      refine tw_iload_n hX twd_mo_terminators_35 rfl rfl ?_
      refine tw_iload_n hX twd_mo_terminators_36 rfl rfl ?_
      have h := h (fun (x8 : Int) => tw_rn (tw_YM l D ad cI cZ) Z Post 77 [some (.inr 0), some (.inl v1), some (.inl y7), none, none] [.inl x8] (tw_mM mo_base mo_measure mo_size mo_kind mo_group mo_width mo_pair mo_known mo_root mo_level mo_type mo_resolved mo_partner mo_top mo_entry mo_override mo_isolate mo_lostIsolates mo_lostEmbeddings mo_openIsolates mo_n mo_seq mo_mark mo_beginning mo_ending mo_embedding mo_list mo_lines mo_starts mo_shownLevels mo_order)) (by
        intro x8 h
        refine tw_istore_n (L' := [some (.inr 0), some (.inl v1), some (.inl y7), some (.inl x8), none]) hX twd_mo_terminators_77 rfl (by decide) rfl ?_
        refine tw_iload_n hX twd_mo_terminators_78 rfl rfl ?_
        refine tw_istore (L' := [some (.inr 0), some (.inl v1), some (.inl y7), some (.inl x8), some (.inl v1)]) hX twd_mo_terminators_79 (by decide) rfl ?_
        obtain ⟨f24, h⟩ := h
        refine twt_mo_terminators_81 hX (fun y17_mo_type h => ?_) f24 _ _ h
        refine tw_iload_n hX twd_mo_terminators_104 rfl rfl ?_
        refine tw_iload_n hX twd_mo_terminators_105 rfl rfl ?_
        obtain ⟨o20, h⟩ := h
        have j21 : ∀ x19 : Int, x19 = (if y7 ≤ v1 then (v1 + 1) else y7) → tw_rn (tw_YM l D ad cI cZ) Z Post 116 [some (.inr 0), none, none, none, none] [.inl x19] (tw_mM mo_base mo_measure mo_size mo_kind mo_group mo_width mo_pair mo_known mo_root mo_level y17_mo_type mo_resolved mo_partner mo_top mo_entry mo_override mo_isolate mo_lostIsolates mo_lostEmbeddings mo_openIsolates mo_n mo_seq mo_mark mo_beginning mo_ending mo_embedding mo_list mo_lines mo_starts mo_shownLevels mo_order) := by
          intro x19 e22
          have h := h x19 e22
          refine tw_istore_n (L' := [some (.inr 0), some (.inl x19), none, none, none]) hX twd_mo_terminators_116 rfl (by decide) rfl ?_
          refine tw_goto hX twd_mo_terminators_117 rfl ?_
          exact ih _ _ h
        refine tw_icmp_le hX twd_mo_terminators_106 rfl (fun q23 => ?_) (fun q23 => ?_)
        · have _tw := trivial
          have o20 := o20 q23
          refine tw_iload_n hX twd_mo_terminators_113 rfl rfl ?_
          refine tw_iconst hX twd_mo_terminators_114 ⟨by decide, by decide⟩ ?_
          have c18 := o20
          refine tw_iadd hX twd_mo_terminators_115 c18 ?_
          refine tw_wk (L' := [some (.inr 0), none, none, none, none]) (tw_le_s (tw_le_n (tw_le_n (tw_le_n (tw_le_n tw_le_0))))) ?_
          exact j21 _ (Eq.symm (if_pos q23))
        · have _tw := trivial
          refine tw_iload_n hX twd_mo_terminators_109 rfl rfl ?_
          refine tw_goto hX twd_mo_terminators_110 rfl ?_
          refine tw_wk (L' := [some (.inr 0), none, none, none, none]) (tw_le_s (tw_le_n (tw_le_n (tw_le_n (tw_le_n tw_le_0))))) ?_
          exact j21 _ (Eq.symm (if_neg q23)))
      have h := h (tw_rn (tw_YM l D ad cI cZ) Z Post 76 [some (.inr 0), some (.inl v1), some (.inl y7), none, none] [] (tw_mM mo_base mo_measure mo_size mo_kind mo_group mo_width mo_pair mo_known mo_root mo_level mo_type mo_resolved mo_partner mo_top mo_entry mo_override mo_isolate mo_lostIsolates mo_lostEmbeddings mo_openIsolates mo_n mo_seq mo_mark mo_beginning mo_ending mo_embedding mo_list mo_lines mo_starts mo_shownLevels mo_order)) (by
        intro  h
        refine tw_iconst hX twd_mo_terminators_76 ⟨by decide, by decide⟩ ?_
        exact h)
      refine tw_icmp_le hX twd_mo_terminators_37 rfl (fun q39 => ?_) (fun q39 => ?_)
      · have h := h.1 q39
        exact h
      · have h := h.2 q39
        refine tw_iload_n hX twd_mo_terminators_40 rfl rfl ?_
        have h := h (tw_rn (tw_YM l D ad cI cZ) Z Post 72 [some (.inr 0), some (.inl v1), some (.inl y7), none, none] [] (tw_mM mo_base mo_measure mo_size mo_kind mo_group mo_width mo_pair mo_known mo_root mo_level mo_type mo_resolved mo_partner mo_top mo_entry mo_override mo_isolate mo_lostIsolates mo_lostEmbeddings mo_openIsolates mo_n mo_seq mo_mark mo_beginning mo_ending mo_embedding mo_list mo_lines mo_starts mo_shownLevels mo_order)) (by
          intro  h
          refine tw_iconst hX twd_mo_terminators_72 ⟨by decide, by decide⟩ ?_
          refine tw_goto hX twd_mo_terminators_73 rfl ?_
          exact h)
        have h := h (tw_rn (tw_YM l D ad cI cZ) Z Post 55 [some (.inr 0), some (.inl v1), some (.inl y7), none, none] [] (tw_mM mo_base mo_measure mo_size mo_kind mo_group mo_width mo_pair mo_known mo_root mo_level mo_type mo_resolved mo_partner mo_top mo_entry mo_override mo_isolate mo_lostIsolates mo_lostEmbeddings mo_openIsolates mo_n mo_seq mo_mark mo_beginning mo_ending mo_embedding mo_list mo_lines mo_starts mo_shownLevels mo_order)) (by
          intro  h
          refine tw_iload_n hX twd_mo_terminators_55 rfl rfl ?_
          refine tw_aload_n hX twd_mo_terminators_56 rfl rfl ?_
          refine tw_get (kf := 20) hX twd_mo_terminators_57 twin_mo rfl (by decide) tww_707 rfl rfl rfl ?_
          refine tw_icmp_ge hX twd_mo_terminators_60 rfl (fun q32 => ?_) (fun q32 => ?_)
          · have h := h.1 q32
            exact h
          · have h := h.2 q32
            refine tw_aload_n hX twd_mo_terminators_63 rfl rfl ?_
            refine tw_iload_n hX twd_mo_terminators_64 rfl rfl ?_
            obtain ⟨c28, h⟩ := h
            refine tw_callV (As := [.inl y7]) (n := 1) hX twd_mo_terminators_65 tw_good tww_905 tww_902 tww_904 tww_61 tww_86 twk_mo_at rfl rfl ⟨by decide, by decide⟩ rfl (Nat.le_of_ble_eq_true rfl) (twc_mo_at c28 (fun z29 e30 => ?_))
            subst e30
            change tw_rn (tw_YM l D ad cI cZ) Z Post 68 [some (.inr 0), some (.inl v1), some (.inl y7), none, none] [.inl (twr_mo_at y7 mo_type mo_seq)] (tw_mM mo_base mo_measure mo_size mo_kind mo_group mo_width mo_pair mo_known mo_root mo_level mo_type mo_resolved mo_partner mo_top mo_entry mo_override mo_isolate mo_lostIsolates mo_lostEmbeddings mo_openIsolates mo_n mo_seq mo_mark mo_beginning mo_ending mo_embedding mo_list mo_lines mo_starts mo_shownLevels mo_order)
            refine tw_iconst hX twd_mo_terminators_68 ⟨by decide, by decide⟩ ?_
            refine tw_icmp_ne hX twd_mo_terminators_69 rfl (fun q31 => ?_) (fun q31 => ?_)
            · have h := h.2 q31
              exact h
            · have h := h.1 q31
              exact h)
        refine tw_if_le hX twd_mo_terminators_41 rfl (fun q38 => ?_) (fun q38 => ?_)
        · have h := h.1 q38
          exact h
        · have h := h.2 q38
          refine tw_aload_n hX twd_mo_terminators_44 rfl rfl ?_
          refine tw_iload_n hX twd_mo_terminators_45 rfl rfl ?_
          refine tw_iconst hX twd_mo_terminators_46 ⟨by decide, by decide⟩ ?_
          obtain ⟨c33, h⟩ := h
          refine tw_isub hX twd_mo_terminators_47 c33 ?_
          obtain ⟨c34, h⟩ := h
          refine tw_callV (As := [.inl (v1 - 1)]) (n := 1) hX twd_mo_terminators_48 tw_good tww_905 tww_902 tww_904 tww_61 tww_86 twk_mo_at rfl rfl ⟨by decide, by decide⟩ rfl (Nat.le_of_ble_eq_true rfl) (twc_mo_at c34 (fun z35 e36 => ?_))
          subst e36
          change tw_rn (tw_YM l D ad cI cZ) Z Post 51 [some (.inr 0), some (.inl v1), some (.inl y7), none, none] [.inl (twr_mo_at (v1 - 1) mo_type mo_seq)] (tw_mM mo_base mo_measure mo_size mo_kind mo_group mo_width mo_pair mo_known mo_root mo_level mo_type mo_resolved mo_partner mo_top mo_entry mo_override mo_isolate mo_lostIsolates mo_lostEmbeddings mo_openIsolates mo_n mo_seq mo_mark mo_beginning mo_ending mo_embedding mo_list mo_lines mo_starts mo_shownLevels mo_order)
          refine tw_iconst hX twd_mo_terminators_51 ⟨by decide, by decide⟩ ?_
          refine tw_icmp_eq hX twd_mo_terminators_52 rfl (fun q37 => ?_) (fun q37 => ?_)
          · have h := h.1 q37
            exact h
          · have h := h.2 q37
            exact h
def twl_mo_terminators_122 (X171 : (Nat → Int) → Prop) (mo_n : Int) (mo_seq : Nat → Int) : Nat → Int → (Nat → Int) → Prop
  | 0, _, _ => False
  | f + 1, v2, mo_type =>
    ((mo_n ≤ v2 →
    X171 mo_type) ∧
    (¬ mo_n ≤ v2 →
    (two_mo_at v2 mo_type mo_seq) ∧ (∀ J47 : (Nat → Int) → Prop, (∀ (x_46_mo_type : Nat → Int), ((tw_rg (v2 + 1)) ∧ twl_mo_terminators_122 X171 mo_n mo_seq f (v2 + 1) x_46_mo_type) → J47 x_46_mo_type) →
      ∀ J49 : Prop, (((two_mo_set v2 11 mo_type mo_seq) ∧ J47 (twu_mo_set__mo_type v2 11 mo_type mo_seq)) → J49) →
      (((twr_mo_at v2 mo_type mo_seq) = 4 →
      J49) ∧
      (¬ (twr_mo_at v2 mo_type mo_seq) = 4 →
      (two_mo_at v2 mo_type mo_seq) ∧ (((twr_mo_at v2 mo_type mo_seq) = 5 →
        J49) ∧
        (¬ (twr_mo_at v2 mo_type mo_seq) = 5 →
        (two_mo_at v2 mo_type mo_seq) ∧ (((twr_mo_at v2 mo_type mo_seq) = 7 →
          J49) ∧
          (¬ (twr_mo_at v2 mo_type mo_seq) = 7 →
          J47 mo_type)))))))))
set_option maxRecDepth 100000 in
set_option maxHeartbeats 4000000 in
theorem twt_mo_terminators_122 {l : Launch} {D : va_G} {ad : Nat → Nat} {cI cZ : ClassId} {Z : tw_Z} {Post : tw_P} {X171 : (Nat → Int) → Prop} {mo_base mo_measure mo_size mo_known mo_root mo_top mo_lostIsolates mo_lostEmbeddings mo_openIsolates mo_n mo_beginning mo_ending mo_embedding mo_lines : Int} {mo_kind mo_group mo_width mo_pair mo_level mo_resolved mo_partner mo_entry mo_override mo_isolate mo_seq mo_mark mo_list mo_starts mo_shownLevels mo_order : Nat → Int} (hX : tw_cx (tw_YM l D ad cI cZ) Z prog_11_method_30_code twR_mo tw_Wg none 1 5) (hX171 : ∀ (mo_type : Nat → Int), X171 mo_type → tw_rn (tw_YM l D ad cI cZ) Z Post 171 [none, none, none, none, none] [] (tw_mM mo_base mo_measure mo_size mo_kind mo_group mo_width mo_pair mo_known mo_root mo_level mo_type mo_resolved mo_partner mo_top mo_entry mo_override mo_isolate mo_lostIsolates mo_lostEmbeddings mo_openIsolates mo_n mo_seq mo_mark mo_beginning mo_ending mo_embedding mo_list mo_lines mo_starts mo_shownLevels mo_order)) : ∀ (f : Nat) (v2 : Int) (mo_type : Nat → Int), twl_mo_terminators_122 X171 mo_n mo_seq f v2 mo_type → tw_rn (tw_YM l D ad cI cZ) Z Post 122 [some (.inr 0), none, some (.inl v2), none, none] [] (tw_mM mo_base mo_measure mo_size mo_kind mo_group mo_width mo_pair mo_known mo_root mo_level mo_type mo_resolved mo_partner mo_top mo_entry mo_override mo_isolate mo_lostIsolates mo_lostEmbeddings mo_openIsolates mo_n mo_seq mo_mark mo_beginning mo_ending mo_embedding mo_list mo_lines mo_starts mo_shownLevels mo_order) := by
  intro f
  induction f with
  | zero => intro v2 mo_type h; rw [twl_mo_terminators_122] at h; exact h.elim
  | succ f ih =>
    intro v2 mo_type h
    rw [twl_mo_terminators_122] at h
    refine tw_iload_n hX twd_mo_terminators_122 rfl rfl ?_
    refine tw_aload_n hX twd_mo_terminators_123 rfl rfl ?_
    refine tw_get (kf := 20) hX twd_mo_terminators_124 twin_mo rfl (by decide) tww_707 rfl rfl rfl ?_
    refine tw_icmp_ge hX twd_mo_terminators_127 rfl (fun q63 => ?_) (fun q63 => ?_)
    · have h := h.1 q63
      refine tw_wk (L' := [none, none, none, none, none]) (tw_le_n (tw_le_n (tw_le_n (tw_le_n (tw_le_n tw_le_0))))) ?_
      exact hX171 _ h
    · have h := h.2 q63
      refine tw_aload_n hX twd_mo_terminators_130 rfl rfl ?_
      refine tw_iload_n hX twd_mo_terminators_131 rfl rfl ?_
      obtain ⟨c43, h⟩ := h
      refine tw_callV (As := [.inl v2]) (n := 1) hX twd_mo_terminators_132 tw_good tww_905 tww_902 tww_904 tww_61 tww_86 twk_mo_at rfl rfl ⟨by decide, by decide⟩ rfl (Nat.le_of_ble_eq_true rfl) (twc_mo_at c43 (fun z44 e45 => ?_))
      subst e45
      change tw_rn (tw_YM l D ad cI cZ) Z Post 135 [some (.inr 0), none, some (.inl v2), none, none] [.inl (twr_mo_at v2 mo_type mo_seq)] (tw_mM mo_base mo_measure mo_size mo_kind mo_group mo_width mo_pair mo_known mo_root mo_level mo_type mo_resolved mo_partner mo_top mo_entry mo_override mo_isolate mo_lostIsolates mo_lostEmbeddings mo_openIsolates mo_n mo_seq mo_mark mo_beginning mo_ending mo_embedding mo_list mo_lines mo_starts mo_shownLevels mo_order)
      refine tw_iconst hX twd_mo_terminators_135 ⟨by decide, by decide⟩ ?_
      have h := h (fun (x_46_mo_type : Nat → Int) => tw_rn (tw_YM l D ad cI cZ) Z Post 165 [some (.inr 0), none, some (.inl v2), none, none] [] (tw_mM mo_base mo_measure mo_size mo_kind mo_group mo_width mo_pair mo_known mo_root mo_level x_46_mo_type mo_resolved mo_partner mo_top mo_entry mo_override mo_isolate mo_lostIsolates mo_lostEmbeddings mo_openIsolates mo_n mo_seq mo_mark mo_beginning mo_ending mo_embedding mo_list mo_lines mo_starts mo_shownLevels mo_order)) (by
        intro x_46_mo_type h
        obtain ⟨c48, h⟩ := h
        refine tw_iinc (L' := [some (.inr 0), none, some (.inl (v2 + 1)), none, none]) hX twd_mo_terminators_165 rfl (by decide) c48 rfl ?_
        refine tw_goto hX twd_mo_terminators_168 rfl ?_
        exact ih _ _ h)
      have h := h (tw_rn (tw_YM l D ad cI cZ) Z Post 158 [some (.inr 0), none, some (.inl v2), none, none] [] (tw_mM mo_base mo_measure mo_size mo_kind mo_group mo_width mo_pair mo_known mo_root mo_level mo_type mo_resolved mo_partner mo_top mo_entry mo_override mo_isolate mo_lostIsolates mo_lostEmbeddings mo_openIsolates mo_n mo_seq mo_mark mo_beginning mo_ending mo_embedding mo_list mo_lines mo_starts mo_shownLevels mo_order)) (by
        intro  h
        refine tw_aload_n hX twd_mo_terminators_158 rfl rfl ?_
        refine tw_iload_n hX twd_mo_terminators_159 rfl rfl ?_
        refine tw_bipush hX twd_mo_terminators_160 (by decide +kernel) ⟨by decide, by decide⟩ ?_
        obtain ⟨c50, h⟩ := h
        refine tw_callV (As := [.inl v2, .inl 11]) (n := 2) hX twd_mo_terminators_162 tw_good tww_909 tww_906 tww_908 tww_62 tww_86 twk_mo_set rfl rfl ⟨by decide, by decide⟩ rfl (Nat.le_of_ble_eq_true rfl) (twc_mo_set c50 (fun w52 e53 => ?_))
        subst e53
        change tw_rn (tw_YM l D ad cI cZ) Z Post 165 [some (.inr 0), none, some (.inl v2), none, none] [] (tw_mM mo_base mo_measure mo_size mo_kind mo_group mo_width mo_pair mo_known mo_root mo_level (twu_mo_set__mo_type v2 11 mo_type mo_seq) mo_resolved mo_partner mo_top mo_entry mo_override mo_isolate mo_lostIsolates mo_lostEmbeddings mo_openIsolates mo_n mo_seq mo_mark mo_beginning mo_ending mo_embedding mo_list mo_lines mo_starts mo_shownLevels mo_order)
        exact h)
      refine tw_icmp_eq hX twd_mo_terminators_136 rfl (fun q62 => ?_) (fun q62 => ?_)
      · have h := h.1 q62
        exact h
      · have h := h.2 q62
        refine tw_aload_n hX twd_mo_terminators_139 rfl rfl ?_
        refine tw_iload_n hX twd_mo_terminators_140 rfl rfl ?_
        obtain ⟨c54, h⟩ := h
        refine tw_callV (As := [.inl v2]) (n := 1) hX twd_mo_terminators_141 tw_good tww_905 tww_902 tww_904 tww_61 tww_86 twk_mo_at rfl rfl ⟨by decide, by decide⟩ rfl (Nat.le_of_ble_eq_true rfl) (twc_mo_at c54 (fun z55 e56 => ?_))
        subst e56
        change tw_rn (tw_YM l D ad cI cZ) Z Post 144 [some (.inr 0), none, some (.inl v2), none, none] [.inl (twr_mo_at v2 mo_type mo_seq)] (tw_mM mo_base mo_measure mo_size mo_kind mo_group mo_width mo_pair mo_known mo_root mo_level mo_type mo_resolved mo_partner mo_top mo_entry mo_override mo_isolate mo_lostIsolates mo_lostEmbeddings mo_openIsolates mo_n mo_seq mo_mark mo_beginning mo_ending mo_embedding mo_list mo_lines mo_starts mo_shownLevels mo_order)
        refine tw_iconst hX twd_mo_terminators_144 ⟨by decide, by decide⟩ ?_
        refine tw_icmp_eq hX twd_mo_terminators_145 rfl (fun q61 => ?_) (fun q61 => ?_)
        · have h := h.1 q61
          exact h
        · have h := h.2 q61
          refine tw_aload_n hX twd_mo_terminators_148 rfl rfl ?_
          refine tw_iload_n hX twd_mo_terminators_149 rfl rfl ?_
          obtain ⟨c57, h⟩ := h
          refine tw_callV (As := [.inl v2]) (n := 1) hX twd_mo_terminators_150 tw_good tww_905 tww_902 tww_904 tww_61 tww_86 twk_mo_at rfl rfl ⟨by decide, by decide⟩ rfl (Nat.le_of_ble_eq_true rfl) (twc_mo_at c57 (fun z58 e59 => ?_))
          subst e59
          change tw_rn (tw_YM l D ad cI cZ) Z Post 153 [some (.inr 0), none, some (.inl v2), none, none] [.inl (twr_mo_at v2 mo_type mo_seq)] (tw_mM mo_base mo_measure mo_size mo_kind mo_group mo_width mo_pair mo_known mo_root mo_level mo_type mo_resolved mo_partner mo_top mo_entry mo_override mo_isolate mo_lostIsolates mo_lostEmbeddings mo_openIsolates mo_n mo_seq mo_mark mo_beginning mo_ending mo_embedding mo_list mo_lines mo_starts mo_shownLevels mo_order)
          refine tw_bipush hX twd_mo_terminators_153 (by decide +kernel) ⟨by decide, by decide⟩ ?_
          refine tw_icmp_ne hX twd_mo_terminators_155 rfl (fun q60 => ?_) (fun q60 => ?_)
          · have h := h.2 q60
            exact h
          · have h := h.1 q60
            exact h
def tww_mo_terminators (mo_type : Nat → Int) (mo_n : Int) (mo_seq : Nat → Int) (K : (Nat → Int) → Prop) : Prop :=
  (∃ f66 : Nat, twl_mo_terminators_2 (fun (y42_mo_type : Nat → Int) =>
  (∃ f65 : Nat, twl_mo_terminators_122 (fun (y64_mo_type : Nat → Int) =>
    K y64_mo_type) mo_n mo_seq f65 0 y42_mo_type)) mo_n mo_seq f66 0 mo_type)
set_option maxRecDepth 100000 in
set_option maxHeartbeats 4000000 in
theorem twc_mo_terminators {l : Launch} {D : va_G} {ad : Nat → Nat} {cI cZ : ClassId} {Post : tw_P} {K : (Nat → Int) → Prop} {mo_base mo_measure mo_size mo_known mo_root mo_top mo_lostIsolates mo_lostEmbeddings mo_openIsolates mo_n mo_beginning mo_ending mo_embedding mo_lines : Int} {mo_kind mo_group mo_width mo_pair mo_level mo_type mo_resolved mo_partner mo_entry mo_override mo_isolate mo_seq mo_mark mo_list mo_starts mo_shownLevels mo_order : Nat → Int} (h : tww_mo_terminators mo_type mo_n mo_seq K) (hK : ∀ (n_mo_type : Nat → Int), K n_mo_type → Post none (tw_mM mo_base mo_measure mo_size mo_kind mo_group mo_width mo_pair mo_known mo_root mo_level n_mo_type mo_resolved mo_partner mo_top mo_entry mo_override mo_isolate mo_lostIsolates mo_lostEmbeddings mo_openIsolates mo_n mo_seq mo_mark mo_beginning mo_ending mo_embedding mo_list mo_lines mo_starts mo_shownLevels mo_order)) : tw_ct (tw_YM l D ad cI cZ) twy_mo_terminators (Cond.code twy_mo_terminators prog_11_method_30_code 5 none :: tw_Wg) 1 [.inr 0] (tw_mM mo_base mo_measure mo_size mo_kind mo_group mo_width mo_pair mo_known mo_root mo_level mo_type mo_resolved mo_partner mo_top mo_entry mo_override mo_isolate mo_lostIsolates mo_lostEmbeddings mo_openIsolates mo_n mo_seq mo_mark mo_beginning mo_ending mo_embedding mo_list mo_lines mo_starts mo_shownLevels mo_order) Post := by
  refine tw_of (own := twR_mo) (L0 := [some (.inr 0), none, none, none, none]) (by decide) rfl rfl (Nat.le_of_ble_eq_true rfl) (fun Z hX => ?_)
  unfold tww_mo_terminators at h
  refine tw_iconst hX twd_mo_terminators_0 ⟨by decide, by decide⟩ ?_
  refine tw_istore_n (L' := [some (.inr 0), some (.inl 0), none, none, none]) hX twd_mo_terminators_1 rfl (by decide) rfl ?_
  obtain ⟨f66, h⟩ := h
  refine twt_mo_terminators_2 hX (fun y42_mo_type h => ?_) f66 _ _ h
  refine tw_iconst hX twd_mo_terminators_120 ⟨by decide, by decide⟩ ?_
  refine tw_istore_n (L' := [some (.inr 0), none, some (.inl 0), none, none]) hX twd_mo_terminators_121 rfl (by decide) rfl ?_
  obtain ⟨f65, h⟩ := h
  refine twt_mo_terminators_122 hX (fun y64_mo_type h => ?_) f65 _ _ h
  exact tw_vret hX twd_mo_terminators_171 (hK _ h)
def twl_mo_weak_2 (X82 : (Nat → Int) → (Nat → Int) → Prop) (mo_n : Int) (mo_seq : Nat → Int) (mo_beginning : Int) : Nat → Int → (Nat → Int) → (Nat → Int) → Prop
  | 0, _, _, _ => False
  | f + 1, v1, mo_type, mo_mark =>
    ((mo_n ≤ v1 →
    X82 mo_type mo_mark) ∧
    (¬ mo_n ≤ v1 →
    (two_mo_at v1 mo_type mo_seq) ∧ (∀ x4 : Int, x4 = (if (twr_mo_at v1 mo_type mo_seq) = 8 then 1 else 0) →
      (0 ≤ v1 ∧ v1 < 64) ∧ (0 ≤ x4 ∧ x4 ≤ 1) ∧ (((¬ v1 = 0 → ((tw_rg (v1 - 1)) ∧ (two_mo_at (v1 - 1) mo_type mo_seq)))) ∧
        (∀ x11 : Int, x11 = (if v1 = 0 then mo_beginning else (twr_mo_at (v1 - 1) mo_type mo_seq)) →
        (0 ≤ v1 ∧ v1 < 64) ∧ (((¬ ((tw_up mo_mark (Int.toNat v1) x4) (Int.toNat v1)) = 0 → (((x11 < 17 → ((two_mo_set v1 x11 mo_type mo_seq))) ∧ (¬ x11 < 17 → ((two_mo_set v1 11 mo_type mo_seq))))))) ∧
          (∀ x_21_mo_type : Nat → Int, x_21_mo_type = (if ((tw_up mo_mark (Int.toNat v1) x4) (Int.toNat v1)) = 0 then mo_type else (if x11 < 17 then (twu_mo_set__mo_type v1 x11 mo_type mo_seq) else (twu_mo_set__mo_type v1 11 mo_type mo_seq))) →
          (tw_rg (v1 + 1)) ∧ twl_mo_weak_2 X82 mo_n mo_seq mo_beginning f (v1 + 1) x_21_mo_type (tw_up mo_mark (Int.toNat v1) x4))))))))
set_option maxRecDepth 100000 in
set_option maxHeartbeats 4000000 in
theorem twt_mo_weak_2 {l : Launch} {D : va_G} {ad : Nat → Nat} {cI cZ : ClassId} {Z : tw_Z} {Post : tw_P} {X82 : (Nat → Int) → (Nat → Int) → Prop} {mo_base mo_measure mo_size mo_known mo_root mo_top mo_lostIsolates mo_lostEmbeddings mo_openIsolates mo_n mo_beginning mo_ending mo_embedding mo_lines : Int} {mo_kind mo_group mo_width mo_pair mo_level mo_resolved mo_partner mo_entry mo_override mo_isolate mo_seq mo_list mo_starts mo_shownLevels mo_order : Nat → Int} (hX : tw_cx (tw_YM l D ad cI cZ) Z prog_11_method_29_code twR_mo tw_Wg none 2 4) (hX82 : ∀ (mo_type : Nat → Int) (mo_mark : Nat → Int), X82 mo_type mo_mark → tw_rn (tw_YM l D ad cI cZ) Z Post 82 [some (.inr 0), none, none, none] [] (tw_mM mo_base mo_measure mo_size mo_kind mo_group mo_width mo_pair mo_known mo_root mo_level mo_type mo_resolved mo_partner mo_top mo_entry mo_override mo_isolate mo_lostIsolates mo_lostEmbeddings mo_openIsolates mo_n mo_seq mo_mark mo_beginning mo_ending mo_embedding mo_list mo_lines mo_starts mo_shownLevels mo_order)) : ∀ (f : Nat) (v1 : Int) (mo_type : Nat → Int) (mo_mark : Nat → Int), twl_mo_weak_2 X82 mo_n mo_seq mo_beginning f v1 mo_type mo_mark → tw_rn (tw_YM l D ad cI cZ) Z Post 2 [some (.inr 0), some (.inl v1), none, none] [] (tw_mM mo_base mo_measure mo_size mo_kind mo_group mo_width mo_pair mo_known mo_root mo_level mo_type mo_resolved mo_partner mo_top mo_entry mo_override mo_isolate mo_lostIsolates mo_lostEmbeddings mo_openIsolates mo_n mo_seq mo_mark mo_beginning mo_ending mo_embedding mo_list mo_lines mo_starts mo_shownLevels mo_order) := by
  intro f
  induction f with
  | zero => intro v1 mo_type mo_mark h; rw [twl_mo_weak_2] at h; exact h.elim
  | succ f ih =>
    intro v1 mo_type mo_mark h
    rw [twl_mo_weak_2] at h
    refine tw_iload_n hX twd_mo_weak_2 rfl rfl ?_
    refine tw_aload_n hX twd_mo_weak_3 rfl rfl ?_
    refine tw_get (kf := 20) hX twd_mo_weak_4 twin_mo rfl (by decide) tww_707 rfl rfl rfl ?_
    refine tw_icmp_ge hX twd_mo_weak_7 rfl (fun q35 => ?_) (fun q35 => ?_)
    · have h := h.1 q35
      refine tw_wk (L' := [some (.inr 0), none, none, none]) (tw_le_s (tw_le_n (tw_le_n (tw_le_n tw_le_0)))) ?_
      exact hX82 _ _ h
    · have h := h.2 q35
      refine tw_aload_n hX twd_mo_weak_10 rfl rfl ?_
      refine tw_get (kf := 22) hX twd_mo_weak_11 twin_mo rfl (by decide) tww_709 rfl rfl rfl ?_
      refine tw_iload_n hX twd_mo_weak_14 rfl rfl ?_
      refine tw_aload_n hX twd_mo_weak_15 rfl rfl ?_
      refine tw_iload_n hX twd_mo_weak_16 rfl rfl ?_
      obtain ⟨c1, h⟩ := h
      refine tw_callV (As := [.inl v1]) (n := 1) hX twd_mo_weak_17 tw_good tww_905 tww_902 tww_904 tww_61 tww_86 twk_mo_at rfl rfl ⟨by decide, by decide⟩ rfl (Nat.le_of_ble_eq_true rfl) (twc_mo_at c1 (fun z2 e3 => ?_))
      subst e3
      change tw_rn (tw_YM l D ad cI cZ) Z Post 20 [some (.inr 0), some (.inl v1), none, none] [.inl (twr_mo_at v1 mo_type mo_seq), .inl v1, .inr 13] (tw_mM mo_base mo_measure mo_size mo_kind mo_group mo_width mo_pair mo_known mo_root mo_level mo_type mo_resolved mo_partner mo_top mo_entry mo_override mo_isolate mo_lostIsolates mo_lostEmbeddings mo_openIsolates mo_n mo_seq mo_mark mo_beginning mo_ending mo_embedding mo_list mo_lines mo_starts mo_shownLevels mo_order)
      refine tw_bipush hX twd_mo_weak_20 (by decide +kernel) ⟨by decide, by decide⟩ ?_
      have j32 : ∀ x4 : Int, x4 = (if (twr_mo_at v1 mo_type mo_seq) = 8 then 1 else 0) → tw_rn (tw_YM l D ad cI cZ) Z Post 30 [some (.inr 0), some (.inl v1), none, none] [.inl x4, .inl v1, .inr 13] (tw_mM mo_base mo_measure mo_size mo_kind mo_group mo_width mo_pair mo_known mo_root mo_level mo_type mo_resolved mo_partner mo_top mo_entry mo_override mo_isolate mo_lostIsolates mo_lostEmbeddings mo_openIsolates mo_n mo_seq mo_mark mo_beginning mo_ending mo_embedding mo_list mo_lines mo_starts mo_shownLevels mo_order) := by
        intro x4 e33
        have h := h x4 e33
        obtain ⟨c5, h⟩ := h
        obtain ⟨c6, h⟩ := h
        refine tw_bastore (mem' := (tw_mM mo_base mo_measure mo_size mo_kind mo_group mo_width mo_pair mo_known mo_root mo_level mo_type mo_resolved mo_partner mo_top mo_entry mo_override mo_isolate mo_lostIsolates mo_lostEmbeddings mo_openIsolates mo_n mo_seq (tw_up mo_mark (Int.toNat v1) x4) mo_beginning mo_ending mo_embedding mo_list mo_lines mo_starts mo_shownLevels mo_order)) hX twd_mo_weak_30 rfl c5 c6 rfl ?_
        refine tw_iload_n hX twd_mo_weak_31 rfl rfl ?_
        obtain ⟨o28, h⟩ := h
        have j29 : ∀ x11 : Int, x11 = (if v1 = 0 then mo_beginning else (twr_mo_at (v1 - 1) mo_type mo_seq)) → tw_rn (tw_YM l D ad cI cZ) Z Post 49 [some (.inr 0), some (.inl v1), none, none] [.inl x11] (tw_mM mo_base mo_measure mo_size mo_kind mo_group mo_width mo_pair mo_known mo_root mo_level mo_type mo_resolved mo_partner mo_top mo_entry mo_override mo_isolate mo_lostIsolates mo_lostEmbeddings mo_openIsolates mo_n mo_seq (tw_up mo_mark (Int.toNat v1) x4) mo_beginning mo_ending mo_embedding mo_list mo_lines mo_starts mo_shownLevels mo_order) := by
          intro x11 e30
          have h := h x11 e30
          refine tw_istore_n (L' := [some (.inr 0), some (.inl v1), some (.inl x11), none]) hX twd_mo_weak_49 rfl (by decide) rfl ?_
          refine tw_aload_n hX twd_mo_weak_50 rfl rfl ?_
          refine tw_get (kf := 22) hX twd_mo_weak_51 twin_mo rfl (by decide) tww_709 rfl rfl rfl ?_
          refine tw_iload_n hX twd_mo_weak_54 rfl rfl ?_
          obtain ⟨c12, h⟩ := h
          refine tw_baload hX twd_mo_weak_55 rfl c12 ?_
          obtain ⟨o23, h⟩ := h
          have j24 : ∀ x_21_mo_type : Nat → Int, x_21_mo_type = (if ((tw_up mo_mark (Int.toNat v1) x4) (Int.toNat v1)) = 0 then mo_type else (if x11 < 17 then (twu_mo_set__mo_type v1 x11 mo_type mo_seq) else (twu_mo_set__mo_type v1 11 mo_type mo_seq))) → tw_rn (tw_YM l D ad cI cZ) Z Post 76 [some (.inr 0), some (.inl v1), none, none] [] (tw_mM mo_base mo_measure mo_size mo_kind mo_group mo_width mo_pair mo_known mo_root mo_level x_21_mo_type mo_resolved mo_partner mo_top mo_entry mo_override mo_isolate mo_lostIsolates mo_lostEmbeddings mo_openIsolates mo_n mo_seq (tw_up mo_mark (Int.toNat v1) x4) mo_beginning mo_ending mo_embedding mo_list mo_lines mo_starts mo_shownLevels mo_order) := by
            intro x_21_mo_type e25
            have h := h x_21_mo_type e25
            obtain ⟨c22, h⟩ := h
            refine tw_iinc (L' := [some (.inr 0), some (.inl (v1 + 1)), none, none]) hX twd_mo_weak_76 rfl (by decide) c22 rfl ?_
            refine tw_goto hX twd_mo_weak_79 rfl ?_
            exact ih _ _ _ h
          refine tw_if_eq hX twd_mo_weak_56 rfl (fun q26 => ?_) (fun q26 => ?_)
          · have _tw := trivial
            refine tw_wk (L' := [some (.inr 0), some (.inl v1), none, none]) (tw_le_s (tw_le_s (tw_le_n (tw_le_n tw_le_0)))) ?_
            exact j24 _ (Eq.symm (if_pos q26))
          · have _tw := trivial
            have o23 := o23 q26
            refine tw_aload_n hX twd_mo_weak_59 rfl rfl ?_
            refine tw_iload_n hX twd_mo_weak_60 rfl rfl ?_
            refine tw_iload_n hX twd_mo_weak_61 rfl rfl ?_
            refine tw_bipush hX twd_mo_weak_62 (by decide +kernel) ⟨by decide, by decide⟩ ?_
            refine tw_icmp_lt hX twd_mo_weak_64 rfl (fun q27 => ?_) (fun q27 => ?_)
            · have _tw := trivial
              have o23 := o23.1 q27
              refine tw_iload_n hX twd_mo_weak_72 rfl rfl ?_
              have c13 := o23
              refine tw_callV (As := [.inl v1, .inl x11]) (n := 2) hX twd_mo_weak_73 tw_good tww_909 tww_906 tww_908 tww_62 tww_86 twk_mo_set rfl rfl ⟨by decide, by decide⟩ rfl (Nat.le_of_ble_eq_true rfl) (twc_mo_set c13 (fun w15 e16 => ?_))
              subst e16
              change tw_rn (tw_YM l D ad cI cZ) Z Post 76 [some (.inr 0), some (.inl v1), some (.inl x11), none] [] (tw_mM mo_base mo_measure mo_size mo_kind mo_group mo_width mo_pair mo_known mo_root mo_level (twu_mo_set__mo_type v1 x11 mo_type mo_seq) mo_resolved mo_partner mo_top mo_entry mo_override mo_isolate mo_lostIsolates mo_lostEmbeddings mo_openIsolates mo_n mo_seq (tw_up mo_mark (Int.toNat v1) x4) mo_beginning mo_ending mo_embedding mo_list mo_lines mo_starts mo_shownLevels mo_order)
              refine tw_wk (L' := [some (.inr 0), some (.inl v1), none, none]) (tw_le_s (tw_le_s (tw_le_n (tw_le_n tw_le_0)))) ?_
              exact j24 _ (Eq.symm (Eq.trans (if_neg q26) (if_pos q27)))
            · have _tw := trivial
              have o23 := o23.2 q27
              refine tw_bipush hX twd_mo_weak_67 (by decide +kernel) ⟨by decide, by decide⟩ ?_
              refine tw_goto hX twd_mo_weak_69 rfl ?_
              have c17 := o23
              refine tw_callV (As := [.inl v1, .inl 11]) (n := 2) hX twd_mo_weak_73 tw_good tww_909 tww_906 tww_908 tww_62 tww_86 twk_mo_set rfl rfl ⟨by decide, by decide⟩ rfl (Nat.le_of_ble_eq_true rfl) (twc_mo_set c17 (fun w19 e20 => ?_))
              subst e20
              change tw_rn (tw_YM l D ad cI cZ) Z Post 76 [some (.inr 0), some (.inl v1), some (.inl x11), none] [] (tw_mM mo_base mo_measure mo_size mo_kind mo_group mo_width mo_pair mo_known mo_root mo_level (twu_mo_set__mo_type v1 11 mo_type mo_seq) mo_resolved mo_partner mo_top mo_entry mo_override mo_isolate mo_lostIsolates mo_lostEmbeddings mo_openIsolates mo_n mo_seq (tw_up mo_mark (Int.toNat v1) x4) mo_beginning mo_ending mo_embedding mo_list mo_lines mo_starts mo_shownLevels mo_order)
              refine tw_wk (L' := [some (.inr 0), some (.inl v1), none, none]) (tw_le_s (tw_le_s (tw_le_n (tw_le_n tw_le_0)))) ?_
              exact j24 _ (Eq.symm (Eq.trans (if_neg q26) (if_neg q27)))
        refine tw_if_ne hX twd_mo_weak_32 rfl (fun q31 => ?_) (fun q31 => ?_)
        · have _tw := trivial
          have o28 := o28 q31
          refine tw_aload_n hX twd_mo_weak_42 rfl rfl ?_
          refine tw_iload_n hX twd_mo_weak_43 rfl rfl ?_
          refine tw_iconst hX twd_mo_weak_44 ⟨by decide, by decide⟩ ?_
          obtain ⟨c7, o28⟩ := o28
          refine tw_isub hX twd_mo_weak_45 c7 ?_
          have c8 := o28
          refine tw_callV (As := [.inl (v1 - 1)]) (n := 1) hX twd_mo_weak_46 tw_good tww_905 tww_902 tww_904 tww_61 tww_86 twk_mo_at rfl rfl ⟨by decide, by decide⟩ rfl (Nat.le_of_ble_eq_true rfl) (twc_mo_at c8 (fun z9 e10 => ?_))
          subst e10
          change tw_rn (tw_YM l D ad cI cZ) Z Post 49 [some (.inr 0), some (.inl v1), none, none] [.inl (twr_mo_at (v1 - 1) mo_type mo_seq)] (tw_mM mo_base mo_measure mo_size mo_kind mo_group mo_width mo_pair mo_known mo_root mo_level mo_type mo_resolved mo_partner mo_top mo_entry mo_override mo_isolate mo_lostIsolates mo_lostEmbeddings mo_openIsolates mo_n mo_seq (tw_up mo_mark (Int.toNat v1) x4) mo_beginning mo_ending mo_embedding mo_list mo_lines mo_starts mo_shownLevels mo_order)
          exact j29 _ (Eq.symm (if_neg q31))
        · have _tw := trivial
          refine tw_aload_n hX twd_mo_weak_35 rfl rfl ?_
          refine tw_get (kf := 23) hX twd_mo_weak_36 twin_mo rfl (by decide) tww_710 rfl rfl rfl ?_
          refine tw_goto hX twd_mo_weak_39 rfl ?_
          exact j29 _ (Eq.symm (if_pos q31))
      refine tw_icmp_ne hX twd_mo_weak_22 rfl (fun q34 => ?_) (fun q34 => ?_)
      · have _tw := trivial
        refine tw_iconst hX twd_mo_weak_29 ⟨by decide, by decide⟩ ?_
        exact j32 _ (Eq.symm (if_neg q34))
      · have _tw := trivial
        refine tw_iconst hX twd_mo_weak_25 ⟨by decide, by decide⟩ ?_
        refine tw_goto hX twd_mo_weak_26 rfl ?_
        exact j32 _ (Eq.symm (if_pos q34))
def twl_mo_weak_86 (X140 : (Nat → Int) → Prop) (mo_n : Int) (mo_seq : Nat → Int) (mo_mark : Nat → Int) (mo_beginning : Int) : Nat → Int → Int → (Nat → Int) → Prop
  | 0, _, _, _ => False
  | f + 1, v1, v2, mo_type =>
    ((mo_n ≤ v2 →
    X140 mo_type) ∧
    (¬ mo_n ≤ v2 →
    (two_mo_at v2 mo_type mo_seq) ∧ (((¬ 2 < (twr_mo_at v2 mo_type mo_seq) → ((two_mo_at v2 mo_type mo_seq)))) ∧
      (∀ x44 : Int, x44 = (if 2 < (twr_mo_at v2 mo_type mo_seq) then v1 else (twr_mo_at v2 mo_type mo_seq)) →
      (two_mo_at v2 mo_type mo_seq) ∧ ((((twr_mo_at v2 mo_type mo_seq) = 3 → ((x44 = 2 → ((two_mo_set v2 6 mo_type mo_seq)))))) ∧
        (∀ x_52_mo_type : Nat → Int, x_52_mo_type = (if (twr_mo_at v2 mo_type mo_seq) = 3 then (if x44 = 2 then (twu_mo_set__mo_type v2 6 mo_type mo_seq) else mo_type) else mo_type) →
        (tw_rg (v2 + 1)) ∧ twl_mo_weak_86 X140 mo_n mo_seq mo_mark mo_beginning f x44 (v2 + 1) x_52_mo_type))))))
set_option maxRecDepth 100000 in
set_option maxHeartbeats 4000000 in
theorem twt_mo_weak_86 {l : Launch} {D : va_G} {ad : Nat → Nat} {cI cZ : ClassId} {Z : tw_Z} {Post : tw_P} {X140 : (Nat → Int) → Prop} {mo_base mo_measure mo_size mo_known mo_root mo_top mo_lostIsolates mo_lostEmbeddings mo_openIsolates mo_n mo_beginning mo_ending mo_embedding mo_lines : Int} {mo_kind mo_group mo_width mo_pair mo_level mo_resolved mo_partner mo_entry mo_override mo_isolate mo_seq mo_mark mo_list mo_starts mo_shownLevels mo_order : Nat → Int} (hX : tw_cx (tw_YM l D ad cI cZ) Z prog_11_method_29_code twR_mo tw_Wg none 2 4) (hX140 : ∀ (mo_type : Nat → Int), X140 mo_type → tw_rn (tw_YM l D ad cI cZ) Z Post 140 [some (.inr 0), none, none, none] [] (tw_mM mo_base mo_measure mo_size mo_kind mo_group mo_width mo_pair mo_known mo_root mo_level mo_type mo_resolved mo_partner mo_top mo_entry mo_override mo_isolate mo_lostIsolates mo_lostEmbeddings mo_openIsolates mo_n mo_seq mo_mark mo_beginning mo_ending mo_embedding mo_list mo_lines mo_starts mo_shownLevels mo_order)) : ∀ (f : Nat) (v1 : Int) (v2 : Int) (mo_type : Nat → Int), twl_mo_weak_86 X140 mo_n mo_seq mo_mark mo_beginning f v1 v2 mo_type → tw_rn (tw_YM l D ad cI cZ) Z Post 86 [some (.inr 0), some (.inl v1), some (.inl v2), none] [] (tw_mM mo_base mo_measure mo_size mo_kind mo_group mo_width mo_pair mo_known mo_root mo_level mo_type mo_resolved mo_partner mo_top mo_entry mo_override mo_isolate mo_lostIsolates mo_lostEmbeddings mo_openIsolates mo_n mo_seq mo_mark mo_beginning mo_ending mo_embedding mo_list mo_lines mo_starts mo_shownLevels mo_order) := by
  intro f
  induction f with
  | zero => intro v1 v2 mo_type h; rw [twl_mo_weak_86] at h; exact h.elim
  | succ f ih =>
    intro v1 v2 mo_type h
    rw [twl_mo_weak_86] at h
    refine tw_iload_n hX twd_mo_weak_86 rfl rfl ?_
    refine tw_aload_n hX twd_mo_weak_87 rfl rfl ?_
    refine tw_get (kf := 20) hX twd_mo_weak_88 twin_mo rfl (by decide) tww_707 rfl rfl rfl ?_
    refine tw_icmp_ge hX twd_mo_weak_91 rfl (fun q63 => ?_) (fun q63 => ?_)
    · have h := h.1 q63
      refine tw_wk (L' := [some (.inr 0), none, none, none]) (tw_le_s (tw_le_n (tw_le_n (tw_le_n tw_le_0)))) ?_
      exact hX140 _ h
    · have h := h.2 q63
      refine tw_aload_n hX twd_mo_weak_94 rfl rfl ?_
      refine tw_iload_n hX twd_mo_weak_95 rfl rfl ?_
      obtain ⟨c38, h⟩ := h
      refine tw_callV (As := [.inl v2]) (n := 1) hX twd_mo_weak_96 tw_good tww_905 tww_902 tww_904 tww_61 tww_86 twk_mo_at rfl rfl ⟨by decide, by decide⟩ rfl (Nat.le_of_ble_eq_true rfl) (twc_mo_at c38 (fun z39 e40 => ?_))
      subst e40
      change tw_rn (tw_YM l D ad cI cZ) Z Post 99 [some (.inr 0), some (.inl v1), some (.inl v2), none] [.inl (twr_mo_at v2 mo_type mo_seq)] (tw_mM mo_base mo_measure mo_size mo_kind mo_group mo_width mo_pair mo_known mo_root mo_level mo_type mo_resolved mo_partner mo_top mo_entry mo_override mo_isolate mo_lostIsolates mo_lostEmbeddings mo_openIsolates mo_n mo_seq mo_mark mo_beginning mo_ending mo_embedding mo_list mo_lines mo_starts mo_shownLevels mo_order)
      refine tw_iconst hX twd_mo_weak_99 ⟨by decide, by decide⟩ ?_
      obtain ⟨o59, h⟩ := h
      have j60 : ∀ x44 : Int, x44 = (if 2 < (twr_mo_at v2 mo_type mo_seq) then v1 else (twr_mo_at v2 mo_type mo_seq)) → tw_rn (tw_YM l D ad cI cZ) Z Post 112 [some (.inr 0), none, some (.inl v2), none] [.inl x44] (tw_mM mo_base mo_measure mo_size mo_kind mo_group mo_width mo_pair mo_known mo_root mo_level mo_type mo_resolved mo_partner mo_top mo_entry mo_override mo_isolate mo_lostIsolates mo_lostEmbeddings mo_openIsolates mo_n mo_seq mo_mark mo_beginning mo_ending mo_embedding mo_list mo_lines mo_starts mo_shownLevels mo_order) := by
        intro x44 e61
        have h := h x44 e61
        refine tw_istore_n (L' := [some (.inr 0), some (.inl x44), some (.inl v2), none]) hX twd_mo_weak_112 rfl (by decide) rfl ?_
        refine tw_aload_n hX twd_mo_weak_113 rfl rfl ?_
        refine tw_iload_n hX twd_mo_weak_114 rfl rfl ?_
        obtain ⟨c45, h⟩ := h
        refine tw_callV (As := [.inl v2]) (n := 1) hX twd_mo_weak_115 tw_good tww_905 tww_902 tww_904 tww_61 tww_86 twk_mo_at rfl rfl ⟨by decide, by decide⟩ rfl (Nat.le_of_ble_eq_true rfl) (twc_mo_at c45 (fun z46 e47 => ?_))
        subst e47
        change tw_rn (tw_YM l D ad cI cZ) Z Post 118 [some (.inr 0), some (.inl x44), some (.inl v2), none] [.inl (twr_mo_at v2 mo_type mo_seq)] (tw_mM mo_base mo_measure mo_size mo_kind mo_group mo_width mo_pair mo_known mo_root mo_level mo_type mo_resolved mo_partner mo_top mo_entry mo_override mo_isolate mo_lostIsolates mo_lostEmbeddings mo_openIsolates mo_n mo_seq mo_mark mo_beginning mo_ending mo_embedding mo_list mo_lines mo_starts mo_shownLevels mo_order)
        refine tw_iconst hX twd_mo_weak_118 ⟨by decide, by decide⟩ ?_
        obtain ⟨o54, h⟩ := h
        have j55 : ∀ x_52_mo_type : Nat → Int, x_52_mo_type = (if (twr_mo_at v2 mo_type mo_seq) = 3 then (if x44 = 2 then (twu_mo_set__mo_type v2 6 mo_type mo_seq) else mo_type) else mo_type) → tw_rn (tw_YM l D ad cI cZ) Z Post 134 [some (.inr 0), some (.inl x44), some (.inl v2), none] [] (tw_mM mo_base mo_measure mo_size mo_kind mo_group mo_width mo_pair mo_known mo_root mo_level x_52_mo_type mo_resolved mo_partner mo_top mo_entry mo_override mo_isolate mo_lostIsolates mo_lostEmbeddings mo_openIsolates mo_n mo_seq mo_mark mo_beginning mo_ending mo_embedding mo_list mo_lines mo_starts mo_shownLevels mo_order) := by
          intro x_52_mo_type e56
          have h := h x_52_mo_type e56
          obtain ⟨c53, h⟩ := h
          refine tw_iinc (L' := [some (.inr 0), some (.inl x44), some (.inl (v2 + 1)), none]) hX twd_mo_weak_134 rfl (by decide) c53 rfl ?_
          refine tw_goto hX twd_mo_weak_137 rfl ?_
          exact ih _ _ _ h
        refine tw_icmp_ne hX twd_mo_weak_119 rfl (fun q57 => ?_) (fun q57 => ?_)
        · have _tw := trivial
          exact j55 _ (Eq.symm (if_neg q57))
        · have _tw := trivial
          have o54 := o54 q57
          refine tw_iload_n hX twd_mo_weak_122 rfl rfl ?_
          refine tw_iconst hX twd_mo_weak_123 ⟨by decide, by decide⟩ ?_
          refine tw_icmp_ne hX twd_mo_weak_124 rfl (fun q58 => ?_) (fun q58 => ?_)
          · have _tw := trivial
            exact j55 _ (Eq.symm (Eq.trans (if_pos q57) (if_neg q58)))
          · have _tw := trivial
            have o54 := o54 q58
            refine tw_aload_n hX twd_mo_weak_127 rfl rfl ?_
            refine tw_iload_n hX twd_mo_weak_128 rfl rfl ?_
            refine tw_bipush hX twd_mo_weak_129 (by decide +kernel) ⟨by decide, by decide⟩ ?_
            have c48 := o54
            refine tw_callV (As := [.inl v2, .inl 6]) (n := 2) hX twd_mo_weak_131 tw_good tww_909 tww_906 tww_908 tww_62 tww_86 twk_mo_set rfl rfl ⟨by decide, by decide⟩ rfl (Nat.le_of_ble_eq_true rfl) (twc_mo_set c48 (fun w50 e51 => ?_))
            subst e51
            change tw_rn (tw_YM l D ad cI cZ) Z Post 134 [some (.inr 0), some (.inl x44), some (.inl v2), none] [] (tw_mM mo_base mo_measure mo_size mo_kind mo_group mo_width mo_pair mo_known mo_root mo_level (twu_mo_set__mo_type v2 6 mo_type mo_seq) mo_resolved mo_partner mo_top mo_entry mo_override mo_isolate mo_lostIsolates mo_lostEmbeddings mo_openIsolates mo_n mo_seq mo_mark mo_beginning mo_ending mo_embedding mo_list mo_lines mo_starts mo_shownLevels mo_order)
            exact j55 _ (Eq.symm (Eq.trans (if_pos q57) (if_pos q58)))
      refine tw_icmp_gt hX twd_mo_weak_100 rfl (fun q62 => ?_) (fun q62 => ?_)
      · have _tw := trivial
        refine tw_iload_n hX twd_mo_weak_111 rfl rfl ?_
        refine tw_wk (L' := [some (.inr 0), none, some (.inl v2), none]) (tw_le_s (tw_le_n (tw_le_s (tw_le_n tw_le_0)))) ?_
        exact j60 _ (Eq.symm (if_pos q62))
      · have _tw := trivial
        have o59 := o59 q62
        refine tw_aload_n hX twd_mo_weak_103 rfl rfl ?_
        refine tw_iload_n hX twd_mo_weak_104 rfl rfl ?_
        have c41 := o59
        refine tw_callV (As := [.inl v2]) (n := 1) hX twd_mo_weak_105 tw_good tww_905 tww_902 tww_904 tww_61 tww_86 twk_mo_at rfl rfl ⟨by decide, by decide⟩ rfl (Nat.le_of_ble_eq_true rfl) (twc_mo_at c41 (fun z42 e43 => ?_))
        subst e43
        change tw_rn (tw_YM l D ad cI cZ) Z Post 108 [some (.inr 0), some (.inl v1), some (.inl v2), none] [.inl (twr_mo_at v2 mo_type mo_seq)] (tw_mM mo_base mo_measure mo_size mo_kind mo_group mo_width mo_pair mo_known mo_root mo_level mo_type mo_resolved mo_partner mo_top mo_entry mo_override mo_isolate mo_lostIsolates mo_lostEmbeddings mo_openIsolates mo_n mo_seq mo_mark mo_beginning mo_ending mo_embedding mo_list mo_lines mo_starts mo_shownLevels mo_order)
        refine tw_goto hX twd_mo_weak_108 rfl ?_
        refine tw_wk (L' := [some (.inr 0), none, some (.inl v2), none]) (tw_le_s (tw_le_n (tw_le_s (tw_le_n tw_le_0)))) ?_
        exact j60 _ (Eq.symm (if_neg q62))
def twl_mo_weak_142 (X171 : (Nat → Int) → Prop) (mo_n : Int) (mo_seq : Nat → Int) (mo_mark : Nat → Int) (mo_beginning : Int) : Nat → Int → (Nat → Int) → Prop
  | 0, _, _ => False
  | f + 1, v2, mo_type =>
    ((mo_n ≤ v2 →
    X171 mo_type) ∧
    (¬ mo_n ≤ v2 →
    (two_mo_at v2 mo_type mo_seq) ∧ ((((twr_mo_at v2 mo_type mo_seq) = 2 → ((two_mo_set v2 1 mo_type mo_seq)))) ∧
      (∀ x_72_mo_type : Nat → Int, x_72_mo_type = (if (twr_mo_at v2 mo_type mo_seq) = 2 then (twu_mo_set__mo_type v2 1 mo_type mo_seq) else mo_type) →
      (tw_rg (v2 + 1)) ∧ twl_mo_weak_142 X171 mo_n mo_seq mo_mark mo_beginning f (v2 + 1) x_72_mo_type))))
set_option maxRecDepth 100000 in
set_option maxHeartbeats 4000000 in
theorem twt_mo_weak_142 {l : Launch} {D : va_G} {ad : Nat → Nat} {cI cZ : ClassId} {Z : tw_Z} {Post : tw_P} {X171 : (Nat → Int) → Prop} {mo_base mo_measure mo_size mo_known mo_root mo_top mo_lostIsolates mo_lostEmbeddings mo_openIsolates mo_n mo_beginning mo_ending mo_embedding mo_lines : Int} {mo_kind mo_group mo_width mo_pair mo_level mo_resolved mo_partner mo_entry mo_override mo_isolate mo_seq mo_mark mo_list mo_starts mo_shownLevels mo_order : Nat → Int} (hX : tw_cx (tw_YM l D ad cI cZ) Z prog_11_method_29_code twR_mo tw_Wg none 2 4) (hX171 : ∀ (mo_type : Nat → Int), X171 mo_type → tw_rn (tw_YM l D ad cI cZ) Z Post 171 [some (.inr 0), none, none, none] [] (tw_mM mo_base mo_measure mo_size mo_kind mo_group mo_width mo_pair mo_known mo_root mo_level mo_type mo_resolved mo_partner mo_top mo_entry mo_override mo_isolate mo_lostIsolates mo_lostEmbeddings mo_openIsolates mo_n mo_seq mo_mark mo_beginning mo_ending mo_embedding mo_list mo_lines mo_starts mo_shownLevels mo_order)) : ∀ (f : Nat) (v2 : Int) (mo_type : Nat → Int), twl_mo_weak_142 X171 mo_n mo_seq mo_mark mo_beginning f v2 mo_type → tw_rn (tw_YM l D ad cI cZ) Z Post 142 [some (.inr 0), none, some (.inl v2), none] [] (tw_mM mo_base mo_measure mo_size mo_kind mo_group mo_width mo_pair mo_known mo_root mo_level mo_type mo_resolved mo_partner mo_top mo_entry mo_override mo_isolate mo_lostIsolates mo_lostEmbeddings mo_openIsolates mo_n mo_seq mo_mark mo_beginning mo_ending mo_embedding mo_list mo_lines mo_starts mo_shownLevels mo_order) := by
  intro f
  induction f with
  | zero => intro v2 mo_type h; rw [twl_mo_weak_142] at h; exact h.elim
  | succ f ih =>
    intro v2 mo_type h
    rw [twl_mo_weak_142] at h
    refine tw_iload_n hX twd_mo_weak_142 rfl rfl ?_
    refine tw_aload_n hX twd_mo_weak_143 rfl rfl ?_
    refine tw_get (kf := 20) hX twd_mo_weak_144 twin_mo rfl (by decide) tww_707 rfl rfl rfl ?_
    refine tw_icmp_ge hX twd_mo_weak_147 rfl (fun q78 => ?_) (fun q78 => ?_)
    · have h := h.1 q78
      refine tw_wk (L' := [some (.inr 0), none, none, none]) (tw_le_s (tw_le_n (tw_le_n (tw_le_n tw_le_0)))) ?_
      exact hX171 _ h
    · have h := h.2 q78
      refine tw_aload_n hX twd_mo_weak_150 rfl rfl ?_
      refine tw_iload_n hX twd_mo_weak_151 rfl rfl ?_
      obtain ⟨c65, h⟩ := h
      refine tw_callV (As := [.inl v2]) (n := 1) hX twd_mo_weak_152 tw_good tww_905 tww_902 tww_904 tww_61 tww_86 twk_mo_at rfl rfl ⟨by decide, by decide⟩ rfl (Nat.le_of_ble_eq_true rfl) (twc_mo_at c65 (fun z66 e67 => ?_))
      subst e67
      change tw_rn (tw_YM l D ad cI cZ) Z Post 155 [some (.inr 0), none, some (.inl v2), none] [.inl (twr_mo_at v2 mo_type mo_seq)] (tw_mM mo_base mo_measure mo_size mo_kind mo_group mo_width mo_pair mo_known mo_root mo_level mo_type mo_resolved mo_partner mo_top mo_entry mo_override mo_isolate mo_lostIsolates mo_lostEmbeddings mo_openIsolates mo_n mo_seq mo_mark mo_beginning mo_ending mo_embedding mo_list mo_lines mo_starts mo_shownLevels mo_order)
      refine tw_iconst hX twd_mo_weak_155 ⟨by decide, by decide⟩ ?_
      obtain ⟨o74, h⟩ := h
      have j75 : ∀ x_72_mo_type : Nat → Int, x_72_mo_type = (if (twr_mo_at v2 mo_type mo_seq) = 2 then (twu_mo_set__mo_type v2 1 mo_type mo_seq) else mo_type) → tw_rn (tw_YM l D ad cI cZ) Z Post 165 [some (.inr 0), none, some (.inl v2), none] [] (tw_mM mo_base mo_measure mo_size mo_kind mo_group mo_width mo_pair mo_known mo_root mo_level x_72_mo_type mo_resolved mo_partner mo_top mo_entry mo_override mo_isolate mo_lostIsolates mo_lostEmbeddings mo_openIsolates mo_n mo_seq mo_mark mo_beginning mo_ending mo_embedding mo_list mo_lines mo_starts mo_shownLevels mo_order) := by
        intro x_72_mo_type e76
        have h := h x_72_mo_type e76
        obtain ⟨c73, h⟩ := h
        refine tw_iinc (L' := [some (.inr 0), none, some (.inl (v2 + 1)), none]) hX twd_mo_weak_165 rfl (by decide) c73 rfl ?_
        refine tw_goto hX twd_mo_weak_168 rfl ?_
        exact ih _ _ h
      refine tw_icmp_ne hX twd_mo_weak_156 rfl (fun q77 => ?_) (fun q77 => ?_)
      · have _tw := trivial
        exact j75 _ (Eq.symm (if_neg q77))
      · have _tw := trivial
        have o74 := o74 q77
        refine tw_aload_n hX twd_mo_weak_159 rfl rfl ?_
        refine tw_iload_n hX twd_mo_weak_160 rfl rfl ?_
        refine tw_iconst hX twd_mo_weak_161 ⟨by decide, by decide⟩ ?_
        have c68 := o74
        refine tw_callV (As := [.inl v2, .inl 1]) (n := 2) hX twd_mo_weak_162 tw_good tww_909 tww_906 tww_908 tww_62 tww_86 twk_mo_set rfl rfl ⟨by decide, by decide⟩ rfl (Nat.le_of_ble_eq_true rfl) (twc_mo_set c68 (fun w70 e71 => ?_))
        subst e71
        change tw_rn (tw_YM l D ad cI cZ) Z Post 165 [some (.inr 0), none, some (.inl v2), none] [] (tw_mM mo_base mo_measure mo_size mo_kind mo_group mo_width mo_pair mo_known mo_root mo_level (twu_mo_set__mo_type v2 1 mo_type mo_seq) mo_resolved mo_partner mo_top mo_entry mo_override mo_isolate mo_lostIsolates mo_lostEmbeddings mo_openIsolates mo_n mo_seq mo_mark mo_beginning mo_ending mo_embedding mo_list mo_lines mo_starts mo_shownLevels mo_order)
        exact j75 _ (Eq.symm (if_pos q77))
def twl_mo_weak_173 (X280 : (Nat → Int) → Prop) (mo_n : Int) (mo_seq : Nat → Int) (mo_mark : Nat → Int) (mo_beginning : Int) : Nat → Int → (Nat → Int) → Prop
  | 0, _, _ => False
  | f + 1, v2, mo_type =>
    (tw_rg (v2 + 1)) ∧ ((mo_n ≤ (v2 + 1) →
    X280 mo_type) ∧
    (¬ mo_n ≤ (v2 + 1) →
    (tw_rg (v2 - 1)) ∧ (two_mo_at (v2 - 1) mo_type mo_seq) ∧ (tw_rg (v2 + 1)) ∧ (two_mo_at (v2 + 1) mo_type mo_seq) ∧ (∀ J90 : Int → Prop, (∀ (x89 : Int), ((two_mo_at v2 mo_type mo_seq) ∧ (∀ J95 : (Nat → Int) → Prop, (∀ (x_94_mo_type : Nat → Int), ((tw_rg (v2 + 1)) ∧ twl_mo_weak_173 X280 mo_n mo_seq mo_mark mo_beginning f (v2 + 1) x_94_mo_type) → J95 x_94_mo_type) →
        ∀ J98 : Int → Prop, (∀ (x97 : Int), (((x97 = 0 →
          J95 mo_type) ∧
          (¬ x97 = 0 →
          (tw_rg (v2 - 1)) ∧ (two_mo_at (v2 - 1) mo_type mo_seq) ∧ (two_mo_set v2 (twr_mo_at (v2 - 1) mo_type mo_seq) mo_type mo_seq) ∧ J95 (twu_mo_set__mo_type v2 (twr_mo_at (v2 - 1) mo_type mo_seq) mo_type mo_seq)))) → J98 x97) →
        (((twr_mo_at v2 mo_type mo_seq) = 4 →
        J98 x89) ∧
        (¬ (twr_mo_at v2 mo_type mo_seq) = 4 →
        (two_mo_at v2 mo_type mo_seq) ∧ (((twr_mo_at v2 mo_type mo_seq) = 7 →
          J98 x89) ∧
          (¬ (twr_mo_at v2 mo_type mo_seq) = 7 →
          J95 mo_type)))))) → J90 x89) →
      ∀ J113 : Prop, ((J90 0) → J113) →
      (((twr_mo_at (v2 - 1) mo_type mo_seq) = (twr_mo_at (v2 + 1) mo_type mo_seq) →
      (tw_rg (v2 - 1)) ∧ (two_mo_at (v2 - 1) mo_type mo_seq) ∧ (∀ J118 : Prop, ((J90 1) → J118) →
        (((twr_mo_at (v2 - 1) mo_type mo_seq) = 3 →
        J118) ∧
        (¬ (twr_mo_at (v2 - 1) mo_type mo_seq) = 3 →
        (tw_rg (v2 - 1)) ∧ (two_mo_at (v2 - 1) mo_type mo_seq) ∧ (((twr_mo_at (v2 - 1) mo_type mo_seq) = 6 →
          (two_mo_at v2 mo_type mo_seq) ∧ (((twr_mo_at v2 mo_type mo_seq) = 7 →
            J118) ∧
            (¬ (twr_mo_at v2 mo_type mo_seq) = 7 →
            J113))) ∧
          (¬ (twr_mo_at (v2 - 1) mo_type mo_seq) = 6 →
          J113)))))) ∧
      (¬ (twr_mo_at (v2 - 1) mo_type mo_seq) = (twr_mo_at (v2 + 1) mo_type mo_seq) →
      J113)))))
set_option maxRecDepth 100000 in
set_option maxHeartbeats 4000000 in
theorem twt_mo_weak_173 {l : Launch} {D : va_G} {ad : Nat → Nat} {cI cZ : ClassId} {Z : tw_Z} {Post : tw_P} {X280 : (Nat → Int) → Prop} {mo_base mo_measure mo_size mo_known mo_root mo_top mo_lostIsolates mo_lostEmbeddings mo_openIsolates mo_n mo_beginning mo_ending mo_embedding mo_lines : Int} {mo_kind mo_group mo_width mo_pair mo_level mo_resolved mo_partner mo_entry mo_override mo_isolate mo_seq mo_mark mo_list mo_starts mo_shownLevels mo_order : Nat → Int} (hX : tw_cx (tw_YM l D ad cI cZ) Z prog_11_method_29_code twR_mo tw_Wg none 2 4) (hX280 : ∀ (mo_type : Nat → Int), X280 mo_type → tw_rn (tw_YM l D ad cI cZ) Z Post 280 [some (.inr 0), none, none, none] [] (tw_mM mo_base mo_measure mo_size mo_kind mo_group mo_width mo_pair mo_known mo_root mo_level mo_type mo_resolved mo_partner mo_top mo_entry mo_override mo_isolate mo_lostIsolates mo_lostEmbeddings mo_openIsolates mo_n mo_seq mo_mark mo_beginning mo_ending mo_embedding mo_list mo_lines mo_starts mo_shownLevels mo_order)) : ∀ (f : Nat) (v2 : Int) (mo_type : Nat → Int), twl_mo_weak_173 X280 mo_n mo_seq mo_mark mo_beginning f v2 mo_type → tw_rn (tw_YM l D ad cI cZ) Z Post 173 [some (.inr 0), none, some (.inl v2), none] [] (tw_mM mo_base mo_measure mo_size mo_kind mo_group mo_width mo_pair mo_known mo_root mo_level mo_type mo_resolved mo_partner mo_top mo_entry mo_override mo_isolate mo_lostIsolates mo_lostEmbeddings mo_openIsolates mo_n mo_seq mo_mark mo_beginning mo_ending mo_embedding mo_list mo_lines mo_starts mo_shownLevels mo_order) := by
  intro f
  induction f with
  | zero => intro v2 mo_type h; rw [twl_mo_weak_173] at h; exact h.elim
  | succ f ih =>
    intro v2 mo_type h
    rw [twl_mo_weak_173] at h
    refine tw_iload_n hX twd_mo_weak_173 rfl rfl ?_
    refine tw_iconst hX twd_mo_weak_174 ⟨by decide, by decide⟩ ?_
    obtain ⟨c80, h⟩ := h
    refine tw_iadd hX twd_mo_weak_175 c80 ?_
    refine tw_aload_n hX twd_mo_weak_176 rfl rfl ?_
    refine tw_get (kf := 20) hX twd_mo_weak_177 twin_mo rfl (by decide) tww_707 rfl rfl rfl ?_
    refine tw_icmp_ge hX twd_mo_weak_180 rfl (fun q130 => ?_) (fun q130 => ?_)
    · have h := h.1 q130
      refine tw_wk (L' := [some (.inr 0), none, none, none]) (tw_le_s (tw_le_n (tw_le_n (tw_le_n tw_le_0)))) ?_
      exact hX280 _ h
    · have h := h.2 q130
      refine tw_aload_n hX twd_mo_weak_183 rfl rfl ?_
      refine tw_iload_n hX twd_mo_weak_184 rfl rfl ?_
      refine tw_iconst hX twd_mo_weak_185 ⟨by decide, by decide⟩ ?_
      obtain ⟨c81, h⟩ := h
      refine tw_isub hX twd_mo_weak_186 c81 ?_
      obtain ⟨c82, h⟩ := h
      refine tw_callV (As := [.inl (v2 - 1)]) (n := 1) hX twd_mo_weak_187 tw_good tww_905 tww_902 tww_904 tww_61 tww_86 twk_mo_at rfl rfl ⟨by decide, by decide⟩ rfl (Nat.le_of_ble_eq_true rfl) (twc_mo_at c82 (fun z83 e84 => ?_))
      subst e84
      change tw_rn (tw_YM l D ad cI cZ) Z Post 190 [some (.inr 0), none, some (.inl v2), none] [.inl (twr_mo_at (v2 - 1) mo_type mo_seq)] (tw_mM mo_base mo_measure mo_size mo_kind mo_group mo_width mo_pair mo_known mo_root mo_level mo_type mo_resolved mo_partner mo_top mo_entry mo_override mo_isolate mo_lostIsolates mo_lostEmbeddings mo_openIsolates mo_n mo_seq mo_mark mo_beginning mo_ending mo_embedding mo_list mo_lines mo_starts mo_shownLevels mo_order)
      refine tw_aload_n hX twd_mo_weak_190 rfl rfl ?_
      refine tw_iload_n hX twd_mo_weak_191 rfl rfl ?_
      refine tw_iconst hX twd_mo_weak_192 ⟨by decide, by decide⟩ ?_
      obtain ⟨c85, h⟩ := h
      refine tw_iadd hX twd_mo_weak_193 c85 ?_
      obtain ⟨c86, h⟩ := h
      refine tw_callV (As := [.inl (v2 + 1)]) (n := 1) hX twd_mo_weak_194 tw_good tww_905 tww_902 tww_904 tww_61 tww_86 twk_mo_at rfl rfl ⟨by decide, by decide⟩ rfl (Nat.le_of_ble_eq_true rfl) (twc_mo_at c86 (fun z87 e88 => ?_))
      subst e88
      change tw_rn (tw_YM l D ad cI cZ) Z Post 197 [some (.inr 0), none, some (.inl v2), none] [.inl (twr_mo_at (v2 + 1) mo_type mo_seq), .inl (twr_mo_at (v2 - 1) mo_type mo_seq)] (tw_mM mo_base mo_measure mo_size mo_kind mo_group mo_width mo_pair mo_known mo_root mo_level mo_type mo_resolved mo_partner mo_top mo_entry mo_override mo_isolate mo_lostIsolates mo_lostEmbeddings mo_openIsolates mo_n mo_seq mo_mark mo_beginning mo_ending mo_embedding mo_list mo_lines mo_starts mo_shownLevels mo_order)
      have h := h (fun (x89 : Int) => tw_rn (tw_YM l D ad cI cZ) Z Post 238 [some (.inr 0), none, some (.inl v2), none] [.inl x89] (tw_mM mo_base mo_measure mo_size mo_kind mo_group mo_width mo_pair mo_known mo_root mo_level mo_type mo_resolved mo_partner mo_top mo_entry mo_override mo_isolate mo_lostIsolates mo_lostEmbeddings mo_openIsolates mo_n mo_seq mo_mark mo_beginning mo_ending mo_embedding mo_list mo_lines mo_starts mo_shownLevels mo_order)) (by
        intro x89 h
        refine tw_istore_n (L' := [some (.inr 0), none, some (.inl v2), some (.inl x89)]) hX twd_mo_weak_238 rfl (by decide) rfl ?_
        refine tw_aload_n hX twd_mo_weak_239 rfl rfl ?_
        refine tw_iload_n hX twd_mo_weak_240 rfl rfl ?_
        obtain ⟨c91, h⟩ := h
        refine tw_callV (As := [.inl v2]) (n := 1) hX twd_mo_weak_241 tw_good tww_905 tww_902 tww_904 tww_61 tww_86 twk_mo_at rfl rfl ⟨by decide, by decide⟩ rfl (Nat.le_of_ble_eq_true rfl) (twc_mo_at c91 (fun z92 e93 => ?_))
        subst e93
        change tw_rn (tw_YM l D ad cI cZ) Z Post 244 [some (.inr 0), none, some (.inl v2), some (.inl x89)] [.inl (twr_mo_at v2 mo_type mo_seq)] (tw_mM mo_base mo_measure mo_size mo_kind mo_group mo_width mo_pair mo_known mo_root mo_level mo_type mo_resolved mo_partner mo_top mo_entry mo_override mo_isolate mo_lostIsolates mo_lostEmbeddings mo_openIsolates mo_n mo_seq mo_mark mo_beginning mo_ending mo_embedding mo_list mo_lines mo_starts mo_shownLevels mo_order)
        refine tw_iconst hX twd_mo_weak_244 ⟨by decide, by decide⟩ ?_
        have h := h (fun (x_94_mo_type : Nat → Int) => tw_rn (tw_YM l D ad cI cZ) Z Post 274 [some (.inr 0), none, some (.inl v2), none] [] (tw_mM mo_base mo_measure mo_size mo_kind mo_group mo_width mo_pair mo_known mo_root mo_level x_94_mo_type mo_resolved mo_partner mo_top mo_entry mo_override mo_isolate mo_lostIsolates mo_lostEmbeddings mo_openIsolates mo_n mo_seq mo_mark mo_beginning mo_ending mo_embedding mo_list mo_lines mo_starts mo_shownLevels mo_order)) (by
          intro x_94_mo_type h
          obtain ⟨c96, h⟩ := h
          refine tw_iinc (L' := [some (.inr 0), none, some (.inl (v2 + 1)), none]) hX twd_mo_weak_274 rfl (by decide) c96 rfl ?_
          refine tw_goto hX twd_mo_weak_277 rfl ?_
          exact ih _ _ h)
        have h := h (fun (x97 : Int) => tw_rn (tw_YM l D ad cI cZ) Z Post 258 [some (.inr 0), none, some (.inl v2), some (.inl x97)] [] (tw_mM mo_base mo_measure mo_size mo_kind mo_group mo_width mo_pair mo_known mo_root mo_level mo_type mo_resolved mo_partner mo_top mo_entry mo_override mo_isolate mo_lostIsolates mo_lostEmbeddings mo_openIsolates mo_n mo_seq mo_mark mo_beginning mo_ending mo_embedding mo_list mo_lines mo_starts mo_shownLevels mo_order)) (by
          intro x97 h
          refine tw_iload_n hX twd_mo_weak_258 rfl rfl ?_
          refine tw_if_eq hX twd_mo_weak_259 rfl (fun q107 => ?_) (fun q107 => ?_)
          · have h := h.1 q107
            refine tw_wk (L' := [some (.inr 0), none, some (.inl v2), none]) (tw_le_s (tw_le_n (tw_le_s (tw_le_n tw_le_0)))) ?_
            exact h
          · have h := h.2 q107
            refine tw_aload_n hX twd_mo_weak_262 rfl rfl ?_
            refine tw_iload_n hX twd_mo_weak_263 rfl rfl ?_
            refine tw_aload_n hX twd_mo_weak_264 rfl rfl ?_
            refine tw_iload_n hX twd_mo_weak_265 rfl rfl ?_
            refine tw_iconst hX twd_mo_weak_266 ⟨by decide, by decide⟩ ?_
            obtain ⟨c99, h⟩ := h
            refine tw_isub hX twd_mo_weak_267 c99 ?_
            obtain ⟨c100, h⟩ := h
            refine tw_callV (As := [.inl (v2 - 1)]) (n := 1) hX twd_mo_weak_268 tw_good tww_905 tww_902 tww_904 tww_61 tww_86 twk_mo_at rfl rfl ⟨by decide, by decide⟩ rfl (Nat.le_of_ble_eq_true rfl) (twc_mo_at c100 (fun z101 e102 => ?_))
            subst e102
            change tw_rn (tw_YM l D ad cI cZ) Z Post 271 [some (.inr 0), none, some (.inl v2), some (.inl x97)] [.inl (twr_mo_at (v2 - 1) mo_type mo_seq), .inl v2, .inr 0] (tw_mM mo_base mo_measure mo_size mo_kind mo_group mo_width mo_pair mo_known mo_root mo_level mo_type mo_resolved mo_partner mo_top mo_entry mo_override mo_isolate mo_lostIsolates mo_lostEmbeddings mo_openIsolates mo_n mo_seq mo_mark mo_beginning mo_ending mo_embedding mo_list mo_lines mo_starts mo_shownLevels mo_order)
            obtain ⟨c103, h⟩ := h
            refine tw_callV (As := [.inl v2, .inl (twr_mo_at (v2 - 1) mo_type mo_seq)]) (n := 2) hX twd_mo_weak_271 tw_good tww_909 tww_906 tww_908 tww_62 tww_86 twk_mo_set rfl rfl ⟨by decide, by decide⟩ rfl (Nat.le_of_ble_eq_true rfl) (twc_mo_set c103 (fun w105 e106 => ?_))
            subst e106
            change tw_rn (tw_YM l D ad cI cZ) Z Post 274 [some (.inr 0), none, some (.inl v2), some (.inl x97)] [] (tw_mM mo_base mo_measure mo_size mo_kind mo_group mo_width mo_pair mo_known mo_root mo_level (twu_mo_set__mo_type v2 (twr_mo_at (v2 - 1) mo_type mo_seq) mo_type mo_seq) mo_resolved mo_partner mo_top mo_entry mo_override mo_isolate mo_lostIsolates mo_lostEmbeddings mo_openIsolates mo_n mo_seq mo_mark mo_beginning mo_ending mo_embedding mo_list mo_lines mo_starts mo_shownLevels mo_order)
            refine tw_wk (L' := [some (.inr 0), none, some (.inl v2), none]) (tw_le_s (tw_le_n (tw_le_s (tw_le_n tw_le_0)))) ?_
            exact h)
        refine tw_icmp_eq hX twd_mo_weak_245 rfl (fun q112 => ?_) (fun q112 => ?_)
        · have h := h.1 q112
          exact h
        · have h := h.2 q112
          refine tw_aload_n hX twd_mo_weak_248 rfl rfl ?_
          refine tw_iload_n hX twd_mo_weak_249 rfl rfl ?_
          obtain ⟨c108, h⟩ := h
          refine tw_callV (As := [.inl v2]) (n := 1) hX twd_mo_weak_250 tw_good tww_905 tww_902 tww_904 tww_61 tww_86 twk_mo_at rfl rfl ⟨by decide, by decide⟩ rfl (Nat.le_of_ble_eq_true rfl) (twc_mo_at c108 (fun z109 e110 => ?_))
          subst e110
          change tw_rn (tw_YM l D ad cI cZ) Z Post 253 [some (.inr 0), none, some (.inl v2), some (.inl x89)] [.inl (twr_mo_at v2 mo_type mo_seq)] (tw_mM mo_base mo_measure mo_size mo_kind mo_group mo_width mo_pair mo_known mo_root mo_level mo_type mo_resolved mo_partner mo_top mo_entry mo_override mo_isolate mo_lostIsolates mo_lostEmbeddings mo_openIsolates mo_n mo_seq mo_mark mo_beginning mo_ending mo_embedding mo_list mo_lines mo_starts mo_shownLevels mo_order)
          refine tw_bipush hX twd_mo_weak_253 (by decide +kernel) ⟨by decide, by decide⟩ ?_
          refine tw_icmp_ne hX twd_mo_weak_255 rfl (fun q111 => ?_) (fun q111 => ?_)
          · have h := h.2 q111
            refine tw_wk (L' := [some (.inr 0), none, some (.inl v2), none]) (tw_le_s (tw_le_n (tw_le_s (tw_le_n tw_le_0)))) ?_
            exact h
          · have h := h.1 q111
            exact h)
      have h := h (tw_rn (tw_YM l D ad cI cZ) Z Post 237 [some (.inr 0), none, some (.inl v2), none] [] (tw_mM mo_base mo_measure mo_size mo_kind mo_group mo_width mo_pair mo_known mo_root mo_level mo_type mo_resolved mo_partner mo_top mo_entry mo_override mo_isolate mo_lostIsolates mo_lostEmbeddings mo_openIsolates mo_n mo_seq mo_mark mo_beginning mo_ending mo_embedding mo_list mo_lines mo_starts mo_shownLevels mo_order)) (by
        intro  h
        refine tw_iconst hX twd_mo_weak_237 ⟨by decide, by decide⟩ ?_
        exact h)
      refine tw_icmp_ne hX twd_mo_weak_197 rfl (fun q129 => ?_) (fun q129 => ?_)
      · have h := h.2 q129
        exact h
      · have h := h.1 q129
        refine tw_aload_n hX twd_mo_weak_200 rfl rfl ?_
        refine tw_iload_n hX twd_mo_weak_201 rfl rfl ?_
        refine tw_iconst hX twd_mo_weak_202 ⟨by decide, by decide⟩ ?_
        obtain ⟨c114, h⟩ := h
        refine tw_isub hX twd_mo_weak_203 c114 ?_
        obtain ⟨c115, h⟩ := h
        refine tw_callV (As := [.inl (v2 - 1)]) (n := 1) hX twd_mo_weak_204 tw_good tww_905 tww_902 tww_904 tww_61 tww_86 twk_mo_at rfl rfl ⟨by decide, by decide⟩ rfl (Nat.le_of_ble_eq_true rfl) (twc_mo_at c115 (fun z116 e117 => ?_))
        subst e117
        change tw_rn (tw_YM l D ad cI cZ) Z Post 207 [some (.inr 0), none, some (.inl v2), none] [.inl (twr_mo_at (v2 - 1) mo_type mo_seq)] (tw_mM mo_base mo_measure mo_size mo_kind mo_group mo_width mo_pair mo_known mo_root mo_level mo_type mo_resolved mo_partner mo_top mo_entry mo_override mo_isolate mo_lostIsolates mo_lostEmbeddings mo_openIsolates mo_n mo_seq mo_mark mo_beginning mo_ending mo_embedding mo_list mo_lines mo_starts mo_shownLevels mo_order)
        refine tw_iconst hX twd_mo_weak_207 ⟨by decide, by decide⟩ ?_
        have h := h (tw_rn (tw_YM l D ad cI cZ) Z Post 233 [some (.inr 0), none, some (.inl v2), none] [] (tw_mM mo_base mo_measure mo_size mo_kind mo_group mo_width mo_pair mo_known mo_root mo_level mo_type mo_resolved mo_partner mo_top mo_entry mo_override mo_isolate mo_lostIsolates mo_lostEmbeddings mo_openIsolates mo_n mo_seq mo_mark mo_beginning mo_ending mo_embedding mo_list mo_lines mo_starts mo_shownLevels mo_order)) (by
          intro  h
          refine tw_iconst hX twd_mo_weak_233 ⟨by decide, by decide⟩ ?_
          refine tw_goto hX twd_mo_weak_234 rfl ?_
          exact h)
        refine tw_icmp_eq hX twd_mo_weak_208 rfl (fun q128 => ?_) (fun q128 => ?_)
        · have h := h.1 q128
          exact h
        · have h := h.2 q128
          refine tw_aload_n hX twd_mo_weak_211 rfl rfl ?_
          refine tw_iload_n hX twd_mo_weak_212 rfl rfl ?_
          refine tw_iconst hX twd_mo_weak_213 ⟨by decide, by decide⟩ ?_
          obtain ⟨c119, h⟩ := h
          refine tw_isub hX twd_mo_weak_214 c119 ?_
          obtain ⟨c120, h⟩ := h
          refine tw_callV (As := [.inl (v2 - 1)]) (n := 1) hX twd_mo_weak_215 tw_good tww_905 tww_902 tww_904 tww_61 tww_86 twk_mo_at rfl rfl ⟨by decide, by decide⟩ rfl (Nat.le_of_ble_eq_true rfl) (twc_mo_at c120 (fun z121 e122 => ?_))
          subst e122
          change tw_rn (tw_YM l D ad cI cZ) Z Post 218 [some (.inr 0), none, some (.inl v2), none] [.inl (twr_mo_at (v2 - 1) mo_type mo_seq)] (tw_mM mo_base mo_measure mo_size mo_kind mo_group mo_width mo_pair mo_known mo_root mo_level mo_type mo_resolved mo_partner mo_top mo_entry mo_override mo_isolate mo_lostIsolates mo_lostEmbeddings mo_openIsolates mo_n mo_seq mo_mark mo_beginning mo_ending mo_embedding mo_list mo_lines mo_starts mo_shownLevels mo_order)
          refine tw_bipush hX twd_mo_weak_218 (by decide +kernel) ⟨by decide, by decide⟩ ?_
          refine tw_icmp_ne hX twd_mo_weak_220 rfl (fun q127 => ?_) (fun q127 => ?_)
          · have h := h.2 q127
            exact h
          · have h := h.1 q127
            refine tw_aload_n hX twd_mo_weak_223 rfl rfl ?_
            refine tw_iload_n hX twd_mo_weak_224 rfl rfl ?_
            obtain ⟨c123, h⟩ := h
            refine tw_callV (As := [.inl v2]) (n := 1) hX twd_mo_weak_225 tw_good tww_905 tww_902 tww_904 tww_61 tww_86 twk_mo_at rfl rfl ⟨by decide, by decide⟩ rfl (Nat.le_of_ble_eq_true rfl) (twc_mo_at c123 (fun z124 e125 => ?_))
            subst e125
            change tw_rn (tw_YM l D ad cI cZ) Z Post 228 [some (.inr 0), none, some (.inl v2), none] [.inl (twr_mo_at v2 mo_type mo_seq)] (tw_mM mo_base mo_measure mo_size mo_kind mo_group mo_width mo_pair mo_known mo_root mo_level mo_type mo_resolved mo_partner mo_top mo_entry mo_override mo_isolate mo_lostIsolates mo_lostEmbeddings mo_openIsolates mo_n mo_seq mo_mark mo_beginning mo_ending mo_embedding mo_list mo_lines mo_starts mo_shownLevels mo_order)
            refine tw_bipush hX twd_mo_weak_228 (by decide +kernel) ⟨by decide, by decide⟩ ?_
            refine tw_icmp_ne hX twd_mo_weak_230 rfl (fun q126 => ?_) (fun q126 => ?_)
            · have h := h.2 q126
              exact h
            · have h := h.1 q126
              exact h
def twl_mo_weak_291 (X343 : (Nat → Int) → Prop) (mo_n : Int) (mo_seq : Nat → Int) (mo_mark : Nat → Int) (mo_beginning : Int) : Nat → Int → Int → (Nat → Int) → Prop
  | 0, _, _, _ => False
  | f + 1, v1, v2, mo_type =>
    ((mo_n ≤ v2 →
    X343 mo_type) ∧
    (¬ mo_n ≤ v2 →
    (two_mo_at v2 mo_type mo_seq) ∧ (((¬ 1 < (twr_mo_at v2 mo_type mo_seq) → ((two_mo_at v2 mo_type mo_seq)))) ∧
      (∀ x139 : Int, x139 = (if 1 < (twr_mo_at v2 mo_type mo_seq) then v1 else (twr_mo_at v2 mo_type mo_seq)) →
      (two_mo_at v2 mo_type mo_seq) ∧ ((((twr_mo_at v2 mo_type mo_seq) = 3 → ((x139 = 0 → ((two_mo_set v2 0 mo_type mo_seq)))))) ∧
        (∀ x_147_mo_type : Nat → Int, x_147_mo_type = (if (twr_mo_at v2 mo_type mo_seq) = 3 then (if x139 = 0 then (twu_mo_set__mo_type v2 0 mo_type mo_seq) else mo_type) else mo_type) →
        (tw_rg (v2 + 1)) ∧ twl_mo_weak_291 X343 mo_n mo_seq mo_mark mo_beginning f x139 (v2 + 1) x_147_mo_type))))))
set_option maxRecDepth 100000 in
set_option maxHeartbeats 4000000 in
theorem twt_mo_weak_291 {l : Launch} {D : va_G} {ad : Nat → Nat} {cI cZ : ClassId} {Z : tw_Z} {Post : tw_P} {X343 : (Nat → Int) → Prop} {mo_base mo_measure mo_size mo_known mo_root mo_top mo_lostIsolates mo_lostEmbeddings mo_openIsolates mo_n mo_beginning mo_ending mo_embedding mo_lines : Int} {mo_kind mo_group mo_width mo_pair mo_level mo_resolved mo_partner mo_entry mo_override mo_isolate mo_seq mo_mark mo_list mo_starts mo_shownLevels mo_order : Nat → Int} (hX : tw_cx (tw_YM l D ad cI cZ) Z prog_11_method_29_code twR_mo tw_Wg none 2 4) (hX343 : ∀ (mo_type : Nat → Int), X343 mo_type → tw_rn (tw_YM l D ad cI cZ) Z Post 343 [none, none, none, none] [] (tw_mM mo_base mo_measure mo_size mo_kind mo_group mo_width mo_pair mo_known mo_root mo_level mo_type mo_resolved mo_partner mo_top mo_entry mo_override mo_isolate mo_lostIsolates mo_lostEmbeddings mo_openIsolates mo_n mo_seq mo_mark mo_beginning mo_ending mo_embedding mo_list mo_lines mo_starts mo_shownLevels mo_order)) : ∀ (f : Nat) (v1 : Int) (v2 : Int) (mo_type : Nat → Int), twl_mo_weak_291 X343 mo_n mo_seq mo_mark mo_beginning f v1 v2 mo_type → tw_rn (tw_YM l D ad cI cZ) Z Post 291 [some (.inr 0), some (.inl v1), some (.inl v2), none] [] (tw_mM mo_base mo_measure mo_size mo_kind mo_group mo_width mo_pair mo_known mo_root mo_level mo_type mo_resolved mo_partner mo_top mo_entry mo_override mo_isolate mo_lostIsolates mo_lostEmbeddings mo_openIsolates mo_n mo_seq mo_mark mo_beginning mo_ending mo_embedding mo_list mo_lines mo_starts mo_shownLevels mo_order) := by
  intro f
  induction f with
  | zero => intro v1 v2 mo_type h; rw [twl_mo_weak_291] at h; exact h.elim
  | succ f ih =>
    intro v1 v2 mo_type h
    rw [twl_mo_weak_291] at h
    refine tw_iload_n hX twd_mo_weak_291 rfl rfl ?_
    refine tw_aload_n hX twd_mo_weak_292 rfl rfl ?_
    refine tw_get (kf := 20) hX twd_mo_weak_293 twin_mo rfl (by decide) tww_707 rfl rfl rfl ?_
    refine tw_icmp_ge hX twd_mo_weak_296 rfl (fun q158 => ?_) (fun q158 => ?_)
    · have h := h.1 q158
      refine tw_wk (L' := [none, none, none, none]) (tw_le_n (tw_le_n (tw_le_n (tw_le_n tw_le_0)))) ?_
      exact hX343 _ h
    · have h := h.2 q158
      refine tw_aload_n hX twd_mo_weak_299 rfl rfl ?_
      refine tw_iload_n hX twd_mo_weak_300 rfl rfl ?_
      obtain ⟨c133, h⟩ := h
      refine tw_callV (As := [.inl v2]) (n := 1) hX twd_mo_weak_301 tw_good tww_905 tww_902 tww_904 tww_61 tww_86 twk_mo_at rfl rfl ⟨by decide, by decide⟩ rfl (Nat.le_of_ble_eq_true rfl) (twc_mo_at c133 (fun z134 e135 => ?_))
      subst e135
      change tw_rn (tw_YM l D ad cI cZ) Z Post 304 [some (.inr 0), some (.inl v1), some (.inl v2), none] [.inl (twr_mo_at v2 mo_type mo_seq)] (tw_mM mo_base mo_measure mo_size mo_kind mo_group mo_width mo_pair mo_known mo_root mo_level mo_type mo_resolved mo_partner mo_top mo_entry mo_override mo_isolate mo_lostIsolates mo_lostEmbeddings mo_openIsolates mo_n mo_seq mo_mark mo_beginning mo_ending mo_embedding mo_list mo_lines mo_starts mo_shownLevels mo_order)
      refine tw_iconst hX twd_mo_weak_304 ⟨by decide, by decide⟩ ?_
      obtain ⟨o154, h⟩ := h
      have j155 : ∀ x139 : Int, x139 = (if 1 < (twr_mo_at v2 mo_type mo_seq) then v1 else (twr_mo_at v2 mo_type mo_seq)) → tw_rn (tw_YM l D ad cI cZ) Z Post 317 [some (.inr 0), none, some (.inl v2), none] [.inl x139] (tw_mM mo_base mo_measure mo_size mo_kind mo_group mo_width mo_pair mo_known mo_root mo_level mo_type mo_resolved mo_partner mo_top mo_entry mo_override mo_isolate mo_lostIsolates mo_lostEmbeddings mo_openIsolates mo_n mo_seq mo_mark mo_beginning mo_ending mo_embedding mo_list mo_lines mo_starts mo_shownLevels mo_order) := by
        intro x139 e156
        have h := h x139 e156
        refine tw_istore_n (L' := [some (.inr 0), some (.inl x139), some (.inl v2), none]) hX twd_mo_weak_317 rfl (by decide) rfl ?_
        refine tw_aload_n hX twd_mo_weak_318 rfl rfl ?_
        refine tw_iload_n hX twd_mo_weak_319 rfl rfl ?_
        obtain ⟨c140, h⟩ := h
        refine tw_callV (As := [.inl v2]) (n := 1) hX twd_mo_weak_320 tw_good tww_905 tww_902 tww_904 tww_61 tww_86 twk_mo_at rfl rfl ⟨by decide, by decide⟩ rfl (Nat.le_of_ble_eq_true rfl) (twc_mo_at c140 (fun z141 e142 => ?_))
        subst e142
        change tw_rn (tw_YM l D ad cI cZ) Z Post 323 [some (.inr 0), some (.inl x139), some (.inl v2), none] [.inl (twr_mo_at v2 mo_type mo_seq)] (tw_mM mo_base mo_measure mo_size mo_kind mo_group mo_width mo_pair mo_known mo_root mo_level mo_type mo_resolved mo_partner mo_top mo_entry mo_override mo_isolate mo_lostIsolates mo_lostEmbeddings mo_openIsolates mo_n mo_seq mo_mark mo_beginning mo_ending mo_embedding mo_list mo_lines mo_starts mo_shownLevels mo_order)
        refine tw_iconst hX twd_mo_weak_323 ⟨by decide, by decide⟩ ?_
        obtain ⟨o149, h⟩ := h
        have j150 : ∀ x_147_mo_type : Nat → Int, x_147_mo_type = (if (twr_mo_at v2 mo_type mo_seq) = 3 then (if x139 = 0 then (twu_mo_set__mo_type v2 0 mo_type mo_seq) else mo_type) else mo_type) → tw_rn (tw_YM l D ad cI cZ) Z Post 337 [some (.inr 0), some (.inl x139), some (.inl v2), none] [] (tw_mM mo_base mo_measure mo_size mo_kind mo_group mo_width mo_pair mo_known mo_root mo_level x_147_mo_type mo_resolved mo_partner mo_top mo_entry mo_override mo_isolate mo_lostIsolates mo_lostEmbeddings mo_openIsolates mo_n mo_seq mo_mark mo_beginning mo_ending mo_embedding mo_list mo_lines mo_starts mo_shownLevels mo_order) := by
          intro x_147_mo_type e151
          have h := h x_147_mo_type e151
          obtain ⟨c148, h⟩ := h
          refine tw_iinc (L' := [some (.inr 0), some (.inl x139), some (.inl (v2 + 1)), none]) hX twd_mo_weak_337 rfl (by decide) c148 rfl ?_
          refine tw_goto hX twd_mo_weak_340 rfl ?_
          exact ih _ _ _ h
        refine tw_icmp_ne hX twd_mo_weak_324 rfl (fun q152 => ?_) (fun q152 => ?_)
        · have _tw := trivial
          exact j150 _ (Eq.symm (if_neg q152))
        · have _tw := trivial
          have o149 := o149 q152
          refine tw_iload_n hX twd_mo_weak_327 rfl rfl ?_
          refine tw_if_ne hX twd_mo_weak_328 rfl (fun q153 => ?_) (fun q153 => ?_)
          · have _tw := trivial
            exact j150 _ (Eq.symm (Eq.trans (if_pos q152) (if_neg q153)))
          · have _tw := trivial
            have o149 := o149 q153
            refine tw_aload_n hX twd_mo_weak_331 rfl rfl ?_
            refine tw_iload_n hX twd_mo_weak_332 rfl rfl ?_
            refine tw_iconst hX twd_mo_weak_333 ⟨by decide, by decide⟩ ?_
            have c143 := o149
            refine tw_callV (As := [.inl v2, .inl 0]) (n := 2) hX twd_mo_weak_334 tw_good tww_909 tww_906 tww_908 tww_62 tww_86 twk_mo_set rfl rfl ⟨by decide, by decide⟩ rfl (Nat.le_of_ble_eq_true rfl) (twc_mo_set c143 (fun w145 e146 => ?_))
            subst e146
            change tw_rn (tw_YM l D ad cI cZ) Z Post 337 [some (.inr 0), some (.inl x139), some (.inl v2), none] [] (tw_mM mo_base mo_measure mo_size mo_kind mo_group mo_width mo_pair mo_known mo_root mo_level (twu_mo_set__mo_type v2 0 mo_type mo_seq) mo_resolved mo_partner mo_top mo_entry mo_override mo_isolate mo_lostIsolates mo_lostEmbeddings mo_openIsolates mo_n mo_seq mo_mark mo_beginning mo_ending mo_embedding mo_list mo_lines mo_starts mo_shownLevels mo_order)
            exact j150 _ (Eq.symm (Eq.trans (if_pos q152) (if_pos q153)))
      refine tw_icmp_gt hX twd_mo_weak_305 rfl (fun q157 => ?_) (fun q157 => ?_)
      · have _tw := trivial
        refine tw_iload_n hX twd_mo_weak_316 rfl rfl ?_
        refine tw_wk (L' := [some (.inr 0), none, some (.inl v2), none]) (tw_le_s (tw_le_n (tw_le_s (tw_le_n tw_le_0)))) ?_
        exact j155 _ (Eq.symm (if_pos q157))
      · have _tw := trivial
        have o154 := o154 q157
        refine tw_aload_n hX twd_mo_weak_308 rfl rfl ?_
        refine tw_iload_n hX twd_mo_weak_309 rfl rfl ?_
        have c136 := o154
        refine tw_callV (As := [.inl v2]) (n := 1) hX twd_mo_weak_310 tw_good tww_905 tww_902 tww_904 tww_61 tww_86 twk_mo_at rfl rfl ⟨by decide, by decide⟩ rfl (Nat.le_of_ble_eq_true rfl) (twc_mo_at c136 (fun z137 e138 => ?_))
        subst e138
        change tw_rn (tw_YM l D ad cI cZ) Z Post 313 [some (.inr 0), some (.inl v1), some (.inl v2), none] [.inl (twr_mo_at v2 mo_type mo_seq)] (tw_mM mo_base mo_measure mo_size mo_kind mo_group mo_width mo_pair mo_known mo_root mo_level mo_type mo_resolved mo_partner mo_top mo_entry mo_override mo_isolate mo_lostIsolates mo_lostEmbeddings mo_openIsolates mo_n mo_seq mo_mark mo_beginning mo_ending mo_embedding mo_list mo_lines mo_starts mo_shownLevels mo_order)
        refine tw_goto hX twd_mo_weak_313 rfl ?_
        refine tw_wk (L' := [some (.inr 0), none, some (.inl v2), none]) (tw_le_s (tw_le_n (tw_le_s (tw_le_n tw_le_0)))) ?_
        exact j155 _ (Eq.symm (if_neg q157))
def tww_mo_weak (mo_type : Nat → Int) (mo_n : Int) (mo_seq : Nat → Int) (mo_mark : Nat → Int) (mo_beginning : Int) (K : (Nat → Int) → (Nat → Int) → Prop) : Prop :=
  (∃ f164 : Nat, twl_mo_weak_2 (fun (y36_mo_type : Nat → Int) (y37_mo_mark : Nat → Int) =>
  (∃ f163 : Nat, twl_mo_weak_86 (fun (y64_mo_type : Nat → Int) =>
    (∃ f162 : Nat, twl_mo_weak_142 (fun (y79_mo_type : Nat → Int) =>
      (∃ f161 : Nat, twl_mo_weak_173 (fun (y131_mo_type : Nat → Int) =>
        tww_mo_terminators y131_mo_type mo_n mo_seq (fun m_132_mo_type =>
          (∃ f160 : Nat, twl_mo_weak_291 (fun (y159_mo_type : Nat → Int) =>
          K y159_mo_type y37_mo_mark) mo_n mo_seq y37_mo_mark mo_beginning f160 mo_beginning 0 m_132_mo_type))) mo_n mo_seq y37_mo_mark mo_beginning f161 1 y79_mo_type)) mo_n mo_seq y37_mo_mark mo_beginning f162 0 y64_mo_type)) mo_n mo_seq y37_mo_mark mo_beginning f163 (-1) 0 y36_mo_type)) mo_n mo_seq mo_beginning f164 0 mo_type mo_mark)
set_option maxRecDepth 100000 in
set_option maxHeartbeats 4000000 in
theorem twc_mo_weak {l : Launch} {D : va_G} {ad : Nat → Nat} {cI cZ : ClassId} {Post : tw_P} {K : (Nat → Int) → (Nat → Int) → Prop} {mo_base mo_measure mo_size mo_known mo_root mo_top mo_lostIsolates mo_lostEmbeddings mo_openIsolates mo_n mo_beginning mo_ending mo_embedding mo_lines : Int} {mo_kind mo_group mo_width mo_pair mo_level mo_type mo_resolved mo_partner mo_entry mo_override mo_isolate mo_seq mo_mark mo_list mo_starts mo_shownLevels mo_order : Nat → Int} (h : tww_mo_weak mo_type mo_n mo_seq mo_mark mo_beginning K) (hK : ∀ (n_mo_type : Nat → Int) (n_mo_mark : Nat → Int), K n_mo_type n_mo_mark → Post none (tw_mM mo_base mo_measure mo_size mo_kind mo_group mo_width mo_pair mo_known mo_root mo_level n_mo_type mo_resolved mo_partner mo_top mo_entry mo_override mo_isolate mo_lostIsolates mo_lostEmbeddings mo_openIsolates mo_n mo_seq n_mo_mark mo_beginning mo_ending mo_embedding mo_list mo_lines mo_starts mo_shownLevels mo_order)) : tw_ct (tw_YM l D ad cI cZ) twy_mo_weak (Cond.code twy_mo_weak prog_11_method_29_code 4 none :: tw_Wg) 2 [.inr 0] (tw_mM mo_base mo_measure mo_size mo_kind mo_group mo_width mo_pair mo_known mo_root mo_level mo_type mo_resolved mo_partner mo_top mo_entry mo_override mo_isolate mo_lostIsolates mo_lostEmbeddings mo_openIsolates mo_n mo_seq mo_mark mo_beginning mo_ending mo_embedding mo_list mo_lines mo_starts mo_shownLevels mo_order) Post := by
  refine tw_of (own := twR_mo) (L0 := [some (.inr 0), none, none, none]) (by decide) rfl rfl (Nat.le_of_ble_eq_true rfl) (fun Z hX => ?_)
  unfold tww_mo_weak at h
  refine tw_iconst hX twd_mo_weak_0 ⟨by decide, by decide⟩ ?_
  refine tw_istore_n (L' := [some (.inr 0), some (.inl 0), none, none]) hX twd_mo_weak_1 rfl (by decide) rfl ?_
  obtain ⟨f164, h⟩ := h
  refine twt_mo_weak_2 hX (fun y36_mo_type y37_mo_mark h => ?_) f164 _ _ _ h
  refine tw_iconst hX twd_mo_weak_82 ⟨by decide, by decide⟩ ?_
  refine tw_istore_n (L' := [some (.inr 0), some (.inl (-1)), none, none]) hX twd_mo_weak_83 rfl (by decide) rfl ?_
  refine tw_iconst hX twd_mo_weak_84 ⟨by decide, by decide⟩ ?_
  refine tw_istore_n (L' := [some (.inr 0), some (.inl (-1)), some (.inl 0), none]) hX twd_mo_weak_85 rfl (by decide) rfl ?_
  obtain ⟨f163, h⟩ := h
  refine twt_mo_weak_86 hX (fun y64_mo_type h => ?_) f163 _ _ _ h
  refine tw_iconst hX twd_mo_weak_140 ⟨by decide, by decide⟩ ?_
  refine tw_istore_n (L' := [some (.inr 0), none, some (.inl 0), none]) hX twd_mo_weak_141 rfl (by decide) rfl ?_
  obtain ⟨f162, h⟩ := h
  refine twt_mo_weak_142 hX (fun y79_mo_type h => ?_) f162 _ _ h
  refine tw_iconst hX twd_mo_weak_171 ⟨by decide, by decide⟩ ?_
  refine tw_istore_n (L' := [some (.inr 0), none, some (.inl 1), none]) hX twd_mo_weak_172 rfl (by decide) rfl ?_
  obtain ⟨f161, h⟩ := h
  refine twt_mo_weak_173 hX (fun y131_mo_type h => ?_) f161 _ _ h
  refine tw_aload_n hX twd_mo_weak_280 rfl rfl ?_
  refine tw_callV (As := []) (n := 0) hX twd_mo_weak_281 tw_good tww_913 tww_910 tww_912 tww_63 tww_86 twk_mo_terminators rfl rfl ⟨by decide, by decide⟩ rfl (Nat.le_of_ble_eq_true rfl) (twc_mo_terminators h (fun m_132_mo_type h => ?_))
  change tw_rn (tw_YM l D ad cI cZ) Z Post 284 [some (.inr 0), none, none, none] [] (tw_mM mo_base mo_measure mo_size mo_kind mo_group mo_width mo_pair mo_known mo_root mo_level m_132_mo_type mo_resolved mo_partner mo_top mo_entry mo_override mo_isolate mo_lostIsolates mo_lostEmbeddings mo_openIsolates mo_n mo_seq y37_mo_mark mo_beginning mo_ending mo_embedding mo_list mo_lines mo_starts mo_shownLevels mo_order)
  refine tw_aload_n hX twd_mo_weak_284 rfl rfl ?_
  refine tw_get (kf := 23) hX twd_mo_weak_285 twin_mo rfl (by decide) tww_710 rfl rfl rfl ?_
  refine tw_istore_n (L' := [some (.inr 0), some (.inl mo_beginning), none, none]) hX twd_mo_weak_288 rfl (by decide) rfl ?_
  refine tw_iconst hX twd_mo_weak_289 ⟨by decide, by decide⟩ ?_
  refine tw_istore_n (L' := [some (.inr 0), some (.inl mo_beginning), some (.inl 0), none]) hX twd_mo_weak_290 rfl (by decide) rfl ?_
  obtain ⟨f160, h⟩ := h
  refine twt_mo_weak_291 hX (fun y159_mo_type h => ?_) f160 _ _ _ h
  exact tw_vret hX twd_mo_weak_343 (hK _ _ h)
def two_mo_strong (v1 : Int) (mo_type : Nat → Int) (mo_seq : Nat → Int) : Prop := ((two_mo_at v1 mo_type mo_seq))
def twr_mo_strong (v1 : Int) (mo_type : Nat → Int) (mo_seq : Nat → Int) : Int := if (twr_mo_at v1 mo_type mo_seq) = 0 then 0 else (if (twr_mo_at v1 mo_type mo_seq) = 1 then 1 else (if (twr_mo_at v1 mo_type mo_seq) = 3 then 1 else (if (twr_mo_at v1 mo_type mo_seq) = 6 then 1 else (-1))))
set_option maxRecDepth 100000 in
set_option maxHeartbeats 4000000 in
theorem twc_mo_strong {l : Launch} {D : va_G} {ad : Nat → Nat} {cI cZ : ClassId} {Post : tw_P} {v1 : Int} {mo_base mo_measure mo_size mo_known mo_root mo_top mo_lostIsolates mo_lostEmbeddings mo_openIsolates mo_n mo_beginning mo_ending mo_embedding mo_lines : Int} {mo_kind mo_group mo_width mo_pair mo_level mo_type mo_resolved mo_partner mo_entry mo_override mo_isolate mo_seq mo_mark mo_list mo_starts mo_shownLevels mo_order : Nat → Int} (h : two_mo_strong v1 mo_type mo_seq) (hK : ∀ (z : Int), z = twr_mo_strong v1 mo_type mo_seq → Post (some z) (tw_mM mo_base mo_measure mo_size mo_kind mo_group mo_width mo_pair mo_known mo_root mo_level mo_type mo_resolved mo_partner mo_top mo_entry mo_override mo_isolate mo_lostIsolates mo_lostEmbeddings mo_openIsolates mo_n mo_seq mo_mark mo_beginning mo_ending mo_embedding mo_list mo_lines mo_starts mo_shownLevels mo_order)) : tw_ct (tw_YM l D ad cI cZ) twy_mo_strong (Cond.code twy_mo_strong prog_11_method_31_code 3 (some .int) :: tw_Wg) 1 [.inr 0, .inl v1] (tw_mM mo_base mo_measure mo_size mo_kind mo_group mo_width mo_pair mo_known mo_root mo_level mo_type mo_resolved mo_partner mo_top mo_entry mo_override mo_isolate mo_lostIsolates mo_lostEmbeddings mo_openIsolates mo_n mo_seq mo_mark mo_beginning mo_ending mo_embedding mo_list mo_lines mo_starts mo_shownLevels mo_order) Post := by
  refine tw_of (own := twR_mo) (L0 := [some (.inr 0), some (.inl v1), none]) (by decide) rfl rfl (Nat.le_of_ble_eq_true rfl) (fun Z hX => ?_)
  unfold two_mo_strong at h
  refine tw_aload_n hX twd_mo_strong_0 rfl rfl ?_
  refine tw_iload_n hX twd_mo_strong_1 rfl rfl ?_
  have c1 := h
  refine tw_callV (As := [.inl v1]) (n := 1) hX twd_mo_strong_2 tw_good tww_905 tww_902 tww_904 tww_61 tww_86 twk_mo_at rfl rfl ⟨by decide, by decide⟩ rfl (Nat.le_of_ble_eq_true rfl) (twc_mo_at c1 (fun z2 e3 => ?_))
  subst e3
  change tw_rn (tw_YM l D ad cI cZ) Z Post 5 [some (.inr 0), some (.inl v1), none] [.inl (twr_mo_at v1 mo_type mo_seq)] (tw_mM mo_base mo_measure mo_size mo_kind mo_group mo_width mo_pair mo_known mo_root mo_level mo_type mo_resolved mo_partner mo_top mo_entry mo_override mo_isolate mo_lostIsolates mo_lostEmbeddings mo_openIsolates mo_n mo_seq mo_mark mo_beginning mo_ending mo_embedding mo_list mo_lines mo_starts mo_shownLevels mo_order)
  refine tw_istore_n (L' := [some (.inr 0), some (.inl v1), some (.inl (twr_mo_at v1 mo_type mo_seq))]) hX twd_mo_strong_5 rfl (by decide) rfl ?_
  refine tw_iload_n hX twd_mo_strong_6 rfl rfl ?_
  refine tw_if_ne hX twd_mo_strong_7 rfl (fun q4 => ?_) (fun q4 => ?_)
  · have _tw := trivial
    refine tw_iload_n hX twd_mo_strong_14 rfl rfl ?_
    refine tw_iconst hX twd_mo_strong_15 ⟨by decide, by decide⟩ ?_
    refine tw_icmp_eq hX twd_mo_strong_16 rfl (fun q5 => ?_) (fun q5 => ?_)
    · have _tw := trivial
      refine tw_iconst hX twd_mo_strong_30 ⟨by decide, by decide⟩ ?_
      refine tw_goto hX twd_mo_strong_31 rfl ?_
      exact tw_ret hX twd_mo_strong_35 (hK _ (Eq.symm (Eq.trans (if_neg q4) (if_pos q5))))
    · have _tw := trivial
      refine tw_iload_n hX twd_mo_strong_19 rfl rfl ?_
      refine tw_iconst hX twd_mo_strong_20 ⟨by decide, by decide⟩ ?_
      refine tw_icmp_eq hX twd_mo_strong_21 rfl (fun q6 => ?_) (fun q6 => ?_)
      · have _tw := trivial
        refine tw_iconst hX twd_mo_strong_30 ⟨by decide, by decide⟩ ?_
        refine tw_goto hX twd_mo_strong_31 rfl ?_
        exact tw_ret hX twd_mo_strong_35 (hK _ (Eq.symm (Eq.trans (if_neg q4) (Eq.trans (if_neg q5) (if_pos q6)))))
      · have _tw := trivial
        refine tw_iload_n hX twd_mo_strong_24 rfl rfl ?_
        refine tw_bipush hX twd_mo_strong_25 (by decide +kernel) ⟨by decide, by decide⟩ ?_
        refine tw_icmp_ne hX twd_mo_strong_27 rfl (fun q7 => ?_) (fun q7 => ?_)
        · have _tw := trivial
          refine tw_iconst hX twd_mo_strong_34 ⟨by decide, by decide⟩ ?_
          exact tw_ret hX twd_mo_strong_35 (hK _ (Eq.symm (Eq.trans (if_neg q4) (Eq.trans (if_neg q5) (Eq.trans (if_neg q6) (if_neg q7))))))
        · have _tw := trivial
          refine tw_iconst hX twd_mo_strong_30 ⟨by decide, by decide⟩ ?_
          refine tw_goto hX twd_mo_strong_31 rfl ?_
          exact tw_ret hX twd_mo_strong_35 (hK _ (Eq.symm (Eq.trans (if_neg q4) (Eq.trans (if_neg q5) (Eq.trans (if_neg q6) (if_pos q7))))))
  · have _tw := trivial
    refine tw_iconst hX twd_mo_strong_10 ⟨by decide, by decide⟩ ?_
    refine tw_goto hX twd_mo_strong_11 rfl ?_
    exact tw_ret hX twd_mo_strong_35 (hK _ (Eq.symm (if_pos q4)))
def twl_mo_give_10 (X39 : (Nat → Int) → Prop) (v2 : Int) (mo_n : Int) (mo_seq : Nat → Int) (mo_mark : Nat → Int) : Nat → Int → (Nat → Int) → Prop
  | 0, _, _ => False
  | f + 1, v3, mo_type =>
    ((mo_n ≤ v3 →
    X39 mo_type) ∧
    (¬ mo_n ≤ v3 →
    (0 ≤ v3 ∧ v3 < 64) ∧ (((mo_mark (Int.toNat v3)) = 0 →
      X39 mo_type) ∧
      (¬ (mo_mark (Int.toNat v3)) = 0 →
      (two_mo_set v3 v2 mo_type mo_seq) ∧ (tw_rg (v3 + 1)) ∧ twl_mo_give_10 X39 v2 mo_n mo_seq mo_mark f (v3 + 1) (twu_mo_set__mo_type v3 v2 mo_type mo_seq)))))
set_option maxRecDepth 100000 in
set_option maxHeartbeats 4000000 in
theorem twt_mo_give_10 {l : Launch} {D : va_G} {ad : Nat → Nat} {cI cZ : ClassId} {Z : tw_Z} {Post : tw_P} {X39 : (Nat → Int) → Prop} {v2 : Int} {mo_base mo_measure mo_size mo_known mo_root mo_top mo_lostIsolates mo_lostEmbeddings mo_openIsolates mo_n mo_beginning mo_ending mo_embedding mo_lines : Int} {mo_kind mo_group mo_width mo_pair mo_level mo_resolved mo_partner mo_entry mo_override mo_isolate mo_seq mo_mark mo_list mo_starts mo_shownLevels mo_order : Nat → Int} (hX : tw_cx (tw_YM l D ad cI cZ) Z prog_11_method_34_code twR_mo tw_Wg none 1 4) (hX39 : ∀ (mo_type : Nat → Int), X39 mo_type → tw_rn (tw_YM l D ad cI cZ) Z Post 39 [none, none, none, none] [] (tw_mM mo_base mo_measure mo_size mo_kind mo_group mo_width mo_pair mo_known mo_root mo_level mo_type mo_resolved mo_partner mo_top mo_entry mo_override mo_isolate mo_lostIsolates mo_lostEmbeddings mo_openIsolates mo_n mo_seq mo_mark mo_beginning mo_ending mo_embedding mo_list mo_lines mo_starts mo_shownLevels mo_order)) : ∀ (f : Nat) (v3 : Int) (mo_type : Nat → Int), twl_mo_give_10 X39 v2 mo_n mo_seq mo_mark f v3 mo_type → tw_rn (tw_YM l D ad cI cZ) Z Post 10 [some (.inr 0), none, some (.inl v2), some (.inl v3)] [] (tw_mM mo_base mo_measure mo_size mo_kind mo_group mo_width mo_pair mo_known mo_root mo_level mo_type mo_resolved mo_partner mo_top mo_entry mo_override mo_isolate mo_lostIsolates mo_lostEmbeddings mo_openIsolates mo_n mo_seq mo_mark mo_beginning mo_ending mo_embedding mo_list mo_lines mo_starts mo_shownLevels mo_order) := by
  intro f
  induction f with
  | zero => intro v3 mo_type h; rw [twl_mo_give_10] at h; exact h.elim
  | succ f ih =>
    intro v3 mo_type h
    rw [twl_mo_give_10] at h
    refine tw_iload_n hX twd_mo_give_10 rfl rfl ?_
    refine tw_aload_n hX twd_mo_give_11 rfl rfl ?_
    refine tw_get (kf := 20) hX twd_mo_give_12 twin_mo rfl (by decide) tww_707 rfl rfl rfl ?_
    refine tw_icmp_ge hX twd_mo_give_15 rfl (fun q13 => ?_) (fun q13 => ?_)
    · have h := h.1 q13
      refine tw_wk (L' := [none, none, none, none]) (tw_le_n (tw_le_n (tw_le_n (tw_le_n tw_le_0)))) ?_
      exact hX39 _ h
    · have h := h.2 q13
      refine tw_aload_n hX twd_mo_give_18 rfl rfl ?_
      refine tw_get (kf := 22) hX twd_mo_give_19 twin_mo rfl (by decide) tww_709 rfl rfl rfl ?_
      refine tw_iload_n hX twd_mo_give_22 rfl rfl ?_
      obtain ⟨c6, h⟩ := h
      refine tw_baload hX twd_mo_give_23 rfl c6 ?_
      refine tw_if_eq hX twd_mo_give_24 rfl (fun q12 => ?_) (fun q12 => ?_)
      · have h := h.1 q12
        refine tw_wk (L' := [none, none, none, none]) (tw_le_n (tw_le_n (tw_le_n (tw_le_n tw_le_0)))) ?_
        exact hX39 _ h
      · have h := h.2 q12
        refine tw_aload_n hX twd_mo_give_27 rfl rfl ?_
        refine tw_iload_n hX twd_mo_give_28 rfl rfl ?_
        refine tw_iload_n hX twd_mo_give_29 rfl rfl ?_
        obtain ⟨c7, h⟩ := h
        refine tw_callV (As := [.inl v3, .inl v2]) (n := 2) hX twd_mo_give_30 tw_good tww_909 tww_906 tww_908 tww_62 tww_86 twk_mo_set rfl rfl ⟨by decide, by decide⟩ rfl (Nat.le_of_ble_eq_true rfl) (twc_mo_set c7 (fun w9 e10 => ?_))
        subst e10
        change tw_rn (tw_YM l D ad cI cZ) Z Post 33 [some (.inr 0), none, some (.inl v2), some (.inl v3)] [] (tw_mM mo_base mo_measure mo_size mo_kind mo_group mo_width mo_pair mo_known mo_root mo_level (twu_mo_set__mo_type v3 v2 mo_type mo_seq) mo_resolved mo_partner mo_top mo_entry mo_override mo_isolate mo_lostIsolates mo_lostEmbeddings mo_openIsolates mo_n mo_seq mo_mark mo_beginning mo_ending mo_embedding mo_list mo_lines mo_starts mo_shownLevels mo_order)
        obtain ⟨c11, h⟩ := h
        refine tw_iinc (L' := [some (.inr 0), none, some (.inl v2), some (.inl (v3 + 1))]) hX twd_mo_give_33 rfl (by decide) c11 rfl ?_
        refine tw_goto hX twd_mo_give_36 rfl ?_
        exact ih _ _ h
def tww_mo_give (v1 v2 : Int) (mo_type : Nat → Int) (mo_n : Int) (mo_seq : Nat → Int) (mo_mark : Nat → Int) (K : (Nat → Int) → Prop) : Prop :=
  (two_mo_set v1 v2 mo_type mo_seq) ∧ (tw_rg (v1 + 1)) ∧ (∃ f15 : Nat, twl_mo_give_10 (fun (y14_mo_type : Nat → Int) =>
  K y14_mo_type) v2 mo_n mo_seq mo_mark f15 (v1 + 1) (twu_mo_set__mo_type v1 v2 mo_type mo_seq))
set_option maxRecDepth 100000 in
set_option maxHeartbeats 4000000 in
theorem twc_mo_give {l : Launch} {D : va_G} {ad : Nat → Nat} {cI cZ : ClassId} {Post : tw_P} {K : (Nat → Int) → Prop} {v1 v2 : Int} {mo_base mo_measure mo_size mo_known mo_root mo_top mo_lostIsolates mo_lostEmbeddings mo_openIsolates mo_n mo_beginning mo_ending mo_embedding mo_lines : Int} {mo_kind mo_group mo_width mo_pair mo_level mo_type mo_resolved mo_partner mo_entry mo_override mo_isolate mo_seq mo_mark mo_list mo_starts mo_shownLevels mo_order : Nat → Int} (h : tww_mo_give v1 v2 mo_type mo_n mo_seq mo_mark K) (hK : ∀ (n_mo_type : Nat → Int), K n_mo_type → Post none (tw_mM mo_base mo_measure mo_size mo_kind mo_group mo_width mo_pair mo_known mo_root mo_level n_mo_type mo_resolved mo_partner mo_top mo_entry mo_override mo_isolate mo_lostIsolates mo_lostEmbeddings mo_openIsolates mo_n mo_seq mo_mark mo_beginning mo_ending mo_embedding mo_list mo_lines mo_starts mo_shownLevels mo_order)) : tw_ct (tw_YM l D ad cI cZ) twy_mo_give (Cond.code twy_mo_give prog_11_method_34_code 4 none :: tw_Wg) 1 [.inr 0, .inl v1, .inl v2] (tw_mM mo_base mo_measure mo_size mo_kind mo_group mo_width mo_pair mo_known mo_root mo_level mo_type mo_resolved mo_partner mo_top mo_entry mo_override mo_isolate mo_lostIsolates mo_lostEmbeddings mo_openIsolates mo_n mo_seq mo_mark mo_beginning mo_ending mo_embedding mo_list mo_lines mo_starts mo_shownLevels mo_order) Post := by
  refine tw_of (own := twR_mo) (L0 := [some (.inr 0), some (.inl v1), some (.inl v2), none]) (by decide) rfl rfl (Nat.le_of_ble_eq_true rfl) (fun Z hX => ?_)
  unfold tww_mo_give at h
  refine tw_aload_n hX twd_mo_give_0 rfl rfl ?_
  refine tw_iload_n hX twd_mo_give_1 rfl rfl ?_
  refine tw_iload_n hX twd_mo_give_2 rfl rfl ?_
  obtain ⟨c1, h⟩ := h
  refine tw_callV (As := [.inl v1, .inl v2]) (n := 2) hX twd_mo_give_3 tw_good tww_909 tww_906 tww_908 tww_62 tww_86 twk_mo_set rfl rfl ⟨by decide, by decide⟩ rfl (Nat.le_of_ble_eq_true rfl) (twc_mo_set c1 (fun w3 e4 => ?_))
  subst e4
  change tw_rn (tw_YM l D ad cI cZ) Z Post 6 [some (.inr 0), some (.inl v1), some (.inl v2), none] [] (tw_mM mo_base mo_measure mo_size mo_kind mo_group mo_width mo_pair mo_known mo_root mo_level (twu_mo_set__mo_type v1 v2 mo_type mo_seq) mo_resolved mo_partner mo_top mo_entry mo_override mo_isolate mo_lostIsolates mo_lostEmbeddings mo_openIsolates mo_n mo_seq mo_mark mo_beginning mo_ending mo_embedding mo_list mo_lines mo_starts mo_shownLevels mo_order)
  refine tw_iload_n hX twd_mo_give_6 rfl rfl ?_
  refine tw_iconst hX twd_mo_give_7 ⟨by decide, by decide⟩ ?_
  obtain ⟨c5, h⟩ := h
  refine tw_iadd hX twd_mo_give_8 c5 ?_
  refine tw_istore_n (L' := [some (.inr 0), some (.inl v1), some (.inl v2), some (.inl (v1 + 1))]) hX twd_mo_give_9 rfl (by decide) rfl ?_
  obtain ⟨f15, h⟩ := h
  refine tw_wk (L' := [some (.inr 0), none, some (.inl v2), some (.inl (v1 + 1))]) (tw_le_s (tw_le_n (tw_le_s (tw_le_s tw_le_0)))) ?_
  refine twt_mo_give_10 hX (fun y14_mo_type h => ?_) f15 _ _ h
  exact tw_vret hX twd_mo_give_39 (hK _ h)
def twl_mo_enclose_10 (X72 : Int → Int → Prop) (v1 : Int) (v2 : Int) (mo_type : Nat → Int) (mo_n : Int) (mo_seq : Nat → Int) (mo_mark : Nat → Int) (mo_beginning : Int) (mo_embedding : Int) : Nat → Int → Int → Int → Prop
  | 0, _, _, _ => False
  | f + 1, v3, v4, v5 =>
    ((v2 ≤ v5 →
    X72 v3 v4) ∧
    (¬ v2 ≤ v5 →
    (∀ J3 : Int → Prop, (∀ (x2 : Int), ((∀ J6 : Int → Int → Prop, (∀ (x4 : Int) (x5 : Int), ((tw_rg (v5 + 1)) ∧ twl_mo_enclose_10 X72 v1 v2 mo_type mo_n mo_seq mo_mark mo_beginning mo_embedding f x4 x5 (v5 + 1)) → J6 x4 x5) →
        ∀ J9 : Int → Prop, (∀ (x8 : Int), (J6 x8 1) → J9 x8) →
        ((v4 = 0 →
        (two_mo_strong v5 mo_type mo_seq) ∧ (tw_rg (1 - mo_embedding)) ∧ (((twr_mo_strong v5 mo_type mo_seq) = (1 - mo_embedding) →
          J9 x2) ∧
          (¬ (twr_mo_strong v5 mo_type mo_seq) = (1 - mo_embedding) →
          J6 x2 0))) ∧
        (¬ v4 = 0 →
        J9 x2)))) → J3 x2) →
      ∀ J16 : Prop, ((J3 1) → J16) →
      ((v3 = 0 →
      (two_mo_strong v5 mo_type mo_seq) ∧ (((twr_mo_strong v5 mo_type mo_seq) = mo_embedding →
        J16) ∧
        (¬ (twr_mo_strong v5 mo_type mo_seq) = mo_embedding →
        J3 0))) ∧
      (¬ v3 = 0 →
      J16)))))
set_option maxRecDepth 100000 in
set_option maxHeartbeats 4000000 in
theorem twt_mo_enclose_10 {l : Launch} {D : va_G} {ad : Nat → Nat} {cI cZ : ClassId} {Z : tw_Z} {Post : tw_P} {X72 : Int → Int → Prop} {v1 : Int} {v2 : Int} {mo_base mo_measure mo_size mo_known mo_root mo_top mo_lostIsolates mo_lostEmbeddings mo_openIsolates mo_n mo_beginning mo_ending mo_embedding mo_lines : Int} {mo_kind mo_group mo_width mo_pair mo_level mo_type mo_resolved mo_partner mo_entry mo_override mo_isolate mo_seq mo_mark mo_list mo_starts mo_shownLevels mo_order : Nat → Int} (hX : tw_cx (tw_YM l D ad cI cZ) Z prog_11_method_33_code twR_mo tw_Wg none 2 7) (hX72 : ∀ (v3 : Int) (v4 : Int), X72 v3 v4 → tw_rn (tw_YM l D ad cI cZ) Z Post 72 [some (.inr 0), some (.inl v1), some (.inl v2), some (.inl v3), some (.inl v4), none, none] [] (tw_mM mo_base mo_measure mo_size mo_kind mo_group mo_width mo_pair mo_known mo_root mo_level mo_type mo_resolved mo_partner mo_top mo_entry mo_override mo_isolate mo_lostIsolates mo_lostEmbeddings mo_openIsolates mo_n mo_seq mo_mark mo_beginning mo_ending mo_embedding mo_list mo_lines mo_starts mo_shownLevels mo_order)) : ∀ (f : Nat) (v3 : Int) (v4 : Int) (v5 : Int), twl_mo_enclose_10 X72 v1 v2 mo_type mo_n mo_seq mo_mark mo_beginning mo_embedding f v3 v4 v5 → tw_rn (tw_YM l D ad cI cZ) Z Post 10 [some (.inr 0), some (.inl v1), some (.inl v2), some (.inl v3), some (.inl v4), some (.inl v5), none] [] (tw_mM mo_base mo_measure mo_size mo_kind mo_group mo_width mo_pair mo_known mo_root mo_level mo_type mo_resolved mo_partner mo_top mo_entry mo_override mo_isolate mo_lostIsolates mo_lostEmbeddings mo_openIsolates mo_n mo_seq mo_mark mo_beginning mo_ending mo_embedding mo_list mo_lines mo_starts mo_shownLevels mo_order) := by
  intro f
  induction f with
  | zero => intro v3 v4 v5 h; rw [twl_mo_enclose_10] at h; exact h.elim
  | succ f ih =>
    intro v3 v4 v5 h
    rw [twl_mo_enclose_10] at h
    refine tw_iload hX twd_mo_enclose_10 rfl ?_
    refine tw_iload_n hX twd_mo_enclose_12 rfl rfl ?_
    refine tw_icmp_ge hX twd_mo_enclose_13 rfl (fun q22 => ?_) (fun q22 => ?_)
    · have h := h.1 q22
      refine tw_wk (L' := [some (.inr 0), some (.inl v1), some (.inl v2), some (.inl v3), some (.inl v4), none, none]) (tw_le_s (tw_le_s (tw_le_s (tw_le_s (tw_le_s (tw_le_n (tw_le_n tw_le_0))))))) ?_
      exact hX72 _ _ h
    · have h := h.2 q22
      refine tw_iload_n hX twd_mo_enclose_16 rfl rfl ?_
      have h := h (fun (x2 : Int) => tw_rn (tw_YM l D ad cI cZ) Z Post 38 [some (.inr 0), some (.inl v1), some (.inl v2), none, some (.inl v4), some (.inl v5), none] [.inl x2] (tw_mM mo_base mo_measure mo_size mo_kind mo_group mo_width mo_pair mo_known mo_root mo_level mo_type mo_resolved mo_partner mo_top mo_entry mo_override mo_isolate mo_lostIsolates mo_lostEmbeddings mo_openIsolates mo_n mo_seq mo_mark mo_beginning mo_ending mo_embedding mo_list mo_lines mo_starts mo_shownLevels mo_order)) (by
        intro x2 h
        refine tw_istore_n (L' := [some (.inr 0), some (.inl v1), some (.inl v2), some (.inl x2), some (.inl v4), some (.inl v5), none]) hX twd_mo_enclose_38 rfl (by decide) rfl ?_
        refine tw_iload hX twd_mo_enclose_39 rfl ?_
        have h := h (fun (x4 : Int) (x5 : Int) => tw_rn (tw_YM l D ad cI cZ) Z Post 64 [some (.inr 0), some (.inl v1), some (.inl v2), some (.inl x4), none, some (.inl v5), none] [.inl x5] (tw_mM mo_base mo_measure mo_size mo_kind mo_group mo_width mo_pair mo_known mo_root mo_level mo_type mo_resolved mo_partner mo_top mo_entry mo_override mo_isolate mo_lostIsolates mo_lostEmbeddings mo_openIsolates mo_n mo_seq mo_mark mo_beginning mo_ending mo_embedding mo_list mo_lines mo_starts mo_shownLevels mo_order)) (by
          intro x4 x5 h
          refine tw_istore (L' := [some (.inr 0), some (.inl v1), some (.inl v2), some (.inl x4), some (.inl x5), some (.inl v5), none]) hX twd_mo_enclose_64 (by decide) rfl ?_
          obtain ⟨c7, h⟩ := h
          refine tw_iinc (L' := [some (.inr 0), some (.inl v1), some (.inl v2), some (.inl x4), some (.inl x5), some (.inl (v5 + 1)), none]) hX twd_mo_enclose_66 rfl (by decide) c7 rfl ?_
          refine tw_goto hX twd_mo_enclose_69 rfl ?_
          exact ih _ _ _ h)
        have h := h (fun (x8 : Int) => tw_rn (tw_YM l D ad cI cZ) Z Post 59 [some (.inr 0), some (.inl v1), some (.inl v2), some (.inl x8), none, some (.inl v5), none] [] (tw_mM mo_base mo_measure mo_size mo_kind mo_group mo_width mo_pair mo_known mo_root mo_level mo_type mo_resolved mo_partner mo_top mo_entry mo_override mo_isolate mo_lostIsolates mo_lostEmbeddings mo_openIsolates mo_n mo_seq mo_mark mo_beginning mo_ending mo_embedding mo_list mo_lines mo_starts mo_shownLevels mo_order)) (by
          intro x8 h
          refine tw_iconst hX twd_mo_enclose_59 ⟨by decide, by decide⟩ ?_
          refine tw_goto hX twd_mo_enclose_60 rfl ?_
          exact h)
        refine tw_if_ne hX twd_mo_enclose_41 rfl (fun q15 => ?_) (fun q15 => ?_)
        · have h := h.2 q15
          refine tw_wk (L' := [some (.inr 0), some (.inl v1), some (.inl v2), some (.inl x2), none, some (.inl v5), none]) (tw_le_s (tw_le_s (tw_le_s (tw_le_s (tw_le_n (tw_le_s (tw_le_n tw_le_0))))))) ?_
          exact h
        · have h := h.1 q15
          refine tw_aload_n hX twd_mo_enclose_44 rfl rfl ?_
          refine tw_iload hX twd_mo_enclose_45 rfl ?_
          obtain ⟨c10, h⟩ := h
          refine tw_callV (As := [.inl v5]) (n := 1) hX twd_mo_enclose_47 tw_good tww_925 tww_922 tww_924 tww_66 tww_86 twk_mo_strong rfl rfl ⟨by decide, by decide⟩ rfl (Nat.le_of_ble_eq_true rfl) (twc_mo_strong c10 (fun z11 e12 => ?_))
          subst e12
          change tw_rn (tw_YM l D ad cI cZ) Z Post 50 [some (.inr 0), some (.inl v1), some (.inl v2), some (.inl x2), some (.inl v4), some (.inl v5), none] [.inl (twr_mo_strong v5 mo_type mo_seq)] (tw_mM mo_base mo_measure mo_size mo_kind mo_group mo_width mo_pair mo_known mo_root mo_level mo_type mo_resolved mo_partner mo_top mo_entry mo_override mo_isolate mo_lostIsolates mo_lostEmbeddings mo_openIsolates mo_n mo_seq mo_mark mo_beginning mo_ending mo_embedding mo_list mo_lines mo_starts mo_shownLevels mo_order)
          refine tw_iconst hX twd_mo_enclose_50 ⟨by decide, by decide⟩ ?_
          refine tw_aload_n hX twd_mo_enclose_51 rfl rfl ?_
          refine tw_get (kf := 25) hX twd_mo_enclose_52 twin_mo rfl (by decide) tww_712 rfl rfl rfl ?_
          obtain ⟨c13, h⟩ := h
          refine tw_isub hX twd_mo_enclose_55 c13 ?_
          refine tw_icmp_ne hX twd_mo_enclose_56 rfl (fun q14 => ?_) (fun q14 => ?_)
          · have h := h.2 q14
            refine tw_iconst hX twd_mo_enclose_63 ⟨by decide, by decide⟩ ?_
            refine tw_wk (L' := [some (.inr 0), some (.inl v1), some (.inl v2), some (.inl x2), none, some (.inl v5), none]) (tw_le_s (tw_le_s (tw_le_s (tw_le_s (tw_le_n (tw_le_s (tw_le_n tw_le_0))))))) ?_
            exact h
          · have h := h.1 q14
            refine tw_wk (L' := [some (.inr 0), some (.inl v1), some (.inl v2), some (.inl x2), none, some (.inl v5), none]) (tw_le_s (tw_le_s (tw_le_s (tw_le_s (tw_le_n (tw_le_s (tw_le_n tw_le_0))))))) ?_
            exact h)
      have h := h (tw_rn (tw_YM l D ad cI cZ) Z Post 33 [some (.inr 0), some (.inl v1), some (.inl v2), none, some (.inl v4), some (.inl v5), none] [] (tw_mM mo_base mo_measure mo_size mo_kind mo_group mo_width mo_pair mo_known mo_root mo_level mo_type mo_resolved mo_partner mo_top mo_entry mo_override mo_isolate mo_lostIsolates mo_lostEmbeddings mo_openIsolates mo_n mo_seq mo_mark mo_beginning mo_ending mo_embedding mo_list mo_lines mo_starts mo_shownLevels mo_order)) (by
        intro  h
        refine tw_iconst hX twd_mo_enclose_33 ⟨by decide, by decide⟩ ?_
        refine tw_goto hX twd_mo_enclose_34 rfl ?_
        exact h)
      refine tw_if_ne hX twd_mo_enclose_17 rfl (fun q21 => ?_) (fun q21 => ?_)
      · have h := h.2 q21
        refine tw_wk (L' := [some (.inr 0), some (.inl v1), some (.inl v2), none, some (.inl v4), some (.inl v5), none]) (tw_le_s (tw_le_s (tw_le_s (tw_le_n (tw_le_s (tw_le_s (tw_le_n tw_le_0))))))) ?_
        exact h
      · have h := h.1 q21
        refine tw_aload_n hX twd_mo_enclose_20 rfl rfl ?_
        refine tw_iload hX twd_mo_enclose_21 rfl ?_
        obtain ⟨c17, h⟩ := h
        refine tw_callV (As := [.inl v5]) (n := 1) hX twd_mo_enclose_23 tw_good tww_925 tww_922 tww_924 tww_66 tww_86 twk_mo_strong rfl rfl ⟨by decide, by decide⟩ rfl (Nat.le_of_ble_eq_true rfl) (twc_mo_strong c17 (fun z18 e19 => ?_))
        subst e19
        change tw_rn (tw_YM l D ad cI cZ) Z Post 26 [some (.inr 0), some (.inl v1), some (.inl v2), some (.inl v3), some (.inl v4), some (.inl v5), none] [.inl (twr_mo_strong v5 mo_type mo_seq)] (tw_mM mo_base mo_measure mo_size mo_kind mo_group mo_width mo_pair mo_known mo_root mo_level mo_type mo_resolved mo_partner mo_top mo_entry mo_override mo_isolate mo_lostIsolates mo_lostEmbeddings mo_openIsolates mo_n mo_seq mo_mark mo_beginning mo_ending mo_embedding mo_list mo_lines mo_starts mo_shownLevels mo_order)
        refine tw_aload_n hX twd_mo_enclose_26 rfl rfl ?_
        refine tw_get (kf := 25) hX twd_mo_enclose_27 twin_mo rfl (by decide) tww_712 rfl rfl rfl ?_
        refine tw_icmp_ne hX twd_mo_enclose_30 rfl (fun q20 => ?_) (fun q20 => ?_)
        · have h := h.2 q20
          refine tw_iconst hX twd_mo_enclose_37 ⟨by decide, by decide⟩ ?_
          refine tw_wk (L' := [some (.inr 0), some (.inl v1), some (.inl v2), none, some (.inl v4), some (.inl v5), none]) (tw_le_s (tw_le_s (tw_le_s (tw_le_n (tw_le_s (tw_le_s (tw_le_n tw_le_0))))))) ?_
          exact h
        · have h := h.1 q20
          refine tw_wk (L' := [some (.inr 0), some (.inl v1), some (.inl v2), none, some (.inl v4), some (.inl v5), none]) (tw_le_s (tw_le_s (tw_le_s (tw_le_n (tw_le_s (tw_le_s (tw_le_n tw_le_0))))))) ?_
          exact h
def twl_mo_enclose_91 (X125 : Int → Prop) (v1 : Int) (v2 : Int) (v3 : Int) (mo_type : Nat → Int) (mo_n : Int) (mo_seq : Nat → Int) (mo_mark : Nat → Int) (mo_beginning : Int) (mo_embedding : Int) : Nat → Int → Int → Prop
  | 0, _, _ => False
  | f + 1, v5, v6 =>
    ((v1 ≤ v6 →
    X125 v5) ∧
    (¬ v1 ≤ v6 →
    (two_mo_strong v6 mo_type mo_seq) ∧ (((¬ (twr_mo_strong v6 mo_type mo_seq) < 0 → ((two_mo_strong v6 mo_type mo_seq)))) ∧
      (∀ x32 : Int, x32 = (if (twr_mo_strong v6 mo_type mo_seq) < 0 then v5 else (twr_mo_strong v6 mo_type mo_seq)) →
      (tw_rg (v6 + 1)) ∧ twl_mo_enclose_91 X125 v1 v2 v3 mo_type mo_n mo_seq mo_mark mo_beginning mo_embedding f x32 (v6 + 1)))))
set_option maxRecDepth 100000 in
set_option maxHeartbeats 4000000 in
theorem twt_mo_enclose_91 {l : Launch} {D : va_G} {ad : Nat → Nat} {cI cZ : ClassId} {Z : tw_Z} {Post : tw_P} {X125 : Int → Prop} {v1 : Int} {v2 : Int} {v3 : Int} {mo_base mo_measure mo_size mo_known mo_root mo_top mo_lostIsolates mo_lostEmbeddings mo_openIsolates mo_n mo_beginning mo_ending mo_embedding mo_lines : Int} {mo_kind mo_group mo_width mo_pair mo_level mo_type mo_resolved mo_partner mo_entry mo_override mo_isolate mo_seq mo_mark mo_list mo_starts mo_shownLevels mo_order : Nat → Int} (hX : tw_cx (tw_YM l D ad cI cZ) Z prog_11_method_33_code twR_mo tw_Wg none 2 7) (hX125 : ∀ (v5 : Int), X125 v5 → tw_rn (tw_YM l D ad cI cZ) Z Post 125 [some (.inr 0), some (.inl v1), some (.inl v2), some (.inl v3), none, some (.inl v5), none] [] (tw_mM mo_base mo_measure mo_size mo_kind mo_group mo_width mo_pair mo_known mo_root mo_level mo_type mo_resolved mo_partner mo_top mo_entry mo_override mo_isolate mo_lostIsolates mo_lostEmbeddings mo_openIsolates mo_n mo_seq mo_mark mo_beginning mo_ending mo_embedding mo_list mo_lines mo_starts mo_shownLevels mo_order)) : ∀ (f : Nat) (v5 : Int) (v6 : Int), twl_mo_enclose_91 X125 v1 v2 v3 mo_type mo_n mo_seq mo_mark mo_beginning mo_embedding f v5 v6 → tw_rn (tw_YM l D ad cI cZ) Z Post 91 [some (.inr 0), some (.inl v1), some (.inl v2), some (.inl v3), none, some (.inl v5), some (.inl v6)] [] (tw_mM mo_base mo_measure mo_size mo_kind mo_group mo_width mo_pair mo_known mo_root mo_level mo_type mo_resolved mo_partner mo_top mo_entry mo_override mo_isolate mo_lostIsolates mo_lostEmbeddings mo_openIsolates mo_n mo_seq mo_mark mo_beginning mo_ending mo_embedding mo_list mo_lines mo_starts mo_shownLevels mo_order) := by
  intro f
  induction f with
  | zero => intro v5 v6 h; rw [twl_mo_enclose_91] at h; exact h.elim
  | succ f ih =>
    intro v5 v6 h
    rw [twl_mo_enclose_91] at h
    refine tw_iload hX twd_mo_enclose_91 rfl ?_
    refine tw_iload_n hX twd_mo_enclose_93 rfl rfl ?_
    refine tw_icmp_ge hX twd_mo_enclose_94 rfl (fun q38 => ?_) (fun q38 => ?_)
    · have h := h.1 q38
      refine tw_wk (L' := [some (.inr 0), some (.inl v1), some (.inl v2), some (.inl v3), none, some (.inl v5), none]) (tw_le_s (tw_le_s (tw_le_s (tw_le_s (tw_le_n (tw_le_s (tw_le_n tw_le_0))))))) ?_
      exact hX125 _ h
    · have h := h.2 q38
      refine tw_aload_n hX twd_mo_enclose_97 rfl rfl ?_
      refine tw_iload hX twd_mo_enclose_98 rfl ?_
      obtain ⟨c26, h⟩ := h
      refine tw_callV (As := [.inl v6]) (n := 1) hX twd_mo_enclose_100 tw_good tww_925 tww_922 tww_924 tww_66 tww_86 twk_mo_strong rfl rfl ⟨by decide, by decide⟩ rfl (Nat.le_of_ble_eq_true rfl) (twc_mo_strong c26 (fun z27 e28 => ?_))
      subst e28
      change tw_rn (tw_YM l D ad cI cZ) Z Post 103 [some (.inr 0), some (.inl v1), some (.inl v2), some (.inl v3), none, some (.inl v5), some (.inl v6)] [.inl (twr_mo_strong v6 mo_type mo_seq)] (tw_mM mo_base mo_measure mo_size mo_kind mo_group mo_width mo_pair mo_known mo_root mo_level mo_type mo_resolved mo_partner mo_top mo_entry mo_override mo_isolate mo_lostIsolates mo_lostEmbeddings mo_openIsolates mo_n mo_seq mo_mark mo_beginning mo_ending mo_embedding mo_list mo_lines mo_starts mo_shownLevels mo_order)
      obtain ⟨o34, h⟩ := h
      have j35 : ∀ x32 : Int, x32 = (if (twr_mo_strong v6 mo_type mo_seq) < 0 then v5 else (twr_mo_strong v6 mo_type mo_seq)) → tw_rn (tw_YM l D ad cI cZ) Z Post 117 [some (.inr 0), some (.inl v1), some (.inl v2), some (.inl v3), none, none, some (.inl v6)] [.inl x32] (tw_mM mo_base mo_measure mo_size mo_kind mo_group mo_width mo_pair mo_known mo_root mo_level mo_type mo_resolved mo_partner mo_top mo_entry mo_override mo_isolate mo_lostIsolates mo_lostEmbeddings mo_openIsolates mo_n mo_seq mo_mark mo_beginning mo_ending mo_embedding mo_list mo_lines mo_starts mo_shownLevels mo_order) := by
        intro x32 e36
        have h := h x32 e36
        refine tw_istore (L' := [some (.inr 0), some (.inl v1), some (.inl v2), some (.inl v3), none, some (.inl x32), some (.inl v6)]) hX twd_mo_enclose_117 (by decide) rfl ?_
        obtain ⟨c33, h⟩ := h
        refine tw_iinc (L' := [some (.inr 0), some (.inl v1), some (.inl v2), some (.inl v3), none, some (.inl x32), some (.inl (v6 + 1))]) hX twd_mo_enclose_119 rfl (by decide) c33 rfl ?_
        refine tw_goto hX twd_mo_enclose_122 rfl ?_
        exact ih _ _ h
      refine tw_if_lt hX twd_mo_enclose_103 rfl (fun q37 => ?_) (fun q37 => ?_)
      · have _tw := trivial
        refine tw_iload hX twd_mo_enclose_115 rfl ?_
        refine tw_wk (L' := [some (.inr 0), some (.inl v1), some (.inl v2), some (.inl v3), none, none, some (.inl v6)]) (tw_le_s (tw_le_s (tw_le_s (tw_le_s (tw_le_n (tw_le_n (tw_le_s tw_le_0))))))) ?_
        exact j35 _ (Eq.symm (if_pos q37))
      · have _tw := trivial
        have o34 := o34 q37
        refine tw_aload_n hX twd_mo_enclose_106 rfl rfl ?_
        refine tw_iload hX twd_mo_enclose_107 rfl ?_
        have c29 := o34
        refine tw_callV (As := [.inl v6]) (n := 1) hX twd_mo_enclose_109 tw_good tww_925 tww_922 tww_924 tww_66 tww_86 twk_mo_strong rfl rfl ⟨by decide, by decide⟩ rfl (Nat.le_of_ble_eq_true rfl) (twc_mo_strong c29 (fun z30 e31 => ?_))
        subst e31
        change tw_rn (tw_YM l D ad cI cZ) Z Post 112 [some (.inr 0), some (.inl v1), some (.inl v2), some (.inl v3), none, some (.inl v5), some (.inl v6)] [.inl (twr_mo_strong v6 mo_type mo_seq)] (tw_mM mo_base mo_measure mo_size mo_kind mo_group mo_width mo_pair mo_known mo_root mo_level mo_type mo_resolved mo_partner mo_top mo_entry mo_override mo_isolate mo_lostIsolates mo_lostEmbeddings mo_openIsolates mo_n mo_seq mo_mark mo_beginning mo_ending mo_embedding mo_list mo_lines mo_starts mo_shownLevels mo_order)
        refine tw_goto hX twd_mo_enclose_112 rfl ?_
        refine tw_wk (L' := [some (.inr 0), some (.inl v1), some (.inl v2), some (.inl v3), none, none, some (.inl v6)]) (tw_le_s (tw_le_s (tw_le_s (tw_le_s (tw_le_n (tw_le_n (tw_le_s tw_le_0))))))) ?_
        exact j35 _ (Eq.symm (if_neg q37))
def tww_mo_enclose (v1 v2 : Int) (mo_type : Nat → Int) (mo_n : Int) (mo_seq : Nat → Int) (mo_mark : Nat → Int) (mo_beginning : Int) (mo_embedding : Int) (K : (Nat → Int) → Prop) : Prop :=
  (tw_rg (v1 + 1)) ∧ (∃ f51 : Nat, twl_mo_enclose_10 (fun (y23 : Int) (y24 : Int) =>
  (∀ J25 : Prop, (((∃ f48 : Nat, twl_mo_enclose_91 (fun (y39 : Int) =>
      (∀ J41 : Int → Prop, (∀ (x40 : Int), (tww_mo_give v1 x40 mo_type mo_n mo_seq mo_mark (fun m_42_mo_type =>
          tww_mo_give v2 x40 m_42_mo_type mo_n mo_seq mo_mark (fun m_43_mo_type =>
          K m_43_mo_type))) → J41 x40) →
        ∀ J44 : Prop, ((J41 mo_embedding) → J44) →
        ((y23 = 0 →
        ((y39 = mo_embedding →
          J44) ∧
          (¬ y39 = mo_embedding →
          (tw_rg (1 - mo_embedding)) ∧ J41 (1 - mo_embedding)))) ∧
        (¬ y23 = 0 →
        J44)))) v1 v2 y23 mo_type mo_n mo_seq mo_mark mo_beginning mo_embedding f48 mo_beginning 0)) → J25) →
    ((y23 = 0 →
    ((y24 = 0 →
      K mo_type) ∧
      (¬ y24 = 0 →
      J25))) ∧
    (¬ y23 = 0 →
    J25)))) v1 v2 mo_type mo_n mo_seq mo_mark mo_beginning mo_embedding f51 0 0 (v1 + 1))
set_option maxRecDepth 100000 in
set_option maxHeartbeats 4000000 in
theorem twc_mo_enclose {l : Launch} {D : va_G} {ad : Nat → Nat} {cI cZ : ClassId} {Post : tw_P} {K : (Nat → Int) → Prop} {v1 v2 : Int} {mo_base mo_measure mo_size mo_known mo_root mo_top mo_lostIsolates mo_lostEmbeddings mo_openIsolates mo_n mo_beginning mo_ending mo_embedding mo_lines : Int} {mo_kind mo_group mo_width mo_pair mo_level mo_type mo_resolved mo_partner mo_entry mo_override mo_isolate mo_seq mo_mark mo_list mo_starts mo_shownLevels mo_order : Nat → Int} (h : tww_mo_enclose v1 v2 mo_type mo_n mo_seq mo_mark mo_beginning mo_embedding K) (hK : ∀ (n_mo_type : Nat → Int), K n_mo_type → Post none (tw_mM mo_base mo_measure mo_size mo_kind mo_group mo_width mo_pair mo_known mo_root mo_level n_mo_type mo_resolved mo_partner mo_top mo_entry mo_override mo_isolate mo_lostIsolates mo_lostEmbeddings mo_openIsolates mo_n mo_seq mo_mark mo_beginning mo_ending mo_embedding mo_list mo_lines mo_starts mo_shownLevels mo_order)) : tw_ct (tw_YM l D ad cI cZ) twy_mo_enclose (Cond.code twy_mo_enclose prog_11_method_33_code 7 none :: tw_Wg) 2 [.inr 0, .inl v1, .inl v2] (tw_mM mo_base mo_measure mo_size mo_kind mo_group mo_width mo_pair mo_known mo_root mo_level mo_type mo_resolved mo_partner mo_top mo_entry mo_override mo_isolate mo_lostIsolates mo_lostEmbeddings mo_openIsolates mo_n mo_seq mo_mark mo_beginning mo_ending mo_embedding mo_list mo_lines mo_starts mo_shownLevels mo_order) Post := by
  refine tw_of (own := twR_mo) (L0 := [some (.inr 0), some (.inl v1), some (.inl v2), none, none, none, none]) (by decide) rfl rfl (Nat.le_of_ble_eq_true rfl) (fun Z hX => ?_)
  unfold tww_mo_enclose at h
  refine tw_iconst hX twd_mo_enclose_0 ⟨by decide, by decide⟩ ?_
  refine tw_istore_n (L' := [some (.inr 0), some (.inl v1), some (.inl v2), some (.inl 0), none, none, none]) hX twd_mo_enclose_1 rfl (by decide) rfl ?_
  refine tw_iconst hX twd_mo_enclose_2 ⟨by decide, by decide⟩ ?_
  refine tw_istore (L' := [some (.inr 0), some (.inl v1), some (.inl v2), some (.inl 0), some (.inl 0), none, none]) hX twd_mo_enclose_3 (by decide) rfl ?_
  refine tw_iload_n hX twd_mo_enclose_5 rfl rfl ?_
  refine tw_iconst hX twd_mo_enclose_6 ⟨by decide, by decide⟩ ?_
  obtain ⟨c1, h⟩ := h
  refine tw_iadd hX twd_mo_enclose_7 c1 ?_
  refine tw_istore (L' := [some (.inr 0), some (.inl v1), some (.inl v2), some (.inl 0), some (.inl 0), some (.inl (v1 + 1)), none]) hX twd_mo_enclose_8 (by decide) rfl ?_
  obtain ⟨f51, h⟩ := h
  refine twt_mo_enclose_10 hX (fun y23 y24 h => ?_) f51 _ _ _ h
  refine tw_iload_n hX twd_mo_enclose_72 rfl rfl ?_
  have h := h (tw_rn (tw_YM l D ad cI cZ) Z Post 82 [some (.inr 0), some (.inl v1), some (.inl v2), some (.inl y23), none, none, none] [] (tw_mM mo_base mo_measure mo_size mo_kind mo_group mo_width mo_pair mo_known mo_root mo_level mo_type mo_resolved mo_partner mo_top mo_entry mo_override mo_isolate mo_lostIsolates mo_lostEmbeddings mo_openIsolates mo_n mo_seq mo_mark mo_beginning mo_ending mo_embedding mo_list mo_lines mo_starts mo_shownLevels mo_order)) (by
    intro  h
    refine tw_aload_n hX twd_mo_enclose_82 rfl rfl ?_
    refine tw_get (kf := 23) hX twd_mo_enclose_83 twin_mo rfl (by decide) tww_710 rfl rfl rfl ?_
    refine tw_istore (L' := [some (.inr 0), some (.inl v1), some (.inl v2), some (.inl y23), none, some (.inl mo_beginning), none]) hX twd_mo_enclose_86 (by decide) rfl ?_
    refine tw_iconst hX twd_mo_enclose_88 ⟨by decide, by decide⟩ ?_
    refine tw_istore (L' := [some (.inr 0), some (.inl v1), some (.inl v2), some (.inl y23), none, some (.inl mo_beginning), some (.inl 0)]) hX twd_mo_enclose_89 (by decide) rfl ?_
    obtain ⟨f48, h⟩ := h
    refine twt_mo_enclose_91 hX (fun y39 h => ?_) f48 _ _ h
    refine tw_iload_n hX twd_mo_enclose_125 rfl rfl ?_
    have h := h (fun (x40 : Int) => tw_rn (tw_YM l D ad cI cZ) Z Post 151 [some (.inr 0), some (.inl v1), some (.inl v2), none, none, none, none] [.inl x40] (tw_mM mo_base mo_measure mo_size mo_kind mo_group mo_width mo_pair mo_known mo_root mo_level mo_type mo_resolved mo_partner mo_top mo_entry mo_override mo_isolate mo_lostIsolates mo_lostEmbeddings mo_openIsolates mo_n mo_seq mo_mark mo_beginning mo_ending mo_embedding mo_list mo_lines mo_starts mo_shownLevels mo_order)) (by
      intro x40 h
      refine tw_istore (L' := [some (.inr 0), some (.inl v1), some (.inl v2), none, none, none, some (.inl x40)]) hX twd_mo_enclose_151 (by decide) rfl ?_
      refine tw_aload_n hX twd_mo_enclose_153 rfl rfl ?_
      refine tw_iload_n hX twd_mo_enclose_154 rfl rfl ?_
      refine tw_iload hX twd_mo_enclose_155 rfl ?_
      refine tw_callV (As := [.inl v1, .inl x40]) (n := 2) hX twd_mo_enclose_157 tw_good tww_929 tww_926 tww_928 tww_67 tww_86 twk_mo_give rfl rfl ⟨by decide, by decide⟩ rfl (Nat.le_of_ble_eq_true rfl) (twc_mo_give h (fun m_42_mo_type h => ?_))
      change tw_rn (tw_YM l D ad cI cZ) Z Post 160 [some (.inr 0), some (.inl v1), some (.inl v2), none, none, none, some (.inl x40)] [] (tw_mM mo_base mo_measure mo_size mo_kind mo_group mo_width mo_pair mo_known mo_root mo_level m_42_mo_type mo_resolved mo_partner mo_top mo_entry mo_override mo_isolate mo_lostIsolates mo_lostEmbeddings mo_openIsolates mo_n mo_seq mo_mark mo_beginning mo_ending mo_embedding mo_list mo_lines mo_starts mo_shownLevels mo_order)
      refine tw_aload_n hX twd_mo_enclose_160 rfl rfl ?_
      refine tw_iload_n hX twd_mo_enclose_161 rfl rfl ?_
      refine tw_iload hX twd_mo_enclose_162 rfl ?_
      refine tw_callV (As := [.inl v2, .inl x40]) (n := 2) hX twd_mo_enclose_164 tw_good tww_929 tww_926 tww_928 tww_67 tww_86 twk_mo_give rfl rfl ⟨by decide, by decide⟩ rfl (Nat.le_of_ble_eq_true rfl) (twc_mo_give h (fun m_43_mo_type h => ?_))
      change tw_rn (tw_YM l D ad cI cZ) Z Post 167 [some (.inr 0), some (.inl v1), some (.inl v2), none, none, none, some (.inl x40)] [] (tw_mM mo_base mo_measure mo_size mo_kind mo_group mo_width mo_pair mo_known mo_root mo_level m_43_mo_type mo_resolved mo_partner mo_top mo_entry mo_override mo_isolate mo_lostIsolates mo_lostEmbeddings mo_openIsolates mo_n mo_seq mo_mark mo_beginning mo_ending mo_embedding mo_list mo_lines mo_starts mo_shownLevels mo_order)
      exact tw_vret hX twd_mo_enclose_167 (hK _ h))
    have h := h (tw_rn (tw_YM l D ad cI cZ) Z Post 147 [some (.inr 0), some (.inl v1), some (.inl v2), none, none, none, none] [] (tw_mM mo_base mo_measure mo_size mo_kind mo_group mo_width mo_pair mo_known mo_root mo_level mo_type mo_resolved mo_partner mo_top mo_entry mo_override mo_isolate mo_lostIsolates mo_lostEmbeddings mo_openIsolates mo_n mo_seq mo_mark mo_beginning mo_ending mo_embedding mo_list mo_lines mo_starts mo_shownLevels mo_order)) (by
      intro  h
      refine tw_aload_n hX twd_mo_enclose_147 rfl rfl ?_
      refine tw_get (kf := 25) hX twd_mo_enclose_148 twin_mo rfl (by decide) tww_712 rfl rfl rfl ?_
      exact h)
    refine tw_if_ne hX twd_mo_enclose_126 rfl (fun q47 => ?_) (fun q47 => ?_)
    · have h := h.2 q47
      refine tw_wk (L' := [some (.inr 0), some (.inl v1), some (.inl v2), none, none, none, none]) (tw_le_s (tw_le_s (tw_le_s (tw_le_n (tw_le_n (tw_le_n (tw_le_n tw_le_0))))))) ?_
      exact h
    · have h := h.1 q47
      refine tw_iload hX twd_mo_enclose_129 rfl ?_
      refine tw_aload_n hX twd_mo_enclose_131 rfl rfl ?_
      refine tw_get (kf := 25) hX twd_mo_enclose_132 twin_mo rfl (by decide) tww_712 rfl rfl rfl ?_
      refine tw_icmp_eq hX twd_mo_enclose_135 rfl (fun q46 => ?_) (fun q46 => ?_)
      · have h := h.1 q46
        refine tw_wk (L' := [some (.inr 0), some (.inl v1), some (.inl v2), none, none, none, none]) (tw_le_s (tw_le_s (tw_le_s (tw_le_n (tw_le_n (tw_le_n (tw_le_n tw_le_0))))))) ?_
        exact h
      · have h := h.2 q46
        refine tw_iconst hX twd_mo_enclose_138 ⟨by decide, by decide⟩ ?_
        refine tw_aload_n hX twd_mo_enclose_139 rfl rfl ?_
        refine tw_get (kf := 25) hX twd_mo_enclose_140 twin_mo rfl (by decide) tww_712 rfl rfl rfl ?_
        obtain ⟨c45, h⟩ := h
        refine tw_isub hX twd_mo_enclose_143 c45 ?_
        refine tw_goto hX twd_mo_enclose_144 rfl ?_
        refine tw_wk (L' := [some (.inr 0), some (.inl v1), some (.inl v2), none, none, none, none]) (tw_le_s (tw_le_s (tw_le_s (tw_le_n (tw_le_n (tw_le_n (tw_le_n tw_le_0))))))) ?_
        exact h)
  refine tw_if_ne hX twd_mo_enclose_73 rfl (fun q50 => ?_) (fun q50 => ?_)
  · have h := h.2 q50
    refine tw_wk (L' := [some (.inr 0), some (.inl v1), some (.inl v2), some (.inl y23), none, none, none]) (tw_le_s (tw_le_s (tw_le_s (tw_le_s (tw_le_n (tw_le_n (tw_le_n tw_le_0))))))) ?_
    exact h
  · have h := h.1 q50
    refine tw_iload hX twd_mo_enclose_76 rfl ?_
    refine tw_if_ne hX twd_mo_enclose_78 rfl (fun q49 => ?_) (fun q49 => ?_)
    · have h := h.2 q49
      refine tw_wk (L' := [some (.inr 0), some (.inl v1), some (.inl v2), some (.inl y23), none, none, none]) (tw_le_s (tw_le_s (tw_le_s (tw_le_s (tw_le_n (tw_le_n (tw_le_n tw_le_0))))))) ?_
      exact h
    · have h := h.1 q49
      exact tw_vret hX twd_mo_enclose_81 (hK _ h)
