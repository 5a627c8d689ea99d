def tww_le_readMarks (pa_kinds : Nat → Int) (pa_size : Int) (pa_base : Int) (ma_others : Nat → Int) (ma_waiting : Nat → Int) (le_ofParagraph : Int) (ex_levels : Nat → Int) (ex_types : Nat → Int) (ex_entryLevels : Nat → Int) (ex_entryOverrides : Nat → Int) (ex_entryIsolates : Nat → Int) (ex_last : Int) (ex_lostIsolates : Int) (ex_lostEmbeddings : Int) (ex_openIsolates : Int) (K : (Nat → Int) → (Nat → Int) → Int → (Nat → Int) → (Nat → Int) → (Nat → Int) → (Nat → Int) → (Nat → Int) → Int → Int → Int → Int → Prop) : Prop :=
  tww_ma_find pa_kinds pa_size ma_others ma_waiting (fun m_1_ma_others m_2_ma_waiting =>
  (∀ J6 : (Nat → Int) → (Nat → Int) → Int → Prop, (∀ (x_3_ma_others : Nat → Int) (x_4_ma_waiting : Nat → Int) (x_5_le_ofParagraph : Int), (tww_ex_assign x_5_le_ofParagraph pa_kinds pa_size x_3_ma_others ex_levels ex_types ex_entryLevels ex_entryOverrides ex_entryIsolates ex_last ex_lostIsolates ex_lostEmbeddings ex_openIsolates (fun m_7_ex_levels m_8_ex_types m_9_ex_entryLevels m_10_ex_entryOverrides m_11_ex_entryIsolates m_12_ex_last m_13_ex_lostIsolates m_14_ex_lostEmbeddings m_15_ex_openIsolates =>
    K x_3_ma_others x_4_ma_waiting x_5_le_ofParagraph m_7_ex_levels m_8_ex_types m_9_ex_entryLevels m_10_ex_entryOverrides m_11_ex_entryIsolates m_12_ex_last m_13_ex_lostIsolates m_14_ex_lostEmbeddings m_15_ex_openIsolates)) → J6 x_3_ma_others x_4_ma_waiting x_5_le_ofParagraph) →
  ((pa_base = 2 →
  tww_ma_direction 0 pa_size pa_kinds m_1_ma_others (fun z16 =>
    J6 m_1_ma_others m_2_ma_waiting z16)) ∧
  (¬ pa_base = 2 →
  J6 m_1_ma_others m_2_ma_waiting pa_base))))
set_option maxRecDepth 100000 in
set_option maxHeartbeats 4000000 in
theorem twc_le_readMarks {l : Launch} {D : va_G} {ad : Nat → Nat} {cI cZ : ClassId} {Post : tw_P} {K : (Nat → Int) → (Nat → Int) → Int → (Nat → Int) → (Nat → Int) → (Nat → Int) → (Nat → Int) → (Nat → Int) → Int → Int → Int → Int → Prop} {pa_size pa_base le_ofParagraph ex_last ex_lostIsolates ex_lostEmbeddings ex_openIsolates se_count se_embedding se_beginning se_end fi_count tl_measure tl_stale : Int} {pa_kinds pa_groups pa_widths pa_pairs ma_others ma_waiting le_types le_partners le_resolved ex_levels ex_types ex_entryLevels ex_entryOverrides ex_entryIsolates se_places se_types se_marks br_partners br_list fi_breaks fi_starts fi_extents fi_groups sh_levels sh_order : Nat → Int} (h : tww_le_readMarks pa_kinds pa_size pa_base ma_others ma_waiting le_ofParagraph ex_levels ex_types ex_entryLevels ex_entryOverrides ex_entryIsolates ex_last ex_lostIsolates ex_lostEmbeddings ex_openIsolates K) (hK : ∀ (n_ma_others : Nat → Int) (n_ma_waiting : Nat → Int) (n_le_ofParagraph : Int) (n_ex_levels : Nat → Int) (n_ex_types : Nat → Int) (n_ex_entryLevels : Nat → Int) (n_ex_entryOverrides : Nat → Int) (n_ex_entryIsolates : Nat → Int) (n_ex_last : Int) (n_ex_lostIsolates : Int) (n_ex_lostEmbeddings : Int) (n_ex_openIsolates : Int), K n_ma_others n_ma_waiting n_le_ofParagraph n_ex_levels n_ex_types n_ex_entryLevels n_ex_entryOverrides n_ex_entryIsolates n_ex_last n_ex_lostIsolates n_ex_lostEmbeddings n_ex_openIsolates → Post none (tw_mC pa_kinds pa_groups pa_widths pa_pairs pa_size pa_base n_ma_others n_ma_waiting le_types le_partners le_resolved n_le_ofParagraph n_ex_levels n_ex_types n_ex_entryLevels n_ex_entryOverrides n_ex_entryIsolates n_ex_last n_ex_lostIsolates n_ex_lostEmbeddings n_ex_openIsolates se_places se_types se_marks se_count se_embedding se_beginning se_end br_partners br_list fi_breaks fi_starts fi_extents fi_count fi_groups sh_levels sh_order tl_measure tl_stale)) : tw_ct (tw_YC l D ad cI cZ) twy_le_readMarks (Cond.code twy_le_readMarks prog_5_method_2_code 2 none :: tw_Wg) 4 [.inr 6, .inr 1] (tw_mC pa_kinds pa_groups pa_widths pa_pairs pa_size pa_base ma_others ma_waiting le_types le_partners le_resolved le_ofParagraph ex_levels ex_types ex_entryLevels ex_entryOverrides ex_entryIsolates ex_last ex_lostIsolates ex_lostEmbeddings ex_openIsolates se_places se_types se_marks se_count se_embedding se_beginning se_end br_partners br_list fi_breaks fi_starts fi_extents fi_count fi_groups sh_levels sh_order tl_measure tl_stale) Post := by
  refine tw_of (own := twR_le) (L0 := [some (.inr 6), some (.inr 1)]) (by decide) rfl rfl (Nat.le_of_ble_eq_true rfl) (fun Z hX => ?_)
  unfold tww_le_readMarks at h
  refine tw_aload_n hX twd_le_readMarks_0 rfl rfl ?_
  refine tw_get (kf := 0) hX twd_le_readMarks_1 twin_le rfl (by decide) tww_251 rfl rfl rfl ?_
  refine tw_aload_n hX twd_le_readMarks_4 rfl rfl ?_
  refine tw_callV (As := [.inr 1]) (n := 1) hX twd_le_readMarks_5 tw_good tww_391 tww_388 tww_389 tww_390 tww_80 twk_ma_find rfl rfl ⟨by decide, by decide⟩ rfl (Nat.le_of_ble_eq_true rfl) (twc_ma_find h (fun m_1_ma_others m_2_ma_waiting h => ?_))
  change tw_rn (tw_YC l D ad cI cZ) Z Post 8 [some (.inr 6), some (.inr 1)] [] (tw_mC pa_kinds pa_groups pa_widths pa_pairs pa_size pa_base m_1_ma_others m_2_ma_waiting le_types le_partners le_resolved le_ofParagraph ex_levels ex_types ex_entryLevels ex_entryOverrides ex_entryIsolates ex_last ex_lostIsolates ex_lostEmbeddings ex_openIsolates se_places se_types se_marks se_count se_embedding se_beginning se_end br_partners br_list fi_breaks fi_starts fi_extents fi_count fi_groups sh_levels sh_order tl_measure tl_stale)
  refine tw_aload_n hX twd_le_readMarks_8 rfl rfl ?_
  refine tw_aload_n hX twd_le_readMarks_9 rfl rfl ?_
  refine tw_get (kf := 5) hX twd_le_readMarks_10 twin_pa rfl (by decide) tww_122 rfl rfl rfl ?_
  refine tw_put (kf := 4) (mem' := (tw_mC pa_kinds pa_groups pa_widths pa_pairs pa_size pa_base m_1_ma_others m_2_ma_waiting le_types le_partners le_resolved pa_base ex_levels ex_types ex_entryLevels ex_entryOverrides ex_entryIsolates ex_last ex_lostIsolates ex_lostEmbeddings ex_openIsolates se_places se_types se_marks se_count se_embedding se_beginning se_end br_partners br_list fi_breaks fi_starts fi_extents fi_count fi_groups sh_levels sh_order tl_measure tl_stale)) twt_le hX twd_le_readMarks_13 twin_le twtok_le twnm_le rfl (by decide) tww_260 rfl rfl rfl (Or.inl rfl) rfl (Nat.le_of_ble_eq_true rfl) rfl ?_
  refine tw_aload_n hX twd_le_readMarks_16 rfl rfl ?_
  refine tw_get (kf := 5) hX twd_le_readMarks_17 twin_pa rfl (by decide) tww_122 rfl rfl rfl ?_
  refine tw_iconst hX twd_le_readMarks_20 ⟨by decide, by decide⟩ ?_
  have h := h (fun (x_3_ma_others : Nat → Int) (x_4_ma_waiting : Nat → Int) (x_5_le_ofParagraph : Int) => tw_rn (tw_YC l D ad cI cZ) Z Post 41 [some (.inr 6), some (.inr 1)] [] (tw_mC pa_kinds pa_groups pa_widths pa_pairs pa_size pa_base x_3_ma_others x_4_ma_waiting le_types le_partners le_resolved x_5_le_ofParagraph ex_levels ex_types ex_entryLevels ex_entryOverrides ex_entryIsolates ex_last ex_lostIsolates ex_lostEmbeddings ex_openIsolates se_places se_types se_marks se_count se_embedding se_beginning se_end br_partners br_list fi_breaks fi_starts fi_extents fi_count fi_groups sh_levels sh_order tl_measure tl_stale)) (by
    intro x_3_ma_others x_4_ma_waiting x_5_le_ofParagraph h
    refine tw_aload_n hX twd_le_readMarks_41 rfl rfl ?_
    refine tw_get (kf := 5) hX twd_le_readMarks_42 twin_le rfl (by decide) tww_263 rfl rfl rfl ?_
    refine tw_aload_n hX twd_le_readMarks_45 rfl rfl ?_
    refine tw_aload_n hX twd_le_readMarks_46 rfl rfl ?_
    refine tw_get (kf := 0) hX twd_le_readMarks_47 twin_le rfl (by decide) tww_251 rfl rfl rfl ?_
    refine tw_aload_n hX twd_le_readMarks_50 rfl rfl ?_
    refine tw_get (kf := 4) hX twd_le_readMarks_51 twin_le rfl (by decide) tww_260 rfl rfl rfl ?_
    refine tw_callV (As := [.inr 1, .inr 7, .inl x_5_le_ofParagraph]) (n := 3) hX twd_le_readMarks_54 tw_good tww_402 tww_399 tww_400 tww_401 tww_81 twk_ex_assign rfl rfl ⟨by decide, by decide⟩ rfl (Nat.le_of_ble_eq_true rfl) (twc_ex_assign h (fun m_7_ex_levels m_8_ex_types m_9_ex_entryLevels m_10_ex_entryOverrides m_11_ex_entryIsolates m_12_ex_last m_13_ex_lostIsolates m_14_ex_lostEmbeddings m_15_ex_openIsolates h => ?_))
    change tw_rn (tw_YC l D ad cI cZ) Z Post 57 [some (.inr 6), some (.inr 1)] [] (tw_mC pa_kinds pa_groups pa_widths pa_pairs pa_size pa_base x_3_ma_others x_4_ma_waiting le_types le_partners le_resolved x_5_le_ofParagraph m_7_ex_levels m_8_ex_types m_9_ex_entryLevels m_10_ex_entryOverrides m_11_ex_entryIsolates m_12_ex_last m_13_ex_lostIsolates m_14_ex_lostEmbeddings m_15_ex_openIsolates se_places se_types se_marks se_count se_embedding se_beginning se_end br_partners br_list fi_breaks fi_starts fi_extents fi_count fi_groups sh_levels sh_order tl_measure tl_stale)
    exact tw_vret hX twd_le_readMarks_57 (hK _ _ _ _ _ _ _ _ _ _ _ _ h))
  refine tw_icmp_ne hX twd_le_readMarks_21 rfl (fun q17 => ?_) (fun q17 => ?_)
  · have h := h.2 q17
    exact h
  · have h := h.1 q17
    refine tw_aload_n hX twd_le_readMarks_24 rfl rfl ?_
    refine tw_aload_n hX twd_le_readMarks_25 rfl rfl ?_
    refine tw_get (kf := 0) hX twd_le_readMarks_26 twin_le rfl (by decide) tww_251 rfl rfl rfl ?_
    refine tw_aload_n hX twd_le_readMarks_29 rfl rfl ?_
    refine tw_iconst hX twd_le_readMarks_30 ⟨by decide, by decide⟩ ?_
    refine tw_aload_n hX twd_le_readMarks_31 rfl rfl ?_
    refine tw_get (kf := 4) hX twd_le_readMarks_32 twin_pa rfl (by decide) tww_118 rfl rfl rfl ?_
    refine tw_callV (As := [.inr 1, .inl 0, .inl pa_size]) (n := 3) hX twd_le_readMarks_35 tw_good tww_398 tww_395 tww_396 tww_397 tww_80 twk_ma_direction rfl rfl ⟨by decide, by decide⟩ rfl (Nat.le_of_ble_eq_true rfl) (twc_ma_direction h (fun z16 h => ?_))
    change tw_rn (tw_YC l D ad cI cZ) Z Post 38 [some (.inr 6), some (.inr 1)] [.inl z16, .inr 6] (tw_mC pa_kinds pa_groups pa_widths pa_pairs pa_size pa_base m_1_ma_others m_2_ma_waiting le_types le_partners le_resolved pa_base ex_levels ex_types ex_entryLevels ex_entryOverrides ex_entryIsolates ex_last ex_lostIsolates ex_lostEmbeddings ex_openIsolates se_places se_types se_marks se_count se_embedding se_beginning se_end br_partners br_list fi_breaks fi_starts fi_extents fi_count fi_groups sh_levels sh_order tl_measure tl_stale)
    refine tw_put (kf := 4) (mem' := (tw_mC pa_kinds pa_groups pa_widths pa_pairs pa_size pa_base m_1_ma_others m_2_ma_waiting le_types le_partners le_resolved z16 ex_levels ex_types ex_entryLevels ex_entryOverrides ex_entryIsolates ex_last ex_lostIsolates ex_lostEmbeddings ex_openIsolates se_places se_types se_marks se_count se_embedding se_beginning se_end br_partners br_list fi_breaks fi_starts fi_extents fi_count fi_groups sh_levels sh_order tl_measure tl_stale)) twt_le hX twd_le_readMarks_38 twin_le twtok_le twnm_le rfl (by decide) tww_260 rfl rfl rfl (Or.inl rfl) rfl (Nat.le_of_ble_eq_true rfl) rfl ?_
    exact h
def twl_le_visibleBefore_4 (K : Int → Prop) (X28 : Prop) (pa_kinds : Nat → Int) : Nat → Int → Prop
  | 0, _ => False
  | f + 1, v3 =>
    ((v3 < 0 →
    X28) ∧
    (¬ v3 < 0 →
    (0 ≤ v3 ∧ v3 < 64) ∧ (((twr_tl_isHidden (pa_kinds (Int.toNat v3))) = 0 →
      K v3) ∧
      (¬ (twr_tl_isHidden (pa_kinds (Int.toNat v3))) = 0 →
      (tw_rg (v3 + -1)) ∧ twl_le_visibleBefore_4 K X28 pa_kinds f (v3 + -1)))))
set_option maxRecDepth 100000 in
set_option maxHeartbeats 4000000 in
theorem twt_le_visibleBefore_4 {l : Launch} {D : va_G} {ad : Nat → Nat} {cI cZ : ClassId} {Z : tw_Z} {Post : tw_P} {K : Int → Prop} {X28 : Prop} {pa_size pa_base le_ofParagraph ex_last ex_lostIsolates ex_lostEmbeddings ex_openIsolates se_count se_embedding se_beginning se_end fi_count tl_measure tl_stale : Int} {pa_kinds pa_groups pa_widths pa_pairs ma_others ma_waiting le_types le_partners le_resolved ex_levels ex_types ex_entryLevels ex_entryOverrides ex_entryIsolates se_places se_types se_marks br_partners br_list fi_breaks fi_starts fi_extents fi_groups sh_levels sh_order : Nat → Int} (hX : tw_cx (tw_YC l D ad cI cZ) Z prog_5_method_5_code twR_le tw_Wg (some .int) 1 4) (hX28 : X28 → tw_rn (tw_YC l D ad cI cZ) Z Post 28 [none, none, none, none] [] (tw_mC pa_kinds pa_groups pa_widths pa_pairs pa_size pa_base ma_others ma_waiting le_types le_partners le_resolved le_ofParagraph ex_levels ex_types ex_entryLevels ex_entryOverrides ex_entryIsolates ex_last ex_lostIsolates ex_lostEmbeddings ex_openIsolates se_places se_types se_marks se_count se_embedding se_beginning se_end br_partners br_list fi_breaks fi_starts fi_extents fi_count fi_groups sh_levels sh_order tl_measure tl_stale)) (hK : ∀ (z : Int), K z → Post (some z) (tw_mC pa_kinds pa_groups pa_widths pa_pairs pa_size pa_base ma_others ma_waiting le_types le_partners le_resolved le_ofParagraph ex_levels ex_types ex_entryLevels ex_entryOverrides ex_entryIsolates ex_last ex_lostIsolates ex_lostEmbeddings ex_openIsolates se_places se_types se_marks se_count se_embedding se_beginning se_end br_partners br_list fi_breaks fi_starts fi_extents fi_count fi_groups sh_levels sh_order tl_measure tl_stale)) : ∀ (f : Nat) (v3 : Int), twl_le_visibleBefore_4 K X28 pa_kinds f v3 → tw_rn (tw_YC l D ad cI cZ) Z Post 4 [none, some (.inr 1), none, some (.inl v3)] [] (tw_mC pa_kinds pa_groups pa_widths pa_pairs pa_size pa_base ma_others ma_waiting le_types le_partners le_resolved le_ofParagraph ex_levels ex_types ex_entryLevels ex_entryOverrides ex_entryIsolates ex_last ex_lostIsolates ex_lostEmbeddings ex_openIsolates se_places se_types se_marks se_count se_embedding se_beginning se_end br_partners br_list fi_breaks fi_starts fi_extents fi_count fi_groups sh_levels sh_order tl_measure tl_stale) := by
  intro f
  induction f with
  | zero => intro v3 h; rw [twl_le_visibleBefore_4] at h; exact h.elim
  | succ f ih =>
    intro v3 h
    rw [twl_le_visibleBefore_4] at h
    refine tw_iload_n hX twd_le_visibleBefore_4 rfl rfl ?_
    refine tw_if_lt hX twd_le_visibleBefore_5 rfl (fun q7 => ?_) (fun q7 => ?_)
    · have h := h.1 q7
      refine tw_wk (L' := [none, none, none, none]) (tw_le_n (tw_le_n (tw_le_n (tw_le_n tw_le_0)))) ?_
      exact hX28 h
    · have h := h.2 q7
      refine tw_aload_n hX twd_le_visibleBefore_8 rfl rfl ?_
      refine tw_get (kf := 0) hX twd_le_visibleBefore_9 twin_pa rfl (by decide) tww_106 rfl rfl rfl ?_
      refine tw_iload_n hX twd_le_visibleBefore_12 rfl rfl ?_
      obtain ⟨c2, h⟩ := h
      refine tw_iaload hX twd_le_visibleBefore_13 rfl c2 ?_
      refine tw_callSN (As := [.inl (pa_kinds (Int.toNat v3))]) (n := 1) hX twd_le_visibleBefore_14 tw_good tww_417 twn_4 tww_416 tww_77 twk_tl_isHidden ⟨by decide, by decide⟩ rfl (Nat.le_of_ble_eq_true rfl) (twc_tl_isHidden (fun z3 e4 => ?_))
      subst e4
      change tw_rn (tw_YC l D ad cI cZ) Z Post 17 [none, some (.inr 1), none, some (.inl v3)] [.inl (twr_tl_isHidden (pa_kinds (Int.toNat v3)))] (tw_mC pa_kinds pa_groups pa_widths pa_pairs pa_size pa_base ma_others ma_waiting le_types le_partners le_resolved le_ofParagraph ex_levels ex_types ex_entryLevels ex_entryOverrides ex_entryIsolates ex_last ex_lostIsolates ex_lostEmbeddings ex_openIsolates se_places se_types se_marks se_count se_embedding se_beginning se_end br_partners br_list fi_breaks fi_starts fi_extents fi_count fi_groups sh_levels sh_order tl_measure tl_stale)
      refine tw_if_ne hX twd_le_visibleBefore_17 rfl (fun q6 => ?_) (fun q6 => ?_)
      · have h := h.2 q6
        obtain ⟨c5, h⟩ := h
        refine tw_iinc (L' := [none, some (.inr 1), none, some (.inl (v3 + -1))]) hX twd_le_visibleBefore_22 rfl (by decide) c5 rfl ?_
        refine tw_goto hX twd_le_visibleBefore_25 rfl ?_
        exact ih _ h
      · have h := h.1 q6
        refine tw_iload_n hX twd_le_visibleBefore_20 rfl rfl ?_
        exact tw_ret hX twd_le_visibleBefore_21 (hK _ h)
def tww_le_visibleBefore (v2 : Int) (pa_kinds : Nat → Int) (K : Int → Prop) : Prop :=
  (tw_rg (v2 - 1)) ∧ (∃ f8 : Nat, twl_le_visibleBefore_4 K (K (-1)) pa_kinds f8 (v2 - 1))
set_option maxRecDepth 100000 in
set_option maxHeartbeats 4000000 in
theorem twc_le_visibleBefore {l : Launch} {D : va_G} {ad : Nat → Nat} {cI cZ : ClassId} {Post : tw_P} {K : Int → Prop} {v2 : Int} {pa_size pa_base le_ofParagraph ex_last ex_lostIsolates ex_lostEmbeddings ex_openIsolates se_count se_embedding se_beginning se_end fi_count tl_measure tl_stale : Int} {pa_kinds pa_groups pa_widths pa_pairs ma_others ma_waiting le_types le_partners le_resolved ex_levels ex_types ex_entryLevels ex_entryOverrides ex_entryIsolates se_places se_types se_marks br_partners br_list fi_breaks fi_starts fi_extents fi_groups sh_levels sh_order : Nat → Int} (h : tww_le_visibleBefore v2 pa_kinds K) (hK : ∀ (z : Int), K z → Post (some z) (tw_mC pa_kinds pa_groups pa_widths pa_pairs pa_size pa_base ma_others ma_waiting le_types le_partners le_resolved le_ofParagraph ex_levels ex_types ex_entryLevels ex_entryOverrides ex_entryIsolates ex_last ex_lostIsolates ex_lostEmbeddings ex_openIsolates se_places se_types se_marks se_count se_embedding se_beginning se_end br_partners br_list fi_breaks fi_starts fi_extents fi_count fi_groups sh_levels sh_order tl_measure tl_stale)) : tw_ct (tw_YC l D ad cI cZ) twy_le_visibleBefore (Cond.code twy_le_visibleBefore prog_5_method_5_code 4 (some .int) :: tw_Wg) 1 [.inr 6, .inr 1, .inl v2] (tw_mC pa_kinds pa_groups pa_widths pa_pairs pa_size pa_base ma_others ma_waiting le_types le_partners le_resolved le_ofParagraph ex_levels ex_types ex_entryLevels ex_entryOverrides ex_entryIsolates ex_last ex_lostIsolates ex_lostEmbeddings ex_openIsolates se_places se_types se_marks se_count se_embedding se_beginning se_end br_partners br_list fi_breaks fi_starts fi_extents fi_count fi_groups sh_levels sh_order tl_measure tl_stale) Post := by
  refine tw_of (own := twR_le) (L0 := [some (.inr 6), some (.inr 1), some (.inl v2), none]) (by decide) rfl rfl (Nat.le_of_ble_eq_true rfl) (fun Z hX => ?_)
  unfold tww_le_visibleBefore at h
  refine tw_iload_n hX twd_le_visibleBefore_0 rfl rfl ?_
  refine tw_iconst hX twd_le_visibleBefore_1 ⟨by decide, by decide⟩ ?_
  obtain ⟨c1, h⟩ := h
  refine tw_isub hX twd_le_visibleBefore_2 c1 ?_
  refine tw_istore_n (L' := [some (.inr 6), some (.inr 1), some (.inl v2), some (.inl (v2 - 1))]) hX twd_le_visibleBefore_3 rfl (by decide) rfl ?_
  obtain ⟨f8, h⟩ := h
  refine tw_wk (L' := [none, some (.inr 1), none, some (.inl (v2 - 1))]) (tw_le_n (tw_le_s (tw_le_n (tw_le_s tw_le_0)))) ?_
  refine twt_le_visibleBefore_4 hX (fun  h => ?_) hK f8 _ h
  refine tw_iconst hX twd_le_visibleBefore_28 ⟨by decide, by decide⟩ ?_
  exact tw_ret hX twd_le_visibleBefore_29 (hK _ h)
def tww_le_beginsSequence (v2 : Int) (pa_kinds : Nat → Int) (ma_others : Nat → Int) (ex_levels : Nat → Int) (K : Int → Prop) : Prop :=
  (0 ≤ v2 ∧ v2 < 64) ∧ (((twr_tl_isHidden (pa_kinds (Int.toNat v2))) = 0 →
  (∀ J4 : Prop, ((tww_le_visibleBefore v2 pa_kinds (fun z5 =>
      (∀ J6 : Prop, ((K 1) → J6) →
      ((z5 = (-1) →
      J6) ∧
      (¬ z5 = (-1) →
      (0 ≤ z5 ∧ z5 < 64) ∧ (0 ≤ v2 ∧ v2 < 64) ∧ (((ex_levels (Int.toNat z5)) = (ex_levels (Int.toNat v2)) →
        K 0) ∧
        (¬ (ex_levels (Int.toNat z5)) = (ex_levels (Int.toNat v2)) →
        J6))))))) → J4) →
    (((pa_kinds (Int.toNat v2)) = 20 →
    (0 ≤ v2 ∧ v2 < 64) ∧ (((ma_others (Int.toNat v2)) = (-1) →
      J4) ∧
      (¬ (ma_others (Int.toNat v2)) = (-1) →
      K 0))) ∧
    (¬ (pa_kinds (Int.toNat v2)) = 20 →
    J4)))) ∧
  (¬ (twr_tl_isHidden (pa_kinds (Int.toNat v2))) = 0 →
  K 0))
set_option maxRecDepth 100000 in
set_option maxHeartbeats 4000000 in
theorem twc_le_beginsSequence {l : Launch} {D : va_G} {ad : Nat → Nat} {cI cZ : ClassId} {Post : tw_P} {K : Int → Prop} {v2 : Int} {pa_size pa_base le_ofParagraph ex_last ex_lostIsolates ex_lostEmbeddings ex_openIsolates se_count se_embedding se_beginning se_end fi_count tl_measure tl_stale : Int} {pa_kinds pa_groups pa_widths pa_pairs ma_others ma_waiting le_types le_partners le_resolved ex_levels ex_types ex_entryLevels ex_entryOverrides ex_entryIsolates se_places se_types se_marks br_partners br_list fi_breaks fi_starts fi_extents fi_groups sh_levels sh_order : Nat → Int} (h : tww_le_beginsSequence v2 pa_kinds ma_others ex_levels K) (hK : ∀ (z : Int), K z → Post (some z) (tw_mC pa_kinds pa_groups pa_widths pa_pairs pa_size pa_base ma_others ma_waiting le_types le_partners le_resolved le_ofParagraph ex_levels ex_types ex_entryLevels ex_entryOverrides ex_entryIsolates ex_last ex_lostIsolates ex_lostEmbeddings ex_openIsolates se_places se_types se_marks se_count se_embedding se_beginning se_end br_partners br_list fi_breaks fi_starts fi_extents fi_count fi_groups sh_levels sh_order tl_measure tl_stale)) : tw_ct (tw_YC l D ad cI cZ) twy_le_beginsSequence (Cond.code twy_le_beginsSequence prog_5_method_4_code 5 (some .boolean) :: tw_Wg) 2 [.inr 6, .inr 1, .inl v2] (tw_mC pa_kinds pa_groups pa_widths pa_pairs pa_size pa_base ma_others ma_waiting le_types le_partners le_resolved le_ofParagraph ex_levels ex_types ex_entryLevels ex_entryOverrides ex_entryIsolates ex_last ex_lostIsolates ex_lostEmbeddings ex_openIsolates se_places se_types se_marks se_count se_embedding se_beginning se_end br_partners br_list fi_breaks fi_starts fi_extents fi_count fi_groups sh_levels sh_order tl_measure tl_stale) Post := by
  refine tw_of (own := twR_le) (L0 := [some (.inr 6), some (.inr 1), some (.inl v2), none, none]) (by decide) rfl rfl (Nat.le_of_ble_eq_true rfl) (fun Z hX => ?_)
  unfold tww_le_beginsSequence at h
  refine tw_aload_n hX twd_le_beginsSequence_0 rfl rfl ?_
  refine tw_get (kf := 0) hX twd_le_beginsSequence_1 twin_pa rfl (by decide) tww_106 rfl rfl rfl ?_
  refine tw_iload_n hX twd_le_beginsSequence_4 rfl rfl ?_
  obtain ⟨c1, h⟩ := h
  refine tw_iaload hX twd_le_beginsSequence_5 rfl c1 ?_
  refine tw_istore_n (L' := [some (.inr 6), some (.inr 1), some (.inl v2), some (.inl (pa_kinds (Int.toNat v2))), none]) hX twd_le_beginsSequence_6 rfl (by decide) rfl ?_
  refine tw_iload_n hX twd_le_beginsSequence_7 rfl rfl ?_
  refine tw_callSN (As := [.inl (pa_kinds (Int.toNat v2))]) (n := 1) hX twd_le_beginsSequence_8 tw_good tww_417 twn_4 tww_416 tww_77 twk_tl_isHidden ⟨by decide, by decide⟩ rfl (Nat.le_of_ble_eq_true rfl) (twc_tl_isHidden (fun z2 e3 => ?_))
  subst e3
  change tw_rn (tw_YC l D ad cI cZ) Z Post 11 [some (.inr 6), some (.inr 1), some (.inl v2), some (.inl (pa_kinds (Int.toNat v2))), none] [.inl (twr_tl_isHidden (pa_kinds (Int.toNat v2)))] (tw_mC pa_kinds pa_groups pa_widths pa_pairs pa_size pa_base ma_others ma_waiting le_types le_partners le_resolved le_ofParagraph ex_levels ex_types ex_entryLevels ex_entryOverrides ex_entryIsolates ex_last ex_lostIsolates ex_lostEmbeddings ex_openIsolates se_places se_types se_marks se_count se_embedding se_beginning se_end br_partners br_list fi_breaks fi_starts fi_extents fi_count fi_groups sh_levels sh_order tl_measure tl_stale)
  refine tw_if_ne hX twd_le_beginsSequence_11 rfl (fun q14 => ?_) (fun q14 => ?_)
  · have h := h.2 q14
    refine tw_iconst hX twd_le_beginsSequence_33 ⟨by decide, by decide⟩ ?_
    exact tw_zret hX twd_le_beginsSequence_34 ⟨by decide, by decide⟩ (hK _ h)
  · have h := h.1 q14
    refine tw_iload_n hX twd_le_beginsSequence_14 rfl rfl ?_
    refine tw_bipush hX twd_le_beginsSequence_15 (by decide +kernel) ⟨by decide, by decide⟩ ?_
    have h := h (tw_rn (tw_YC l D ad cI cZ) Z Post 35 [some (.inr 6), some (.inr 1), some (.inl v2), none, none] [] (tw_mC pa_kinds pa_groups pa_widths pa_pairs pa_size pa_base ma_others ma_waiting le_types le_partners le_resolved le_ofParagraph ex_levels ex_types ex_entryLevels ex_entryOverrides ex_entryIsolates ex_last ex_lostIsolates ex_lostEmbeddings ex_openIsolates se_places se_types se_marks se_count se_embedding se_beginning se_end br_partners br_list fi_breaks fi_starts fi_extents fi_count fi_groups sh_levels sh_order tl_measure tl_stale)) (by
      intro  h
      refine tw_aload_n hX twd_le_beginsSequence_35 rfl rfl ?_
      refine tw_aload_n hX twd_le_beginsSequence_36 rfl rfl ?_
      refine tw_iload_n hX twd_le_beginsSequence_37 rfl rfl ?_
      refine tw_callV (As := [.inr 1, .inl v2]) (n := 2) hX twd_le_beginsSequence_38 tw_good tww_466 tww_463 tww_465 tww_12 tww_79 twk_le_visibleBefore rfl rfl ⟨by decide, by decide⟩ rfl (Nat.le_of_ble_eq_true rfl) (twc_le_visibleBefore h (fun z5 h => ?_))
      change tw_rn (tw_YC l D ad cI cZ) Z Post 41 [some (.inr 6), some (.inr 1), some (.inl v2), none, none] [.inl z5] (tw_mC pa_kinds pa_groups pa_widths pa_pairs pa_size pa_base ma_others ma_waiting le_types le_partners le_resolved le_ofParagraph ex_levels ex_types ex_entryLevels ex_entryOverrides ex_entryIsolates ex_last ex_lostIsolates ex_lostEmbeddings ex_openIsolates se_places se_types se_marks se_count se_embedding se_beginning se_end br_partners br_list fi_breaks fi_starts fi_extents fi_count fi_groups sh_levels sh_order tl_measure tl_stale)
      refine tw_istore (L' := [some (.inr 6), some (.inr 1), some (.inl v2), none, some (.inl z5)]) hX twd_le_beginsSequence_41 (by decide) rfl ?_
      refine tw_iload hX twd_le_beginsSequence_43 rfl ?_
      refine tw_iconst hX twd_le_beginsSequence_45 ⟨by decide, by decide⟩ ?_
      have h := h (tw_rn (tw_YC l D ad cI cZ) Z Post 71 [none, none, none, none, none] [] (tw_mC pa_kinds pa_groups pa_widths pa_pairs pa_size pa_base ma_others ma_waiting le_types le_partners le_resolved le_ofParagraph ex_levels ex_types ex_entryLevels ex_entryOverrides ex_entryIsolates ex_last ex_lostIsolates ex_lostEmbeddings ex_openIsolates se_places se_types se_marks se_count se_embedding se_beginning se_end br_partners br_list fi_breaks fi_starts fi_extents fi_count fi_groups sh_levels sh_order tl_measure tl_stale)) (by
        intro  h
        refine tw_iconst hX twd_le_beginsSequence_71 ⟨by decide, by decide⟩ ?_
        refine tw_goto hX twd_le_beginsSequence_72 rfl ?_
        exact tw_zret hX twd_le_beginsSequence_76 ⟨by decide, by decide⟩ (hK _ h))
      refine tw_icmp_eq hX twd_le_beginsSequence_46 rfl (fun q10 => ?_) (fun q10 => ?_)
      · have h := h.1 q10
        refine tw_wk (L' := [none, none, none, none, none]) (tw_le_n (tw_le_n (tw_le_n (tw_le_n (tw_le_n tw_le_0))))) ?_
        exact h
      · have h := h.2 q10
        refine tw_aload_n hX twd_le_beginsSequence_49 rfl rfl ?_
        refine tw_get (kf := 5) hX twd_le_beginsSequence_50 twin_le rfl (by decide) tww_263 rfl rfl rfl ?_
        refine tw_get (kf := 0) hX twd_le_beginsSequence_53 twin_ex rfl (by decide) tww_167 rfl rfl rfl ?_
        refine tw_iload hX twd_le_beginsSequence_56 rfl ?_
        obtain ⟨c7, h⟩ := h
        refine tw_iaload hX twd_le_beginsSequence_58 rfl c7 ?_
        refine tw_aload_n hX twd_le_beginsSequence_59 rfl rfl ?_
        refine tw_get (kf := 5) hX twd_le_beginsSequence_60 twin_le rfl (by decide) tww_263 rfl rfl rfl ?_
        refine tw_get (kf := 0) hX twd_le_beginsSequence_63 twin_ex rfl (by decide) tww_167 rfl rfl rfl ?_
        refine tw_iload_n hX twd_le_beginsSequence_66 rfl rfl ?_
        obtain ⟨c8, h⟩ := h
        refine tw_iaload hX twd_le_beginsSequence_67 rfl c8 ?_
        refine tw_icmp_eq hX twd_le_beginsSequence_68 rfl (fun q9 => ?_) (fun q9 => ?_)
        · have h := h.1 q9
          refine tw_iconst hX twd_le_beginsSequence_75 ⟨by decide, by decide⟩ ?_
          exact tw_zret hX twd_le_beginsSequence_76 ⟨by decide, by decide⟩ (hK _ h)
        · have h := h.2 q9
          refine tw_wk (L' := [none, none, none, none, none]) (tw_le_n (tw_le_n (tw_le_n (tw_le_n (tw_le_n tw_le_0))))) ?_
          exact h)
    refine tw_icmp_ne hX twd_le_beginsSequence_17 rfl (fun q13 => ?_) (fun q13 => ?_)
    · have h := h.2 q13
      refine tw_wk (L' := [some (.inr 6), some (.inr 1), some (.inl v2), none, none]) (tw_le_s (tw_le_s (tw_le_s (tw_le_n (tw_le_n tw_le_0))))) ?_
      exact h
    · have h := h.1 q13
      refine tw_aload_n hX twd_le_beginsSequence_20 rfl rfl ?_
      refine tw_get (kf := 0) hX twd_le_beginsSequence_21 twin_le rfl (by decide) tww_251 rfl rfl rfl ?_
      refine tw_get (kf := 0) hX twd_le_beginsSequence_24 twin_ma rfl (by decide) tww_151 rfl rfl rfl ?_
      refine tw_iload_n hX twd_le_beginsSequence_27 rfl rfl ?_
      obtain ⟨c11, h⟩ := h
      refine tw_iaload hX twd_le_beginsSequence_28 rfl c11 ?_
      refine tw_iconst hX twd_le_beginsSequence_29 ⟨by decide, by decide⟩ ?_
      refine tw_icmp_eq hX twd_le_beginsSequence_30 rfl (fun q12 => ?_) (fun q12 => ?_)
      · have h := h.1 q12
        refine tw_wk (L' := [some (.inr 6), some (.inr 1), some (.inl v2), none, none]) (tw_le_s (tw_le_s (tw_le_s (tw_le_n (tw_le_n tw_le_0))))) ?_
        exact h
      · have h := h.2 q12
        refine tw_iconst hX twd_le_beginsSequence_33 ⟨by decide, by decide⟩ ?_
        exact tw_zret hX twd_le_beginsSequence_34 ⟨by decide, by decide⟩ (hK _ h)
def two_se_append (v1 v2 : Int) (se_places : Nat → Int) (se_types : Nat → Int) (se_count : Int) : Prop := ((¬ 64 ≤ se_count → ((0 ≤ se_count ∧ se_count < 64) ∧ (0 ≤ se_count ∧ se_count < 64) ∧ (tw_rg (se_count + 1)))))
def twu_se_append__se_places (v1 v2 : Int) (se_places : Nat → Int) (se_types : Nat → Int) (se_count : Int) : Nat → Int := if 64 ≤ se_count then se_places else (tw_up se_places (Int.toNat se_count) v1)
def twu_se_append__se_types (v1 v2 : Int) (se_places : Nat → Int) (se_types : Nat → Int) (se_count : Int) : Nat → Int := if 64 ≤ se_count then se_types else (tw_up se_types (Int.toNat se_count) v2)
def twu_se_append__se_count (v1 v2 : Int) (se_places : Nat → Int) (se_types : Nat → Int) (se_count : Int) : Int := if 64 ≤ se_count then se_count else (se_count + 1)
set_option maxRecDepth 100000 in
set_option maxHeartbeats 4000000 in
theorem twc_se_append {l : Launch} {D : va_G} {ad : Nat → Nat} {cI cZ : ClassId} {Post : tw_P} {v1 v2 : Int} {pa_size pa_base le_ofParagraph ex_last ex_lostIsolates ex_lostEmbeddings ex_openIsolates se_count se_embedding se_beginning se_end fi_count tl_measure tl_stale : Int} {pa_kinds pa_groups pa_widths pa_pairs ma_others ma_waiting le_types le_partners le_resolved ex_levels ex_types ex_entryLevels ex_entryOverrides ex_entryIsolates se_places se_types se_marks br_partners br_list fi_breaks fi_starts fi_extents fi_groups sh_levels sh_order : Nat → Int} (h : two_se_append v1 v2 se_places se_types se_count) (hK : ∀ (n_se_places : Nat → Int) (n_se_types : Nat → Int) (n_se_count : Int), n_se_places = twu_se_append__se_places v1 v2 se_places se_types se_count → n_se_types = twu_se_append__se_types v1 v2 se_places se_types se_count → n_se_count = twu_se_append__se_count v1 v2 se_places se_types se_count → Post none (tw_mC pa_kinds pa_groups pa_widths pa_pairs pa_size pa_base ma_others ma_waiting le_types le_partners le_resolved le_ofParagraph ex_levels ex_types ex_entryLevels ex_entryOverrides ex_entryIsolates ex_last ex_lostIsolates ex_lostEmbeddings ex_openIsolates n_se_places n_se_types se_marks n_se_count se_embedding se_beginning se_end br_partners br_list fi_breaks fi_starts fi_extents fi_count fi_groups sh_levels sh_order tl_measure tl_stale)) : tw_ct (tw_YC l D ad cI cZ) twy_se_append (Cond.code twy_se_append prog_8_method_2_code 3 none :: tw_Wg) 0 [.inr 19, .inl v1, .inl v2] (tw_mC pa_kinds pa_groups pa_widths pa_pairs pa_size pa_base ma_others ma_waiting le_types le_partners le_resolved le_ofParagraph ex_levels ex_types ex_entryLevels ex_entryOverrides ex_entryIsolates ex_last ex_lostIsolates ex_lostEmbeddings ex_openIsolates se_places se_types se_marks se_count se_embedding se_beginning se_end br_partners br_list fi_breaks fi_starts fi_extents fi_count fi_groups sh_levels sh_order tl_measure tl_stale) Post := by
  refine tw_of (own := twR_se) (L0 := [some (.inr 19), some (.inl v1), some (.inl v2)]) (by decide) rfl rfl (Nat.le_of_ble_eq_true rfl) (fun Z hX => ?_)
  unfold two_se_append at h
  refine tw_aload_n hX twd_se_append_0 rfl rfl ?_
  refine tw_get (kf := 3) hX twd_se_append_1 twin_se rfl (by decide) tww_211 rfl rfl rfl ?_
  refine tw_bipush hX twd_se_append_4 (by decide +kernel) ⟨by decide, by decide⟩ ?_
  refine tw_icmp_ge hX twd_se_append_6 rfl (fun q4 => ?_) (fun q4 => ?_)
  · have _tw := trivial
    exact tw_vret hX twd_se_append_39 (hK _ _ _ (Eq.symm (if_pos q4)) (Eq.symm (if_pos q4)) (Eq.symm (if_pos q4)))
  · have _tw := trivial
    have h := h q4
    refine tw_aload_n hX twd_se_append_9 rfl rfl ?_
    refine tw_get (kf := 0) hX twd_se_append_10 twin_se rfl (by decide) tww_203 rfl rfl rfl ?_
    refine tw_aload_n hX twd_se_append_13 rfl rfl ?_
    refine tw_get (kf := 3) hX twd_se_append_14 twin_se rfl (by decide) tww_211 rfl rfl rfl ?_
    refine tw_iload_n hX twd_se_append_17 rfl rfl ?_
    obtain ⟨c1, h⟩ := h
    refine tw_iastore (mem' := (tw_mC pa_kinds pa_groups pa_widths pa_pairs pa_size pa_base ma_others ma_waiting le_types le_partners le_resolved le_ofParagraph ex_levels ex_types ex_entryLevels ex_entryOverrides ex_entryIsolates ex_last ex_lostIsolates ex_lostEmbeddings ex_openIsolates (tw_up se_places (Int.toNat se_count) v1) se_types se_marks se_count se_embedding se_beginning se_end br_partners br_list fi_breaks fi_starts fi_extents fi_count fi_groups sh_levels sh_order tl_measure tl_stale)) hX twd_se_append_18 rfl c1 rfl ?_
    refine tw_aload_n hX twd_se_append_19 rfl rfl ?_
    refine tw_get (kf := 1) hX twd_se_append_20 twin_se rfl (by decide) tww_206 rfl rfl rfl ?_
    refine tw_aload_n hX twd_se_append_23 rfl rfl ?_
    refine tw_get (kf := 3) hX twd_se_append_24 twin_se rfl (by decide) tww_211 rfl rfl rfl ?_
    refine tw_iload_n hX twd_se_append_27 rfl rfl ?_
    obtain ⟨c2, h⟩ := h
    refine tw_iastore (mem' := (tw_mC pa_kinds pa_groups pa_widths pa_pairs pa_size pa_base ma_others ma_waiting le_types le_partners le_resolved le_ofParagraph ex_levels ex_types ex_entryLevels ex_entryOverrides ex_entryIsolates ex_last ex_lostIsolates ex_lostEmbeddings ex_openIsolates (tw_up se_places (Int.toNat se_count) v1) (tw_up se_types (Int.toNat se_count) v2) se_marks se_count se_embedding se_beginning se_end br_partners br_list fi_breaks fi_starts fi_extents fi_count fi_groups sh_levels sh_order tl_measure tl_stale)) hX twd_se_append_28 rfl c2 rfl ?_
    refine tw_aload_n hX twd_se_append_29 rfl rfl ?_
    refine tw_dup hX twd_se_append_30 ?_
    refine tw_get (kf := 3) hX twd_se_append_31 twin_se rfl (by decide) tww_211 rfl rfl rfl ?_
    refine tw_iconst hX twd_se_append_34 ⟨by decide, by decide⟩ ?_
    have c3 := h
    refine tw_iadd hX twd_se_append_35 c3 ?_
    refine tw_put (kf := 3) (mem' := (tw_mC pa_kinds pa_groups pa_widths pa_pairs pa_size pa_base ma_others ma_waiting le_types le_partners le_resolved le_ofParagraph ex_levels ex_types ex_entryLevels ex_entryOverrides ex_entryIsolates ex_last ex_lostIsolates ex_lostEmbeddings ex_openIsolates (tw_up se_places (Int.toNat se_count) v1) (tw_up se_types (Int.toNat se_count) v2) se_marks (se_count + 1) se_embedding se_beginning se_end br_partners br_list fi_breaks fi_starts fi_extents fi_count fi_groups sh_levels sh_order tl_measure tl_stale)) twt_se hX twd_se_append_36 twin_se twtok_se twnm_se rfl (by decide) tww_211 rfl rfl rfl (Or.inl rfl) rfl (Nat.le_of_ble_eq_true rfl) rfl ?_
    exact tw_vret hX twd_se_append_39 (hK _ _ _ (Eq.symm (if_neg q4)) (Eq.symm (if_neg q4)) (Eq.symm (if_neg q4)))
def twl_le_takeRun_5 (X52 : Int → (Nat → Int) → (Nat → Int) → Int → Prop) (X83 : Int → (Nat → Int) → (Nat → Int) → Int → Prop) (v2 : Int) (pa_kinds : Nat → Int) (pa_size : Int) (ex_levels : Nat → Int) (ex_types : Nat → Int) : Nat → Int → Int → (Nat → Int) → (Nat → Int) → Int → Prop
  | 0, _, _, _, _, _ => False
  | f + 1, v3, v4, se_places, se_types, se_count =>
    ((pa_size ≤ v4 →
    X83 v3 se_places se_types se_count) ∧
    (¬ pa_size ≤ v4 →
    (0 ≤ v4 ∧ v4 < 64) ∧ (∀ J8 : Int → (Nat → Int) → (Nat → Int) → Int → Prop, (∀ (x4 : Int) (x_5_se_places : Nat → Int) (x_6_se_types : Nat → Int) (x_7_se_count : Int), ((tw_rg (v4 + 1)) ∧ twl_le_takeRun_5 X52 X83 v2 pa_kinds pa_size ex_levels ex_types f x4 (v4 + 1) x_5_se_places x_6_se_types x_7_se_count) → J8 x4 x_5_se_places x_6_se_types x_7_se_count) →
      (((twr_tl_isHidden (pa_kinds (Int.toNat v4))) = 0 →
      (0 ≤ v4 ∧ v4 < 64) ∧ (0 ≤ v2 ∧ v2 < 64) ∧ (((ex_levels (Int.toNat v4)) = (ex_levels (Int.toNat v2)) →
        (0 ≤ v4 ∧ v4 < 64) ∧ (two_se_append v4 (ex_types (Int.toNat v4)) se_places se_types se_count) ∧ J8 v4 (twu_se_append__se_places v4 (ex_types (Int.toNat v4)) se_places se_types se_count) (twu_se_append__se_types v4 (ex_types (Int.toNat v4)) se_places se_types se_count) (twu_se_append__se_count v4 (ex_types (Int.toNat v4)) se_places se_types se_count)) ∧
        (¬ (ex_levels (Int.toNat v4)) = (ex_levels (Int.toNat v2)) →
        X52 v3 se_places se_types se_count))) ∧
      (¬ (twr_tl_isHidden (pa_kinds (Int.toNat v4))) = 0 →
      J8 v3 se_places se_types se_count)))))
set_option maxRecDepth 100000 in
set_option maxHeartbeats 4000000 in
theorem twt_le_takeRun_5 {l : Launch} {D : va_G} {ad : Nat → Nat} {cI cZ : ClassId} {Z : tw_Z} {Post : tw_P} {X52 : Int → (Nat → Int) → (Nat → Int) → Int → Prop} {X83 : Int → (Nat → Int) → (Nat → Int) → Int → Prop} {v2 : Int} {pa_size pa_base le_ofParagraph ex_last ex_lostIsolates ex_lostEmbeddings ex_openIsolates se_embedding se_beginning se_end fi_count tl_measure tl_stale : Int} {pa_kinds pa_groups pa_widths pa_pairs ma_others ma_waiting le_types le_partners le_resolved ex_levels ex_types ex_entryLevels ex_entryOverrides ex_entryIsolates se_marks br_partners br_list fi_breaks fi_starts fi_extents fi_groups sh_levels sh_order : Nat → Int} (hX : tw_cx (tw_YC l D ad cI cZ) Z prog_5_method_8_code twR_le tw_Wg (some .int) 1 5) (hX52 : ∀ (v3 : Int) (se_places : Nat → Int) (se_types : Nat → Int) (se_count : Int), X52 v3 se_places se_types se_count → tw_rn (tw_YC l D ad cI cZ) Z Post 52 [none, none, none, some (.inl v3), none] [] (tw_mC pa_kinds pa_groups pa_widths pa_pairs pa_size pa_base ma_others ma_waiting le_types le_partners le_resolved le_ofParagraph ex_levels ex_types ex_entryLevels ex_entryOverrides ex_entryIsolates ex_last ex_lostIsolates ex_lostEmbeddings ex_openIsolates se_places se_types se_marks se_count se_embedding se_beginning se_end br_partners br_list fi_breaks fi_starts fi_extents fi_count fi_groups sh_levels sh_order tl_measure tl_stale)) (hX83 : ∀ (v3 : Int) (se_places : Nat → Int) (se_types : Nat → Int) (se_count : Int), X83 v3 se_places se_types se_count → tw_rn (tw_YC l D ad cI cZ) Z Post 83 [none, none, none, some (.inl v3), none] [] (tw_mC pa_kinds pa_groups pa_widths pa_pairs pa_size pa_base ma_others ma_waiting le_types le_partners le_resolved le_ofParagraph ex_levels ex_types ex_entryLevels ex_entryOverrides ex_entryIsolates ex_last ex_lostIsolates ex_lostEmbeddings ex_openIsolates se_places se_types se_marks se_count se_embedding se_beginning se_end br_partners br_list fi_breaks fi_starts fi_extents fi_count fi_groups sh_levels sh_order tl_measure tl_stale)) : ∀ (f : Nat) (v3 : Int) (v4 : Int) (se_places : Nat → Int) (se_types : Nat → Int) (se_count : Int), twl_le_takeRun_5 X52 X83 v2 pa_kinds pa_size ex_levels ex_types f v3 v4 se_places se_types se_count → tw_rn (tw_YC l D ad cI cZ) Z Post 5 [some (.inr 6), some (.inr 1), some (.inl v2), some (.inl v3), some (.inl v4)] [] (tw_mC pa_kinds pa_groups pa_widths pa_pairs pa_size pa_base ma_others ma_waiting le_types le_partners le_resolved le_ofParagraph ex_levels ex_types ex_entryLevels ex_entryOverrides ex_entryIsolates ex_last ex_lostIsolates ex_lostEmbeddings ex_openIsolates se_places se_types se_marks se_count se_embedding se_beginning se_end br_partners br_list fi_breaks fi_starts fi_extents fi_count fi_groups sh_levels sh_order tl_measure tl_stale) := by
  intro f
  induction f with
  | zero => intro v3 v4 se_places se_types se_count h; rw [twl_le_takeRun_5] at h; exact h.elim
  | succ f ih =>
    intro v3 v4 se_places se_types se_count h
    rw [twl_le_takeRun_5] at h
    refine tw_iload hX twd_le_takeRun_5 rfl ?_
    refine tw_aload_n hX twd_le_takeRun_7 rfl rfl ?_
    refine tw_get (kf := 4) hX twd_le_takeRun_8 twin_pa rfl (by decide) tww_118 rfl rfl rfl ?_
    refine tw_icmp_ge hX twd_le_takeRun_11 rfl (fun q23 => ?_) (fun q23 => ?_)
    · have h := h.1 q23
      refine tw_wk (L' := [none, none, none, some (.inl v3), none]) (tw_le_n (tw_le_n (tw_le_n (tw_le_s (tw_le_n tw_le_0))))) ?_
      exact hX83 _ _ _ _ h
    · have h := h.2 q23
      refine tw_aload_n hX twd_le_takeRun_14 rfl rfl ?_
      refine tw_get (kf := 0) hX twd_le_takeRun_15 twin_pa rfl (by decide) tww_106 rfl rfl rfl ?_
      refine tw_iload hX twd_le_takeRun_18 rfl ?_
      obtain ⟨c1, h⟩ := h
      refine tw_iaload hX twd_le_takeRun_20 rfl c1 ?_
      refine tw_callSN (As := [.inl (pa_kinds (Int.toNat v4))]) (n := 1) hX twd_le_takeRun_21 tw_good tww_417 twn_4 tww_416 tww_77 twk_tl_isHidden ⟨by decide, by decide⟩ rfl (Nat.le_of_ble_eq_true rfl) (twc_tl_isHidden (fun z2 e3 => ?_))
      subst e3
      change tw_rn (tw_YC l D ad cI cZ) Z Post 24 [some (.inr 6), some (.inr 1), some (.inl v2), some (.inl v3), some (.inl v4)] [.inl (twr_tl_isHidden (pa_kinds (Int.toNat v4)))] (tw_mC pa_kinds pa_groups pa_widths pa_pairs pa_size pa_base ma_others ma_waiting le_types le_partners le_resolved le_ofParagraph ex_levels ex_types ex_entryLevels ex_entryOverrides ex_entryIsolates ex_last ex_lostIsolates ex_lostEmbeddings ex_openIsolates se_places se_types se_marks se_count se_embedding se_beginning se_end br_partners br_list fi_breaks fi_starts fi_extents fi_count fi_groups sh_levels sh_order tl_measure tl_stale)
      have h := h (fun (x4 : Int) (x_5_se_places : Nat → Int) (x_6_se_types : Nat → Int) (x_7_se_count : Int) => tw_rn (tw_YC l D ad cI cZ) Z Post 77 [some (.inr 6), some (.inr 1), some (.inl v2), some (.inl x4), some (.inl v4)] [] (tw_mC pa_kinds pa_groups pa_widths pa_pairs pa_size pa_base ma_others ma_waiting le_types le_partners le_resolved le_ofParagraph ex_levels ex_types ex_entryLevels ex_entryOverrides ex_entryIsolates ex_last ex_lostIsolates ex_lostEmbeddings ex_openIsolates x_5_se_places x_6_se_types se_marks x_7_se_count se_embedding se_beginning se_end br_partners br_list fi_breaks fi_starts fi_extents fi_count fi_groups sh_levels sh_order tl_measure tl_stale)) (by
        intro x4 x_5_se_places x_6_se_types x_7_se_count h
        obtain ⟨c9, h⟩ := h
        refine tw_iinc (L' := [some (.inr 6), some (.inr 1), some (.inl v2), some (.inl x4), some (.inl (v4 + 1))]) hX twd_le_takeRun_77 rfl (by decide) c9 rfl ?_
        refine tw_goto hX twd_le_takeRun_80 rfl ?_
        exact ih _ _ _ _ _ h)
      refine tw_if_eq hX twd_le_takeRun_24 rfl (fun q22 => ?_) (fun q22 => ?_)
      · have h := h.1 q22
        refine tw_aload_n hX twd_le_takeRun_30 rfl rfl ?_
        refine tw_get (kf := 5) hX twd_le_takeRun_31 twin_le rfl (by decide) tww_263 rfl rfl rfl ?_
        refine tw_get (kf := 0) hX twd_le_takeRun_34 twin_ex rfl (by decide) tww_167 rfl rfl rfl ?_
        refine tw_iload hX twd_le_takeRun_37 rfl ?_
        obtain ⟨c10, h⟩ := h
        refine tw_iaload hX twd_le_takeRun_39 rfl c10 ?_
        refine tw_aload_n hX twd_le_takeRun_40 rfl rfl ?_
        refine tw_get (kf := 5) hX twd_le_takeRun_41 twin_le rfl (by decide) tww_263 rfl rfl rfl ?_
        refine tw_get (kf := 0) hX twd_le_takeRun_44 twin_ex rfl (by decide) tww_167 rfl rfl rfl ?_
        refine tw_iload_n hX twd_le_takeRun_47 rfl rfl ?_
        obtain ⟨c11, h⟩ := h
        refine tw_iaload hX twd_le_takeRun_48 rfl c11 ?_
        refine tw_icmp_eq hX twd_le_takeRun_49 rfl (fun q21 => ?_) (fun q21 => ?_)
        · have h := h.1 q21
          refine tw_aload_n hX twd_le_takeRun_55 rfl rfl ?_
          refine tw_get (kf := 6) hX twd_le_takeRun_56 twin_le rfl (by decide) tww_264 rfl rfl rfl ?_
          refine tw_iload hX twd_le_takeRun_59 rfl ?_
          refine tw_aload_n hX twd_le_takeRun_61 rfl rfl ?_
          refine tw_get (kf := 5) hX twd_le_takeRun_62 twin_le rfl (by decide) tww_263 rfl rfl rfl ?_
          refine tw_get (kf := 1) hX twd_le_takeRun_65 twin_ex rfl (by decide) tww_169 rfl rfl rfl ?_
          refine tw_iload hX twd_le_takeRun_68 rfl ?_
          obtain ⟨c12, h⟩ := h
          refine tw_iaload hX twd_le_takeRun_70 rfl c12 ?_
          obtain ⟨c13, h⟩ := h
          refine tw_callV (As := [.inl v4, .inl (ex_types (Int.toNat v4))]) (n := 2) hX twd_le_takeRun_71 tw_good tww_478 tww_475 tww_476 tww_477 tww_82 twk_se_append rfl rfl ⟨by decide, by decide⟩ rfl (Nat.le_of_ble_eq_true rfl) (twc_se_append c13 (fun w15 w16 w17 e18 e19 e20 => ?_))
          subst e18
          subst e19
          subst e20
          change tw_rn (tw_YC l D ad cI cZ) Z Post 74 [some (.inr 6), some (.inr 1), some (.inl v2), some (.inl v3), some (.inl v4)] [] (tw_mC pa_kinds pa_groups pa_widths pa_pairs pa_size pa_base ma_others ma_waiting le_types le_partners le_resolved le_ofParagraph ex_levels ex_types ex_entryLevels ex_entryOverrides ex_entryIsolates ex_last ex_lostIsolates ex_lostEmbeddings ex_openIsolates (twu_se_append__se_places v4 (ex_types (Int.toNat v4)) se_places se_types se_count) (twu_se_append__se_types v4 (ex_types (Int.toNat v4)) se_places se_types se_count) se_marks (twu_se_append__se_count v4 (ex_types (Int.toNat v4)) se_places se_types se_count) se_embedding se_beginning se_end br_partners br_list fi_breaks fi_starts fi_extents fi_count fi_groups sh_levels sh_order tl_measure tl_stale)
          refine tw_iload hX twd_le_takeRun_74 rfl ?_
          refine tw_istore_n (L' := [some (.inr 6), some (.inr 1), some (.inl v2), some (.inl v4), some (.inl v4)]) hX twd_le_takeRun_76 rfl (by decide) rfl ?_
          exact h
        · have h := h.2 q21
          refine tw_wk (L' := [none, none, none, some (.inl v3), none]) (tw_le_n (tw_le_n (tw_le_n (tw_le_s (tw_le_n tw_le_0))))) ?_
          exact hX52 _ _ _ _ h
      · have h := h.2 q22
        refine tw_goto hX twd_le_takeRun_27 rfl ?_
        exact h
def tww_le_takeRun (v2 : Int) (pa_kinds : Nat → Int) (pa_size : Int) (ex_levels : Nat → Int) (ex_types : Nat → Int) (se_places : Nat → Int) (se_types : Nat → Int) (se_count : Int) (K : Int → (Nat → Int) → (Nat → Int) → Int → Prop) : Prop :=
  (∃ f32 : Nat, twl_le_takeRun_5 (fun (y24 : Int) (y25_se_places : Nat → Int) (y26_se_types : Nat → Int) (y27_se_count : Int) =>
  K y24 y25_se_places y26_se_types y27_se_count) (fun (y28 : Int) (y29_se_places : Nat → Int) (y30_se_types : Nat → Int) (y31_se_count : Int) =>
  K y28 y29_se_places y30_se_types y31_se_count) v2 pa_kinds pa_size ex_levels ex_types f32 v2 v2 se_places se_types se_count)
set_option maxRecDepth 100000 in
set_option maxHeartbeats 4000000 in
theorem twc_le_takeRun {l : Launch} {D : va_G} {ad : Nat → Nat} {cI cZ : ClassId} {Post : tw_P} {K : Int → (Nat → Int) → (Nat → Int) → Int → Prop} {v2 : Int} {pa_size pa_base le_ofParagraph ex_last ex_lostIsolates ex_lostEmbeddings ex_openIsolates se_count se_embedding se_beginning se_end fi_count tl_measure tl_stale : Int} {pa_kinds pa_groups pa_widths pa_pairs ma_others ma_waiting le_types le_partners le_resolved ex_levels ex_types ex_entryLevels ex_entryOverrides ex_entryIsolates se_places se_types se_marks br_partners br_list fi_breaks fi_starts fi_extents fi_groups sh_levels sh_order : Nat → Int} (h : tww_le_takeRun v2 pa_kinds pa_size ex_levels ex_types se_places se_types se_count K) (hK : ∀ (z : Int) (n_se_places : Nat → Int) (n_se_types : Nat → Int) (n_se_count : Int), K z n_se_places n_se_types n_se_count → Post (some z) (tw_mC pa_kinds pa_groups pa_widths pa_pairs pa_size pa_base ma_others ma_waiting le_types le_partners le_resolved le_ofParagraph ex_levels ex_types ex_entryLevels ex_entryOverrides ex_entryIsolates ex_last ex_lostIsolates ex_lostEmbeddings ex_openIsolates n_se_places n_se_types se_marks n_se_count se_embedding se_beginning se_end br_partners br_list fi_breaks fi_starts fi_extents fi_count fi_groups sh_levels sh_order tl_measure tl_stale)) : tw_ct (tw_YC l D ad cI cZ) twy_le_takeRun (Cond.code twy_le_takeRun prog_5_method_8_code 5 (some .int) :: tw_Wg) 1 [.inr 6, .inr 1, .inl v2] (tw_mC pa_kinds pa_groups pa_widths pa_pairs pa_size pa_base ma_others ma_waiting le_types le_partners le_resolved le_ofParagraph ex_levels ex_types ex_entryLevels ex_entryOverrides ex_entryIsolates ex_last ex_lostIsolates ex_lostEmbeddings ex_openIsolates se_places se_types se_marks se_count se_embedding se_beginning se_end br_partners br_list fi_breaks fi_starts fi_extents fi_count fi_groups sh_levels sh_order tl_measure tl_stale) Post := by
  refine tw_of (own := twR_le) (L0 := [some (.inr 6), some (.inr 1), some (.inl v2), none, none]) (by decide) rfl rfl (Nat.le_of_ble_eq_true rfl) (fun Z hX => ?_)
  unfold tww_le_takeRun at h
  refine tw_iload_n hX twd_le_takeRun_0 rfl rfl ?_
  refine tw_istore_n (L' := [some (.inr 6), some (.inr 1), some (.inl v2), some (.inl v2), none]) hX twd_le_takeRun_1 rfl (by decide) rfl ?_
  refine tw_iload_n hX twd_le_takeRun_2 rfl rfl ?_
  refine tw_istore (L' := [some (.inr 6), some (.inr 1), some (.inl v2), some (.inl v2), some (.inl v2)]) hX twd_le_takeRun_3 (by decide) rfl ?_
  obtain ⟨f32, h⟩ := h
  refine twt_le_takeRun_5 hX (fun y24 y25_se_places y26_se_types y27_se_count h => ?_) (fun y28 y29_se_places y30_se_types y31_se_count h => ?_) f32 _ _ _ _ _ h
  · have _tw := trivial
    refine tw_goto hX twd_le_takeRun_52 rfl ?_
    refine tw_iload_n hX twd_le_takeRun_83 rfl rfl ?_
    exact tw_ret hX twd_le_takeRun_84 (hK _ _ _ _ h)
  · have _tw := trivial
    refine tw_iload_n hX twd_le_takeRun_83 rfl rfl ?_
    exact tw_ret hX twd_le_takeRun_84 (hK _ _ _ _ h)
def twl_le_gather_13 (X67 : (Nat → Int) → (Nat → Int) → Int → Prop) (pa_kinds : Nat → Int) (pa_size : Int) (ma_others : Nat → Int) (ex_levels : Nat → Int) (ex_types : Nat → Int) : Nat → Int → Int → (Nat → Int) → (Nat → Int) → Int → Prop
  | 0, _, _, _, _, _ => False
  | f + 1, v3, v4, se_places, se_types, se_count =>
    ((64 ≤ v4 →
    X67 se_places se_types se_count) ∧
    (¬ 64 ≤ v4 →
    ((v3 = (-1) →
      X67 se_places se_types se_count) ∧
      (¬ v3 = (-1) →
      tww_le_takeRun v3 pa_kinds pa_size ex_levels ex_types se_places se_types se_count (fun z1 m_2_se_places m_3_se_types m_4_se_count =>
        (0 ≤ z1 ∧ z1 < 64) ∧ (((¬ (twr_tl_isOpener (pa_kinds (Int.toNat z1))) = 0 → ((0 ≤ z1 ∧ z1 < 64)))) ∧
        (∀ x9 : Int, x9 = (if (twr_tl_isOpener (pa_kinds (Int.toNat z1))) = 0 then (-1) else (ma_others (Int.toNat z1))) →
        (tw_rg (v4 + 1)) ∧ twl_le_gather_13 X67 pa_kinds pa_size ma_others ex_levels ex_types f x9 (v4 + 1) m_2_se_places m_3_se_types m_4_se_count)))))))
set_option maxRecDepth 100000 in
set_option maxHeartbeats 4000000 in
theorem twt_le_gather_13 {l : Launch} {D : va_G} {ad : Nat → Nat} {cI cZ : ClassId} {Z : tw_Z} {Post : tw_P} {X67 : (Nat → Int) → (Nat → Int) → Int → Prop} {pa_size pa_base le_ofParagraph ex_last ex_lostIsolates ex_lostEmbeddings ex_openIsolates se_embedding se_beginning se_end fi_count tl_measure tl_stale : Int} {pa_kinds pa_groups pa_widths pa_pairs ma_others ma_waiting le_types le_partners le_resolved ex_levels ex_types ex_entryLevels ex_entryOverrides ex_entryIsolates se_marks br_partners br_list fi_breaks fi_starts fi_extents fi_groups sh_levels sh_order : Nat → Int} (hX : tw_cx (tw_YC l D ad cI cZ) Z prog_5_method_7_code twR_le tw_Wg none 2 6) (hX67 : ∀ (se_places : Nat → Int) (se_types : Nat → Int) (se_count : Int), X67 se_places se_types se_count → tw_rn (tw_YC l D ad cI cZ) Z Post 67 [none, none, none, none, none, none] [] (tw_mC pa_kinds pa_groups pa_widths pa_pairs pa_size pa_base ma_others ma_waiting le_types le_partners le_resolved le_ofParagraph ex_levels ex_types ex_entryLevels ex_entryOverrides ex_entryIsolates ex_last ex_lostIsolates ex_lostEmbeddings ex_openIsolates se_places se_types se_marks se_count se_embedding se_beginning se_end br_partners br_list fi_breaks fi_starts fi_extents fi_count fi_groups sh_levels sh_order tl_measure tl_stale)) : ∀ (f : Nat) (v3 : Int) (v4 : Int) (se_places : Nat → Int) (se_types : Nat → Int) (se_count : Int), twl_le_gather_13 X67 pa_kinds pa_size ma_others ex_levels ex_types f v3 v4 se_places se_types se_count → tw_rn (tw_YC l D ad cI cZ) Z Post 13 [some (.inr 6), some (.inr 1), none, some (.inl v3), some (.inl v4), none] [] (tw_mC pa_kinds pa_groups pa_widths pa_pairs pa_size pa_base ma_others ma_waiting le_types le_partners le_resolved le_ofParagraph ex_levels ex_types ex_entryLevels ex_entryOverrides ex_entryIsolates ex_last ex_lostIsolates ex_lostEmbeddings ex_openIsolates se_places se_types se_marks se_count se_embedding se_beginning se_end br_partners br_list fi_breaks fi_starts fi_extents fi_count fi_groups sh_levels sh_order tl_measure tl_stale) := by
  intro f
  induction f with
  | zero => intro v3 v4 se_places se_types se_count h; rw [twl_le_gather_13] at h; exact h.elim
  | succ f ih =>
    intro v3 v4 se_places se_types se_count h
    rw [twl_le_gather_13] at h
    refine tw_iload hX twd_le_gather_13 rfl ?_
    refine tw_bipush hX twd_le_gather_15 (by decide +kernel) ⟨by decide, by decide⟩ ?_
    refine tw_icmp_ge hX twd_le_gather_17 rfl (fun q16 => ?_) (fun q16 => ?_)
    · have h := h.1 q16
      refine tw_wk (L' := [none, none, none, none, none, none]) (tw_le_n (tw_le_n (tw_le_n (tw_le_n (tw_le_n (tw_le_n tw_le_0)))))) ?_
      exact hX67 _ _ _ h
    · have h := h.2 q16
      refine tw_iload_n hX twd_le_gather_20 rfl rfl ?_
      refine tw_iconst hX twd_le_gather_21 ⟨by decide, by decide⟩ ?_
      refine tw_icmp_eq hX twd_le_gather_22 rfl (fun q15 => ?_) (fun q15 => ?_)
      · have h := h.1 q15
        refine tw_wk (L' := [none, none, none, none, none, none]) (tw_le_n (tw_le_n (tw_le_n (tw_le_n (tw_le_n (tw_le_n tw_le_0)))))) ?_
        exact hX67 _ _ _ h
      · have h := h.2 q15
        refine tw_aload_n hX twd_le_gather_25 rfl rfl ?_
        refine tw_aload_n hX twd_le_gather_26 rfl rfl ?_
        refine tw_iload_n hX twd_le_gather_27 rfl rfl ?_
        refine tw_callV (As := [.inr 1, .inl v3]) (n := 2) hX twd_le_gather_28 tw_good tww_474 tww_471 tww_473 tww_14 tww_79 twk_le_takeRun rfl rfl ⟨by decide, by decide⟩ rfl (Nat.le_of_ble_eq_true rfl) (twc_le_takeRun h (fun z1 m_2_se_places m_3_se_types m_4_se_count h => ?_))
        change tw_rn (tw_YC l D ad cI cZ) Z Post 31 [some (.inr 6), some (.inr 1), none, some (.inl v3), some (.inl v4), none] [.inl z1] (tw_mC pa_kinds pa_groups pa_widths pa_pairs pa_size pa_base ma_others ma_waiting le_types le_partners le_resolved le_ofParagraph ex_levels ex_types ex_entryLevels ex_entryOverrides ex_entryIsolates ex_last ex_lostIsolates ex_lostEmbeddings ex_openIsolates m_2_se_places m_3_se_types se_marks m_4_se_count se_embedding se_beginning se_end br_partners br_list fi_breaks fi_starts fi_extents fi_count fi_groups sh_levels sh_order tl_measure tl_stale)
        refine tw_istore (L' := [some (.inr 6), some (.inr 1), none, some (.inl v3), some (.inl v4), some (.inl z1)]) hX twd_le_gather_31 (by decide) rfl ?_
        refine tw_aload_n hX twd_le_gather_33 rfl rfl ?_
        refine tw_get (kf := 0) hX twd_le_gather_34 twin_pa rfl (by decide) tww_106 rfl rfl rfl ?_
        refine tw_iload hX twd_le_gather_37 rfl ?_
        obtain ⟨c5, h⟩ := h
        refine tw_iaload hX twd_le_gather_39 rfl c5 ?_
        refine tw_callSN (As := [.inl (pa_kinds (Int.toNat z1))]) (n := 1) hX twd_le_gather_40 tw_good tww_394 twn_5 tww_393 tww_77 twk_tl_isOpener ⟨by decide, by decide⟩ rfl (Nat.le_of_ble_eq_true rfl) (twc_tl_isOpener (fun z6 e7 => ?_))
        subst e7
        change tw_rn (tw_YC l D ad cI cZ) Z Post 43 [some (.inr 6), some (.inr 1), none, some (.inl v3), some (.inl v4), some (.inl z1)] [.inl (twr_tl_isOpener (pa_kinds (Int.toNat z1)))] (tw_mC pa_kinds pa_groups pa_widths pa_pairs pa_size pa_base ma_others ma_waiting le_types le_partners le_resolved le_ofParagraph ex_levels ex_types ex_entryLevels ex_entryOverrides ex_entryIsolates ex_last ex_lostIsolates ex_lostEmbeddings ex_openIsolates m_2_se_places m_3_se_types se_marks m_4_se_count se_embedding se_beginning se_end br_partners br_list fi_breaks fi_starts fi_extents fi_count fi_groups sh_levels sh_order tl_measure tl_stale)
        obtain ⟨o11, h⟩ := h
        have j12 : ∀ x9 : Int, x9 = (if (twr_tl_isOpener (pa_kinds (Int.toNat z1))) = 0 then (-1) else (ma_others (Int.toNat z1))) → tw_rn (tw_YC l D ad cI cZ) Z Post 60 [some (.inr 6), some (.inr 1), none, none, some (.inl v4), none] [.inl x9] (tw_mC pa_kinds pa_groups pa_widths pa_pairs pa_size pa_base ma_others ma_waiting le_types le_partners le_resolved le_ofParagraph ex_levels ex_types ex_entryLevels ex_entryOverrides ex_entryIsolates ex_last ex_lostIsolates ex_lostEmbeddings ex_openIsolates m_2_se_places m_3_se_types se_marks m_4_se_count se_embedding se_beginning se_end br_partners br_list fi_breaks fi_starts fi_extents fi_count fi_groups sh_levels sh_order tl_measure tl_stale) := by
          intro x9 e13
          have h := h x9 e13
          refine tw_istore_n (L' := [some (.inr 6), some (.inr 1), none, some (.inl x9), some (.inl v4), none]) hX twd_le_gather_60 rfl (by decide) rfl ?_
          obtain ⟨c10, h⟩ := h
          refine tw_iinc (L' := [some (.inr 6), some (.inr 1), none, some (.inl x9), some (.inl (v4 + 1)), none]) hX twd_le_gather_61 rfl (by decide) c10 rfl ?_
          refine tw_goto hX twd_le_gather_64 rfl ?_
          exact ih _ _ _ _ _ h
        refine tw_if_eq hX twd_le_gather_43 rfl (fun q14 => ?_) (fun q14 => ?_)
        · have _tw := trivial
          refine tw_iconst hX twd_le_gather_59 ⟨by decide, by decide⟩ ?_
          refine tw_wk (L' := [some (.inr 6), some (.inr 1), none, none, some (.inl v4), none]) (tw_le_s (tw_le_s (tw_le_n (tw_le_n (tw_le_s (tw_le_n tw_le_0)))))) ?_
          exact j12 _ (Eq.symm (if_pos q14))
        · have _tw := trivial
          have o11 := o11 q14
          refine tw_aload_n hX twd_le_gather_46 rfl rfl ?_
          refine tw_get (kf := 0) hX twd_le_gather_47 twin_le rfl (by decide) tww_251 rfl rfl rfl ?_
          refine tw_get (kf := 0) hX twd_le_gather_50 twin_ma rfl (by decide) tww_151 rfl rfl rfl ?_
          refine tw_iload hX twd_le_gather_53 rfl ?_
          have c8 := o11
          refine tw_iaload hX twd_le_gather_55 rfl c8 ?_
          refine tw_goto hX twd_le_gather_56 rfl ?_
          refine tw_wk (L' := [some (.inr 6), some (.inr 1), none, none, some (.inl v4), none]) (tw_le_s (tw_le_s (tw_le_n (tw_le_n (tw_le_s (tw_le_n tw_le_0)))))) ?_
          exact j12 _ (Eq.symm (if_neg q14))
def tww_le_gather (v2 : Int) (pa_kinds : Nat → Int) (pa_size : Int) (ma_others : Nat → Int) (ex_levels : Nat → Int) (ex_types : Nat → Int) (se_places : Nat → Int) (se_types : Nat → Int) (se_count : Int) (K : (Nat → Int) → (Nat → Int) → Int → Prop) : Prop :=
  (∃ f20 : Nat, twl_le_gather_13 (fun (y17_se_places : Nat → Int) (y18_se_types : Nat → Int) (y19_se_count : Int) =>
  K y17_se_places y18_se_types y19_se_count) pa_kinds pa_size ma_others ex_levels ex_types f20 v2 0 se_places se_types 0)
set_option maxRecDepth 100000 in
set_option maxHeartbeats 4000000 in
theorem twc_le_gather {l : Launch} {D : va_G} {ad : Nat → Nat} {cI cZ : ClassId} {Post : tw_P} {K : (Nat → Int) → (Nat → Int) → Int → Prop} {v2 : Int} {pa_size pa_base le_ofParagraph ex_last ex_lostIsolates ex_lostEmbeddings ex_openIsolates se_count se_embedding se_beginning se_end fi_count tl_measure tl_stale : Int} {pa_kinds pa_groups pa_widths pa_pairs ma_others ma_waiting le_types le_partners le_resolved ex_levels ex_types ex_entryLevels ex_entryOverrides ex_entryIsolates se_places se_types se_marks br_partners br_list fi_breaks fi_starts fi_extents fi_groups sh_levels sh_order : Nat → Int} (h : tww_le_gather v2 pa_kinds pa_size ma_others ex_levels ex_types se_places se_types se_count K) (hK : ∀ (n_se_places : Nat → Int) (n_se_types : Nat → Int) (n_se_count : Int), K n_se_places n_se_types n_se_count → Post none (tw_mC pa_kinds pa_groups pa_widths pa_pairs pa_size pa_base ma_others ma_waiting le_types le_partners le_resolved le_ofParagraph ex_levels ex_types ex_entryLevels ex_entryOverrides ex_entryIsolates ex_last ex_lostIsolates ex_lostEmbeddings ex_openIsolates n_se_places n_se_types se_marks n_se_count se_embedding se_beginning se_end br_partners br_list fi_breaks fi_starts fi_extents fi_count fi_groups sh_levels sh_order tl_measure tl_stale)) : tw_ct (tw_YC l D ad cI cZ) twy_le_gather (Cond.code twy_le_gather prog_5_method_7_code 6 none :: tw_Wg) 2 [.inr 6, .inr 1, .inl v2] (tw_mC pa_kinds pa_groups pa_widths pa_pairs pa_size pa_base ma_others ma_waiting le_types le_partners le_resolved le_ofParagraph ex_levels ex_types ex_entryLevels ex_entryOverrides ex_entryIsolates ex_last ex_lostIsolates ex_lostEmbeddings ex_openIsolates se_places se_types se_marks se_count se_embedding se_beginning se_end br_partners br_list fi_breaks fi_starts fi_extents fi_count fi_groups sh_levels sh_order tl_measure tl_stale) Post := by
  refine tw_of (own := twR_le) (L0 := [some (.inr 6), some (.inr 1), some (.inl v2), none, none, none]) (by decide) rfl rfl (Nat.le_of_ble_eq_true rfl) (fun Z hX => ?_)
  unfold tww_le_gather at h
  refine tw_aload_n hX twd_le_gather_0 rfl rfl ?_
  refine tw_get (kf := 6) hX twd_le_gather_1 twin_le rfl (by decide) tww_264 rfl rfl rfl ?_
  refine tw_iconst hX twd_le_gather_4 ⟨by decide, by decide⟩ ?_
  refine tw_put (kf := 3) (mem' := (tw_mC pa_kinds pa_groups pa_widths pa_pairs pa_size pa_base ma_others ma_waiting le_types le_partners le_resolved le_ofParagraph ex_levels ex_types ex_entryLevels ex_entryOverrides ex_entryIsolates ex_last ex_lostIsolates ex_lostEmbeddings ex_openIsolates se_places se_types se_marks 0 se_embedding se_beginning se_end br_partners br_list fi_breaks fi_starts fi_extents fi_count fi_groups sh_levels sh_order tl_measure tl_stale)) twt_se hX twd_le_gather_5 twin_se twtok_se twnm_se rfl (by decide) tww_213 rfl rfl rfl (Or.inl rfl) rfl (Nat.le_of_ble_eq_true rfl) rfl ?_
  refine tw_iload_n hX twd_le_gather_8 rfl rfl ?_
  refine tw_istore_n (L' := [some (.inr 6), some (.inr 1), some (.inl v2), some (.inl v2), none, none]) hX twd_le_gather_9 rfl (by decide) rfl ?_
  refine tw_iconst hX twd_le_gather_10 ⟨by decide, by decide⟩ ?_
  refine tw_istore (L' := [some (.inr 6), some (.inr 1), some (.inl v2), some (.inl v2), some (.inl 0), none]) hX twd_le_gather_11 (by decide) rfl ?_
  obtain ⟨f20, h⟩ := h
  refine tw_wk (L' := [some (.inr 6), some (.inr 1), none, some (.inl v2), some (.inl 0), none]) (tw_le_s (tw_le_s (tw_le_n (tw_le_s (tw_le_s (tw_le_n tw_le_0)))))) ?_
  refine twt_le_gather_13 hX (fun y17_se_places y18_se_types y19_se_count h => ?_) f20 _ _ _ _ _ h
  exact tw_vret hX twd_le_gather_67 (hK _ _ _ h)
def twl_le_visibleBehind_4 (K : Int → Prop) (X32 : Prop) (pa_kinds : Nat → Int) (pa_size : Int) : Nat → Int → Prop
  | 0, _ => False
  | f + 1, v3 =>
    ((pa_size ≤ v3 →
    X32) ∧
    (¬ pa_size ≤ v3 →
    (0 ≤ v3 ∧ v3 < 64) ∧ (((twr_tl_isHidden (pa_kinds (Int.toNat v3))) = 0 →
      K v3) ∧
      (¬ (twr_tl_isHidden (pa_kinds (Int.toNat v3))) = 0 →
      (tw_rg (v3 + 1)) ∧ twl_le_visibleBehind_4 K X32 pa_kinds pa_size f (v3 + 1)))))
set_option maxRecDepth 100000 in
set_option maxHeartbeats 4000000 in
theorem twt_le_visibleBehind_4 {l : Launch} {D : va_G} {ad : Nat → Nat} {cI cZ : ClassId} {Z : tw_Z} {Post : tw_P} {K : Int → Prop} {X32 : Prop} {pa_size pa_base le_ofParagraph ex_last ex_lostIsolates ex_lostEmbeddings ex_openIsolates se_count se_embedding se_beginning se_end fi_count tl_measure tl_stale : Int} {pa_kinds pa_groups pa_widths pa_pairs ma_others ma_waiting le_types le_partners le_resolved ex_levels ex_types ex_entryLevels ex_entryOverrides ex_entryIsolates se_places se_types se_marks br_partners br_list fi_breaks fi_starts fi_extents fi_groups sh_levels sh_order : Nat → Int} (hX : tw_cx (tw_YC l D ad cI cZ) Z prog_5_method_6_code twR_le tw_Wg (some .int) 1 4) (hX32 : X32 → tw_rn (tw_YC l D ad cI cZ) Z Post 32 [none, none, none, none] [] (tw_mC pa_kinds pa_groups pa_widths pa_pairs pa_size pa_base ma_others ma_waiting le_types le_partners le_resolved le_ofParagraph ex_levels ex_types ex_entryLevels ex_entryOverrides ex_entryIsolates ex_last ex_lostIsolates ex_lostEmbeddings ex_openIsolates se_places se_types se_marks se_count se_embedding se_beginning se_end br_partners br_list fi_breaks fi_starts fi_extents fi_count fi_groups sh_levels sh_order tl_measure tl_stale)) (hK : ∀ (z : Int), K z → Post (some z) (tw_mC pa_kinds pa_groups pa_widths pa_pairs pa_size pa_base ma_others ma_waiting le_types le_partners le_resolved le_ofParagraph ex_levels ex_types ex_entryLevels ex_entryOverrides ex_entryIsolates ex_last ex_lostIsolates ex_lostEmbeddings ex_openIsolates se_places se_types se_marks se_count se_embedding se_beginning se_end br_partners br_list fi_breaks fi_starts fi_extents fi_count fi_groups sh_levels sh_order tl_measure tl_stale)) : ∀ (f : Nat) (v3 : Int), twl_le_visibleBehind_4 K X32 pa_kinds pa_size f v3 → tw_rn (tw_YC l D ad cI cZ) Z Post 4 [none, some (.inr 1), none, some (.inl v3)] [] (tw_mC pa_kinds pa_groups pa_widths pa_pairs pa_size pa_base ma_others ma_waiting le_types le_partners le_resolved le_ofParagraph ex_levels ex_types ex_entryLevels ex_entryOverrides ex_entryIsolates ex_last ex_lostIsolates ex_lostEmbeddings ex_openIsolates se_places se_types se_marks se_count se_embedding se_beginning se_end br_partners br_list fi_breaks fi_starts fi_extents fi_count fi_groups sh_levels sh_order tl_measure tl_stale) := by
  intro f
  induction f with
  | zero => intro v3 h; rw [twl_le_visibleBehind_4] at h; exact h.elim
  | succ f ih =>
    intro v3 h
    rw [twl_le_visibleBehind_4] at h
    refine tw_iload_n hX twd_le_visibleBehind_4 rfl rfl ?_
    refine tw_aload_n hX twd_le_visibleBehind_5 rfl rfl ?_
    refine tw_get (kf := 4) hX twd_le_visibleBehind_6 twin_pa rfl (by decide) tww_118 rfl rfl rfl ?_
    refine tw_icmp_ge hX twd_le_visibleBehind_9 rfl (fun q7 => ?_) (fun q7 => ?_)
    · have h := h.1 q7
      refine tw_wk (L' := [none, none, none, none]) (tw_le_n (tw_le_n (tw_le_n (tw_le_n tw_le_0)))) ?_
      exact hX32 h
    · have h := h.2 q7
      refine tw_aload_n hX twd_le_visibleBehind_12 rfl rfl ?_
      refine tw_get (kf := 0) hX twd_le_visibleBehind_13 twin_pa rfl (by decide) tww_106 rfl rfl rfl ?_
      refine tw_iload_n hX twd_le_visibleBehind_16 rfl rfl ?_
      obtain ⟨c2, h⟩ := h
      refine tw_iaload hX twd_le_visibleBehind_17 rfl c2 ?_
      refine tw_callSN (As := [.inl (pa_kinds (Int.toNat v3))]) (n := 1) hX twd_le_visibleBehind_18 tw_good tww_417 twn_4 tww_416 tww_77 twk_tl_isHidden ⟨by decide, by decide⟩ rfl (Nat.le_of_ble_eq_true rfl) (twc_tl_isHidden (fun z3 e4 => ?_))
      subst e4
      change tw_rn (tw_YC l D ad cI cZ) Z Post 21 [none, some (.inr 1), none, some (.inl v3)] [.inl (twr_tl_isHidden (pa_kinds (Int.toNat v3)))] (tw_mC pa_kinds pa_groups pa_widths pa_pairs pa_size pa_base ma_others ma_waiting le_types le_partners le_resolved le_ofParagraph ex_levels ex_types ex_entryLevels ex_entryOverrides ex_entryIsolates ex_last ex_lostIsolates ex_lostEmbeddings ex_openIsolates se_places se_types se_marks se_count se_embedding se_beginning se_end br_partners br_list fi_breaks fi_starts fi_extents fi_count fi_groups sh_levels sh_order tl_measure tl_stale)
      refine tw_if_ne hX twd_le_visibleBehind_21 rfl (fun q6 => ?_) (fun q6 => ?_)
      · have h := h.2 q6
        obtain ⟨c5, h⟩ := h
        refine tw_iinc (L' := [none, some (.inr 1), none, some (.inl (v3 + 1))]) hX twd_le_visibleBehind_26 rfl (by decide) c5 rfl ?_
        refine tw_goto hX twd_le_visibleBehind_29 rfl ?_
        exact ih _ h
      · have h := h.1 q6
        refine tw_iload_n hX twd_le_visibleBehind_24 rfl rfl ?_
        exact tw_ret hX twd_le_visibleBehind_25 (hK _ h)
def tww_le_visibleBehind (v2 : Int) (pa_kinds : Nat → Int) (pa_size : Int) (K : Int → Prop) : Prop :=
  (tw_rg (v2 + 1)) ∧ (∃ f8 : Nat, twl_le_visibleBehind_4 K (K (-1)) pa_kinds pa_size f8 (v2 + 1))
set_option maxRecDepth 100000 in
set_option maxHeartbeats 4000000 in
theorem twc_le_visibleBehind {l : Launch} {D : va_G} {ad : Nat → Nat} {cI cZ : ClassId} {Post : tw_P} {K : Int → Prop} {v2 : Int} {pa_size pa_base le_ofParagraph ex_last ex_lostIsolates ex_lostEmbeddings ex_openIsolates se_count se_embedding se_beginning se_end fi_count tl_measure tl_stale : Int} {pa_kinds pa_groups pa_widths pa_pairs ma_others ma_waiting le_types le_partners le_resolved ex_levels ex_types ex_entryLevels ex_entryOverrides ex_entryIsolates se_places se_types se_marks br_partners br_list fi_breaks fi_starts fi_extents fi_groups sh_levels sh_order : Nat → Int} (h : tww_le_visibleBehind v2 pa_kinds pa_size K) (hK : ∀ (z : Int), K z → Post (some z) (tw_mC pa_kinds pa_groups pa_widths pa_pairs pa_size pa_base ma_others ma_waiting le_types le_partners le_resolved le_ofParagraph ex_levels ex_types ex_entryLevels ex_entryOverrides ex_entryIsolates ex_last ex_lostIsolates ex_lostEmbeddings ex_openIsolates se_places se_types se_marks se_count se_embedding se_beginning se_end br_partners br_list fi_breaks fi_starts fi_extents fi_count fi_groups sh_levels sh_order tl_measure tl_stale)) : tw_ct (tw_YC l D ad cI cZ) twy_le_visibleBehind (Cond.code twy_le_visibleBehind prog_5_method_6_code 4 (some .int) :: tw_Wg) 1 [.inr 6, .inr 1, .inl v2] (tw_mC pa_kinds pa_groups pa_widths pa_pairs pa_size pa_base ma_others ma_waiting le_types le_partners le_resolved le_ofParagraph ex_levels ex_types ex_entryLevels ex_entryOverrides ex_entryIsolates ex_last ex_lostIsolates ex_lostEmbeddings ex_openIsolates se_places se_types se_marks se_count se_embedding se_beginning se_end br_partners br_list fi_breaks fi_starts fi_extents fi_count fi_groups sh_levels sh_order tl_measure tl_stale) Post := by
  refine tw_of (own := twR_le) (L0 := [some (.inr 6), some (.inr 1), some (.inl v2), none]) (by decide) rfl rfl (Nat.le_of_ble_eq_true rfl) (fun Z hX => ?_)
  unfold tww_le_visibleBehind at h
  refine tw_iload_n hX twd_le_visibleBehind_0 rfl rfl ?_
  refine tw_iconst hX twd_le_visibleBehind_1 ⟨by decide, by decide⟩ ?_
  obtain ⟨c1, h⟩ := h
  refine tw_iadd hX twd_le_visibleBehind_2 c1 ?_
  refine tw_istore_n (L' := [some (.inr 6), some (.inr 1), some (.inl v2), some (.inl (v2 + 1))]) hX twd_le_visibleBehind_3 rfl (by decide) rfl ?_
  obtain ⟨f8, h⟩ := h
  refine tw_wk (L' := [none, some (.inr 1), none, some (.inl (v2 + 1))]) (tw_le_n (tw_le_s (tw_le_n (tw_le_s tw_le_0)))) ?_
  refine twt_le_visibleBehind_4 hX (fun  h => ?_) hK f8 _ h
  refine tw_iconst hX twd_le_visibleBehind_32 ⟨by decide, by decide⟩ ?_
  exact tw_ret hX twd_le_visibleBehind_33 (hK _ h)
def two_tl_sideOf (v0 : Int) : Prop := ((two_tl_isOdd v0))
def twr_tl_sideOf (v0 : Int) : Int := if (twr_tl_isOdd v0) = 0 then 0 else 1
set_option maxRecDepth 100000 in
set_option maxHeartbeats 4000000 in
theorem twc_tl_sideOf {l : Launch} {D : va_G} {ad : Nat → Nat} {cI cZ : ClassId} {Post : tw_P} {v0 : Int} {pa_size pa_base le_ofParagraph ex_last ex_lostIsolates ex_lostEmbeddings ex_openIsolates se_count se_embedding se_beginning se_end fi_count tl_measure tl_stale : Int} {pa_kinds pa_groups pa_widths pa_pairs ma_others ma_waiting le_types le_partners le_resolved ex_levels ex_types ex_entryLevels ex_entryOverrides ex_entryIsolates se_places se_types se_marks br_partners br_list fi_breaks fi_starts fi_extents fi_groups sh_levels sh_order : Nat → Int} (h : two_tl_sideOf v0) (hK : ∀ (z : Int), z = twr_tl_sideOf v0 → Post (some z) (tw_mC pa_kinds pa_groups pa_widths pa_pairs pa_size pa_base ma_others ma_waiting le_types le_partners le_resolved le_ofParagraph ex_levels ex_types ex_entryLevels ex_entryOverrides ex_entryIsolates ex_last ex_lostIsolates ex_lostEmbeddings ex_openIsolates se_places se_types se_marks se_count se_embedding se_beginning se_end br_partners br_list fi_breaks fi_starts fi_extents fi_count fi_groups sh_levels sh_order tl_measure tl_stale)) : tw_ct (tw_YC l D ad cI cZ) twy_tl_sideOf (Cond.code twy_tl_sideOf prog_1_method_26_code 1 (some .int) :: tw_Wg) 1 [.inl v0] (tw_mC pa_kinds pa_groups pa_widths pa_pairs pa_size pa_base ma_others ma_waiting le_types le_partners le_resolved le_ofParagraph ex_levels ex_types ex_entryLevels ex_entryOverrides ex_entryIsolates ex_last ex_lostIsolates ex_lostEmbeddings ex_openIsolates se_places se_types se_marks se_count se_embedding se_beginning se_end br_partners br_list fi_breaks fi_starts fi_extents fi_count fi_groups sh_levels sh_order tl_measure tl_stale) Post := by
  refine tw_of (own := twR_tl) (L0 := [some (.inl v0)]) (by decide) rfl rfl (Nat.le_of_ble_eq_true rfl) (fun Z hX => ?_)
  unfold two_tl_sideOf at h
  refine tw_iload_n hX twd_tl_sideOf_0 rfl rfl ?_
  have c1 := h
  refine tw_callS (As := [.inl v0]) (n := 1) hX twd_tl_sideOf_1 tw_good tww_428 tww_491 tww_427 tww_77 twk_tl_isOdd ⟨by decide, by decide⟩ rfl (Nat.le_of_ble_eq_true rfl) (twc_tl_isOdd c1 (fun z2 e3 => ?_))
  subst e3
  change tw_rn (tw_YC l D ad cI cZ) Z Post 4 [some (.inl v0)] [.inl (twr_tl_isOdd v0)] (tw_mC pa_kinds pa_groups pa_widths pa_pairs pa_size pa_base ma_others ma_waiting le_types le_partners le_resolved le_ofParagraph ex_levels ex_types ex_entryLevels ex_entryOverrides ex_entryIsolates ex_last ex_lostIsolates ex_lostEmbeddings ex_openIsolates se_places se_types se_marks se_count se_embedding se_beginning se_end br_partners br_list fi_breaks fi_starts fi_extents fi_count fi_groups sh_levels sh_order tl_measure tl_stale)
  refine tw_if_eq hX twd_tl_sideOf_4 rfl (fun q4 => ?_) (fun q4 => ?_)
  · have _tw := trivial
    refine tw_iconst hX twd_tl_sideOf_11 ⟨by decide, by decide⟩ ?_
    exact tw_ret hX twd_tl_sideOf_12 (hK _ (Eq.symm (if_pos q4)))
  · have _tw := trivial
    refine tw_iconst hX twd_tl_sideOf_7 ⟨by decide, by decide⟩ ?_
    refine tw_goto hX twd_tl_sideOf_8 rfl ?_
    exact tw_ret hX twd_tl_sideOf_12 (hK _ (Eq.symm (if_neg q4)))
def two_le_levelBeside (v1 : Int) (le_ofParagraph : Int) (ex_levels : Nat → Int) : Prop := ((¬ v1 = (-1) → ((0 ≤ v1 ∧ v1 < 64))))
def twr_le_levelBeside (v1 : Int) (le_ofParagraph : Int) (ex_levels : Nat → Int) : Int := if v1 = (-1) then le_ofParagraph else (ex_levels (Int.toNat v1))
set_option maxRecDepth 100000 in
set_option maxHeartbeats 4000000 in
theorem twc_le_levelBeside {l : Launch} {D : va_G} {ad : Nat → Nat} {cI cZ : ClassId} {Post : tw_P} {v1 : Int} {pa_size pa_base le_ofParagraph ex_last ex_lostIsolates ex_lostEmbeddings ex_openIsolates se_count se_embedding se_beginning se_end fi_count tl_measure tl_stale : Int} {pa_kinds pa_groups pa_widths pa_pairs ma_others ma_waiting le_types le_partners le_resolved ex_levels ex_types ex_entryLevels ex_entryOverrides ex_entryIsolates se_places se_types se_marks br_partners br_list fi_breaks fi_starts fi_extents fi_groups sh_levels sh_order : Nat → Int} (h : two_le_levelBeside v1 le_ofParagraph ex_levels) (hK : ∀ (z : Int), z = twr_le_levelBeside v1 le_ofParagraph ex_levels → Post (some z) (tw_mC pa_kinds pa_groups pa_widths pa_pairs pa_size pa_base ma_others ma_waiting le_types le_partners le_resolved le_ofParagraph ex_levels ex_types ex_entryLevels ex_entryOverrides ex_entryIsolates ex_last ex_lostIsolates ex_lostEmbeddings ex_openIsolates se_places se_types se_marks se_count se_embedding se_beginning se_end br_partners br_list fi_breaks fi_starts fi_extents fi_count fi_groups sh_levels sh_order tl_measure tl_stale)) : tw_ct (tw_YC l D ad cI cZ) twy_le_levelBeside (Cond.code twy_le_levelBeside prog_5_method_10_code 2 (some .int) :: tw_Wg) 0 [.inr 6, .inl v1] (tw_mC pa_kinds pa_groups pa_widths pa_pairs pa_size pa_base ma_others ma_waiting le_types le_partners le_resolved le_ofParagraph ex_levels ex_types ex_entryLevels ex_entryOverrides ex_entryIsolates ex_last ex_lostIsolates ex_lostEmbeddings ex_openIsolates se_places se_types se_marks se_count se_embedding se_beginning se_end br_partners br_list fi_breaks fi_starts fi_extents fi_count fi_groups sh_levels sh_order tl_measure tl_stale) Post := by
  refine tw_of (own := twR_le) (L0 := [some (.inr 6), some (.inl v1)]) (by decide) rfl rfl (Nat.le_of_ble_eq_true rfl) (fun Z hX => ?_)
  unfold two_le_levelBeside at h
  refine tw_iload_n hX twd_le_levelBeside_0 rfl rfl ?_
  refine tw_iconst hX twd_le_levelBeside_1 ⟨by decide, by decide⟩ ?_
  refine tw_icmp_ne hX twd_le_levelBeside_2 rfl (fun q2 => ?_) (fun q2 => ?_)
  · have _tw := trivial
    have h := h q2
    refine tw_aload_n hX twd_le_levelBeside_12 rfl rfl ?_
    refine tw_get (kf := 5) hX twd_le_levelBeside_13 twin_le rfl (by decide) tww_263 rfl rfl rfl ?_
    refine tw_get (kf := 0) hX twd_le_levelBeside_16 twin_ex rfl (by decide) tww_167 rfl rfl rfl ?_
    refine tw_iload_n hX twd_le_levelBeside_19 rfl rfl ?_
    have c1 := h
    refine tw_iaload hX twd_le_levelBeside_20 rfl c1 ?_
    exact tw_ret hX twd_le_levelBeside_21 (hK _ (Eq.symm (if_neg q2)))
  · have _tw := trivial
    refine tw_aload_n hX twd_le_levelBeside_5 rfl rfl ?_
    refine tw_get (kf := 4) hX twd_le_levelBeside_6 twin_le rfl (by decide) tww_260 rfl rfl rfl ?_
    refine tw_goto hX twd_le_levelBeside_9 rfl ?_
    exact tw_ret hX twd_le_levelBeside_21 (hK _ (Eq.symm (if_pos q2)))
def tww_le_setSides (pa_kinds : Nat → Int) (pa_size : Int) (le_ofParagraph : Int) (ex_levels : Nat → Int) (se_places : Nat → Int) (se_count : Int) (se_embedding : Int) (se_beginning : Int) (se_end : Int) (K : Int → Int → Int → Prop) : Prop :=
  (tw_rg (se_count - 1)) ∧ (0 ≤ (se_count - 1) ∧ (se_count - 1) < 64) ∧ (0 ≤ (se_places (Int.toNat 0)) ∧ (se_places (Int.toNat 0)) < 64) ∧ tww_le_visibleBefore (se_places (Int.toNat 0)) pa_kinds (fun z4 =>
  (0 ≤ (se_places (Int.toNat (se_count - 1))) ∧ (se_places (Int.toNat (se_count - 1))) < 64) ∧ (∀ J11 : Int → Int → Int → Prop, (∀ (x8 : Int) (x9 : Int) (x10 : Int), ((two_tl_sideOf x8) ∧ (two_le_levelBeside x9 le_ofParagraph ex_levels) ∧ (two_tl_sideOf (if x8 < twr_le_levelBeside x9 le_ofParagraph ex_levels then twr_le_levelBeside x9 le_ofParagraph ex_levels else x8)) ∧ (two_le_levelBeside x10 le_ofParagraph ex_levels) ∧ (two_tl_sideOf (if x8 < twr_le_levelBeside x10 le_ofParagraph ex_levels then twr_le_levelBeside x10 le_ofParagraph ex_levels else x8)) ∧ K (twr_tl_sideOf x8) (twr_tl_sideOf (if x8 < twr_le_levelBeside x9 le_ofParagraph ex_levels then twr_le_levelBeside x9 le_ofParagraph ex_levels else x8)) (twr_tl_sideOf (if x8 < twr_le_levelBeside x10 le_ofParagraph ex_levels then twr_le_levelBeside x10 le_ofParagraph ex_levels else x8))) → J11 x8 x9 x10) →
  (((twr_tl_isOpener (pa_kinds (Int.toNat (se_places (Int.toNat (se_count - 1)))))) = 0 →
  tww_le_visibleBehind (se_places (Int.toNat (se_count - 1))) pa_kinds pa_size (fun z27 =>
    J11 (ex_levels (Int.toNat (se_places (Int.toNat 0)))) z4 z27)) ∧
  (¬ (twr_tl_isOpener (pa_kinds (Int.toNat (se_places (Int.toNat (se_count - 1)))))) = 0 →
  J11 (ex_levels (Int.toNat (se_places (Int.toNat 0)))) z4 (-1)))))
set_option maxRecDepth 100000 in
set_option maxHeartbeats 4000000 in
theorem twc_le_setSides {l : Launch} {D : va_G} {ad : Nat → Nat} {cI cZ : ClassId} {Post : tw_P} {K : Int → Int → Int → Prop} {pa_size pa_base le_ofParagraph ex_last ex_lostIsolates ex_lostEmbeddings ex_openIsolates se_count se_embedding se_beginning se_end fi_count tl_measure tl_stale : Int} {pa_kinds pa_groups pa_widths pa_pairs ma_others ma_waiting le_types le_partners le_resolved ex_levels ex_types ex_entryLevels ex_entryOverrides ex_entryIsolates se_places se_types se_marks br_partners br_list fi_breaks fi_starts fi_extents fi_groups sh_levels sh_order : Nat → Int} (h : tww_le_setSides pa_kinds pa_size le_ofParagraph ex_levels se_places se_count se_embedding se_beginning se_end K) (hK : ∀ (n_se_embedding : Int) (n_se_beginning : Int) (n_se_end : Int), K n_se_embedding n_se_beginning n_se_end → Post none (tw_mC pa_kinds pa_groups pa_widths pa_pairs pa_size pa_base ma_others ma_waiting le_types le_partners le_resolved le_ofParagraph ex_levels ex_types ex_entryLevels ex_entryOverrides ex_entryIsolates ex_last ex_lostIsolates ex_lostEmbeddings ex_openIsolates se_places se_types se_marks se_count n_se_embedding n_se_beginning n_se_end br_partners br_list fi_breaks fi_starts fi_extents fi_count fi_groups sh_levels sh_order tl_measure tl_stale)) : tw_ct (tw_YC l D ad cI cZ) twy_le_setSides (Cond.code twy_le_setSides prog_5_method_9_code 7 none :: tw_Wg) 2 [.inr 6, .inr 1] (tw_mC pa_kinds pa_groups pa_widths pa_pairs pa_size pa_base ma_others ma_waiting le_types le_partners le_resolved le_ofParagraph ex_levels ex_types ex_entryLevels ex_entryOverrides ex_entryIsolates ex_last ex_lostIsolates ex_lostEmbeddings ex_openIsolates se_places se_types se_marks se_count se_embedding se_beginning se_end br_partners br_list fi_breaks fi_starts fi_extents fi_count fi_groups sh_levels sh_order tl_measure tl_stale) Post := by
  refine tw_of (own := twR_le) (L0 := [some (.inr 6), some (.inr 1), none, none, none, none, none]) (by decide) rfl rfl (Nat.le_of_ble_eq_true rfl) (fun Z hX => ?_)
  unfold tww_le_setSides at h
  refine tw_aload_n hX twd_le_setSides_0 rfl rfl ?_
  refine tw_get (kf := 6) hX twd_le_setSides_1 twin_le rfl (by decide) tww_264 rfl rfl rfl ?_
  refine tw_get (kf := 0) hX twd_le_setSides_4 twin_se rfl (by decide) tww_205 rfl rfl rfl ?_
  refine tw_iconst hX twd_le_setSides_7 ⟨by decide, by decide⟩ ?_
  refine tw_iaload hX twd_le_setSides_8 rfl ⟨by decide, by decide⟩ ?_
  refine tw_istore_n (L' := [some (.inr 6), some (.inr 1), some (.inl (se_places (Int.toNat 0))), none, none, none, none]) hX twd_le_setSides_9 rfl (by decide) rfl ?_
  refine tw_aload_n hX twd_le_setSides_10 rfl rfl ?_
  refine tw_get (kf := 6) hX twd_le_setSides_11 twin_le rfl (by decide) tww_264 rfl rfl rfl ?_
  refine tw_get (kf := 0) hX twd_le_setSides_14 twin_se rfl (by decide) tww_205 rfl rfl rfl ?_
  refine tw_aload_n hX twd_le_setSides_17 rfl rfl ?_
  refine tw_get (kf := 6) hX twd_le_setSides_18 twin_le rfl (by decide) tww_264 rfl rfl rfl ?_
  refine tw_get (kf := 3) hX twd_le_setSides_21 twin_se rfl (by decide) tww_213 rfl rfl rfl ?_
  refine tw_iconst hX twd_le_setSides_24 ⟨by decide, by decide⟩ ?_
  obtain ⟨c1, h⟩ := h
  refine tw_isub hX twd_le_setSides_25 c1 ?_
  obtain ⟨c2, h⟩ := h
  refine tw_iaload hX twd_le_setSides_26 rfl c2 ?_
  refine tw_istore_n (L' := [some (.inr 6), some (.inr 1), some (.inl (se_places (Int.toNat 0))), some (.inl (se_places (Int.toNat (se_count - 1)))), none, none, none]) hX twd_le_setSides_27 rfl (by decide) rfl ?_
  refine tw_aload_n hX twd_le_setSides_28 rfl rfl ?_
  refine tw_get (kf := 5) hX twd_le_setSides_29 twin_le rfl (by decide) tww_263 rfl rfl rfl ?_
  refine tw_get (kf := 0) hX twd_le_setSides_32 twin_ex rfl (by decide) tww_167 rfl rfl rfl ?_
  refine tw_iload_n hX twd_le_setSides_35 rfl rfl ?_
  obtain ⟨c3, h⟩ := h
  refine tw_iaload hX twd_le_setSides_36 rfl c3 ?_
  refine tw_istore (L' := [some (.inr 6), some (.inr 1), some (.inl (se_places (Int.toNat 0))), some (.inl (se_places (Int.toNat (se_count - 1)))), some (.inl (ex_levels (Int.toNat (se_places (Int.toNat 0))))), none, none]) hX twd_le_setSides_37 (by decide) rfl ?_
  refine tw_aload_n hX twd_le_setSides_39 rfl rfl ?_
  refine tw_aload_n hX twd_le_setSides_40 rfl rfl ?_
  refine tw_iload_n hX twd_le_setSides_41 rfl rfl ?_
  refine tw_callV (As := [.inr 1, .inl (se_places (Int.toNat 0))]) (n := 2) hX twd_le_setSides_42 tw_good tww_466 tww_463 tww_465 tww_12 tww_79 twk_le_visibleBefore rfl rfl ⟨by decide, by decide⟩ rfl (Nat.le_of_ble_eq_true rfl) (twc_le_visibleBefore h (fun z4 h => ?_))
  change tw_rn (tw_YC l D ad cI cZ) Z Post 45 [some (.inr 6), some (.inr 1), some (.inl (se_places (Int.toNat 0))), some (.inl (se_places (Int.toNat (se_count - 1)))), some (.inl (ex_levels (Int.toNat (se_places (Int.toNat 0))))), none, none] [.inl z4] (tw_mC pa_kinds pa_groups pa_widths pa_pairs pa_size pa_base ma_others ma_waiting le_types le_partners le_resolved le_ofParagraph ex_levels ex_types ex_entryLevels ex_entryOverrides ex_entryIsolates ex_last ex_lostIsolates ex_lostEmbeddings ex_openIsolates se_places se_types se_marks se_count se_embedding se_beginning se_end br_partners br_list fi_breaks fi_starts fi_extents fi_count fi_groups sh_levels sh_order tl_measure tl_stale)
  refine tw_istore (L' := [some (.inr 6), some (.inr 1), some (.inl (se_places (Int.toNat 0))), some (.inl (se_places (Int.toNat (se_count - 1)))), some (.inl (ex_levels (Int.toNat (se_places (Int.toNat 0))))), some (.inl z4), none]) hX twd_le_setSides_45 (by decide) rfl ?_
  refine tw_aload_n hX twd_le_setSides_47 rfl rfl ?_
  refine tw_get (kf := 0) hX twd_le_setSides_48 twin_pa rfl (by decide) tww_106 rfl rfl rfl ?_
  refine tw_iload_n hX twd_le_setSides_51 rfl rfl ?_
  obtain ⟨c5, h⟩ := h
  refine tw_iaload hX twd_le_setSides_52 rfl c5 ?_
  refine tw_callSN (As := [.inl (pa_kinds (Int.toNat (se_places (Int.toNat (se_count - 1)))))]) (n := 1) hX twd_le_setSides_53 tw_good tww_394 twn_5 tww_393 tww_77 twk_tl_isOpener ⟨by decide, by decide⟩ rfl (Nat.le_of_ble_eq_true rfl) (twc_tl_isOpener (fun z6 e7 => ?_))
  subst e7
  change tw_rn (tw_YC l D ad cI cZ) Z Post 56 [some (.inr 6), some (.inr 1), some (.inl (se_places (Int.toNat 0))), some (.inl (se_places (Int.toNat (se_count - 1)))), some (.inl (ex_levels (Int.toNat (se_places (Int.toNat 0))))), some (.inl z4), none] [.inl (twr_tl_isOpener (pa_kinds (Int.toNat (se_places (Int.toNat (se_count - 1))))))] (tw_mC pa_kinds pa_groups pa_widths pa_pairs pa_size pa_base ma_others ma_waiting le_types le_partners le_resolved le_ofParagraph ex_levels ex_types ex_entryLevels ex_entryOverrides ex_entryIsolates ex_last ex_lostIsolates ex_lostEmbeddings ex_openIsolates se_places se_types se_marks se_count se_embedding se_beginning se_end br_partners br_list fi_breaks fi_starts fi_extents fi_count fi_groups sh_levels sh_order tl_measure tl_stale)
  have h := h (fun (x8 : Int) (x9 : Int) (x10 : Int) => tw_rn (tw_YC l D ad cI cZ) Z Post 69 [some (.inr 6), none, none, none, some (.inl x8), some (.inl x9), none] [.inl x10] (tw_mC pa_kinds pa_groups pa_widths pa_pairs pa_size pa_base ma_others ma_waiting le_types le_partners le_resolved le_ofParagraph ex_levels ex_types ex_entryLevels ex_entryOverrides ex_entryIsolates ex_last ex_lostIsolates ex_lostEmbeddings ex_openIsolates se_places se_types se_marks se_count se_embedding se_beginning se_end br_partners br_list fi_breaks fi_starts fi_extents fi_count fi_groups sh_levels sh_order tl_measure tl_stale)) (by
    intro x8 x9 x10 h
    refine tw_istore (L' := [some (.inr 6), none, none, none, some (.inl x8), some (.inl x9), some (.inl x10)]) hX twd_le_setSides_69 (by decide) rfl ?_
    refine tw_aload_n hX twd_le_setSides_71 rfl rfl ?_
    refine tw_get (kf := 6) hX twd_le_setSides_72 twin_le rfl (by decide) tww_264 rfl rfl rfl ?_
    refine tw_iload hX twd_le_setSides_75 rfl ?_
    obtain ⟨c12, h⟩ := h
    refine tw_callSN (As := [.inl x8]) (n := 1) hX twd_le_setSides_77 tw_good tww_490 twn_6 tww_489 tww_77 twk_tl_sideOf ⟨by decide, by decide⟩ rfl (Nat.le_of_ble_eq_true rfl) (twc_tl_sideOf c12 (fun z13 e14 => ?_))
    subst e14
    change tw_rn (tw_YC l D ad cI cZ) Z Post 80 [some (.inr 6), none, none, none, some (.inl x8), some (.inl x9), some (.inl x10)] [.inl (twr_tl_sideOf x8), .inr 19] (tw_mC pa_kinds pa_groups pa_widths pa_pairs pa_size pa_base ma_others ma_waiting le_types le_partners le_resolved le_ofParagraph ex_levels ex_types ex_entryLevels ex_entryOverrides ex_entryIsolates ex_last ex_lostIsolates ex_lostEmbeddings ex_openIsolates se_places se_types se_marks se_count se_embedding se_beginning se_end br_partners br_list fi_breaks fi_starts fi_extents fi_count fi_groups sh_levels sh_order tl_measure tl_stale)
    refine tw_put (kf := 4) (mem' := (tw_mC pa_kinds pa_groups pa_widths pa_pairs pa_size pa_base ma_others ma_waiting le_types le_partners le_resolved le_ofParagraph ex_levels ex_types ex_entryLevels ex_entryOverrides ex_entryIsolates ex_last ex_lostIsolates ex_lostEmbeddings ex_openIsolates se_places se_types se_marks se_count (twr_tl_sideOf x8) se_beginning se_end br_partners br_list fi_breaks fi_starts fi_extents fi_count fi_groups sh_levels sh_order tl_measure tl_stale)) twt_se hX twd_le_setSides_80 twin_se twtok_se twnm_se rfl (by decide) tww_216 rfl rfl rfl (Or.inl rfl) rfl (Nat.le_of_ble_eq_true rfl) rfl ?_
    refine tw_aload_n hX twd_le_setSides_83 rfl rfl ?_
    refine tw_get (kf := 6) hX twd_le_setSides_84 twin_le rfl (by decide) tww_264 rfl rfl rfl ?_
    refine tw_iload hX twd_le_setSides_87 rfl ?_
    refine tw_aload_n hX twd_le_setSides_89 rfl rfl ?_
    refine tw_iload hX twd_le_setSides_90 rfl ?_
    obtain ⟨c15, h⟩ := h
    refine tw_callV (As := [.inl x9]) (n := 1) hX twd_le_setSides_92 tw_good tww_495 tww_492 tww_494 tww_17 tww_79 twk_le_levelBeside rfl rfl ⟨by decide, by decide⟩ rfl (Nat.le_of_ble_eq_true rfl) (twc_le_levelBeside c15 (fun z16 e17 => ?_))
    subst e17
    change tw_rn (tw_YC l D ad cI cZ) Z Post 95 [some (.inr 6), none, none, none, some (.inl x8), some (.inl x9), some (.inl x10)] [.inl (twr_le_levelBeside x9 le_ofParagraph ex_levels), .inl x8, .inr 19] (tw_mC pa_kinds pa_groups pa_widths pa_pairs pa_size pa_base ma_others ma_waiting le_types le_partners le_resolved le_ofParagraph ex_levels ex_types ex_entryLevels ex_entryOverrides ex_entryIsolates ex_last ex_lostIsolates ex_lostEmbeddings ex_openIsolates se_places se_types se_marks se_count (twr_tl_sideOf x8) se_beginning se_end br_partners br_list fi_breaks fi_starts fi_extents fi_count fi_groups sh_levels sh_order tl_measure tl_stale)
    refine tw_max hX twd_le_setSides_95 tww_496 tww_497 tww_87 tww_498 (by decide) (by decide) ?_
    obtain ⟨c18, h⟩ := h
    refine tw_callSN (As := [.inl (if x8 < twr_le_levelBeside x9 le_ofParagraph ex_levels then twr_le_levelBeside x9 le_ofParagraph ex_levels else x8)]) (n := 1) hX twd_le_setSides_98 tw_good tww_490 twn_6 tww_489 tww_77 twk_tl_sideOf ⟨by decide, by decide⟩ rfl (Nat.le_of_ble_eq_true rfl) (twc_tl_sideOf c18 (fun z19 e20 => ?_))
    subst e20
    change tw_rn (tw_YC l D ad cI cZ) Z Post 101 [some (.inr 6), none, none, none, some (.inl x8), some (.inl x9), some (.inl x10)] [.inl (twr_tl_sideOf (if x8 < twr_le_levelBeside x9 le_ofParagraph ex_levels then twr_le_levelBeside x9 le_ofParagraph ex_levels else x8)), .inr 19] (tw_mC pa_kinds pa_groups pa_widths pa_pairs pa_size pa_base ma_others ma_waiting le_types le_partners le_resolved le_ofParagraph ex_levels ex_types ex_entryLevels ex_entryOverrides ex_entryIsolates ex_last ex_lostIsolates ex_lostEmbeddings ex_openIsolates se_places se_types se_marks se_count (twr_tl_sideOf x8) se_beginning se_end br_partners br_list fi_breaks fi_starts fi_extents fi_count fi_groups sh_levels sh_order tl_measure tl_stale)
    refine tw_put (kf := 5) (mem' := (tw_mC pa_kinds pa_groups pa_widths pa_pairs pa_size pa_base ma_others ma_waiting le_types le_partners le_resolved le_ofParagraph ex_levels ex_types ex_entryLevels ex_entryOverrides ex_entryIsolates ex_last ex_lostIsolates ex_lostEmbeddings ex_openIsolates se_places se_types se_marks se_count (twr_tl_sideOf x8) (twr_tl_sideOf (if x8 < twr_le_levelBeside x9 le_ofParagraph ex_levels then twr_le_levelBeside x9 le_ofParagraph ex_levels else x8)) se_end br_partners br_list fi_breaks fi_starts fi_extents fi_count fi_groups sh_levels sh_order tl_measure tl_stale)) twt_se hX twd_le_setSides_101 twin_se twtok_se twnm_se rfl (by decide) tww_219 rfl rfl rfl (Or.inl rfl) rfl (Nat.le_of_ble_eq_true rfl) rfl ?_
    refine tw_aload_n hX twd_le_setSides_104 rfl rfl ?_
    refine tw_get (kf := 6) hX twd_le_setSides_105 twin_le rfl (by decide) tww_264 rfl rfl rfl ?_
    refine tw_iload hX twd_le_setSides_108 rfl ?_
    refine tw_aload_n hX twd_le_setSides_110 rfl rfl ?_
    refine tw_iload hX twd_le_setSides_111 rfl ?_
    obtain ⟨c21, h⟩ := h
    refine tw_callV (As := [.inl x10]) (n := 1) hX twd_le_setSides_113 tw_good tww_495 tww_492 tww_494 tww_17 tww_79 twk_le_levelBeside rfl rfl ⟨by decide, by decide⟩ rfl (Nat.le_of_ble_eq_true rfl) (twc_le_levelBeside c21 (fun z22 e23 => ?_))
    subst e23
    change tw_rn (tw_YC l D ad cI cZ) Z Post 116 [some (.inr 6), none, none, none, some (.inl x8), some (.inl x9), some (.inl x10)] [.inl (twr_le_levelBeside x10 le_ofParagraph ex_levels), .inl x8, .inr 19] (tw_mC pa_kinds pa_groups pa_widths pa_pairs pa_size pa_base ma_others ma_waiting le_types le_partners le_resolved le_ofParagraph ex_levels ex_types ex_entryLevels ex_entryOverrides ex_entryIsolates ex_last ex_lostIsolates ex_lostEmbeddings ex_openIsolates se_places se_types se_marks se_count (twr_tl_sideOf x8) (twr_tl_sideOf (if x8 < twr_le_levelBeside x9 le_ofParagraph ex_levels then twr_le_levelBeside x9 le_ofParagraph ex_levels else x8)) se_end br_partners br_list fi_breaks fi_starts fi_extents fi_count fi_groups sh_levels sh_order tl_measure tl_stale)
    refine tw_max hX twd_le_setSides_116 tww_496 tww_497 tww_87 tww_498 (by decide) (by decide) ?_
    obtain ⟨c24, h⟩ := h
    refine tw_callSN (As := [.inl (if x8 < twr_le_levelBeside x10 le_ofParagraph ex_levels then twr_le_levelBeside x10 le_ofParagraph ex_levels else x8)]) (n := 1) hX twd_le_setSides_119 tw_good tww_490 twn_6 tww_489 tww_77 twk_tl_sideOf ⟨by decide, by decide⟩ rfl (Nat.le_of_ble_eq_true rfl) (twc_tl_sideOf c24 (fun z25 e26 => ?_))
    subst e26
    change tw_rn (tw_YC l D ad cI cZ) Z Post 122 [some (.inr 6), none, none, none, some (.inl x8), some (.inl x9), some (.inl x10)] [.inl (twr_tl_sideOf (if x8 < twr_le_levelBeside x10 le_ofParagraph ex_levels then twr_le_levelBeside x10 le_ofParagraph ex_levels else x8)), .inr 19] (tw_mC pa_kinds pa_groups pa_widths pa_pairs pa_size pa_base ma_others ma_waiting le_types le_partners le_resolved le_ofParagraph ex_levels ex_types ex_entryLevels ex_entryOverrides ex_entryIsolates ex_last ex_lostIsolates ex_lostEmbeddings ex_openIsolates se_places se_types se_marks se_count (twr_tl_sideOf x8) (twr_tl_sideOf (if x8 < twr_le_levelBeside x9 le_ofParagraph ex_levels then twr_le_levelBeside x9 le_ofParagraph ex_levels else x8)) se_end br_partners br_list fi_breaks fi_starts fi_extents fi_count fi_groups sh_levels sh_order tl_measure tl_stale)
    refine tw_put (kf := 6) (mem' := (tw_mC pa_kinds pa_groups pa_widths pa_pairs pa_size pa_base ma_others ma_waiting le_types le_partners le_resolved le_ofParagraph ex_levels ex_types ex_entryLevels ex_entryOverrides ex_entryIsolates ex_last ex_lostIsolates ex_lostEmbeddings ex_openIsolates se_places se_types se_marks se_count (twr_tl_sideOf x8) (twr_tl_sideOf (if x8 < twr_le_levelBeside x9 le_ofParagraph ex_levels then twr_le_levelBeside x9 le_ofParagraph ex_levels else x8)) (twr_tl_sideOf (if x8 < twr_le_levelBeside x10 le_ofParagraph ex_levels then twr_le_levelBeside x10 le_ofParagraph ex_levels else x8)) br_partners br_list fi_breaks fi_starts fi_extents fi_count fi_groups sh_levels sh_order tl_measure tl_stale)) twt_se hX twd_le_setSides_122 twin_se twtok_se twnm_se rfl (by decide) tww_221 rfl rfl rfl (Or.inl rfl) rfl (Nat.le_of_ble_eq_true rfl) rfl ?_
    exact tw_vret hX twd_le_setSides_125 (hK _ _ _ h))
  refine tw_if_eq hX twd_le_setSides_56 rfl (fun q28 => ?_) (fun q28 => ?_)
  · have h := h.1 q28
    refine tw_aload_n hX twd_le_setSides_63 rfl rfl ?_
    refine tw_aload_n hX twd_le_setSides_64 rfl rfl ?_
    refine tw_iload_n hX twd_le_setSides_65 rfl rfl ?_
    refine tw_callV (As := [.inr 1, .inl (se_places (Int.toNat (se_count - 1)))]) (n := 2) hX twd_le_setSides_66 tw_good tww_487 tww_484 tww_486 tww_16 tww_79 twk_le_visibleBehind rfl rfl ⟨by decide, by decide⟩ rfl (Nat.le_of_ble_eq_true rfl) (twc_le_visibleBehind h (fun z27 h => ?_))
    change tw_rn (tw_YC l D ad cI cZ) Z Post 69 [some (.inr 6), some (.inr 1), some (.inl (se_places (Int.toNat 0))), some (.inl (se_places (Int.toNat (se_count - 1)))), some (.inl (ex_levels (Int.toNat (se_places (Int.toNat 0))))), some (.inl z4), none] [.inl z27] (tw_mC pa_kinds pa_groups pa_widths pa_pairs pa_size pa_base ma_others ma_waiting le_types le_partners le_resolved le_ofParagraph ex_levels ex_types ex_entryLevels ex_entryOverrides ex_entryIsolates ex_last ex_lostIsolates ex_lostEmbeddings ex_openIsolates se_places se_types se_marks se_count se_embedding se_beginning se_end br_partners br_list fi_breaks fi_starts fi_extents fi_count fi_groups sh_levels sh_order tl_measure tl_stale)
    refine tw_wk (L' := [some (.inr 6), none, none, none, some (.inl (ex_levels (Int.toNat (se_places (Int.toNat 0))))), some (.inl z4), none]) (tw_le_s (tw_le_n (tw_le_n (tw_le_n (tw_le_s (tw_le_s (tw_le_n tw_le_0))))))) ?_
    exact h
  · have h := h.2 q28
    refine tw_iconst hX twd_le_setSides_59 ⟨by decide, by decide⟩ ?_
    refine tw_goto hX twd_le_setSides_60 rfl ?_
    refine tw_wk (L' := [some (.inr 6), none, none, none, some (.inl (ex_levels (Int.toNat (se_places (Int.toNat 0))))), some (.inl z4), none]) (tw_le_s (tw_le_n (tw_le_n (tw_le_n (tw_le_s (tw_le_s (tw_le_n tw_le_0))))))) ?_
    exact h
def twr_tl_isIsolateMark (v0 : Int) : Int := if v0 < 17 then 0 else (if 20 < v0 then 0 else 1)
set_option maxRecDepth 100000 in
set_option maxHeartbeats 4000000 in
theorem twc_tl_isIsolateMark {l : Launch} {D : va_G} {ad : Nat → Nat} {cI cZ : ClassId} {Post : tw_P} {v0 : Int} {pa_size pa_base le_ofParagraph ex_last ex_lostIsolates ex_lostEmbeddings ex_openIsolates se_count se_embedding se_beginning se_end fi_count tl_measure tl_stale : Int} {pa_kinds pa_groups pa_widths pa_pairs ma_others ma_waiting le_types le_partners le_resolved ex_levels ex_types ex_entryLevels ex_entryOverrides ex_entryIsolates se_places se_types se_marks br_partners br_list fi_breaks fi_starts fi_extents fi_groups sh_levels sh_order : Nat → Int} (hK : ∀ (z : Int), z = twr_tl_isIsolateMark v0 → Post (some z) (tw_mC pa_kinds pa_groups pa_widths pa_pairs pa_size pa_base ma_others ma_waiting le_types le_partners le_resolved le_ofParagraph ex_levels ex_types ex_entryLevels ex_entryOverrides ex_entryIsolates ex_last ex_lostIsolates ex_lostEmbeddings ex_openIsolates se_places se_types se_marks se_count se_embedding se_beginning se_end br_partners br_list fi_breaks fi_starts fi_extents fi_count fi_groups sh_levels sh_order tl_measure tl_stale)) : tw_ct (tw_YC l D ad cI cZ) twy_tl_isIsolateMark (Cond.code twy_tl_isIsolateMark prog_1_method_25_code 1 (some .boolean) :: tw_Wg) 0 [.inl v0] (tw_mC pa_kinds pa_groups pa_widths pa_pairs pa_size pa_base ma_others ma_waiting le_types le_partners le_resolved le_ofParagraph ex_levels ex_types ex_entryLevels ex_entryOverrides ex_entryIsolates ex_last ex_lostIsolates ex_lostEmbeddings ex_openIsolates se_places se_types se_marks se_count se_embedding se_beginning se_end br_partners br_list fi_breaks fi_starts fi_extents fi_count fi_groups sh_levels sh_order tl_measure tl_stale) Post := by
  refine tw_of (own := twR_tl) (L0 := [some (.inl v0)]) (by decide) rfl rfl (Nat.le_of_ble_eq_true rfl) (fun Z hX => ?_)
  refine tw_iload_n hX twd_tl_isIsolateMark_0 rfl rfl ?_
  refine tw_bipush hX twd_tl_isIsolateMark_1 (by decide +kernel) ⟨by decide, by decide⟩ ?_
  refine tw_icmp_lt hX twd_tl_isIsolateMark_3 rfl (fun q1 => ?_) (fun q1 => ?_)
  · have _tw := trivial
    refine tw_iconst hX twd_tl_isIsolateMark_16 ⟨by decide, by decide⟩ ?_
    exact tw_zret hX twd_tl_isIsolateMark_17 ⟨by decide, by decide⟩ (hK _ (Eq.symm (if_pos q1)))
  · have _tw := trivial
    refine tw_iload_n hX twd_tl_isIsolateMark_6 rfl rfl ?_
    refine tw_bipush hX twd_tl_isIsolateMark_7 (by decide +kernel) ⟨by decide, by decide⟩ ?_
    refine tw_icmp_gt hX twd_tl_isIsolateMark_9 rfl (fun q2 => ?_) (fun q2 => ?_)
    · have _tw := trivial
      refine tw_iconst hX twd_tl_isIsolateMark_16 ⟨by decide, by decide⟩ ?_
      exact tw_zret hX twd_tl_isIsolateMark_17 ⟨by decide, by decide⟩ (hK _ (Eq.symm (Eq.trans (if_neg q1) (if_pos q2))))
    · have _tw := trivial
      refine tw_iconst hX twd_tl_isIsolateMark_12 ⟨by decide, by decide⟩ ?_
      refine tw_goto hX twd_tl_isIsolateMark_13 rfl ?_
      exact tw_zret hX twd_tl_isIsolateMark_17 ⟨by decide, by decide⟩ (hK _ (Eq.symm (Eq.trans (if_neg q1) (if_neg q2))))
def twl_se_joinMarks_7 (X78 : (Nat → Int) → (Nat → Int) → Prop) (se_count : Int) (se_beginning : Int) : Nat → Int → Int → (Nat → Int) → (Nat → Int) → Prop
  | 0, _, _, _, _ => False
  | f + 1, v1, v2, se_types, se_marks =>
    ((se_count ≤ v2 →
    X78 se_types se_marks) ∧
    (¬ se_count ≤ v2 →
    (0 ≤ v2 ∧ v2 < 64) ∧ (∀ x2 : Int, x2 = (if (se_types (Int.toNat v2)) = 8 then 1 else 0) →
      (0 ≤ v2 ∧ v2 < 64) ∧ (0 ≤ x2 ∧ x2 ≤ 1) ∧ (0 ≤ v2 ∧ v2 < 64) ∧ (((¬ ((tw_up se_marks (Int.toNat v2) x2) (Int.toNat v2)) = 0 → ((((twr_tl_isIsolateMark v1) = 0 → ((0 ≤ v2 ∧ v2 < 64))) ∧ (¬ (twr_tl_isIsolateMark v1) = 0 → ((0 ≤ v2 ∧ v2 < 64))))))) ∧
        (∀ x_10_se_types : Nat → Int, x_10_se_types = (if ((tw_up se_marks (Int.toNat v2) x2) (Int.toNat v2)) = 0 then se_types else (if (twr_tl_isIsolateMark v1) = 0 then (tw_up se_types (Int.toNat v2) v1) else (tw_up se_types (Int.toNat v2) 11))) →
        (0 ≤ v2 ∧ v2 < 64) ∧ (tw_rg (v2 + 1)) ∧ twl_se_joinMarks_7 X78 se_count se_beginning f (x_10_se_types (Int.toNat v2)) (v2 + 1) x_10_se_types (tw_up se_marks (Int.toNat v2) x2))))))
set_option maxRecDepth 100000 in
set_option maxHeartbeats 4000000 in
theorem twt_se_joinMarks_7 {l : Launch} {D : va_G} {ad : Nat → Nat} {cI cZ : ClassId} {Z : tw_Z} {Post : tw_P} {X78 : (Nat → Int) → (Nat → Int) → Prop} {pa_size pa_base le_ofParagraph ex_last ex_lostIsolates ex_lostEmbeddings ex_openIsolates se_count se_embedding se_beginning se_end fi_count tl_measure tl_stale : Int} {pa_kinds pa_groups pa_widths pa_pairs ma_others ma_waiting le_types le_partners le_resolved ex_levels ex_types ex_entryLevels ex_entryOverrides ex_entryIsolates se_places br_partners br_list fi_breaks fi_starts fi_extents fi_groups sh_levels sh_order : Nat → Int} (hX : tw_cx (tw_YC l D ad cI cZ) Z prog_8_method_4_code twR_se tw_Wg none 1 3) (hX78 : ∀ (se_types : Nat → Int) (se_marks : Nat → Int), X78 se_types se_marks → tw_rn (tw_YC l D ad cI cZ) Z Post 78 [none, none, none] [] (tw_mC pa_kinds pa_groups pa_widths pa_pairs pa_size pa_base ma_others ma_waiting le_types le_partners le_resolved le_ofParagraph ex_levels ex_types ex_entryLevels ex_entryOverrides ex_entryIsolates ex_last ex_lostIsolates ex_lostEmbeddings ex_openIsolates se_places se_types se_marks se_count se_embedding se_beginning se_end br_partners br_list fi_breaks fi_starts fi_extents fi_count fi_groups sh_levels sh_order tl_measure tl_stale)) : ∀ (f : Nat) (v1 : Int) (v2 : Int) (se_types : Nat → Int) (se_marks : Nat → Int), twl_se_joinMarks_7 X78 se_count se_beginning f v1 v2 se_types se_marks → tw_rn (tw_YC l D ad cI cZ) Z Post 7 [some (.inr 19), some (.inl v1), some (.inl v2)] [] (tw_mC pa_kinds pa_groups pa_widths pa_pairs pa_size pa_base ma_others ma_waiting le_types le_partners le_resolved le_ofParagraph ex_levels ex_types ex_entryLevels ex_entryOverrides ex_entryIsolates ex_last ex_lostIsolates ex_lostEmbeddings ex_openIsolates se_places se_types se_marks se_count se_embedding se_beginning se_end br_partners br_list fi_breaks fi_starts fi_extents fi_count fi_groups sh_levels sh_order tl_measure tl_stale) := by
  intro f
  induction f with
  | zero => intro v1 v2 se_types se_marks h; rw [twl_se_joinMarks_7] at h; exact h.elim
  | succ f ih =>
    intro v1 v2 se_types se_marks h
    rw [twl_se_joinMarks_7] at h
    refine tw_iload_n hX twd_se_joinMarks_7 rfl rfl ?_
    refine tw_aload_n hX twd_se_joinMarks_8 rfl rfl ?_
    refine tw_get (kf := 3) hX twd_se_joinMarks_9 twin_se rfl (by decide) tww_211 rfl rfl rfl ?_
    refine tw_icmp_ge hX twd_se_joinMarks_12 rfl (fun q21 => ?_) (fun q21 => ?_)
    · have h := h.1 q21
      refine tw_wk (L' := [none, none, none]) (tw_le_n (tw_le_n (tw_le_n tw_le_0))) ?_
      exact hX78 _ _ h
    · have h := h.2 q21
      refine tw_aload_n hX twd_se_joinMarks_15 rfl rfl ?_
      refine tw_get (kf := 2) hX twd_se_joinMarks_16 twin_se rfl (by decide) tww_209 rfl rfl rfl ?_
      refine tw_iload_n hX twd_se_joinMarks_19 rfl rfl ?_
      refine tw_aload_n hX twd_se_joinMarks_20 rfl rfl ?_
      refine tw_get (kf := 1) hX twd_se_joinMarks_21 twin_se rfl (by decide) tww_206 rfl rfl rfl ?_
      refine tw_iload_n hX twd_se_joinMarks_24 rfl rfl ?_
      obtain ⟨c1, h⟩ := h
      refine tw_iaload hX twd_se_joinMarks_25 rfl c1 ?_
      refine tw_bipush hX twd_se_joinMarks_26 (by decide +kernel) ⟨by decide, by decide⟩ ?_
      have j18 : ∀ x2 : Int, x2 = (if (se_types (Int.toNat v2)) = 8 then 1 else 0) → tw_rn (tw_YC l D ad cI cZ) Z Post 36 [some (.inr 19), some (.inl v1), some (.inl v2)] [.inl x2, .inl v2, .inr 22] (tw_mC pa_kinds pa_groups pa_widths pa_pairs pa_size pa_base ma_others ma_waiting le_types le_partners le_resolved le_ofParagraph ex_levels ex_types ex_entryLevels ex_entryOverrides ex_entryIsolates ex_last ex_lostIsolates ex_lostEmbeddings ex_openIsolates se_places se_types se_marks se_count se_embedding se_beginning se_end br_partners br_list fi_breaks fi_starts fi_extents fi_count fi_groups sh_levels sh_order tl_measure tl_stale) := by
        intro x2 e19
        have h := h x2 e19
        obtain ⟨c3, h⟩ := h
        obtain ⟨c4, h⟩ := h
        refine tw_bastore (mem' := (tw_mC pa_kinds pa_groups pa_widths pa_pairs pa_size pa_base ma_others ma_waiting le_types le_partners le_resolved le_ofParagraph ex_levels ex_types ex_entryLevels ex_entryOverrides ex_entryIsolates ex_last ex_lostIsolates ex_lostEmbeddings ex_openIsolates se_places se_types (tw_up se_marks (Int.toNat v2) x2) se_count se_embedding se_beginning se_end br_partners br_list fi_breaks fi_starts fi_extents fi_count fi_groups sh_levels sh_order tl_measure tl_stale)) hX twd_se_joinMarks_36 rfl c3 c4 rfl ?_
        refine tw_aload_n hX twd_se_joinMarks_37 rfl rfl ?_
        refine tw_get (kf := 2) hX twd_se_joinMarks_38 twin_se rfl (by decide) tww_209 rfl rfl rfl ?_
        refine tw_iload_n hX twd_se_joinMarks_41 rfl rfl ?_
        obtain ⟨c5, h⟩ := h
        refine tw_baload hX twd_se_joinMarks_42 rfl c5 ?_
        obtain ⟨o13, h⟩ := h
        have j14 : ∀ x_10_se_types : Nat → Int, x_10_se_types = (if ((tw_up se_marks (Int.toNat v2) x2) (Int.toNat v2)) = 0 then se_types else (if (twr_tl_isIsolateMark v1) = 0 then (tw_up se_types (Int.toNat v2) v1) else (tw_up se_types (Int.toNat v2) 11))) → tw_rn (tw_YC l D ad cI cZ) Z Post 65 [some (.inr 19), none, some (.inl v2)] [] (tw_mC pa_kinds pa_groups pa_widths pa_pairs pa_size pa_base ma_others ma_waiting le_types le_partners le_resolved le_ofParagraph ex_levels ex_types ex_entryLevels ex_entryOverrides ex_entryIsolates ex_last ex_lostIsolates ex_lostEmbeddings ex_openIsolates se_places x_10_se_types (tw_up se_marks (Int.toNat v2) x2) se_count se_embedding se_beginning se_end br_partners br_list fi_breaks fi_starts fi_extents fi_count fi_groups sh_levels sh_order tl_measure tl_stale) := by
          intro x_10_se_types e15
          have h := h x_10_se_types e15
          refine tw_aload_n hX twd_se_joinMarks_65 rfl rfl ?_
          refine tw_get (kf := 1) hX twd_se_joinMarks_66 twin_se rfl (by decide) tww_206 rfl rfl rfl ?_
          refine tw_iload_n hX twd_se_joinMarks_69 rfl rfl ?_
          obtain ⟨c11, h⟩ := h
          refine tw_iaload hX twd_se_joinMarks_70 rfl c11 ?_
          refine tw_istore_n (L' := [some (.inr 19), some (.inl (x_10_se_types (Int.toNat v2))), some (.inl v2)]) hX twd_se_joinMarks_71 rfl (by decide) rfl ?_
          obtain ⟨c12, h⟩ := h
          refine tw_iinc (L' := [some (.inr 19), some (.inl (x_10_se_types (Int.toNat v2))), some (.inl (v2 + 1))]) hX twd_se_joinMarks_72 rfl (by decide) c12 rfl ?_
          refine tw_goto hX twd_se_joinMarks_75 rfl ?_
          exact ih _ _ _ _ h
        refine tw_if_eq hX twd_se_joinMarks_43 rfl (fun q16 => ?_) (fun q16 => ?_)
        · have _tw := trivial
          refine tw_wk (L' := [some (.inr 19), none, some (.inl v2)]) (tw_le_s (tw_le_n (tw_le_s tw_le_0))) ?_
          exact j14 _ (Eq.symm (if_pos q16))
        · have _tw := trivial
          have o13 := o13 q16
          refine tw_aload_n hX twd_se_joinMarks_46 rfl rfl ?_
          refine tw_get (kf := 1) hX twd_se_joinMarks_47 twin_se rfl (by decide) tww_206 rfl rfl rfl ?_
          refine tw_iload_n hX twd_se_joinMarks_50 rfl rfl ?_
          refine tw_iload_n hX twd_se_joinMarks_51 rfl rfl ?_
          refine tw_callSN (As := [.inl v1]) (n := 1) hX twd_se_joinMarks_52 tw_good tww_509 twn_7 tww_508 tww_77 twk_tl_isIsolateMark ⟨by decide, by decide⟩ rfl (Nat.le_of_ble_eq_true rfl) (twc_tl_isIsolateMark (fun z6 e7 => ?_))
          subst e7
          change tw_rn (tw_YC l D ad cI cZ) Z Post 55 [some (.inr 19), some (.inl v1), some (.inl v2)] [.inl (twr_tl_isIsolateMark v1), .inl v2, .inr 21] (tw_mC pa_kinds pa_groups pa_widths pa_pairs pa_size pa_base ma_others ma_waiting le_types le_partners le_resolved le_ofParagraph ex_levels ex_types ex_entryLevels ex_entryOverrides ex_entryIsolates ex_last ex_lostIsolates ex_lostEmbeddings ex_openIsolates se_places se_types (tw_up se_marks (Int.toNat v2) x2) se_count se_embedding se_beginning se_end br_partners br_list fi_breaks fi_starts fi_extents fi_count fi_groups sh_levels sh_order tl_measure tl_stale)
          refine tw_if_eq hX twd_se_joinMarks_55 rfl (fun q17 => ?_) (fun q17 => ?_)
          · have _tw := trivial
            have o13 := o13.1 q17
            refine tw_iload_n hX twd_se_joinMarks_63 rfl rfl ?_
            have c8 := o13
            refine tw_iastore (mem' := (tw_mC pa_kinds pa_groups pa_widths pa_pairs pa_size pa_base ma_others ma_waiting le_types le_partners le_resolved le_ofParagraph ex_levels ex_types ex_entryLevels ex_entryOverrides ex_entryIsolates ex_last ex_lostIsolates ex_lostEmbeddings ex_openIsolates se_places (tw_up se_types (Int.toNat v2) v1) (tw_up se_marks (Int.toNat v2) x2) se_count se_embedding se_beginning se_end br_partners br_list fi_breaks fi_starts fi_extents fi_count fi_groups sh_levels sh_order tl_measure tl_stale)) hX twd_se_joinMarks_64 rfl c8 rfl ?_
            refine tw_wk (L' := [some (.inr 19), none, some (.inl v2)]) (tw_le_s (tw_le_n (tw_le_s tw_le_0))) ?_
            exact j14 _ (Eq.symm (Eq.trans (if_neg q16) (if_pos q17)))
          · have _tw := trivial
            have o13 := o13.2 q17
            refine tw_bipush hX twd_se_joinMarks_58 (by decide +kernel) ⟨by decide, by decide⟩ ?_
            refine tw_goto hX twd_se_joinMarks_60 rfl ?_
            have c9 := o13
            refine tw_iastore (mem' := (tw_mC pa_kinds pa_groups pa_widths pa_pairs pa_size pa_base ma_others ma_waiting le_types le_partners le_resolved le_ofParagraph ex_levels ex_types ex_entryLevels ex_entryOverrides ex_entryIsolates ex_last ex_lostIsolates ex_lostEmbeddings ex_openIsolates se_places (tw_up se_types (Int.toNat v2) 11) (tw_up se_marks (Int.toNat v2) x2) se_count se_embedding se_beginning se_end br_partners br_list fi_breaks fi_starts fi_extents fi_count fi_groups sh_levels sh_order tl_measure tl_stale)) hX twd_se_joinMarks_64 rfl c9 rfl ?_
            refine tw_wk (L' := [some (.inr 19), none, some (.inl v2)]) (tw_le_s (tw_le_n (tw_le_s tw_le_0))) ?_
            exact j14 _ (Eq.symm (Eq.trans (if_neg q16) (if_neg q17)))
      refine tw_icmp_ne hX twd_se_joinMarks_28 rfl (fun q20 => ?_) (fun q20 => ?_)
      · have _tw := trivial
        refine tw_iconst hX twd_se_joinMarks_35 ⟨by decide, by decide⟩ ?_
        exact j18 _ (Eq.symm (if_neg q20))
      · have _tw := trivial
        refine tw_iconst hX twd_se_joinMarks_31 ⟨by decide, by decide⟩ ?_
        refine tw_goto hX twd_se_joinMarks_32 rfl ?_
        exact j18 _ (Eq.symm (if_pos q20))
def tww_se_joinMarks (se_types : Nat → Int) (se_marks : Nat → Int) (se_count : Int) (se_beginning : Int) (K : (Nat → Int) → (Nat → Int) → Prop) : Prop :=
  (∃ f24 : Nat, twl_se_joinMarks_7 (fun (y22_se_types : Nat → Int) (y23_se_marks : Nat → Int) =>
  K y22_se_types y23_se_marks) se_count se_beginning f24 se_beginning 0 se_types se_marks)
set_option maxRecDepth 100000 in
set_option maxHeartbeats 4000000 in
theorem twc_se_joinMarks {l : Launch} {D : va_G} {ad : Nat → Nat} {cI cZ : ClassId} {Post : tw_P} {K : (Nat → Int) → (Nat → Int) → Prop} {pa_size pa_base le_ofParagraph ex_last ex_lostIsolates ex_lostEmbeddings ex_openIsolates se_count se_embedding se_beginning se_end fi_count tl_measure tl_stale : Int} {pa_kinds pa_groups pa_widths pa_pairs ma_others ma_waiting le_types le_partners le_resolved ex_levels ex_types ex_entryLevels ex_entryOverrides ex_entryIsolates se_places se_types se_marks br_partners br_list fi_breaks fi_starts fi_extents fi_groups sh_levels sh_order : Nat → Int} (h : tww_se_joinMarks se_types se_marks se_count se_beginning K) (hK : ∀ (n_se_types : Nat → Int) (n_se_marks : Nat → Int), K n_se_types n_se_marks → Post none (tw_mC pa_kinds pa_groups pa_widths pa_pairs pa_size pa_base ma_others ma_waiting le_types le_partners le_resolved le_ofParagraph ex_levels ex_types ex_entryLevels ex_entryOverrides ex_entryIsolates ex_last ex_lostIsolates ex_lostEmbeddings ex_openIsolates se_places n_se_types n_se_marks se_count se_embedding se_beginning se_end br_partners br_list fi_breaks fi_starts fi_extents fi_count fi_groups sh_levels sh_order tl_measure tl_stale)) : tw_ct (tw_YC l D ad cI cZ) twy_se_joinMarks (Cond.code twy_se_joinMarks prog_8_method_4_code 3 none :: tw_Wg) 1 [.inr 19] (tw_mC pa_kinds pa_groups pa_widths pa_pairs pa_size pa_base ma_others ma_waiting le_types le_partners le_resolved le_ofParagraph ex_levels ex_types ex_entryLevels ex_entryOverrides ex_entryIsolates ex_last ex_lostIsolates ex_lostEmbeddings ex_openIsolates se_places se_types se_marks se_count se_embedding se_beginning se_end br_partners br_list fi_breaks fi_starts fi_extents fi_count fi_groups sh_levels sh_order tl_measure tl_stale) Post := by
  refine tw_of (own := twR_se) (L0 := [some (.inr 19), none, none]) (by decide) rfl rfl (Nat.le_of_ble_eq_true rfl) (fun Z hX => ?_)
  unfold tww_se_joinMarks at h
  refine tw_aload_n hX twd_se_joinMarks_0 rfl rfl ?_
  refine tw_get (kf := 5) hX twd_se_joinMarks_1 twin_se rfl (by decide) tww_217 rfl rfl rfl ?_
  refine tw_istore_n (L' := [some (.inr 19), some (.inl se_beginning), none]) hX twd_se_joinMarks_4 rfl (by decide) rfl ?_
  refine tw_iconst hX twd_se_joinMarks_5 ⟨by decide, by decide⟩ ?_
  refine tw_istore_n (L' := [some (.inr 19), some (.inl se_beginning), some (.inl 0)]) hX twd_se_joinMarks_6 rfl (by decide) rfl ?_
  obtain ⟨f24, h⟩ := h
  refine twt_se_joinMarks_7 hX (fun y22_se_types y23_se_marks h => ?_) f24 _ _ _ _ h
  exact tw_vret hX twd_se_joinMarks_78 (hK _ _ h)
def twl_se_turnArabicNumbers_4 (X74 : (Nat → Int) → Prop) (se_count : Int) : Nat → Int → Int → (Nat → Int) → Prop
  | 0, _, _, _ => False
  | f + 1, v1, v2, se_types =>
    ((se_count ≤ v2 →
    X74 se_types) ∧
    (¬ se_count ≤ v2 →
    (0 ≤ v2 ∧ v2 < 64) ∧ (∀ J4 : Int → Int → Prop, (∀ (x2 : Int) (x3 : Int), ((∀ J6 : (Nat → Int) → Prop, (∀ (x_5_se_types : Nat → Int), ((tw_rg (v2 + 1)) ∧ twl_se_turnArabicNumbers_4 X74 se_count f x2 (v2 + 1) x_5_se_types) → J6 x_5_se_types) →
        ∀ J9 : (Nat → Int) → Prop, (∀ (x_8_se_types : Nat → Int), (((x3 = 2 →
          (0 ≤ v2 ∧ v2 < 64) ∧ J6 (tw_up x_8_se_types (Int.toNat v2) 1)) ∧
          (¬ x3 = 2 →
          J6 x_8_se_types))) → J9 x_8_se_types) →
        ((x3 = 3 →
        ((x2 = 2 →
          (0 ≤ v2 ∧ v2 < 64) ∧ J6 (tw_up se_types (Int.toNat v2) 6)) ∧
          (¬ x2 = 2 →
          J9 se_types))) ∧
        (¬ x3 = 3 →
        J9 se_types)))) → J4 x2 x3) →
      ∀ J16 : Int → Prop, (∀ (x15 : Int), (J4 x15 x15) → J16 x15) →
      (((se_types (Int.toNat v2)) = 0 →
      J16 (se_types (Int.toNat v2))) ∧
      (¬ (se_types (Int.toNat v2)) = 0 →
      (((se_types (Int.toNat v2)) = 1 →
        J16 (se_types (Int.toNat v2))) ∧
        (¬ (se_types (Int.toNat v2)) = 1 →
        (((se_types (Int.toNat v2)) = 2 →
          J16 (se_types (Int.toNat v2))) ∧
          (¬ (se_types (Int.toNat v2)) = 2 →
          J4 v1 (se_types (Int.toNat v2)))))))))))
set_option maxRecDepth 100000 in
set_option maxHeartbeats 4000000 in
theorem twt_se_turnArabicNumbers_4 {l : Launch} {D : va_G} {ad : Nat → Nat} {cI cZ : ClassId} {Z : tw_Z} {Post : tw_P} {X74 : (Nat → Int) → Prop} {pa_size pa_base le_ofParagraph ex_last ex_lostIsolates ex_lostEmbeddings ex_openIsolates se_count se_embedding se_beginning se_end fi_count tl_measure tl_stale : Int} {pa_kinds pa_groups pa_widths pa_pairs ma_others ma_waiting le_types le_partners le_resolved ex_levels ex_types ex_entryLevels ex_entryOverrides ex_entryIsolates se_places se_marks br_partners br_list fi_breaks fi_starts fi_extents fi_groups sh_levels sh_order : Nat → Int} (hX : tw_cx (tw_YC l D ad cI cZ) Z prog_8_method_5_code twR_se tw_Wg none 0 4) (hX74 : ∀ (se_types : Nat → Int), X74 se_types → tw_rn (tw_YC l D ad cI cZ) Z Post 74 [none, none, none, none] [] (tw_mC pa_kinds pa_groups pa_widths pa_pairs pa_size pa_base ma_others ma_waiting le_types le_partners le_resolved le_ofParagraph ex_levels ex_types ex_entryLevels ex_entryOverrides ex_entryIsolates ex_last ex_lostIsolates ex_lostEmbeddings ex_openIsolates se_places se_types se_marks se_count se_embedding se_beginning se_end br_partners br_list fi_breaks fi_starts fi_extents fi_count fi_groups sh_levels sh_order tl_measure tl_stale)) : ∀ (f : Nat) (v1 : Int) (v2 : Int) (se_types : Nat → Int), twl_se_turnArabicNumbers_4 X74 se_count f v1 v2 se_types → tw_rn (tw_YC l D ad cI cZ) Z Post 4 [some (.inr 19), some (.inl v1), some (.inl v2), none] [] (tw_mC pa_kinds pa_groups pa_widths pa_pairs pa_size pa_base ma_others ma_waiting le_types le_partners le_resolved le_ofParagraph ex_levels ex_types ex_entryLevels ex_entryOverrides ex_entryIsolates ex_last ex_lostIsolates ex_lostEmbeddings ex_openIsolates se_places se_types se_marks se_count se_embedding se_beginning se_end br_partners br_list fi_breaks fi_starts fi_extents fi_count fi_groups sh_levels sh_order tl_measure tl_stale) := by
  intro f
  induction f with
  | zero => intro v1 v2 se_types h; rw [twl_se_turnArabicNumbers_4] at h; exact h.elim
  | succ f ih =>
    intro v1 v2 se_types h
    rw [twl_se_turnArabicNumbers_4] at h
    refine tw_iload_n hX twd_se_turnArabicNumbers_4 rfl rfl ?_
    refine tw_aload_n hX twd_se_turnArabicNumbers_5 rfl rfl ?_
    refine tw_get (kf := 3) hX twd_se_turnArabicNumbers_6 twin_se rfl (by decide) tww_211 rfl rfl rfl ?_
    refine tw_icmp_ge hX twd_se_turnArabicNumbers_9 rfl (fun q20 => ?_) (fun q20 => ?_)
    · have h := h.1 q20
      refine tw_wk (L' := [none, none, none, none]) (tw_le_n (tw_le_n (tw_le_n (tw_le_n tw_le_0)))) ?_
      exact hX74 _ h
    · have h := h.2 q20
      refine tw_aload_n hX twd_se_turnArabicNumbers_12 rfl rfl ?_
      refine tw_get (kf := 1) hX twd_se_turnArabicNumbers_13 twin_se rfl (by decide) tww_206 rfl rfl rfl ?_
      refine tw_iload_n hX twd_se_turnArabicNumbers_16 rfl rfl ?_
      obtain ⟨c1, h⟩ := h
      refine tw_iaload hX twd_se_turnArabicNumbers_17 rfl c1 ?_
      refine tw_istore_n (L' := [some (.inr 19), some (.inl v1), some (.inl v2), some (.inl (se_types (Int.toNat v2)))]) hX twd_se_turnArabicNumbers_18 rfl (by decide) rfl ?_
      refine tw_iload_n hX twd_se_turnArabicNumbers_19 rfl rfl ?_
      have h := h (fun (x2 : Int) (x3 : Int) => tw_rn (tw_YC l D ad cI cZ) Z Post 35 [some (.inr 19), some (.inl x2), some (.inl v2), some (.inl x3)] [] (tw_mC pa_kinds pa_groups pa_widths pa_pairs pa_size pa_base ma_others ma_waiting le_types le_partners le_resolved le_ofParagraph ex_levels ex_types ex_entryLevels ex_entryOverrides ex_entryIsolates ex_last ex_lostIsolates ex_lostEmbeddings ex_openIsolates se_places se_types se_marks se_count se_embedding se_beginning se_end br_partners br_list fi_breaks fi_starts fi_extents fi_count fi_groups sh_levels sh_order tl_measure tl_stale)) (by
        intro x2 x3 h
        refine tw_iload_n hX twd_se_turnArabicNumbers_35 rfl rfl ?_
        refine tw_iconst hX twd_se_turnArabicNumbers_36 ⟨by decide, by decide⟩ ?_
        have h := h (fun (x_5_se_types : Nat → Int) => tw_rn (tw_YC l D ad cI cZ) Z Post 68 [some (.inr 19), some (.inl x2), some (.inl v2), none] [] (tw_mC pa_kinds pa_groups pa_widths pa_pairs pa_size pa_base ma_others ma_waiting le_types le_partners le_resolved le_ofParagraph ex_levels ex_types ex_entryLevels ex_entryOverrides ex_entryIsolates ex_last ex_lostIsolates ex_lostEmbeddings ex_openIsolates se_places x_5_se_types se_marks se_count se_embedding se_beginning se_end br_partners br_list fi_breaks fi_starts fi_extents fi_count fi_groups sh_levels sh_order tl_measure tl_stale)) (by
          intro x_5_se_types h
          obtain ⟨c7, h⟩ := h
          refine tw_iinc (L' := [some (.inr 19), some (.inl x2), some (.inl (v2 + 1)), none]) hX twd_se_turnArabicNumbers_68 rfl (by decide) c7 rfl ?_
          refine tw_goto hX twd_se_turnArabicNumbers_71 rfl ?_
          exact ih _ _ _ h)
        have h := h (fun (x_8_se_types : Nat → Int) => tw_rn (tw_YC l D ad cI cZ) Z Post 56 [some (.inr 19), some (.inl x2), some (.inl v2), some (.inl x3)] [] (tw_mC pa_kinds pa_groups pa_widths pa_pairs pa_size pa_base ma_others ma_waiting le_types le_partners le_resolved le_ofParagraph ex_levels ex_types ex_entryLevels ex_entryOverrides ex_entryIsolates ex_last ex_lostIsolates ex_lostEmbeddings ex_openIsolates se_places x_8_se_types se_marks se_count se_embedding se_beginning se_end br_partners br_list fi_breaks fi_starts fi_extents fi_count fi_groups sh_levels sh_order tl_measure tl_stale)) (by
          intro x_8_se_types h
          refine tw_iload_n hX twd_se_turnArabicNumbers_56 rfl rfl ?_
          refine tw_iconst hX twd_se_turnArabicNumbers_57 ⟨by decide, by decide⟩ ?_
          refine tw_icmp_ne hX twd_se_turnArabicNumbers_58 rfl (fun q11 => ?_) (fun q11 => ?_)
          · have h := h.2 q11
            refine tw_wk (L' := [some (.inr 19), some (.inl x2), some (.inl v2), none]) (tw_le_s (tw_le_s (tw_le_s (tw_le_n tw_le_0)))) ?_
            exact h
          · have h := h.1 q11
            refine tw_aload_n hX twd_se_turnArabicNumbers_61 rfl rfl ?_
            refine tw_get (kf := 1) hX twd_se_turnArabicNumbers_62 twin_se rfl (by decide) tww_206 rfl rfl rfl ?_
            refine tw_iload_n hX twd_se_turnArabicNumbers_65 rfl rfl ?_
            refine tw_iconst hX twd_se_turnArabicNumbers_66 ⟨by decide, by decide⟩ ?_
            obtain ⟨c10, h⟩ := h
            refine tw_iastore (mem' := (tw_mC pa_kinds pa_groups pa_widths pa_pairs pa_size pa_base ma_others ma_waiting le_types le_partners le_resolved le_ofParagraph ex_levels ex_types ex_entryLevels ex_entryOverrides ex_entryIsolates ex_last ex_lostIsolates ex_lostEmbeddings ex_openIsolates se_places (tw_up x_8_se_types (Int.toNat v2) 1) se_marks se_count se_embedding se_beginning se_end br_partners br_list fi_breaks fi_starts fi_extents fi_count fi_groups sh_levels sh_order tl_measure tl_stale)) hX twd_se_turnArabicNumbers_67 rfl c10 rfl ?_
            refine tw_wk (L' := [some (.inr 19), some (.inl x2), some (.inl v2), none]) (tw_le_s (tw_le_s (tw_le_s (tw_le_n tw_le_0)))) ?_
            exact h)
        refine tw_icmp_ne hX twd_se_turnArabicNumbers_37 rfl (fun q14 => ?_) (fun q14 => ?_)
        · have h := h.2 q14
          exact h
        · have h := h.1 q14
          refine tw_iload_n hX twd_se_turnArabicNumbers_40 rfl rfl ?_
          refine tw_iconst hX twd_se_turnArabicNumbers_41 ⟨by decide, by decide⟩ ?_
          refine tw_icmp_ne hX twd_se_turnArabicNumbers_42 rfl (fun q13 => ?_) (fun q13 => ?_)
          · have h := h.2 q13
            exact h
          · have h := h.1 q13
            refine tw_aload_n hX twd_se_turnArabicNumbers_45 rfl rfl ?_
            refine tw_get (kf := 1) hX twd_se_turnArabicNumbers_46 twin_se rfl (by decide) tww_206 rfl rfl rfl ?_
            refine tw_iload_n hX twd_se_turnArabicNumbers_49 rfl rfl ?_
            refine tw_bipush hX twd_se_turnArabicNumbers_50 (by decide +kernel) ⟨by decide, by decide⟩ ?_
            obtain ⟨c12, h⟩ := h
            refine tw_iastore (mem' := (tw_mC pa_kinds pa_groups pa_widths pa_pairs pa_size pa_base ma_others ma_waiting le_types le_partners le_resolved le_ofParagraph ex_levels ex_types ex_entryLevels ex_entryOverrides ex_entryIsolates ex_last ex_lostIsolates ex_lostEmbeddings ex_openIsolates se_places (tw_up se_types (Int.toNat v2) 6) se_marks se_count se_embedding se_beginning se_end br_partners br_list fi_breaks fi_starts fi_extents fi_count fi_groups sh_levels sh_order tl_measure tl_stale)) hX twd_se_turnArabicNumbers_52 rfl c12 rfl ?_
            refine tw_goto hX twd_se_turnArabicNumbers_53 rfl ?_
            refine tw_wk (L' := [some (.inr 19), some (.inl x2), some (.inl v2), none]) (tw_le_s (tw_le_s (tw_le_s (tw_le_n tw_le_0)))) ?_
            exact h)
      have h := h (fun (x15 : Int) => tw_rn (tw_YC l D ad cI cZ) Z Post 33 [some (.inr 19), none, some (.inl v2), some (.inl x15)] [] (tw_mC pa_kinds pa_groups pa_widths pa_pairs pa_size pa_base ma_others ma_waiting le_types le_partners le_resolved le_ofParagraph ex_levels ex_types ex_entryLevels ex_entryOverrides ex_entryIsolates ex_last ex_lostIsolates ex_lostEmbeddings ex_openIsolates se_places se_types se_marks se_count se_embedding se_beginning se_end br_partners br_list fi_breaks fi_starts fi_extents fi_count fi_groups sh_levels sh_order tl_measure tl_stale)) (by
        intro x15 h
        refine tw_iload_n hX twd_se_turnArabicNumbers_33 rfl rfl ?_
        refine tw_istore_n (L' := [some (.inr 19), some (.inl x15), some (.inl v2), some (.inl x15)]) hX twd_se_turnArabicNumbers_34 rfl (by decide) rfl ?_
        exact h)
      refine tw_if_eq hX twd_se_turnArabicNumbers_20 rfl (fun q19 => ?_) (fun q19 => ?_)
      · have h := h.1 q19
        refine tw_wk (L' := [some (.inr 19), none, some (.inl v2), some (.inl (se_types (Int.toNat v2)))]) (tw_le_s (tw_le_n (tw_le_s (tw_le_s tw_le_0)))) ?_
        exact h
      · have h := h.2 q19
        refine tw_iload_n hX twd_se_turnArabicNumbers_23 rfl rfl ?_
        refine tw_iconst hX twd_se_turnArabicNumbers_24 ⟨by decide, by decide⟩ ?_
        refine tw_icmp_eq hX twd_se_turnArabicNumbers_25 rfl (fun q18 => ?_) (fun q18 => ?_)
        · have h := h.1 q18
          refine tw_wk (L' := [some (.inr 19), none, some (.inl v2), some (.inl (se_types (Int.toNat v2)))]) (tw_le_s (tw_le_n (tw_le_s (tw_le_s tw_le_0)))) ?_
          exact h
        · have h := h.2 q18
          refine tw_iload_n hX twd_se_turnArabicNumbers_28 rfl rfl ?_
          refine tw_iconst hX twd_se_turnArabicNumbers_29 ⟨by decide, by decide⟩ ?_
          refine tw_icmp_ne hX twd_se_turnArabicNumbers_30 rfl (fun q17 => ?_) (fun q17 => ?_)
          · have h := h.2 q17
            exact h
          · have h := h.1 q17
            refine tw_wk (L' := [some (.inr 19), none, some (.inl v2), some (.inl (se_types (Int.toNat v2)))]) (tw_le_s (tw_le_n (tw_le_s (tw_le_s tw_le_0)))) ?_
            exact h
def tww_se_turnArabicNumbers (se_types : Nat → Int) (se_count : Int) (K : (Nat → Int) → Prop) : Prop :=
  (∃ f22 : Nat, twl_se_turnArabicNumbers_4 (fun (y21_se_types : Nat → Int) =>
  K y21_se_types) se_count f22 (-1) 0 se_types)
set_option maxRecDepth 100000 in
set_option maxHeartbeats 4000000 in
theorem twc_se_turnArabicNumbers {l : Launch} {D : va_G} {ad : Nat → Nat} {cI cZ : ClassId} {Post : tw_P} {K : (Nat → Int) → Prop} {pa_size pa_base le_ofParagraph ex_last ex_lostIsolates ex_lostEmbeddings ex_openIsolates se_count se_embedding se_beginning se_end fi_count tl_measure tl_stale : Int} {pa_kinds pa_groups pa_widths pa_pairs ma_others ma_waiting le_types le_partners le_resolved ex_levels ex_types ex_entryLevels ex_entryOverrides ex_entryIsolates se_places se_types se_marks br_partners br_list fi_breaks fi_starts fi_extents fi_groups sh_levels sh_order : Nat → Int} (h : tww_se_turnArabicNumbers se_types se_count K) (hK : ∀ (n_se_types : Nat → Int), K n_se_types → Post none (tw_mC pa_kinds pa_groups pa_widths pa_pairs pa_size pa_base ma_others ma_waiting le_types le_partners le_resolved le_ofParagraph ex_levels ex_types ex_entryLevels ex_entryOverrides ex_entryIsolates ex_last ex_lostIsolates ex_lostEmbeddings ex_openIsolates se_places n_se_types se_marks se_count se_embedding se_beginning se_end br_partners br_list fi_breaks fi_starts fi_extents fi_count fi_groups sh_levels sh_order tl_measure tl_stale)) : tw_ct (tw_YC l D ad cI cZ) twy_se_turnArabicNumbers (Cond.code twy_se_turnArabicNumbers prog_8_method_5_code 4 none :: tw_Wg) 0 [.inr 19] (tw_mC pa_kinds pa_groups pa_widths pa_pairs pa_size pa_base ma_others ma_waiting le_types le_partners le_resolved le_ofParagraph ex_levels ex_types ex_entryLevels ex_entryOverrides ex_entryIsolates ex_last ex_lostIsolates ex_lostEmbeddings ex_openIsolates se_places se_types se_marks se_count se_embedding se_beginning se_end br_partners br_list fi_breaks fi_starts fi_extents fi_count fi_groups sh_levels sh_order tl_measure tl_stale) Post := by
  refine tw_of (own := twR_se) (L0 := [some (.inr 19), none, none, none]) (by decide) rfl rfl (Nat.le_of_ble_eq_true rfl) (fun Z hX => ?_)
  unfold tww_se_turnArabicNumbers at h
  refine tw_iconst hX twd_se_turnArabicNumbers_0 ⟨by decide, by decide⟩ ?_
  refine tw_istore_n (L' := [some (.inr 19), some (.inl (-1)), none, none]) hX twd_se_turnArabicNumbers_1 rfl (by decide) rfl ?_
  refine tw_iconst hX twd_se_turnArabicNumbers_2 ⟨by decide, by decide⟩ ?_
  refine tw_istore_n (L' := [some (.inr 19), some (.inl (-1)), some (.inl 0), none]) hX twd_se_turnArabicNumbers_3 rfl (by decide) rfl ?_
  obtain ⟨f22, h⟩ := h
  refine twt_se_turnArabicNumbers_4 hX (fun y21_se_types h => ?_) f22 _ _ _ h
  exact tw_vret hX twd_se_turnArabicNumbers_74 (hK _ h)
def twl_se_turnSeparators_2 (X96 : (Nat → Int) → Prop) (se_count : Int) : Nat → Int → (Nat → Int) → Prop
  | 0, _, _ => False
  | f + 1, v1, se_types =>
    (tw_rg (se_count - 1)) ∧ (((se_count - 1) ≤ v1 →
    X96 se_types) ∧
    (¬ (se_count - 1) ≤ v1 →
    (tw_rg (v1 - 1)) ∧ (0 ≤ (v1 - 1) ∧ (v1 - 1) < 64) ∧ (tw_rg (v1 + 1)) ∧ (0 ≤ (v1 + 1) ∧ (v1 + 1) < 64) ∧ ((((se_types (Int.toNat (v1 - 1))) = (se_types (Int.toNat (v1 + 1))) → ((0 ≤ v1 ∧ v1 < 64) ∧ (((se_types (Int.toNat v1)) = 4 → ((((se_types (Int.toNat (v1 - 1))) = 3 → ((0 ≤ v1 ∧ v1 < 64))) ∧ (¬ (se_types (Int.toNat (v1 - 1))) = 3 → ((0 ≤ v1 ∧ v1 < 64) ∧ ((se_types (Int.toNat v1)) = 7 → ((((se_types (Int.toNat (v1 - 1))) = 3 → ((0 ≤ v1 ∧ v1 < 64))) ∧ (¬ (se_types (Int.toNat (v1 - 1))) = 3 → (((se_types (Int.toNat (v1 - 1))) = 6 → ((0 ≤ v1 ∧ v1 < 64))))))))))))) ∧ (¬ (se_types (Int.toNat v1)) = 4 → ((0 ≤ v1 ∧ v1 < 64) ∧ ((se_types (Int.toNat v1)) = 7 → ((((se_types (Int.toNat (v1 - 1))) = 3 → ((0 ≤ v1 ∧ v1 < 64))) ∧ (¬ (se_types (Int.toNat (v1 - 1))) = 3 → (((se_types (Int.toNat (v1 - 1))) = 6 → ((0 ≤ v1 ∧ v1 < 64)))))))))))))) ∧
      (∀ x_23_se_types : Nat → Int, x_23_se_types = (if (se_types (Int.toNat (v1 - 1))) = (se_types (Int.toNat (v1 + 1))) then (if (se_types (Int.toNat v1)) = 4 then (if (se_types (Int.toNat (v1 - 1))) = 3 then (tw_up se_types (Int.toNat v1) (se_types (Int.toNat (v1 - 1)))) else (if (se_types (Int.toNat v1)) = 7 then (if (se_types (Int.toNat (v1 - 1))) = 3 then (tw_up se_types (Int.toNat v1) (se_types (Int.toNat (v1 - 1)))) else (if (se_types (Int.toNat (v1 - 1))) = 6 then (tw_up se_types (Int.toNat v1) (se_types (Int.toNat (v1 - 1)))) else se_types)) else se_types)) else (if (se_types (Int.toNat v1)) = 7 then (if (se_types (Int.toNat (v1 - 1))) = 3 then (tw_up se_types (Int.toNat v1) (se_types (Int.toNat (v1 - 1)))) else (if (se_types (Int.toNat (v1 - 1))) = 6 then (tw_up se_types (Int.toNat v1) (se_types (Int.toNat (v1 - 1)))) else se_types)) else se_types)) else se_types) →
      (tw_rg (v1 + 1)) ∧ twl_se_turnSeparators_2 X96 se_count f (v1 + 1) x_23_se_types))))
set_option maxRecDepth 100000 in
set_option maxHeartbeats 4000000 in
theorem twt_se_turnSeparators_2 {l : Launch} {D : va_G} {ad : Nat → Nat} {cI cZ : ClassId} {Z : tw_Z} {Post : tw_P} {X96 : (Nat → Int) → Prop} {pa_size pa_base le_ofParagraph ex_last ex_lostIsolates ex_lostEmbeddings ex_openIsolates se_count se_embedding se_beginning se_end fi_count tl_measure tl_stale : Int} {pa_kinds pa_groups pa_widths pa_pairs ma_others ma_waiting le_types le_partners le_resolved ex_levels ex_types ex_entryLevels ex_entryOverrides ex_entryIsolates se_places se_marks br_partners br_list fi_breaks fi_starts fi_extents fi_groups sh_levels sh_order : Nat → Int} (hX : tw_cx (tw_YC l D ad cI cZ) Z prog_8_method_6_code twR_se tw_Wg none 0 4) (hX96 : ∀ (se_types : Nat → Int), X96 se_types → tw_rn (tw_YC l D ad cI cZ) Z Post 96 [none, none, none, none] [] (tw_mC pa_kinds pa_groups pa_widths pa_pairs pa_size pa_base ma_others ma_waiting le_types le_partners le_resolved le_ofParagraph ex_levels ex_types ex_entryLevels ex_entryOverrides ex_entryIsolates ex_last ex_lostIsolates ex_lostEmbeddings ex_openIsolates se_places se_types se_marks se_count se_embedding se_beginning se_end br_partners br_list fi_breaks fi_starts fi_extents fi_count fi_groups sh_levels sh_order tl_measure tl_stale)) : ∀ (f : Nat) (v1 : Int) (se_types : Nat → Int), twl_se_turnSeparators_2 X96 se_count f v1 se_types → tw_rn (tw_YC l D ad cI cZ) Z Post 2 [some (.inr 19), some (.inl v1), none, none] [] (tw_mC pa_kinds pa_groups pa_widths pa_pairs pa_size pa_base ma_others ma_waiting le_types le_partners le_resolved le_ofParagraph ex_levels ex_types ex_entryLevels ex_entryOverrides ex_entryIsolates ex_last ex_lostIsolates ex_lostEmbeddings ex_openIsolates se_places se_types se_marks se_count se_embedding se_beginning se_end br_partners br_list fi_breaks fi_starts fi_extents fi_count fi_groups sh_levels sh_order tl_measure tl_stale) := by
  intro f
  induction f with
  | zero => intro v1 se_types h; rw [twl_se_turnSeparators_2] at h; exact h.elim
  | succ f ih =>
    intro v1 se_types h
    rw [twl_se_turnSeparators_2] at h
    refine tw_iload_n hX twd_se_turnSeparators_2 rfl rfl ?_
    refine tw_aload_n hX twd_se_turnSeparators_3 rfl rfl ?_
    refine tw_get (kf := 3) hX twd_se_turnSeparators_4 twin_se rfl (by decide) tww_211 rfl rfl rfl ?_
    refine tw_iconst hX twd_se_turnSeparators_7 ⟨by decide, by decide⟩ ?_
    obtain ⟨c1, h⟩ := h
    refine tw_isub hX twd_se_turnSeparators_8 c1 ?_
    refine tw_icmp_ge hX twd_se_turnSeparators_9 rfl (fun q37 => ?_) (fun q37 => ?_)
    · have h := h.1 q37
      refine tw_wk (L' := [none, none, none, none]) (tw_le_n (tw_le_n (tw_le_n (tw_le_n tw_le_0)))) ?_
      exact hX96 _ h
    · have h := h.2 q37
      refine tw_aload_n hX twd_se_turnSeparators_12 rfl rfl ?_
      refine tw_get (kf := 1) hX twd_se_turnSeparators_13 twin_se rfl (by decide) tww_206 rfl rfl rfl ?_
      refine tw_iload_n hX twd_se_turnSeparators_16 rfl rfl ?_
      refine tw_iconst hX twd_se_turnSeparators_17 ⟨by decide, by decide⟩ ?_
      obtain ⟨c2, h⟩ := h
      refine tw_isub hX twd_se_turnSeparators_18 c2 ?_
      obtain ⟨c3, h⟩ := h
      refine tw_iaload hX twd_se_turnSeparators_19 rfl c3 ?_
      refine tw_istore_n (L' := [some (.inr 19), some (.inl v1), some (.inl (se_types (Int.toNat (v1 - 1)))), none]) hX twd_se_turnSeparators_20 rfl (by decide) rfl ?_
      refine tw_iload_n hX twd_se_turnSeparators_21 rfl rfl ?_
      refine tw_aload_n hX twd_se_turnSeparators_22 rfl rfl ?_
      refine tw_get (kf := 1) hX twd_se_turnSeparators_23 twin_se rfl (by decide) tww_206 rfl rfl rfl ?_
      refine tw_iload_n hX twd_se_turnSeparators_26 rfl rfl ?_
      refine tw_iconst hX twd_se_turnSeparators_27 ⟨by decide, by decide⟩ ?_
      obtain ⟨c4, h⟩ := h
      refine tw_iadd hX twd_se_turnSeparators_28 c4 ?_
      obtain ⟨c5, h⟩ := h
      refine tw_iaload hX twd_se_turnSeparators_29 rfl c5 ?_
      obtain ⟨o25, h⟩ := h
      have j26 : ∀ x_23_se_types : Nat → Int, x_23_se_types = (if (se_types (Int.toNat (v1 - 1))) = (se_types (Int.toNat (v1 + 1))) then (if (se_types (Int.toNat v1)) = 4 then (if (se_types (Int.toNat (v1 - 1))) = 3 then (tw_up se_types (Int.toNat v1) (se_types (Int.toNat (v1 - 1)))) else (if (se_types (Int.toNat v1)) = 7 then (if (se_types (Int.toNat (v1 - 1))) = 3 then (tw_up se_types (Int.toNat v1) (se_types (Int.toNat (v1 - 1)))) else (if (se_types (Int.toNat (v1 - 1))) = 6 then (tw_up se_types (Int.toNat v1) (se_types (Int.toNat (v1 - 1)))) else se_types)) else se_types)) else (if (se_types (Int.toNat v1)) = 7 then (if (se_types (Int.toNat (v1 - 1))) = 3 then (tw_up se_types (Int.toNat v1) (se_types (Int.toNat (v1 - 1)))) else (if (se_types (Int.toNat (v1 - 1))) = 6 then (tw_up se_types (Int.toNat v1) (se_types (Int.toNat (v1 - 1)))) else se_types)) else se_types)) else se_types) → tw_rn (tw_YC l D ad cI cZ) Z Post 90 [some (.inr 19), some (.inl v1), none, none] [] (tw_mC pa_kinds pa_groups pa_widths pa_pairs pa_size pa_base ma_others ma_waiting le_types le_partners le_resolved le_ofParagraph ex_levels ex_types ex_entryLevels ex_entryOverrides ex_entryIsolates ex_last ex_lostIsolates ex_lostEmbeddings ex_openIsolates se_places x_23_se_types se_marks se_count se_embedding se_beginning se_end br_partners br_list fi_breaks fi_starts fi_extents fi_count fi_groups sh_levels sh_order tl_measure tl_stale) := by
        intro x_23_se_types e27
        have h := h x_23_se_types e27
        obtain ⟨c24, h⟩ := h
        refine tw_iinc (L' := [some (.inr 19), some (.inl (v1 + 1)), none, none]) hX twd_se_turnSeparators_90 rfl (by decide) c24 rfl ?_
        refine tw_goto hX twd_se_turnSeparators_93 rfl ?_
        exact ih _ _ h
      refine tw_icmp_eq hX twd_se_turnSeparators_30 rfl (fun q28 => ?_) (fun q28 => ?_)
      · have _tw := trivial
        have o25 := o25 q28
        refine tw_aload_n hX twd_se_turnSeparators_36 rfl rfl ?_
        refine tw_get (kf := 1) hX twd_se_turnSeparators_37 twin_se rfl (by decide) tww_206 rfl rfl rfl ?_
        refine tw_iload_n hX twd_se_turnSeparators_40 rfl rfl ?_
        obtain ⟨c6, o25⟩ := o25
        refine tw_iaload hX twd_se_turnSeparators_41 rfl c6 ?_
        refine tw_iconst hX twd_se_turnSeparators_42 ⟨by decide, by decide⟩ ?_
        refine tw_icmp_ne hX twd_se_turnSeparators_43 rfl (fun q29 => ?_) (fun q29 => ?_)
        · have _tw := trivial
          have o25 := o25.2 q29
          refine tw_aload_n hX twd_se_turnSeparators_51 rfl rfl ?_
          refine tw_get (kf := 1) hX twd_se_turnSeparators_52 twin_se rfl (by decide) tww_206 rfl rfl rfl ?_
          refine tw_iload_n hX twd_se_turnSeparators_55 rfl rfl ?_
          obtain ⟨c7, o25⟩ := o25
          refine tw_iaload hX twd_se_turnSeparators_56 rfl c7 ?_
          refine tw_bipush hX twd_se_turnSeparators_57 (by decide +kernel) ⟨by decide, by decide⟩ ?_
          refine tw_icmp_ne hX twd_se_turnSeparators_59 rfl (fun q30 => ?_) (fun q30 => ?_)
          · have _tw := trivial
            refine tw_iconst hX twd_se_turnSeparators_77 ⟨by decide, by decide⟩ ?_
            refine tw_istore_n (L' := [some (.inr 19), some (.inl v1), some (.inl (se_types (Int.toNat (v1 - 1)))), some (.inl 0)]) hX twd_se_turnSeparators_78 rfl (by decide) rfl ?_
            refine tw_iload_n hX twd_se_turnSeparators_79 rfl rfl ?_
            refine tw_if_eq hX twd_se_turnSeparators_80 rfl (fun _ => ?_) (fun q8 => absurd q8 (by decide))
            refine tw_wk (L' := [some (.inr 19), some (.inl v1), none, none]) (tw_le_s (tw_le_s (tw_le_n (tw_le_n tw_le_0)))) ?_
            exact j26 _ (Eq.symm (Eq.trans (if_pos q28) (Eq.trans (if_neg q29) (if_neg q30))))
          · have _tw := trivial
            have o25 := o25 q30
            refine tw_iload_n hX twd_se_turnSeparators_62 rfl rfl ?_
            refine tw_iconst hX twd_se_turnSeparators_63 ⟨by decide, by decide⟩ ?_
            refine tw_icmp_eq hX twd_se_turnSeparators_64 rfl (fun q31 => ?_) (fun q31 => ?_)
            · have _tw := trivial
              have o25 := o25.1 q31
              refine tw_iconst hX twd_se_turnSeparators_73 ⟨by decide, by decide⟩ ?_
              refine tw_goto hX twd_se_turnSeparators_74 rfl ?_
              refine tw_istore_n (L' := [some (.inr 19), some (.inl v1), some (.inl (se_types (Int.toNat (v1 - 1)))), some (.inl 1)]) hX twd_se_turnSeparators_78 rfl (by decide) rfl ?_
              refine tw_iload_n hX twd_se_turnSeparators_79 rfl rfl ?_
              refine tw_if_eq hX twd_se_turnSeparators_80 rfl (fun q9 => absurd q9 (by decide)) (fun _ => ?_)
              refine tw_aload_n hX twd_se_turnSeparators_83 rfl rfl ?_
              refine tw_get (kf := 1) hX twd_se_turnSeparators_84 twin_se rfl (by decide) tww_206 rfl rfl rfl ?_
              refine tw_iload_n hX twd_se_turnSeparators_87 rfl rfl ?_
              refine tw_iload_n hX twd_se_turnSeparators_88 rfl rfl ?_
              have c10 := o25
              refine tw_iastore (mem' := (tw_mC pa_kinds pa_groups pa_widths pa_pairs pa_size pa_base ma_others ma_waiting le_types le_partners le_resolved le_ofParagraph ex_levels ex_types ex_entryLevels ex_entryOverrides ex_entryIsolates ex_last ex_lostIsolates ex_lostEmbeddings ex_openIsolates se_places (tw_up se_types (Int.toNat v1) (se_types (Int.toNat (v1 - 1)))) se_marks se_count se_embedding se_beginning se_end br_partners br_list fi_breaks fi_starts fi_extents fi_count fi_groups sh_levels sh_order tl_measure tl_stale)) hX twd_se_turnSeparators_89 rfl c10 rfl ?_
              refine tw_wk (L' := [some (.inr 19), some (.inl v1), none, none]) (tw_le_s (tw_le_s (tw_le_n (tw_le_n tw_le_0)))) ?_
              exact j26 _ (Eq.symm (Eq.trans (if_pos q28) (Eq.trans (if_neg q29) (Eq.trans (if_pos q30) (if_pos q31)))))
            · have _tw := trivial
              have o25 := o25.2 q31
              refine tw_iload_n hX twd_se_turnSeparators_67 rfl rfl ?_
              refine tw_bipush hX twd_se_turnSeparators_68 (by decide +kernel) ⟨by decide, by decide⟩ ?_
              refine tw_icmp_ne hX twd_se_turnSeparators_70 rfl (fun q32 => ?_) (fun q32 => ?_)
              · have _tw := trivial
                refine tw_iconst hX twd_se_turnSeparators_77 ⟨by decide, by decide⟩ ?_
                refine tw_istore_n (L' := [some (.inr 19), some (.inl v1), some (.inl (se_types (Int.toNat (v1 - 1)))), some (.inl 0)]) hX twd_se_turnSeparators_78 rfl (by decide) rfl ?_
                refine tw_iload_n hX twd_se_turnSeparators_79 rfl rfl ?_
                refine tw_if_eq hX twd_se_turnSeparators_80 rfl (fun _ => ?_) (fun q11 => absurd q11 (by decide))
                refine tw_wk (L' := [some (.inr 19), some (.inl v1), none, none]) (tw_le_s (tw_le_s (tw_le_n (tw_le_n tw_le_0)))) ?_
                exact j26 _ (Eq.symm (Eq.trans (if_pos q28) (Eq.trans (if_neg q29) (Eq.trans (if_pos q30) (Eq.trans (if_neg q31) (if_neg q32))))))
              · have _tw := trivial
                have o25 := o25 q32
                refine tw_iconst hX twd_se_turnSeparators_73 ⟨by decide, by decide⟩ ?_
                refine tw_goto hX twd_se_turnSeparators_74 rfl ?_
                refine tw_istore_n (L' := [some (.inr 19), some (.inl v1), some (.inl (se_types (Int.toNat (v1 - 1)))), some (.inl 1)]) hX twd_se_turnSeparators_78 rfl (by decide) rfl ?_
                refine tw_iload_n hX twd_se_turnSeparators_79 rfl rfl ?_
                refine tw_if_eq hX twd_se_turnSeparators_80 rfl (fun q12 => absurd q12 (by decide)) (fun _ => ?_)
                refine tw_aload_n hX twd_se_turnSeparators_83 rfl rfl ?_
                refine tw_get (kf := 1) hX twd_se_turnSeparators_84 twin_se rfl (by decide) tww_206 rfl rfl rfl ?_
                refine tw_iload_n hX twd_se_turnSeparators_87 rfl rfl ?_
                refine tw_iload_n hX twd_se_turnSeparators_88 rfl rfl ?_
                have c13 := o25
                refine tw_iastore (mem' := (tw_mC pa_kinds pa_groups pa_widths pa_pairs pa_size pa_base ma_others ma_waiting le_types le_partners le_resolved le_ofParagraph ex_levels ex_types ex_entryLevels ex_entryOverrides ex_entryIsolates ex_last ex_lostIsolates ex_lostEmbeddings ex_openIsolates se_places (tw_up se_types (Int.toNat v1) (se_types (Int.toNat (v1 - 1)))) se_marks se_count se_embedding se_beginning se_end br_partners br_list fi_breaks fi_starts fi_extents fi_count fi_groups sh_levels sh_order tl_measure tl_stale)) hX twd_se_turnSeparators_89 rfl c13 rfl ?_
                refine tw_wk (L' := [some (.inr 19), some (.inl v1), none, none]) (tw_le_s (tw_le_s (tw_le_n (tw_le_n tw_le_0)))) ?_
                exact j26 _ (Eq.symm (Eq.trans (if_pos q28) (Eq.trans (if_neg q29) (Eq.trans (if_pos q30) (Eq.trans (if_neg q31) (if_pos q32))))))
        · have _tw := trivial
          have o25 := o25.1 q29
          refine tw_iload_n hX twd_se_turnSeparators_46 rfl rfl ?_
          refine tw_iconst hX twd_se_turnSeparators_47 ⟨by decide, by decide⟩ ?_
          refine tw_icmp_eq hX twd_se_turnSeparators_48 rfl (fun q33 => ?_) (fun q33 => ?_)
          · have _tw := trivial
            have o25 := o25.1 q33
            refine tw_iconst hX twd_se_turnSeparators_73 ⟨by decide, by decide⟩ ?_
            refine tw_goto hX twd_se_turnSeparators_74 rfl ?_
            refine tw_istore_n (L' := [some (.inr 19), some (.inl v1), some (.inl (se_types (Int.toNat (v1 - 1)))), some (.inl 1)]) hX twd_se_turnSeparators_78 rfl (by decide) rfl ?_
            refine tw_iload_n hX twd_se_turnSeparators_79 rfl rfl ?_
            refine tw_if_eq hX twd_se_turnSeparators_80 rfl (fun q14 => absurd q14 (by decide)) (fun _ => ?_)
            refine tw_aload_n hX twd_se_turnSeparators_83 rfl rfl ?_
            refine tw_get (kf := 1) hX twd_se_turnSeparators_84 twin_se rfl (by decide) tww_206 rfl rfl rfl ?_
            refine tw_iload_n hX twd_se_turnSeparators_87 rfl rfl ?_
            refine tw_iload_n hX twd_se_turnSeparators_88 rfl rfl ?_
            have c15 := o25
            refine tw_iastore (mem' := (tw_mC pa_kinds pa_groups pa_widths pa_pairs pa_size pa_base ma_others ma_waiting le_types le_partners le_resolved le_ofParagraph ex_levels ex_types ex_entryLevels ex_entryOverrides ex_entryIsolates ex_last ex_lostIsolates ex_lostEmbeddings ex_openIsolates se_places (tw_up se_types (Int.toNat v1) (se_types (Int.toNat (v1 - 1)))) se_marks se_count se_embedding se_beginning se_end br_partners br_list fi_breaks fi_starts fi_extents fi_count fi_groups sh_levels sh_order tl_measure tl_stale)) hX twd_se_turnSeparators_89 rfl c15 rfl ?_
            refine tw_wk (L' := [some (.inr 19), some (.inl v1), none, none]) (tw_le_s (tw_le_s (tw_le_n (tw_le_n tw_le_0)))) ?_
            exact j26 _ (Eq.symm (Eq.trans (if_pos q28) (Eq.trans (if_pos q29) (if_pos q33))))
          · have _tw := trivial
            have o25 := o25.2 q33
            refine tw_aload_n hX twd_se_turnSeparators_51 rfl rfl ?_
            refine tw_get (kf := 1) hX twd_se_turnSeparators_52 twin_se rfl (by decide) tww_206 rfl rfl rfl ?_
            refine tw_iload_n hX twd_se_turnSeparators_55 rfl rfl ?_
            obtain ⟨c16, o25⟩ := o25
            refine tw_iaload hX twd_se_turnSeparators_56 rfl c16 ?_
            refine tw_bipush hX twd_se_turnSeparators_57 (by decide +kernel) ⟨by decide, by decide⟩ ?_
            refine tw_icmp_ne hX twd_se_turnSeparators_59 rfl (fun q34 => ?_) (fun q34 => ?_)
            · have _tw := trivial
              refine tw_iconst hX twd_se_turnSeparators_77 ⟨by decide, by decide⟩ ?_
              refine tw_istore_n (L' := [some (.inr 19), some (.inl v1), some (.inl (se_types (Int.toNat (v1 - 1)))), some (.inl 0)]) hX twd_se_turnSeparators_78 rfl (by decide) rfl ?_
              refine tw_iload_n hX twd_se_turnSeparators_79 rfl rfl ?_
              refine tw_if_eq hX twd_se_turnSeparators_80 rfl (fun _ => ?_) (fun q17 => absurd q17 (by decide))
              refine tw_wk (L' := [some (.inr 19), some (.inl v1), none, none]) (tw_le_s (tw_le_s (tw_le_n (tw_le_n tw_le_0)))) ?_
              exact j26 _ (Eq.symm (Eq.trans (if_pos q28) (Eq.trans (if_pos q29) (Eq.trans (if_neg q33) (if_neg q34)))))
            · have _tw := trivial
              have o25 := o25 q34
              refine tw_iload_n hX twd_se_turnSeparators_62 rfl rfl ?_
              refine tw_iconst hX twd_se_turnSeparators_63 ⟨by decide, by decide⟩ ?_
              refine tw_icmp_eq hX twd_se_turnSeparators_64 rfl (fun q35 => ?_) (fun q35 => ?_)
              · have _tw := trivial
                have o25 := o25.1 q35
                refine tw_iconst hX twd_se_turnSeparators_73 ⟨by decide, by decide⟩ ?_
                refine tw_goto hX twd_se_turnSeparators_74 rfl ?_
                refine tw_istore_n (L' := [some (.inr 19), some (.inl v1), some (.inl (se_types (Int.toNat (v1 - 1)))), some (.inl 1)]) hX twd_se_turnSeparators_78 rfl (by decide) rfl ?_
                refine tw_iload_n hX twd_se_turnSeparators_79 rfl rfl ?_
                refine tw_if_eq hX twd_se_turnSeparators_80 rfl (fun q18 => absurd q18 (by decide)) (fun _ => ?_)
                refine tw_aload_n hX twd_se_turnSeparators_83 rfl rfl ?_
                refine tw_get (kf := 1) hX twd_se_turnSeparators_84 twin_se rfl (by decide) tww_206 rfl rfl rfl ?_
                refine tw_iload_n hX twd_se_turnSeparators_87 rfl rfl ?_
                refine tw_iload_n hX twd_se_turnSeparators_88 rfl rfl ?_
                have c19 := o25
                refine tw_iastore (mem' := (tw_mC pa_kinds pa_groups pa_widths pa_pairs pa_size pa_base ma_others ma_waiting le_types le_partners le_resolved le_ofParagraph ex_levels ex_types ex_entryLevels ex_entryOverrides ex_entryIsolates ex_last ex_lostIsolates ex_lostEmbeddings ex_openIsolates se_places (tw_up se_types (Int.toNat v1) (se_types (Int.toNat (v1 - 1)))) se_marks se_count se_embedding se_beginning se_end br_partners br_list fi_breaks fi_starts fi_extents fi_count fi_groups sh_levels sh_order tl_measure tl_stale)) hX twd_se_turnSeparators_89 rfl c19 rfl ?_
                refine tw_wk (L' := [some (.inr 19), some (.inl v1), none, none]) (tw_le_s (tw_le_s (tw_le_n (tw_le_n tw_le_0)))) ?_
                exact j26 _ (Eq.symm (Eq.trans (if_pos q28) (Eq.trans (if_pos q29) (Eq.trans (if_neg q33) (Eq.trans (if_pos q34) (if_pos q35))))))
              · have _tw := trivial
                have o25 := o25.2 q35
                refine tw_iload_n hX twd_se_turnSeparators_67 rfl rfl ?_
                refine tw_bipush hX twd_se_turnSeparators_68 (by decide +kernel) ⟨by decide, by decide⟩ ?_
                refine tw_icmp_ne hX twd_se_turnSeparators_70 rfl (fun q36 => ?_) (fun q36 => ?_)
                · have _tw := trivial
                  refine tw_iconst hX twd_se_turnSeparators_77 ⟨by decide, by decide⟩ ?_
                  refine tw_istore_n (L' := [some (.inr 19), some (.inl v1), some (.inl (se_types (Int.toNat (v1 - 1)))), some (.inl 0)]) hX twd_se_turnSeparators_78 rfl (by decide) rfl ?_
                  refine tw_iload_n hX twd_se_turnSeparators_79 rfl rfl ?_
                  refine tw_if_eq hX twd_se_turnSeparators_80 rfl (fun _ => ?_) (fun q20 => absurd q20 (by decide))
                  refine tw_wk (L' := [some (.inr 19), some (.inl v1), none, none]) (tw_le_s (tw_le_s (tw_le_n (tw_le_n tw_le_0)))) ?_
                  exact j26 _ (Eq.symm (Eq.trans (if_pos q28) (Eq.trans (if_pos q29) (Eq.trans (if_neg q33) (Eq.trans (if_pos q34) (Eq.trans (if_neg q35) (if_neg q36)))))))
                · have _tw := trivial
                  have o25 := o25 q36
                  refine tw_iconst hX twd_se_turnSeparators_73 ⟨by decide, by decide⟩ ?_
                  refine tw_goto hX twd_se_turnSeparators_74 rfl ?_
                  refine tw_istore_n (L' := [some (.inr 19), some (.inl v1), some (.inl (se_types (Int.toNat (v1 - 1)))), some (.inl 1)]) hX twd_se_turnSeparators_78 rfl (by decide) rfl ?_
                  refine tw_iload_n hX twd_se_turnSeparators_79 rfl rfl ?_
                  refine tw_if_eq hX twd_se_turnSeparators_80 rfl (fun q21 => absurd q21 (by decide)) (fun _ => ?_)
                  refine tw_aload_n hX twd_se_turnSeparators_83 rfl rfl ?_
                  refine tw_get (kf := 1) hX twd_se_turnSeparators_84 twin_se rfl (by decide) tww_206 rfl rfl rfl ?_
                  refine tw_iload_n hX twd_se_turnSeparators_87 rfl rfl ?_
                  refine tw_iload_n hX twd_se_turnSeparators_88 rfl rfl ?_
                  have c22 := o25
                  refine tw_iastore (mem' := (tw_mC pa_kinds pa_groups pa_widths pa_pairs pa_size pa_base ma_others ma_waiting le_types le_partners le_resolved le_ofParagraph ex_levels ex_types ex_entryLevels ex_entryOverrides ex_entryIsolates ex_last ex_lostIsolates ex_lostEmbeddings ex_openIsolates se_places (tw_up se_types (Int.toNat v1) (se_types (Int.toNat (v1 - 1)))) se_marks se_count se_embedding se_beginning se_end br_partners br_list fi_breaks fi_starts fi_extents fi_count fi_groups sh_levels sh_order tl_measure tl_stale)) hX twd_se_turnSeparators_89 rfl c22 rfl ?_
                  refine tw_wk (L' := [some (.inr 19), some (.inl v1), none, none]) (tw_le_s (tw_le_s (tw_le_n (tw_le_n tw_le_0)))) ?_
                  exact j26 _ (Eq.symm (Eq.trans (if_pos q28) (Eq.trans (if_pos q29) (Eq.trans (if_neg q33) (Eq.trans (if_pos q34) (Eq.trans (if_neg q35) (if_pos q36)))))))
      · have _tw := trivial
        refine tw_goto hX twd_se_turnSeparators_33 rfl ?_
        refine tw_wk (L' := [some (.inr 19), some (.inl v1), none, none]) (tw_le_s (tw_le_s (tw_le_n (tw_le_n tw_le_0)))) ?_
        exact j26 _ (Eq.symm (if_neg q28))
def tww_se_turnSeparators (se_types : Nat → Int) (se_count : Int) (K : (Nat → Int) → Prop) : Prop :=
  (∃ f39 : Nat, twl_se_turnSeparators_2 (fun (y38_se_types : Nat → Int) =>
  K y38_se_types) se_count f39 1 se_types)
set_option maxRecDepth 100000 in
set_option maxHeartbeats 4000000 in
theorem twc_se_turnSeparators {l : Launch} {D : va_G} {ad : Nat → Nat} {cI cZ : ClassId} {Post : tw_P} {K : (Nat → Int) → Prop} {pa_size pa_base le_ofParagraph ex_last ex_lostIsolates ex_lostEmbeddings ex_openIsolates se_count se_embedding se_beginning se_end fi_count tl_measure tl_stale : Int} {pa_kinds pa_groups pa_widths pa_pairs ma_others ma_waiting le_types le_partners le_resolved ex_levels ex_types ex_entryLevels ex_entryOverrides ex_entryIsolates se_places se_types se_marks br_partners br_list fi_breaks fi_starts fi_extents fi_groups sh_levels sh_order : Nat → Int} (h : tww_se_turnSeparators se_types se_count K) (hK : ∀ (n_se_types : Nat → Int), K n_se_types → Post none (tw_mC pa_kinds pa_groups pa_widths pa_pairs pa_size pa_base ma_others ma_waiting le_types le_partners le_resolved le_ofParagraph ex_levels ex_types ex_entryLevels ex_entryOverrides ex_entryIsolates ex_last ex_lostIsolates ex_lostEmbeddings ex_openIsolates se_places n_se_types se_marks se_count se_embedding se_beginning se_end br_partners br_list fi_breaks fi_starts fi_extents fi_count fi_groups sh_levels sh_order tl_measure tl_stale)) : tw_ct (tw_YC l D ad cI cZ) twy_se_turnSeparators (Cond.code twy_se_turnSeparators prog_8_method_6_code 4 none :: tw_Wg) 0 [.inr 19] (tw_mC pa_kinds pa_groups pa_widths pa_pairs pa_size pa_base ma_others ma_waiting le_types le_partners le_resolved le_ofParagraph ex_levels ex_types ex_entryLevels ex_entryOverrides ex_entryIsolates ex_last ex_lostIsolates ex_lostEmbeddings ex_openIsolates se_places se_types se_marks se_count se_embedding se_beginning se_end br_partners br_list fi_breaks fi_starts fi_extents fi_count fi_groups sh_levels sh_order tl_measure tl_stale) Post := by
  refine tw_of (own := twR_se) (L0 := [some (.inr 19), none, none, none]) (by decide) rfl rfl (Nat.le_of_ble_eq_true rfl) (fun Z hX => ?_)
  unfold tww_se_turnSeparators at h
  refine tw_iconst hX twd_se_turnSeparators_0 ⟨by decide, by decide⟩ ?_
  refine tw_istore_n (L' := [some (.inr 19), some (.inl 1), none, none]) hX twd_se_turnSeparators_1 rfl (by decide) rfl ?_
  obtain ⟨f39, h⟩ := h
  refine twt_se_turnSeparators_2 hX (fun y38_se_types h => ?_) f39 _ _ h
  exact tw_vret hX twd_se_turnSeparators_96 (hK _ h)
def twl_se_turnTerminators_2 (X45 : (Nat → Int) → Prop) (se_count : Int) : Nat → Int → (Nat → Int) → Prop
  | 0, _, _ => False
  | f + 1, v1, se_types =>
    ((se_count ≤ v1 →
    X45 se_types) ∧
    (¬ se_count ≤ v1 →
    (0 ≤ v1 ∧ v1 < 64) ∧ ((((se_types (Int.toNat v1)) = 5 → ((tw_rg (v1 - 1)) ∧ (0 ≤ (v1 - 1) ∧ (v1 - 1) < 64) ∧ ((se_types (Int.toNat (v1 - 1))) = 3 → ((0 ≤ v1 ∧ v1 < 64)))))) ∧
      (∀ x_5_se_types : Nat → Int, x_5_se_types = (if (se_types (Int.toNat v1)) = 5 then (if (se_types (Int.toNat (v1 - 1))) = 3 then (tw_up se_types (Int.toNat v1) 3) else se_types) else se_types) →
      (tw_rg (v1 + 1)) ∧ twl_se_turnTerminators_2 X45 se_count f (v1 + 1) x_5_se_types))))
set_option maxRecDepth 100000 in
set_option maxHeartbeats 4000000 in
theorem twt_se_turnTerminators_2 {l : Launch} {D : va_G} {ad : Nat → Nat} {cI cZ : ClassId} {Z : tw_Z} {Post : tw_P} {X45 : (Nat → Int) → Prop} {pa_size pa_base le_ofParagraph ex_last ex_lostIsolates ex_lostEmbeddings ex_openIsolates se_count se_embedding se_beginning se_end fi_count tl_measure tl_stale : Int} {pa_kinds pa_groups pa_widths pa_pairs ma_others ma_waiting le_types le_partners le_resolved ex_levels ex_types ex_entryLevels ex_entryOverrides ex_entryIsolates se_places se_marks br_partners br_list fi_breaks fi_starts fi_extents fi_groups sh_levels sh_order : Nat → Int} (hX : tw_cx (tw_YC l D ad cI cZ) Z prog_8_method_7_code twR_se tw_Wg none 0 2) (hX45 : ∀ (se_types : Nat → Int), X45 se_types → tw_rn (tw_YC l D ad cI cZ) Z Post 45 [some (.inr 19), none] [] (tw_mC pa_kinds pa_groups pa_widths pa_pairs pa_size pa_base ma_others ma_waiting le_types le_partners le_resolved le_ofParagraph ex_levels ex_types ex_entryLevels ex_entryOverrides ex_entryIsolates ex_last ex_lostIsolates ex_lostEmbeddings ex_openIsolates se_places se_types se_marks se_count se_embedding se_beginning se_end br_partners br_list fi_breaks fi_starts fi_extents fi_count fi_groups sh_levels sh_order tl_measure tl_stale)) : ∀ (f : Nat) (v1 : Int) (se_types : Nat → Int), twl_se_turnTerminators_2 X45 se_count f v1 se_types → tw_rn (tw_YC l D ad cI cZ) Z Post 2 [some (.inr 19), some (.inl v1)] [] (tw_mC pa_kinds pa_groups pa_widths pa_pairs pa_size pa_base ma_others ma_waiting le_types le_partners le_resolved le_ofParagraph ex_levels ex_types ex_entryLevels ex_entryOverrides ex_entryIsolates ex_last ex_lostIsolates ex_lostEmbeddings ex_openIsolates se_places se_types se_marks se_count se_embedding se_beginning se_end br_partners br_list fi_breaks fi_starts fi_extents fi_count fi_groups sh_levels sh_order tl_measure tl_stale) := by
  intro f
  induction f with
  | zero => intro v1 se_types h; rw [twl_se_turnTerminators_2] at h; exact h.elim
  | succ f ih =>
    intro v1 se_types h
    rw [twl_se_turnTerminators_2] at h
    refine tw_iload_n hX twd_se_turnTerminators_2 rfl rfl ?_
    refine tw_aload_n hX twd_se_turnTerminators_3 rfl rfl ?_
    refine tw_get (kf := 3) hX twd_se_turnTerminators_4 twin_se rfl (by decide) tww_211 rfl rfl rfl ?_
    refine tw_icmp_ge hX twd_se_turnTerminators_7 rfl (fun q12 => ?_) (fun q12 => ?_)
    · have h := h.1 q12
      refine tw_wk (L' := [some (.inr 19), none]) (tw_le_s (tw_le_n tw_le_0)) ?_
      exact hX45 _ h
    · have h := h.2 q12
      refine tw_aload_n hX twd_se_turnTerminators_10 rfl rfl ?_
      refine tw_get (kf := 1) hX twd_se_turnTerminators_11 twin_se rfl (by decide) tww_206 rfl rfl rfl ?_
      refine tw_iload_n hX twd_se_turnTerminators_14 rfl rfl ?_
      obtain ⟨c1, h⟩ := h
      refine tw_iaload hX twd_se_turnTerminators_15 rfl c1 ?_
      refine tw_iconst hX twd_se_turnTerminators_16 ⟨by decide, by decide⟩ ?_
      obtain ⟨o7, h⟩ := h
      have j8 : ∀ x_5_se_types : Nat → Int, x_5_se_types = (if (se_types (Int.toNat v1)) = 5 then (if (se_types (Int.toNat (v1 - 1))) = 3 then (tw_up se_types (Int.toNat v1) 3) else se_types) else se_types) → tw_rn (tw_YC l D ad cI cZ) Z Post 39 [some (.inr 19), some (.inl v1)] [] (tw_mC pa_kinds pa_groups pa_widths pa_pairs pa_size pa_base ma_others ma_waiting le_types le_partners le_resolved le_ofParagraph ex_levels ex_types ex_entryLevels ex_entryOverrides ex_entryIsolates ex_last ex_lostIsolates ex_lostEmbeddings ex_openIsolates se_places x_5_se_types se_marks se_count se_embedding se_beginning se_end br_partners br_list fi_breaks fi_starts fi_extents fi_count fi_groups sh_levels sh_order tl_measure tl_stale) := by
        intro x_5_se_types e9
        have h := h x_5_se_types e9
        obtain ⟨c6, h⟩ := h
        refine tw_iinc (L' := [some (.inr 19), some (.inl (v1 + 1))]) hX twd_se_turnTerminators_39 rfl (by decide) c6 rfl ?_
        refine tw_goto hX twd_se_turnTerminators_42 rfl ?_
        exact ih _ _ h
      refine tw_icmp_ne hX twd_se_turnTerminators_17 rfl (fun q10 => ?_) (fun q10 => ?_)
      · have _tw := trivial
        exact j8 _ (Eq.symm (if_neg q10))
      · have _tw := trivial
        have o7 := o7 q10
        refine tw_aload_n hX twd_se_turnTerminators_20 rfl rfl ?_
        refine tw_get (kf := 1) hX twd_se_turnTerminators_21 twin_se rfl (by decide) tww_206 rfl rfl rfl ?_
        refine tw_iload_n hX twd_se_turnTerminators_24 rfl rfl ?_
        refine tw_iconst hX twd_se_turnTerminators_25 ⟨by decide, by decide⟩ ?_
        obtain ⟨c2, o7⟩ := o7
        refine tw_isub hX twd_se_turnTerminators_26 c2 ?_
        obtain ⟨c3, o7⟩ := o7
        refine tw_iaload hX twd_se_turnTerminators_27 rfl c3 ?_
        refine tw_iconst hX twd_se_turnTerminators_28 ⟨by decide, by decide⟩ ?_
        refine tw_icmp_ne hX twd_se_turnTerminators_29 rfl (fun q11 => ?_) (fun q11 => ?_)
        · have _tw := trivial
          exact j8 _ (Eq.symm (Eq.trans (if_pos q10) (if_neg q11)))
        · have _tw := trivial
          have o7 := o7 q11
          refine tw_aload_n hX twd_se_turnTerminators_32 rfl rfl ?_
          refine tw_get (kf := 1) hX twd_se_turnTerminators_33 twin_se rfl (by decide) tww_206 rfl rfl rfl ?_
          refine tw_iload_n hX twd_se_turnTerminators_36 rfl rfl ?_
          refine tw_iconst hX twd_se_turnTerminators_37 ⟨by decide, by decide⟩ ?_
          have c4 := o7
          refine tw_iastore (mem' := (tw_mC pa_kinds pa_groups pa_widths pa_pairs pa_size pa_base ma_others ma_waiting le_types le_partners le_resolved le_ofParagraph ex_levels ex_types ex_entryLevels ex_entryOverrides ex_entryIsolates ex_last ex_lostIsolates ex_lostEmbeddings ex_openIsolates se_places (tw_up se_types (Int.toNat v1) 3) se_marks se_count se_embedding se_beginning se_end br_partners br_list fi_breaks fi_starts fi_extents fi_count fi_groups sh_levels sh_order tl_measure tl_stale)) hX twd_se_turnTerminators_38 rfl c4 rfl ?_
          exact j8 _ (Eq.symm (Eq.trans (if_pos q10) (if_pos q11)))
def twl_se_turnTerminators_52 (X91 : (Nat → Int) → Prop) (se_count : Int) : Nat → Int → (Nat → Int) → Prop
  | 0, _, _ => False
  | f + 1, v1, se_types =>
    ((v1 < 0 →
    X91 se_types) ∧
    (¬ v1 < 0 →
    (0 ≤ v1 ∧ v1 < 64) ∧ ((((se_types (Int.toNat v1)) = 5 → ((tw_rg (v1 + 1)) ∧ (0 ≤ (v1 + 1) ∧ (v1 + 1) < 64) ∧ ((se_types (Int.toNat (v1 + 1))) = 3 → ((0 ≤ v1 ∧ v1 < 64)))))) ∧
      (∀ x_19_se_types : Nat → Int, x_19_se_types = (if (se_types (Int.toNat v1)) = 5 then (if (se_types (Int.toNat (v1 + 1))) = 3 then (tw_up se_types (Int.toNat v1) 3) else se_types) else se_types) →
      (tw_rg (v1 + -1)) ∧ twl_se_turnTerminators_52 X91 se_count f (v1 + -1) x_19_se_types))))
set_option maxRecDepth 100000 in
set_option maxHeartbeats 4000000 in
theorem twt_se_turnTerminators_52 {l : Launch} {D : va_G} {ad : Nat → Nat} {cI cZ : ClassId} {Z : tw_Z} {Post : tw_P} {X91 : (Nat → Int) → Prop} {pa_size pa_base le_ofParagraph ex_last ex_lostIsolates ex_lostEmbeddings ex_openIsolates se_count se_embedding se_beginning se_end fi_count tl_measure tl_stale : Int} {pa_kinds pa_groups pa_widths pa_pairs ma_others ma_waiting le_types le_partners le_resolved ex_levels ex_types ex_entryLevels ex_entryOverrides ex_entryIsolates se_places se_marks br_partners br_list fi_breaks fi_starts fi_extents fi_groups sh_levels sh_order : Nat → Int} (hX : tw_cx (tw_YC l D ad cI cZ) Z prog_8_method_7_code twR_se tw_Wg none 0 2) (hX91 : ∀ (se_types : Nat → Int), X91 se_types → tw_rn (tw_YC l D ad cI cZ) Z Post 91 [none, none] [] (tw_mC pa_kinds pa_groups pa_widths pa_pairs pa_size pa_base ma_others ma_waiting le_types le_partners le_resolved le_ofParagraph ex_levels ex_types ex_entryLevels ex_entryOverrides ex_entryIsolates ex_last ex_lostIsolates ex_lostEmbeddings ex_openIsolates se_places se_types se_marks se_count se_embedding se_beginning se_end br_partners br_list fi_breaks fi_starts fi_extents fi_count fi_groups sh_levels sh_order tl_measure tl_stale)) : ∀ (f : Nat) (v1 : Int) (se_types : Nat → Int), twl_se_turnTerminators_52 X91 se_count f v1 se_types → tw_rn (tw_YC l D ad cI cZ) Z Post 52 [some (.inr 19), some (.inl v1)] [] (tw_mC pa_kinds pa_groups pa_widths pa_pairs pa_size pa_base ma_others ma_waiting le_types le_partners le_resolved le_ofParagraph ex_levels ex_types ex_entryLevels ex_entryOverrides ex_entryIsolates ex_last ex_lostIsolates ex_lostEmbeddings ex_openIsolates se_places se_types se_marks se_count se_embedding se_beginning se_end br_partners br_list fi_breaks fi_starts fi_extents fi_count fi_groups sh_levels sh_order tl_measure tl_stale) := by
  intro f
  induction f with
  | zero => intro v1 se_types h; rw [twl_se_turnTerminators_52] at h; exact h.elim
  | succ f ih =>
    intro v1 se_types h
    rw [twl_se_turnTerminators_52] at h
    refine tw_iload_n hX twd_se_turnTerminators_52 rfl rfl ?_
    refine tw_if_lt hX twd_se_turnTerminators_53 rfl (fun q26 => ?_) (fun q26 => ?_)
    · have h := h.1 q26
      refine tw_wk (L' := [none, none]) (tw_le_n (tw_le_n tw_le_0)) ?_
      exact hX91 _ h
    · have h := h.2 q26
      refine tw_aload_n hX twd_se_turnTerminators_56 rfl rfl ?_
      refine tw_get (kf := 1) hX twd_se_turnTerminators_57 twin_se rfl (by decide) tww_206 rfl rfl rfl ?_
      refine tw_iload_n hX twd_se_turnTerminators_60 rfl rfl ?_
      obtain ⟨c15, h⟩ := h
      refine tw_iaload hX twd_se_turnTerminators_61 rfl c15 ?_
      refine tw_iconst hX twd_se_turnTerminators_62 ⟨by decide, by decide⟩ ?_
      obtain ⟨o21, h⟩ := h
      have j22 : ∀ x_19_se_types : Nat → Int, x_19_se_types = (if (se_types (Int.toNat v1)) = 5 then (if (se_types (Int.toNat (v1 + 1))) = 3 then (tw_up se_types (Int.toNat v1) 3) else se_types) else se_types) → tw_rn (tw_YC l D ad cI cZ) Z Post 85 [some (.inr 19), some (.inl v1)] [] (tw_mC pa_kinds pa_groups pa_widths pa_pairs pa_size pa_base ma_others ma_waiting le_types le_partners le_resolved le_ofParagraph ex_levels ex_types ex_entryLevels ex_entryOverrides ex_entryIsolates ex_last ex_lostIsolates ex_lostEmbeddings ex_openIsolates se_places x_19_se_types se_marks se_count se_embedding se_beginning se_end br_partners br_list fi_breaks fi_starts fi_extents fi_count fi_groups sh_levels sh_order tl_measure tl_stale) := by
        intro x_19_se_types e23
        have h := h x_19_se_types e23
        obtain ⟨c20, h⟩ := h
        refine tw_iinc (L' := [some (.inr 19), some (.inl (v1 + -1))]) hX twd_se_turnTerminators_85 rfl (by decide) c20 rfl ?_
        refine tw_goto hX twd_se_turnTerminators_88 rfl ?_
        exact ih _ _ h
      refine tw_icmp_ne hX twd_se_turnTerminators_63 rfl (fun q24 => ?_) (fun q24 => ?_)
      · have _tw := trivial
        exact j22 _ (Eq.symm (if_neg q24))
      · have _tw := trivial
        have o21 := o21 q24
        refine tw_aload_n hX twd_se_turnTerminators_66 rfl rfl ?_
        refine tw_get (kf := 1) hX twd_se_turnTerminators_67 twin_se rfl (by decide) tww_206 rfl rfl rfl ?_
        refine tw_iload_n hX twd_se_turnTerminators_70 rfl rfl ?_
        refine tw_iconst hX twd_se_turnTerminators_71 ⟨by decide, by decide⟩ ?_
        obtain ⟨c16, o21⟩ := o21
        refine tw_iadd hX twd_se_turnTerminators_72 c16 ?_
        obtain ⟨c17, o21⟩ := o21
        refine tw_iaload hX twd_se_turnTerminators_73 rfl c17 ?_
        refine tw_iconst hX twd_se_turnTerminators_74 ⟨by decide, by decide⟩ ?_
        refine tw_icmp_ne hX twd_se_turnTerminators_75 rfl (fun q25 => ?_) (fun q25 => ?_)
        · have _tw := trivial
          exact j22 _ (Eq.symm (Eq.trans (if_pos q24) (if_neg q25)))
        · have _tw := trivial
          have o21 := o21 q25
          refine tw_aload_n hX twd_se_turnTerminators_78 rfl rfl ?_
          refine tw_get (kf := 1) hX twd_se_turnTerminators_79 twin_se rfl (by decide) tww_206 rfl rfl rfl ?_
          refine tw_iload_n hX twd_se_turnTerminators_82 rfl rfl ?_
          refine tw_iconst hX twd_se_turnTerminators_83 ⟨by decide, by decide⟩ ?_
          have c18 := o21
          refine tw_iastore (mem' := (tw_mC pa_kinds pa_groups pa_widths pa_pairs pa_size pa_base ma_others ma_waiting le_types le_partners le_resolved le_ofParagraph ex_levels ex_types ex_entryLevels ex_entryOverrides ex_entryIsolates ex_last ex_lostIsolates ex_lostEmbeddings ex_openIsolates se_places (tw_up se_types (Int.toNat v1) 3) se_marks se_count se_embedding se_beginning se_end br_partners br_list fi_breaks fi_starts fi_extents fi_count fi_groups sh_levels sh_order tl_measure tl_stale)) hX twd_se_turnTerminators_84 rfl c18 rfl ?_
          exact j22 _ (Eq.symm (Eq.trans (if_pos q24) (if_pos q25)))
def tww_se_turnTerminators (se_types : Nat → Int) (se_count : Int) (K : (Nat → Int) → Prop) : Prop :=
  (∃ f29 : Nat, twl_se_turnTerminators_2 (fun (y13_se_types : Nat → Int) =>
  (tw_rg (se_count - 2)) ∧ (∃ f28 : Nat, twl_se_turnTerminators_52 (fun (y27_se_types : Nat → Int) =>
    K y27_se_types) se_count f28 (se_count - 2) y13_se_types)) se_count f29 1 se_types)
set_option maxRecDepth 100000 in
set_option maxHeartbeats 4000000 in
theorem twc_se_turnTerminators {l : Launch} {D : va_G} {ad : Nat → Nat} {cI cZ : ClassId} {Post : tw_P} {K : (Nat → Int) → Prop} {pa_size pa_base le_ofParagraph ex_last ex_lostIsolates ex_lostEmbeddings ex_openIsolates se_count se_embedding se_beginning se_end fi_count tl_measure tl_stale : Int} {pa_kinds pa_groups pa_widths pa_pairs ma_others ma_waiting le_types le_partners le_resolved ex_levels ex_types ex_entryLevels ex_entryOverrides ex_entryIsolates se_places se_types se_marks br_partners br_list fi_breaks fi_starts fi_extents fi_groups sh_levels sh_order : Nat → Int} (h : tww_se_turnTerminators se_types se_count K) (hK : ∀ (n_se_types : Nat → Int), K n_se_types → Post none (tw_mC pa_kinds pa_groups pa_widths pa_pairs pa_size pa_base ma_others ma_waiting le_types le_partners le_resolved le_ofParagraph ex_levels ex_types ex_entryLevels ex_entryOverrides ex_entryIsolates ex_last ex_lostIsolates ex_lostEmbeddings ex_openIsolates se_places n_se_types se_marks se_count se_embedding se_beginning se_end br_partners br_list fi_breaks fi_starts fi_extents fi_count fi_groups sh_levels sh_order tl_measure tl_stale)) : tw_ct (tw_YC l D ad cI cZ) twy_se_turnTerminators (Cond.code twy_se_turnTerminators prog_8_method_7_code 2 none :: tw_Wg) 0 [.inr 19] (tw_mC pa_kinds pa_groups pa_widths pa_pairs pa_size pa_base ma_others ma_waiting le_types le_partners le_resolved le_ofParagraph ex_levels ex_types ex_entryLevels ex_entryOverrides ex_entryIsolates ex_last ex_lostIsolates ex_lostEmbeddings ex_openIsolates se_places se_types se_marks se_count se_embedding se_beginning se_end br_partners br_list fi_breaks fi_starts fi_extents fi_count fi_groups sh_levels sh_order tl_measure tl_stale) Post := by
  refine tw_of (own := twR_se) (L0 := [some (.inr 19), none]) (by decide) rfl rfl (Nat.le_of_ble_eq_true rfl) (fun Z hX => ?_)
  unfold tww_se_turnTerminators at h
  refine tw_iconst hX twd_se_turnTerminators_0 ⟨by decide, by decide⟩ ?_
  refine tw_istore_n (L' := [some (.inr 19), some (.inl 1)]) hX twd_se_turnTerminators_1 rfl (by decide) rfl ?_
  obtain ⟨f29, h⟩ := h
  refine twt_se_turnTerminators_2 hX (fun y13_se_types h => ?_) f29 _ _ h
  refine tw_aload_n hX twd_se_turnTerminators_45 rfl rfl ?_
  refine tw_get (kf := 3) hX twd_se_turnTerminators_46 twin_se rfl (by decide) tww_211 rfl rfl rfl ?_
  refine tw_iconst hX twd_se_turnTerminators_49 ⟨by decide, by decide⟩ ?_
  obtain ⟨c14, h⟩ := h
  refine tw_isub hX twd_se_turnTerminators_50 c14 ?_
  refine tw_istore_n (L' := [some (.inr 19), some (.inl (se_count - 2))]) hX twd_se_turnTerminators_51 rfl (by decide) rfl ?_
  obtain ⟨f28, h⟩ := h
  refine twt_se_turnTerminators_52 hX (fun y27_se_types h => ?_) f28 _ _ h
  exact tw_vret hX twd_se_turnTerminators_91 (hK _ h)
def twl_se_freeLeftovers_2 (X55 : (Nat → Int) → Prop) (se_count : Int) : Nat → Int → (Nat → Int) → Prop
  | 0, _, _ => False
  | f + 1, v1, se_types =>
    ((se_count ≤ v1 →
    X55 se_types) ∧
    (¬ se_count ≤ v1 →
    (0 ≤ v1 ∧ v1 < 64) ∧ (∀ J3 : (Nat → Int) → Prop, (∀ (x_2_se_types : Nat → Int), ((tw_rg (v1 + 1)) ∧ twl_se_freeLeftovers_2 X55 se_count f (v1 + 1) x_2_se_types) → J3 x_2_se_types) →
      ∀ J5 : Prop, (((0 ≤ v1 ∧ v1 < 64) ∧ J3 (tw_up se_types (Int.toNat v1) 11)) → J5) →
      (((se_types (Int.toNat v1)) = 4 →
      J5) ∧
      (¬ (se_types (Int.toNat v1)) = 4 →
      (0 ≤ v1 ∧ v1 < 64) ∧ (((se_types (Int.toNat v1)) = 5 →
        J5) ∧
        (¬ (se_types (Int.toNat v1)) = 5 →
        (0 ≤ v1 ∧ v1 < 64) ∧ (((se_types (Int.toNat v1)) = 7 →
          J5) ∧
          (¬ (se_types (Int.toNat v1)) = 7 →
          J3 se_types)))))))))
set_option maxRecDepth 100000 in
set_option maxHeartbeats 4000000 in
theorem twt_se_freeLeftovers_2 {l : Launch} {D : va_G} {ad : Nat → Nat} {cI cZ : ClassId} {Z : tw_Z} {Post : tw_P} {X55 : (Nat → Int) → Prop} {pa_size pa_base le_ofParagraph ex_last ex_lostIsolates ex_lostEmbeddings ex_openIsolates se_count se_embedding se_beginning se_end fi_count tl_measure tl_stale : Int} {pa_kinds pa_groups pa_widths pa_pairs ma_others ma_waiting le_types le_partners le_resolved ex_levels ex_types ex_entryLevels ex_entryOverrides ex_entryIsolates se_places se_marks br_partners br_list fi_breaks fi_starts fi_extents fi_groups sh_levels sh_order : Nat → Int} (hX : tw_cx (tw_YC l D ad cI cZ) Z prog_8_method_8_code twR_se tw_Wg none 0 2) (hX55 : ∀ (se_types : Nat → Int), X55 se_types → tw_rn (tw_YC l D ad cI cZ) Z Post 55 [none, none] [] (tw_mC pa_kinds pa_groups pa_widths pa_pairs pa_size pa_base ma_others ma_waiting le_types le_partners le_resolved le_ofParagraph ex_levels ex_types ex_entryLevels ex_entryOverrides ex_entryIsolates ex_last ex_lostIsolates ex_lostEmbeddings ex_openIsolates se_places se_types se_marks se_count se_embedding se_beginning se_end br_partners br_list fi_breaks fi_starts fi_extents fi_count fi_groups sh_levels sh_order tl_measure tl_stale)) : ∀ (f : Nat) (v1 : Int) (se_types : Nat → Int), twl_se_freeLeftovers_2 X55 se_count f v1 se_types → tw_rn (tw_YC l D ad cI cZ) Z Post 2 [some (.inr 19), some (.inl v1)] [] (tw_mC pa_kinds pa_groups pa_widths pa_pairs pa_size pa_base ma_others ma_waiting le_types le_partners le_resolved le_ofParagraph ex_levels ex_types ex_entryLevels ex_entryOverrides ex_entryIsolates ex_last ex_lostIsolates ex_lostEmbeddings ex_openIsolates se_places se_types se_marks se_count se_embedding se_beginning se_end br_partners br_list fi_breaks fi_starts fi_extents fi_count fi_groups sh_levels sh_order tl_measure tl_stale) := by
  intro f
  induction f with
  | zero => intro v1 se_types h; rw [twl_se_freeLeftovers_2] at h; exact h.elim
  | succ f ih =>
    intro v1 se_types h
    rw [twl_se_freeLeftovers_2] at h
    refine tw_iload_n hX twd_se_freeLeftovers_2 rfl rfl ?_
    refine tw_aload_n hX twd_se_freeLeftovers_3 rfl rfl ?_
    refine tw_get (kf := 3) hX twd_se_freeLeftovers_4 twin_se rfl (by decide) tww_211 rfl rfl rfl ?_
    refine tw_icmp_ge hX twd_se_freeLeftovers_7 rfl (fun q12 => ?_) (fun q12 => ?_)
    · have h := h.1 q12
      refine tw_wk (L' := [none, none]) (tw_le_n (tw_le_n tw_le_0)) ?_
      exact hX55 _ h
    · have h := h.2 q12
      refine tw_aload_n hX twd_se_freeLeftovers_10 rfl rfl ?_
      refine tw_get (kf := 1) hX twd_se_freeLeftovers_11 twin_se rfl (by decide) tww_206 rfl rfl rfl ?_
      refine tw_iload_n hX twd_se_freeLeftovers_14 rfl rfl ?_
      obtain ⟨c1, h⟩ := h
      refine tw_iaload hX twd_se_freeLeftovers_15 rfl c1 ?_
      refine tw_iconst hX twd_se_freeLeftovers_16 ⟨by decide, by decide⟩ ?_
      have h := h (fun (x_2_se_types : Nat → Int) => tw_rn (tw_YC l D ad cI cZ) Z Post 49 [some (.inr 19), some (.inl v1)] [] (tw_mC pa_kinds pa_groups pa_widths pa_pairs pa_size pa_base ma_others ma_waiting le_types le_partners le_resolved le_ofParagraph ex_levels ex_types ex_entryLevels ex_entryOverrides ex_entryIsolates ex_last ex_lostIsolates ex_lostEmbeddings ex_openIsolates se_places x_2_se_types se_marks se_count se_embedding se_beginning se_end br_partners br_list fi_breaks fi_starts fi_extents fi_count fi_groups sh_levels sh_order tl_measure tl_stale)) (by
        intro x_2_se_types h
        obtain ⟨c4, h⟩ := h
        refine tw_iinc (L' := [some (.inr 19), some (.inl (v1 + 1))]) hX twd_se_freeLeftovers_49 rfl (by decide) c4 rfl ?_
        refine tw_goto hX twd_se_freeLeftovers_52 rfl ?_
        exact ih _ _ h)
      have h := h (tw_rn (tw_YC l D ad cI cZ) Z Post 41 [some (.inr 19), some (.inl v1)] [] (tw_mC pa_kinds pa_groups pa_widths pa_pairs pa_size pa_base ma_others ma_waiting le_types le_partners le_resolved le_ofParagraph ex_levels ex_types ex_entryLevels ex_entryOverrides ex_entryIsolates ex_last ex_lostIsolates ex_lostEmbeddings ex_openIsolates se_places se_types se_marks se_count se_embedding se_beginning se_end br_partners br_list fi_breaks fi_starts fi_extents fi_count fi_groups sh_levels sh_order tl_measure tl_stale)) (by
        intro  h
        refine tw_aload_n hX twd_se_freeLeftovers_41 rfl rfl ?_
        refine tw_get (kf := 1) hX twd_se_freeLeftovers_42 twin_se rfl (by decide) tww_206 rfl rfl rfl ?_
        refine tw_iload_n hX twd_se_freeLeftovers_45 rfl rfl ?_
        refine tw_bipush hX twd_se_freeLeftovers_46 (by decide +kernel) ⟨by decide, by decide⟩ ?_
        obtain ⟨c6, h⟩ := h
        refine tw_iastore (mem' := (tw_mC pa_kinds pa_groups pa_widths pa_pairs pa_size pa_base ma_others ma_waiting le_types le_partners le_resolved le_ofParagraph ex_levels ex_types ex_entryLevels ex_entryOverrides ex_entryIsolates ex_last ex_lostIsolates ex_lostEmbeddings ex_openIsolates se_places (tw_up se_types (Int.toNat v1) 11) se_marks se_count se_embedding se_beginning se_end br_partners br_list fi_breaks fi_starts fi_extents fi_count fi_groups sh_levels sh_order tl_measure tl_stale)) hX twd_se_freeLeftovers_48 rfl c6 rfl ?_
        exact h)
      refine tw_icmp_eq hX twd_se_freeLeftovers_17 rfl (fun q11 => ?_) (fun q11 => ?_)
      · have h := h.1 q11
        exact h
      · have h := h.2 q11
        refine tw_aload_n hX twd_se_freeLeftovers_20 rfl rfl ?_
        refine tw_get (kf := 1) hX twd_se_freeLeftovers_21 twin_se rfl (by decide) tww_206 rfl rfl rfl ?_
        refine tw_iload_n hX twd_se_freeLeftovers_24 rfl rfl ?_
        obtain ⟨c7, h⟩ := h
        refine tw_iaload hX twd_se_freeLeftovers_25 rfl c7 ?_
        refine tw_iconst hX twd_se_freeLeftovers_26 ⟨by decide, by decide⟩ ?_
        refine tw_icmp_eq hX twd_se_freeLeftovers_27 rfl (fun q10 => ?_) (fun q10 => ?_)
        · have h := h.1 q10
          exact h
        · have h := h.2 q10
          refine tw_aload_n hX twd_se_freeLeftovers_30 rfl rfl ?_
          refine tw_get (kf := 1) hX twd_se_freeLeftovers_31 twin_se rfl (by decide) tww_206 rfl rfl rfl ?_
          refine tw_iload_n hX twd_se_freeLeftovers_34 rfl rfl ?_
          obtain ⟨c8, h⟩ := h
          refine tw_iaload hX twd_se_freeLeftovers_35 rfl c8 ?_
          refine tw_bipush hX twd_se_freeLeftovers_36 (by decide +kernel) ⟨by decide, by decide⟩ ?_
          refine tw_icmp_ne hX twd_se_freeLeftovers_38 rfl (fun q9 => ?_) (fun q9 => ?_)
          · have h := h.2 q9
            exact h
          · have h := h.1 q9
            exact h
def tww_se_freeLeftovers (se_types : Nat → Int) (se_count : Int) (K : (Nat → Int) → Prop) : Prop :=
  (∃ f14 : Nat, twl_se_freeLeftovers_2 (fun (y13_se_types : Nat → Int) =>
  K y13_se_types) se_count f14 0 se_types)
set_option maxRecDepth 100000 in
set_option maxHeartbeats 4000000 in
theorem twc_se_freeLeftovers {l : Launch} {D : va_G} {ad : Nat → Nat} {cI cZ : ClassId} {Post : tw_P} {K : (Nat → Int) → Prop} {pa_size pa_base le_ofParagraph ex_last ex_lostIsolates ex_lostEmbeddings ex_openIsolates se_count se_embedding se_beginning se_end fi_count tl_measure tl_stale : Int} {pa_kinds pa_groups pa_widths pa_pairs ma_others ma_waiting le_types le_partners le_resolved ex_levels ex_types ex_entryLevels ex_entryOverrides ex_entryIsolates se_places se_types se_marks br_partners br_list fi_breaks fi_starts fi_extents fi_groups sh_levels sh_order : Nat → Int} (h : tww_se_freeLeftovers se_types se_count K) (hK : ∀ (n_se_types : Nat → Int), K n_se_types → Post none (tw_mC pa_kinds pa_groups pa_widths pa_pairs pa_size pa_base ma_others ma_waiting le_types le_partners le_resolved le_ofParagraph ex_levels ex_types ex_entryLevels ex_entryOverrides ex_entryIsolates ex_last ex_lostIsolates ex_lostEmbeddings ex_openIsolates se_places n_se_types se_marks se_count se_embedding se_beginning se_end br_partners br_list fi_breaks fi_starts fi_extents fi_count fi_groups sh_levels sh_order tl_measure tl_stale)) : tw_ct (tw_YC l D ad cI cZ) twy_se_freeLeftovers (Cond.code twy_se_freeLeftovers prog_8_method_8_code 2 none :: tw_Wg) 0 [.inr 19] (tw_mC pa_kinds pa_groups pa_widths pa_pairs pa_size pa_base ma_others ma_waiting le_types le_partners le_resolved le_ofParagraph ex_levels ex_types ex_entryLevels ex_entryOverrides ex_entryIsolates ex_last ex_lostIsolates ex_lostEmbeddings ex_openIsolates se_places se_types se_marks se_count se_embedding se_beginning se_end br_partners br_list fi_breaks fi_starts fi_extents fi_count fi_groups sh_levels sh_order tl_measure tl_stale) Post := by
  refine tw_of (own := twR_se) (L0 := [some (.inr 19), none]) (by decide) rfl rfl (Nat.le_of_ble_eq_true rfl) (fun Z hX => ?_)
  unfold tww_se_freeLeftovers at h
  refine tw_iconst hX twd_se_freeLeftovers_0 ⟨by decide, by decide⟩ ?_
  refine tw_istore_n (L' := [some (.inr 19), some (.inl 0)]) hX twd_se_freeLeftovers_1 rfl (by decide) rfl ?_
  obtain ⟨f14, h⟩ := h
  refine twt_se_freeLeftovers_2 hX (fun y13_se_types h => ?_) f14 _ _ h
  exact tw_vret hX twd_se_freeLeftovers_55 (hK _ h)
def twl_se_turnLatinNumbers_7 (X71 : (Nat → Int) → Prop) (se_count : Int) (se_beginning : Int) : Nat → Int → Int → (Nat → Int) → Prop
  | 0, _, _, _ => False
  | f + 1, v1, v2, se_types =>
    ((se_count ≤ v2 →
    X71 se_types) ∧
    (¬ se_count ≤ v2 →
    (0 ≤ v2 ∧ v2 < 64) ∧ (∀ J4 : Int → (Nat → Int) → Prop, (∀ (x2 : Int) (x_3_se_types : Nat → Int), ((tw_rg (v2 + 1)) ∧ twl_se_turnLatinNumbers_7 X71 se_count se_beginning f x2 (v2 + 1) x_3_se_types) → J4 x2 x_3_se_types) →
      ∀ J7 : (Nat → Int) → Prop, (∀ (x_6_se_types : Nat → Int), ((0 ≤ v2 ∧ v2 < 64) ∧ J4 (x_6_se_types (Int.toNat v2)) x_6_se_types) → J7 x_6_se_types) →
      (((se_types (Int.toNat v2)) = 0 →
      J7 se_types) ∧
      (¬ (se_types (Int.toNat v2)) = 0 →
      (0 ≤ v2 ∧ v2 < 64) ∧ (((se_types (Int.toNat v2)) = 1 →
        J7 se_types) ∧
        (¬ (se_types (Int.toNat v2)) = 1 →
        (0 ≤ v2 ∧ v2 < 64) ∧ (((se_types (Int.toNat v2)) = 3 →
          ((v1 = 0 →
            (0 ≤ v2 ∧ v2 < 64) ∧ J4 v1 (tw_up se_types (Int.toNat v2) 0)) ∧
            (¬ v1 = 0 →
            J4 v1 se_types))) ∧
          (¬ (se_types (Int.toNat v2)) = 3 →
          J4 v1 se_types)))))))))
set_option maxRecDepth 100000 in
set_option maxHeartbeats 4000000 in
theorem twt_se_turnLatinNumbers_7 {l : Launch} {D : va_G} {ad : Nat → Nat} {cI cZ : ClassId} {Z : tw_Z} {Post : tw_P} {X71 : (Nat → Int) → Prop} {pa_size pa_base le_ofParagraph ex_last ex_lostIsolates ex_lostEmbeddings ex_openIsolates se_count se_embedding se_beginning se_end fi_count tl_measure tl_stale : Int} {pa_kinds pa_groups pa_widths pa_pairs ma_others ma_waiting le_types le_partners le_resolved ex_levels ex_types ex_entryLevels ex_entryOverrides ex_entryIsolates se_places se_marks br_partners br_list fi_breaks fi_starts fi_extents fi_groups sh_levels sh_order : Nat → Int} (hX : tw_cx (tw_YC l D ad cI cZ) Z prog_8_method_9_code twR_se tw_Wg none 0 3) (hX71 : ∀ (se_types : Nat → Int), X71 se_types → tw_rn (tw_YC l D ad cI cZ) Z Post 71 [none, none, none] [] (tw_mC pa_kinds pa_groups pa_widths pa_pairs pa_size pa_base ma_others ma_waiting le_types le_partners le_resolved le_ofParagraph ex_levels ex_types ex_entryLevels ex_entryOverrides ex_entryIsolates ex_last ex_lostIsolates ex_lostEmbeddings ex_openIsolates se_places se_types se_marks se_count se_embedding se_beginning se_end br_partners br_list fi_breaks fi_starts fi_extents fi_count fi_groups sh_levels sh_order tl_measure tl_stale)) : ∀ (f : Nat) (v1 : Int) (v2 : Int) (se_types : Nat → Int), twl_se_turnLatinNumbers_7 X71 se_count se_beginning f v1 v2 se_types → tw_rn (tw_YC l D ad cI cZ) Z Post 7 [some (.inr 19), some (.inl v1), some (.inl v2)] [] (tw_mC pa_kinds pa_groups pa_widths pa_pairs pa_size pa_base ma_others ma_waiting le_types le_partners le_resolved le_ofParagraph ex_levels ex_types ex_entryLevels ex_entryOverrides ex_entryIsolates ex_last ex_lostIsolates ex_lostEmbeddings ex_openIsolates se_places se_types se_marks se_count se_embedding se_beginning se_end br_partners br_list fi_breaks fi_starts fi_extents fi_count fi_groups sh_levels sh_order tl_measure tl_stale) := by
  intro f
  induction f with
  | zero => intro v1 v2 se_types h; rw [twl_se_turnLatinNumbers_7] at h; exact h.elim
  | succ f ih =>
    intro v1 v2 se_types h
    rw [twl_se_turnLatinNumbers_7] at h
    refine tw_iload_n hX twd_se_turnLatinNumbers_7 rfl rfl ?_
    refine tw_aload_n hX twd_se_turnLatinNumbers_8 rfl rfl ?_
    refine tw_get (kf := 3) hX twd_se_turnLatinNumbers_9 twin_se rfl (by decide) tww_211 rfl rfl rfl ?_
    refine tw_icmp_ge hX twd_se_turnLatinNumbers_12 rfl (fun q16 => ?_) (fun q16 => ?_)
    · have h := h.1 q16
      refine tw_wk (L' := [none, none, none]) (tw_le_n (tw_le_n (tw_le_n tw_le_0))) ?_
      exact hX71 _ h
    · have h := h.2 q16
      refine tw_aload_n hX twd_se_turnLatinNumbers_15 rfl rfl ?_
      refine tw_get (kf := 1) hX twd_se_turnLatinNumbers_16 twin_se rfl (by decide) tww_206 rfl rfl rfl ?_
      refine tw_iload_n hX twd_se_turnLatinNumbers_19 rfl rfl ?_
      obtain ⟨c1, h⟩ := h
      refine tw_iaload hX twd_se_turnLatinNumbers_20 rfl c1 ?_
      have h := h (fun (x2 : Int) (x_3_se_types : Nat → Int) => tw_rn (tw_YC l D ad cI cZ) Z Post 65 [some (.inr 19), some (.inl x2), some (.inl v2)] [] (tw_mC pa_kinds pa_groups pa_widths pa_pairs pa_size pa_base ma_others ma_waiting le_types le_partners le_resolved le_ofParagraph ex_levels ex_types ex_entryLevels ex_entryOverrides ex_entryIsolates ex_last ex_lostIsolates ex_lostEmbeddings ex_openIsolates se_places x_3_se_types se_marks se_count se_embedding se_beginning se_end br_partners br_list fi_breaks fi_starts fi_extents fi_count fi_groups sh_levels sh_order tl_measure tl_stale)) (by
        intro x2 x_3_se_types h
        obtain ⟨c5, h⟩ := h
        refine tw_iinc (L' := [some (.inr 19), some (.inl x2), some (.inl (v2 + 1))]) hX twd_se_turnLatinNumbers_65 rfl (by decide) c5 rfl ?_
        refine tw_goto hX twd_se_turnLatinNumbers_68 rfl ?_
        exact ih _ _ _ h)
      have h := h (fun (x_6_se_types : Nat → Int) => tw_rn (tw_YC l D ad cI cZ) Z Post 34 [some (.inr 19), none, some (.inl v2)] [] (tw_mC pa_kinds pa_groups pa_widths pa_pairs pa_size pa_base ma_others ma_waiting le_types le_partners le_resolved le_ofParagraph ex_levels ex_types ex_entryLevels ex_entryOverrides ex_entryIsolates ex_last ex_lostIsolates ex_lostEmbeddings ex_openIsolates se_places x_6_se_types se_marks se_count se_embedding se_beginning se_end br_partners br_list fi_breaks fi_starts fi_extents fi_count fi_groups sh_levels sh_order tl_measure tl_stale)) (by
        intro x_6_se_types h
        refine tw_aload_n hX twd_se_turnLatinNumbers_34 rfl rfl ?_
        refine tw_get (kf := 1) hX twd_se_turnLatinNumbers_35 twin_se rfl (by decide) tww_206 rfl rfl rfl ?_
        refine tw_iload_n hX twd_se_turnLatinNumbers_38 rfl rfl ?_
        obtain ⟨c8, h⟩ := h
        refine tw_iaload hX twd_se_turnLatinNumbers_39 rfl c8 ?_
        refine tw_istore_n (L' := [some (.inr 19), some (.inl (x_6_se_types (Int.toNat v2))), some (.inl v2)]) hX twd_se_turnLatinNumbers_40 rfl (by decide) rfl ?_
        refine tw_goto hX twd_se_turnLatinNumbers_41 rfl ?_
        exact h)
      refine tw_if_eq hX twd_se_turnLatinNumbers_21 rfl (fun q15 => ?_) (fun q15 => ?_)
      · have h := h.1 q15
        refine tw_wk (L' := [some (.inr 19), none, some (.inl v2)]) (tw_le_s (tw_le_n (tw_le_s tw_le_0))) ?_
        exact h
      · have h := h.2 q15
        refine tw_aload_n hX twd_se_turnLatinNumbers_24 rfl rfl ?_
        refine tw_get (kf := 1) hX twd_se_turnLatinNumbers_25 twin_se rfl (by decide) tww_206 rfl rfl rfl ?_
        refine tw_iload_n hX twd_se_turnLatinNumbers_28 rfl rfl ?_
        obtain ⟨c9, h⟩ := h
        refine tw_iaload hX twd_se_turnLatinNumbers_29 rfl c9 ?_
        refine tw_iconst hX twd_se_turnLatinNumbers_30 ⟨by decide, by decide⟩ ?_
        refine tw_icmp_ne hX twd_se_turnLatinNumbers_31 rfl (fun q14 => ?_) (fun q14 => ?_)
        · have h := h.2 q14
          refine tw_aload_n hX twd_se_turnLatinNumbers_44 rfl rfl ?_
          refine tw_get (kf := 1) hX twd_se_turnLatinNumbers_45 twin_se rfl (by decide) tww_206 rfl rfl rfl ?_
          refine tw_iload_n hX twd_se_turnLatinNumbers_48 rfl rfl ?_
          obtain ⟨c10, h⟩ := h
          refine tw_iaload hX twd_se_turnLatinNumbers_49 rfl c10 ?_
          refine tw_iconst hX twd_se_turnLatinNumbers_50 ⟨by decide, by decide⟩ ?_
          refine tw_icmp_ne hX twd_se_turnLatinNumbers_51 rfl (fun q13 => ?_) (fun q13 => ?_)
          · have h := h.2 q13
            exact h
          · have h := h.1 q13
            refine tw_iload_n hX twd_se_turnLatinNumbers_54 rfl rfl ?_
            refine tw_if_ne hX twd_se_turnLatinNumbers_55 rfl (fun q12 => ?_) (fun q12 => ?_)
            · have h := h.2 q12
              exact h
            · have h := h.1 q12
              refine tw_aload_n hX twd_se_turnLatinNumbers_58 rfl rfl ?_
              refine tw_get (kf := 1) hX twd_se_turnLatinNumbers_59 twin_se rfl (by decide) tww_206 rfl rfl rfl ?_
              refine tw_iload_n hX twd_se_turnLatinNumbers_62 rfl rfl ?_
              refine tw_iconst hX twd_se_turnLatinNumbers_63 ⟨by decide, by decide⟩ ?_
              obtain ⟨c11, h⟩ := h
              refine tw_iastore (mem' := (tw_mC pa_kinds pa_groups pa_widths pa_pairs pa_size pa_base ma_others ma_waiting le_types le_partners le_resolved le_ofParagraph ex_levels ex_types ex_entryLevels ex_entryOverrides ex_entryIsolates ex_last ex_lostIsolates ex_lostEmbeddings ex_openIsolates se_places (tw_up se_types (Int.toNat v2) 0) se_marks se_count se_embedding se_beginning se_end br_partners br_list fi_breaks fi_starts fi_extents fi_count fi_groups sh_levels sh_order tl_measure tl_stale)) hX twd_se_turnLatinNumbers_64 rfl c11 rfl ?_
              exact h
        · have h := h.1 q14
          refine tw_wk (L' := [some (.inr 19), none, some (.inl v2)]) (tw_le_s (tw_le_n (tw_le_s tw_le_0))) ?_
          exact h
def tww_se_turnLatinNumbers (se_types : Nat → Int) (se_count : Int) (se_beginning : Int) (K : (Nat → Int) → Prop) : Prop :=
  (∃ f18 : Nat, twl_se_turnLatinNumbers_7 (fun (y17_se_types : Nat → Int) =>
  K y17_se_types) se_count se_beginning f18 se_beginning 0 se_types)
set_option maxRecDepth 100000 in
set_option maxHeartbeats 4000000 in
theorem twc_se_turnLatinNumbers {l : Launch} {D : va_G} {ad : Nat → Nat} {cI cZ : ClassId} {Post : tw_P} {K : (Nat → Int) → Prop} {pa_size pa_base le_ofParagraph ex_last ex_lostIsolates ex_lostEmbeddings ex_openIsolates se_count se_embedding se_beginning se_end fi_count tl_measure tl_stale : Int} {pa_kinds pa_groups pa_widths pa_pairs ma_others ma_waiting le_types le_partners le_resolved ex_levels ex_types ex_entryLevels ex_entryOverrides ex_entryIsolates se_places se_types se_marks br_partners br_list fi_breaks fi_starts fi_extents fi_groups sh_levels sh_order : Nat → Int} (h : tww_se_turnLatinNumbers se_types se_count se_beginning K) (hK : ∀ (n_se_types : Nat → Int), K n_se_types → Post none (tw_mC pa_kinds pa_groups pa_widths pa_pairs pa_size pa_base ma_others ma_waiting le_types le_partners le_resolved le_ofParagraph ex_levels ex_types ex_entryLevels ex_entryOverrides ex_entryIsolates ex_last ex_lostIsolates ex_lostEmbeddings ex_openIsolates se_places n_se_types se_marks se_count se_embedding se_beginning se_end br_partners br_list fi_breaks fi_starts fi_extents fi_count fi_groups sh_levels sh_order tl_measure tl_stale)) : tw_ct (tw_YC l D ad cI cZ) twy_se_turnLatinNumbers (Cond.code twy_se_turnLatinNumbers prog_8_method_9_code 3 none :: tw_Wg) 0 [.inr 19] (tw_mC pa_kinds pa_groups pa_widths pa_pairs pa_size pa_base ma_others ma_waiting le_types le_partners le_resolved le_ofParagraph ex_levels ex_types ex_entryLevels ex_entryOverrides ex_entryIsolates ex_last ex_lostIsolates ex_lostEmbeddings ex_openIsolates se_places se_types se_marks se_count se_embedding se_beginning se_end br_partners br_list fi_breaks fi_starts fi_extents fi_count fi_groups sh_levels sh_order tl_measure tl_stale) Post := by
  refine tw_of (own := twR_se) (L0 := [some (.inr 19), none, none]) (by decide) rfl rfl (Nat.le_of_ble_eq_true rfl) (fun Z hX => ?_)
  unfold tww_se_turnLatinNumbers at h
  refine tw_aload_n hX twd_se_turnLatinNumbers_0 rfl rfl ?_
  refine tw_get (kf := 5) hX twd_se_turnLatinNumbers_1 twin_se rfl (by decide) tww_217 rfl rfl rfl ?_
  refine tw_istore_n (L' := [some (.inr 19), some (.inl se_beginning), none]) hX twd_se_turnLatinNumbers_4 rfl (by decide) rfl ?_
  refine tw_iconst hX twd_se_turnLatinNumbers_5 ⟨by decide, by decide⟩ ?_
  refine tw_istore_n (L' := [some (.inr 19), some (.inl se_beginning), some (.inl 0)]) hX twd_se_turnLatinNumbers_6 rfl (by decide) rfl ?_
  obtain ⟨f18, h⟩ := h
  refine twt_se_turnLatinNumbers_7 hX (fun y17_se_types h => ?_) f18 _ _ _ h
  exact tw_vret hX twd_se_turnLatinNumbers_71 (hK _ h)
def tww_se_resolveWeak (se_types : Nat → Int) (se_marks : Nat → Int) (se_count : Int) (se_beginning : Int) (K : (Nat → Int) → (Nat → Int) → Prop) : Prop :=
  tww_se_joinMarks se_types se_marks se_count se_beginning (fun m_1_se_types m_2_se_marks =>
  tww_se_turnArabicNumbers m_1_se_types se_count (fun m_3_se_types =>
  tww_se_turnSeparators m_3_se_types se_count (fun m_4_se_types =>
  tww_se_turnTerminators m_4_se_types se_count (fun m_5_se_types =>
  tww_se_freeLeftovers m_5_se_types se_count (fun m_6_se_types =>
  tww_se_turnLatinNumbers m_6_se_types se_count se_beginning (fun m_7_se_types =>
  K m_7_se_types m_2_se_marks))))))
set_option maxRecDepth 100000 in
set_option maxHeartbeats 4000000 in
theorem twc_se_resolveWeak {l : Launch} {D : va_G} {ad : Nat → Nat} {cI cZ : ClassId} {Post : tw_P} {K : (Nat → Int) → (Nat → Int) → Prop} {pa_size pa_base le_ofParagraph ex_last ex_lostIsolates ex_lostEmbeddings ex_openIsolates se_count se_embedding se_beginning se_end fi_count tl_measure tl_stale : Int} {pa_kinds pa_groups pa_widths pa_pairs ma_others ma_waiting le_types le_partners le_resolved ex_levels ex_types ex_entryLevels ex_entryOverrides ex_entryIsolates se_places se_types se_marks br_partners br_list fi_breaks fi_starts fi_extents fi_groups sh_levels sh_order : Nat → Int} (h : tww_se_resolveWeak se_types se_marks se_count se_beginning K) (hK : ∀ (n_se_types : Nat → Int) (n_se_marks : Nat → Int), K n_se_types n_se_marks → Post none (tw_mC pa_kinds pa_groups pa_widths pa_pairs pa_size pa_base ma_others ma_waiting le_types le_partners le_resolved le_ofParagraph ex_levels ex_types ex_entryLevels ex_entryOverrides ex_entryIsolates ex_last ex_lostIsolates ex_lostEmbeddings ex_openIsolates se_places n_se_types n_se_marks se_count se_embedding se_beginning se_end br_partners br_list fi_breaks fi_starts fi_extents fi_count fi_groups sh_levels sh_order tl_measure tl_stale)) : tw_ct (tw_YC l D ad cI cZ) twy_se_resolveWeak (Cond.code twy_se_resolveWeak prog_8_method_3_code 1 none :: tw_Wg) 2 [.inr 19] (tw_mC pa_kinds pa_groups pa_widths pa_pairs pa_size pa_base ma_others ma_waiting le_types le_partners le_resolved le_ofParagraph ex_levels ex_types ex_entryLevels ex_entryOverrides ex_entryIsolates ex_last ex_lostIsolates ex_lostEmbeddings ex_openIsolates se_places se_types se_marks se_count se_embedding se_beginning se_end br_partners br_list fi_breaks fi_starts fi_extents fi_count fi_groups sh_levels sh_order tl_measure tl_stale) Post := by
  refine tw_of (own := twR_se) (L0 := [some (.inr 19)]) (by decide) rfl rfl (Nat.le_of_ble_eq_true rfl) (fun Z hX => ?_)
  unfold tww_se_resolveWeak at h
  refine tw_aload_n hX twd_se_resolveWeak_0 rfl rfl ?_
  refine tw_callV (As := []) (n := 0) hX twd_se_resolveWeak_1 tw_good tww_506 tww_503 tww_505 tww_18 tww_82 twk_se_joinMarks rfl rfl ⟨by decide, by decide⟩ rfl (Nat.le_of_ble_eq_true rfl) (twc_se_joinMarks h (fun m_1_se_types m_2_se_marks h => ?_))
  change tw_rn (tw_YC l D ad cI cZ) Z Post 4 [some (.inr 19)] [] (tw_mC pa_kinds pa_groups pa_widths pa_pairs pa_size pa_base ma_others ma_waiting le_types le_partners le_resolved le_ofParagraph ex_levels ex_types ex_entryLevels ex_entryOverrides ex_entryIsolates ex_last ex_lostIsolates ex_lostEmbeddings ex_openIsolates se_places m_1_se_types m_2_se_marks se_count se_embedding se_beginning se_end br_partners br_list fi_breaks fi_starts fi_extents fi_count fi_groups sh_levels sh_order tl_measure tl_stale)
  refine tw_aload_n hX twd_se_resolveWeak_4 rfl rfl ?_
  refine tw_callV (As := []) (n := 0) hX twd_se_resolveWeak_5 tw_good tww_513 tww_510 tww_512 tww_19 tww_82 twk_se_turnArabicNumbers rfl rfl ⟨by decide, by decide⟩ rfl (Nat.le_of_ble_eq_true rfl) (twc_se_turnArabicNumbers h (fun m_3_se_types h => ?_))
  change tw_rn (tw_YC l D ad cI cZ) Z Post 8 [some (.inr 19)] [] (tw_mC pa_kinds pa_groups pa_widths pa_pairs pa_size pa_base ma_others ma_waiting le_types le_partners le_resolved le_ofParagraph ex_levels ex_types ex_entryLevels ex_entryOverrides ex_entryIsolates ex_last ex_lostIsolates ex_lostEmbeddings ex_openIsolates se_places m_3_se_types m_2_se_marks se_count se_embedding se_beginning se_end br_partners br_list fi_breaks fi_starts fi_extents fi_count fi_groups sh_levels sh_order tl_measure tl_stale)
  refine tw_aload_n hX twd_se_resolveWeak_8 rfl rfl ?_
  refine tw_callV (As := []) (n := 0) hX twd_se_resolveWeak_9 tw_good tww_517 tww_514 tww_516 tww_20 tww_82 twk_se_turnSeparators rfl rfl ⟨by decide, by decide⟩ rfl (Nat.le_of_ble_eq_true rfl) (twc_se_turnSeparators h (fun m_4_se_types h => ?_))
  change tw_rn (tw_YC l D ad cI cZ) Z Post 12 [some (.inr 19)] [] (tw_mC pa_kinds pa_groups pa_widths pa_pairs pa_size pa_base ma_others ma_waiting le_types le_partners le_resolved le_ofParagraph ex_levels ex_types ex_entryLevels ex_entryOverrides ex_entryIsolates ex_last ex_lostIsolates ex_lostEmbeddings ex_openIsolates se_places m_4_se_types m_2_se_marks se_count se_embedding se_beginning se_end br_partners br_list fi_breaks fi_starts fi_extents fi_count fi_groups sh_levels sh_order tl_measure tl_stale)
  refine tw_aload_n hX twd_se_resolveWeak_12 rfl rfl ?_
  refine tw_callV (As := []) (n := 0) hX twd_se_resolveWeak_13 tw_good tww_521 tww_518 tww_520 tww_21 tww_82 twk_se_turnTerminators rfl rfl ⟨by decide, by decide⟩ rfl (Nat.le_of_ble_eq_true rfl) (twc_se_turnTerminators h (fun m_5_se_types h => ?_))
  change tw_rn (tw_YC l D ad cI cZ) Z Post 16 [some (.inr 19)] [] (tw_mC pa_kinds pa_groups pa_widths pa_pairs pa_size pa_base ma_others ma_waiting le_types le_partners le_resolved le_ofParagraph ex_levels ex_types ex_entryLevels ex_entryOverrides ex_entryIsolates ex_last ex_lostIsolates ex_lostEmbeddings ex_openIsolates se_places m_5_se_types m_2_se_marks se_count se_embedding se_beginning se_end br_partners br_list fi_breaks fi_starts fi_extents fi_count fi_groups sh_levels sh_order tl_measure tl_stale)
  refine tw_aload_n hX twd_se_resolveWeak_16 rfl rfl ?_
  refine tw_callV (As := []) (n := 0) hX twd_se_resolveWeak_17 tw_good tww_525 tww_522 tww_524 tww_22 tww_82 twk_se_freeLeftovers rfl rfl ⟨by decide, by decide⟩ rfl (Nat.le_of_ble_eq_true rfl) (twc_se_freeLeftovers h (fun m_6_se_types h => ?_))
  change tw_rn (tw_YC l D ad cI cZ) Z Post 20 [some (.inr 19)] [] (tw_mC pa_kinds pa_groups pa_widths pa_pairs pa_size pa_base ma_others ma_waiting le_types le_partners le_resolved le_ofParagraph ex_levels ex_types ex_entryLevels ex_entryOverrides ex_entryIsolates ex_last ex_lostIsolates ex_lostEmbeddings ex_openIsolates se_places m_6_se_types m_2_se_marks se_count se_embedding se_beginning se_end br_partners br_list fi_breaks fi_starts fi_extents fi_count fi_groups sh_levels sh_order tl_measure tl_stale)
  refine tw_aload_n hX twd_se_resolveWeak_20 rfl rfl ?_
  refine tw_callV (As := []) (n := 0) hX twd_se_resolveWeak_21 tw_good tww_529 tww_526 tww_528 tww_23 tww_82 twk_se_turnLatinNumbers rfl rfl ⟨by decide, by decide⟩ rfl (Nat.le_of_ble_eq_true rfl) (twc_se_turnLatinNumbers h (fun m_7_se_types h => ?_))
  change tw_rn (tw_YC l D ad cI cZ) Z Post 24 [some (.inr 19)] [] (tw_mC pa_kinds pa_groups pa_widths pa_pairs pa_size pa_base ma_others ma_waiting le_types le_partners le_resolved le_ofParagraph ex_levels ex_types ex_entryLevels ex_entryOverrides ex_entryIsolates ex_last ex_lostIsolates ex_lostEmbeddings ex_openIsolates se_places m_7_se_types m_2_se_marks se_count se_embedding se_beginning se_end br_partners br_list fi_breaks fi_starts fi_extents fi_count fi_groups sh_levels sh_order tl_measure tl_stale)
  exact tw_vret hX twd_se_resolveWeak_24 (hK _ _ h)
def twl_br_close_20 (K : Int → (Nat → Int) → Prop) (X76 : Prop) (v3 : Int) (v4 : Int) (v5 : Int) (pa_pairs : Nat → Int) (se_places : Nat → Int) (br_partners : Nat → Int) (br_list : Nat → Int) : Nat → Int → Prop
  | 0, _ => False
  | f + 1, v6 =>
    ((v6 < 0 →
    X76) ∧
    (¬ v6 < 0 →
    (0 ≤ v6 ∧ v6 < 64) ∧ (0 ≤ (br_list (Int.toNat v6)) ∧ (br_list (Int.toNat v6)) < 64) ∧ (0 ≤ (se_places (Int.toNat (br_list (Int.toNat v6)))) ∧ (se_places (Int.toNat (br_list (Int.toNat v6)))) < 64) ∧ (((pa_pairs (Int.toNat (se_places (Int.toNat (br_list (Int.toNat v6)))))) = v5 →
      (0 ≤ (br_list (Int.toNat v6)) ∧ (br_list (Int.toNat v6)) < 64) ∧ (0 ≤ v3 ∧ v3 < 64) ∧ K v6 (tw_up (tw_up br_partners (Int.toNat (br_list (Int.toNat v6))) v3) (Int.toNat v3) (br_list (Int.toNat v6)))) ∧
      (¬ (pa_pairs (Int.toNat (se_places (Int.toNat (br_list (Int.toNat v6)))))) = v5 →
      (tw_rg (v6 + -1)) ∧ twl_br_close_20 K X76 v3 v4 v5 pa_pairs se_places br_partners br_list f (v6 + -1)))))
set_option maxRecDepth 100000 in
set_option maxHeartbeats 4000000 in
theorem twt_br_close_20 {l : Launch} {D : va_G} {ad : Nat → Nat} {cI cZ : ClassId} {Z : tw_Z} {Post : tw_P} {K : Int → (Nat → Int) → Prop} {X76 : Prop} {v3 : Int} {v4 : Int} {v5 : Int} {pa_size pa_base le_ofParagraph ex_last ex_lostIsolates ex_lostEmbeddings ex_openIsolates se_count se_embedding se_beginning se_end fi_count tl_measure tl_stale : Int} {pa_kinds pa_groups pa_widths pa_pairs ma_others ma_waiting le_types le_partners le_resolved ex_levels ex_types ex_entryLevels ex_entryOverrides ex_entryIsolates se_places se_types se_marks br_partners br_list fi_breaks fi_starts fi_extents fi_groups sh_levels sh_order : Nat → Int} (hX : tw_cx (tw_YC l D ad cI cZ) Z prog_2_method_4_code twR_br tw_Wg (some .int) 0 8) (hX76 : X76 → tw_rn (tw_YC l D ad cI cZ) Z Post 76 [none, none, none, none, some (.inl v4), none, none, none] [] (tw_mC pa_kinds pa_groups pa_widths pa_pairs pa_size pa_base ma_others ma_waiting le_types le_partners le_resolved le_ofParagraph ex_levels ex_types ex_entryLevels ex_entryOverrides ex_entryIsolates ex_last ex_lostIsolates ex_lostEmbeddings ex_openIsolates se_places se_types se_marks se_count se_embedding se_beginning se_end br_partners br_list fi_breaks fi_starts fi_extents fi_count fi_groups sh_levels sh_order tl_measure tl_stale)) (hK : ∀ (z : Int) (n_br_partners : Nat → Int), K z n_br_partners → Post (some z) (tw_mC pa_kinds pa_groups pa_widths pa_pairs pa_size pa_base ma_others ma_waiting le_types le_partners le_resolved le_ofParagraph ex_levels ex_types ex_entryLevels ex_entryOverrides ex_entryIsolates ex_last ex_lostIsolates ex_lostEmbeddings ex_openIsolates se_places se_types se_marks se_count se_embedding se_beginning se_end n_br_partners br_list fi_breaks fi_starts fi_extents fi_count fi_groups sh_levels sh_order tl_measure tl_stale)) : ∀ (f : Nat) (v6 : Int), twl_br_close_20 K X76 v3 v4 v5 pa_pairs se_places br_partners br_list f v6 → tw_rn (tw_YC l D ad cI cZ) Z Post 20 [some (.inr 23), some (.inr 1), some (.inr 19), some (.inl v3), some (.inl v4), some (.inl v5), some (.inl v6), none] [] (tw_mC pa_kinds pa_groups pa_widths pa_pairs pa_size pa_base ma_others ma_waiting le_types le_partners le_resolved le_ofParagraph ex_levels ex_types ex_entryLevels ex_entryOverrides ex_entryIsolates ex_last ex_lostIsolates ex_lostEmbeddings ex_openIsolates se_places se_types se_marks se_count se_embedding se_beginning se_end br_partners br_list fi_breaks fi_starts fi_extents fi_count fi_groups sh_levels sh_order tl_measure tl_stale) := by
  intro f
  induction f with
  | zero => intro v6 h; rw [twl_br_close_20] at h; exact h.elim
  | succ f ih =>
    intro v6 h
    rw [twl_br_close_20] at h
    refine tw_iload hX twd_br_close_20 rfl ?_
    refine tw_if_lt hX twd_br_close_22 rfl (fun q12 => ?_) (fun q12 => ?_)
    · have h := h.1 q12
      refine tw_wk (L' := [none, none, none, none, some (.inl v4), none, none, none]) (tw_le_n (tw_le_n (tw_le_n (tw_le_n (tw_le_s (tw_le_n (tw_le_n (tw_le_n tw_le_0)))))))) ?_
      exact hX76 h
    · have h := h.2 q12
      refine tw_aload_n hX twd_br_close_25 rfl rfl ?_
      refine tw_get (kf := 1) hX twd_br_close_26 twin_br rfl (by decide) tww_245 rfl rfl rfl ?_
      refine tw_iload hX twd_br_close_29 rfl ?_
      obtain ⟨c5, h⟩ := h
      refine tw_iaload hX twd_br_close_31 rfl c5 ?_
      refine tw_istore (L' := [some (.inr 23), some (.inr 1), some (.inr 19), some (.inl v3), some (.inl v4), some (.inl v5), some (.inl v6), some (.inl (br_list (Int.toNat v6)))]) hX twd_br_close_32 (by decide) rfl ?_
      refine tw_aload_n hX twd_br_close_34 rfl rfl ?_
      refine tw_get (kf := 3) hX twd_br_close_35 twin_pa rfl (by decide) tww_113 rfl rfl rfl ?_
      refine tw_aload_n hX twd_br_close_38 rfl rfl ?_
      refine tw_get (kf := 0) hX twd_br_close_39 twin_se rfl (by decide) tww_204 rfl rfl rfl ?_
      refine tw_iload hX twd_br_close_42 rfl ?_
      obtain ⟨c6, h⟩ := h
      refine tw_iaload hX twd_br_close_44 rfl c6 ?_
      obtain ⟨c7, h⟩ := h
      refine tw_iaload hX twd_br_close_45 rfl c7 ?_
      refine tw_iload hX twd_br_close_46 rfl ?_
      refine tw_icmp_ne hX twd_br_close_48 rfl (fun q11 => ?_) (fun q11 => ?_)
      · have h := h.2 q11
        obtain ⟨c8, h⟩ := h
        refine tw_iinc (L' := [some (.inr 23), some (.inr 1), some (.inr 19), some (.inl v3), some (.inl v4), some (.inl v5), some (.inl (v6 + -1)), some (.inl (br_list (Int.toNat v6)))]) hX twd_br_close_70 rfl (by decide) c8 rfl ?_
        refine tw_goto hX twd_br_close_73 rfl ?_
        refine tw_wk (L' := [some (.inr 23), some (.inr 1), some (.inr 19), some (.inl v3), some (.inl v4), some (.inl v5), some (.inl (v6 + -1)), none]) (tw_le_s (tw_le_s (tw_le_s (tw_le_s (tw_le_s (tw_le_s (tw_le_s (tw_le_n tw_le_0)))))))) ?_
        exact ih _ h
      · have h := h.1 q11
        refine tw_aload_n hX twd_br_close_51 rfl rfl ?_
        refine tw_get (kf := 0) hX twd_br_close_52 twin_br rfl (by decide) tww_243 rfl rfl rfl ?_
        refine tw_iload hX twd_br_close_55 rfl ?_
        refine tw_iload_n hX twd_br_close_57 rfl rfl ?_
        obtain ⟨c9, h⟩ := h
        refine tw_iastore (mem' := (tw_mC pa_kinds pa_groups pa_widths pa_pairs pa_size pa_base ma_others ma_waiting le_types le_partners le_resolved le_ofParagraph ex_levels ex_types ex_entryLevels ex_entryOverrides ex_entryIsolates ex_last ex_lostIsolates ex_lostEmbeddings ex_openIsolates se_places se_types se_marks se_count se_embedding se_beginning se_end (tw_up br_partners (Int.toNat (br_list (Int.toNat v6))) v3) br_list fi_breaks fi_starts fi_extents fi_count fi_groups sh_levels sh_order tl_measure tl_stale)) hX twd_br_close_58 rfl c9 rfl ?_
        refine tw_aload_n hX twd_br_close_59 rfl rfl ?_
        refine tw_get (kf := 0) hX twd_br_close_60 twin_br rfl (by decide) tww_243 rfl rfl rfl ?_
        refine tw_iload_n hX twd_br_close_63 rfl rfl ?_
        refine tw_iload hX twd_br_close_64 rfl ?_
        obtain ⟨c10, h⟩ := h
        refine tw_iastore (mem' := (tw_mC pa_kinds pa_groups pa_widths pa_pairs pa_size pa_base ma_others ma_waiting le_types le_partners le_resolved le_ofParagraph ex_levels ex_types ex_entryLevels ex_entryOverrides ex_entryIsolates ex_last ex_lostIsolates ex_lostEmbeddings ex_openIsolates se_places se_types se_marks se_count se_embedding se_beginning se_end (tw_up (tw_up br_partners (Int.toNat (br_list (Int.toNat v6))) v3) (Int.toNat v3) (br_list (Int.toNat v6))) br_list fi_breaks fi_starts fi_extents fi_count fi_groups sh_levels sh_order tl_measure tl_stale)) hX twd_br_close_66 rfl c10 rfl ?_
        refine tw_iload hX twd_br_close_67 rfl ?_
        exact tw_ret hX twd_br_close_69 (hK _ _ h)
def tww_br_close (v3 v4 : Int) (pa_pairs : Nat → Int) (se_places : Nat → Int) (br_partners : Nat → Int) (br_list : Nat → Int) (K : Int → (Nat → Int) → Prop) : Prop :=
  (0 ≤ v3 ∧ v3 < 64) ∧ (0 ≤ (se_places (Int.toNat v3)) ∧ (se_places (Int.toNat v3)) < 64) ∧ (tw_rg (-(pa_pairs (Int.toNat (se_places (Int.toNat v3)))))) ∧ (tw_rg (v4 - 1)) ∧ (∃ f13 : Nat, twl_br_close_20 K (K v4 br_partners) v3 v4 (-(pa_pairs (Int.toNat (se_places (Int.toNat v3))))) pa_pairs se_places br_partners br_list f13 (v4 - 1))
set_option maxRecDepth 100000 in
set_option maxHeartbeats 4000000 in
theorem twc_br_close {l : Launch} {D : va_G} {ad : Nat → Nat} {cI cZ : ClassId} {Post : tw_P} {K : Int → (Nat → Int) → Prop} {v3 v4 : Int} {pa_size pa_base le_ofParagraph ex_last ex_lostIsolates ex_lostEmbeddings ex_openIsolates se_count se_embedding se_beginning se_end fi_count tl_measure tl_stale : Int} {pa_kinds pa_groups pa_widths pa_pairs ma_others ma_waiting le_types le_partners le_resolved ex_levels ex_types ex_entryLevels ex_entryOverrides ex_entryIsolates se_places se_types se_marks br_partners br_list fi_breaks fi_starts fi_extents fi_groups sh_levels sh_order : Nat → Int} (h : tww_br_close v3 v4 pa_pairs se_places br_partners br_list K) (hK : ∀ (z : Int) (n_br_partners : Nat → Int), K z n_br_partners → Post (some z) (tw_mC pa_kinds pa_groups pa_widths pa_pairs pa_size pa_base ma_others ma_waiting le_types le_partners le_resolved le_ofParagraph ex_levels ex_types ex_entryLevels ex_entryOverrides ex_entryIsolates ex_last ex_lostIsolates ex_lostEmbeddings ex_openIsolates se_places se_types se_marks se_count se_embedding se_beginning se_end n_br_partners br_list fi_breaks fi_starts fi_extents fi_count fi_groups sh_levels sh_order tl_measure tl_stale)) : tw_ct (tw_YC l D ad cI cZ) twy_br_close (Cond.code twy_br_close prog_2_method_4_code 8 (some .int) :: tw_Wg) 0 [.inr 23, .inr 1, .inr 19, .inl v3, .inl v4] (tw_mC pa_kinds pa_groups pa_widths pa_pairs pa_size pa_base ma_others ma_waiting le_types le_partners le_resolved le_ofParagraph ex_levels ex_types ex_entryLevels ex_entryOverrides ex_entryIsolates ex_last ex_lostIsolates ex_lostEmbeddings ex_openIsolates se_places se_types se_marks se_count se_embedding se_beginning se_end br_partners br_list fi_breaks fi_starts fi_extents fi_count fi_groups sh_levels sh_order tl_measure tl_stale) Post := by
  refine tw_of (own := twR_br) (L0 := [some (.inr 23), some (.inr 1), some (.inr 19), some (.inl v3), some (.inl v4), none, none, none]) (by decide) rfl rfl (Nat.le_of_ble_eq_true rfl) (fun Z hX => ?_)
  unfold tww_br_close at h
  refine tw_aload_n hX twd_br_close_0 rfl rfl ?_
  refine tw_get (kf := 3) hX twd_br_close_1 twin_pa rfl (by decide) tww_113 rfl rfl rfl ?_
  refine tw_aload_n hX twd_br_close_4 rfl rfl ?_
  refine tw_get (kf := 0) hX twd_br_close_5 twin_se rfl (by decide) tww_204 rfl rfl rfl ?_
  refine tw_iload_n hX twd_br_close_8 rfl rfl ?_
  obtain ⟨c1, h⟩ := h
  refine tw_iaload hX twd_br_close_9 rfl c1 ?_
  obtain ⟨c2, h⟩ := h
  refine tw_iaload hX twd_br_close_10 rfl c2 ?_
  obtain ⟨c3, h⟩ := h
  refine tw_ineg hX twd_br_close_11 c3 ?_
  refine tw_istore (L' := [some (.inr 23), some (.inr 1), some (.inr 19), some (.inl v3), some (.inl v4), some (.inl (-(pa_pairs (Int.toNat (se_places (Int.toNat v3)))))), none, none]) hX twd_br_close_12 (by decide) rfl ?_
  refine tw_iload hX twd_br_close_14 rfl ?_
  refine tw_iconst hX twd_br_close_16 ⟨by decide, by decide⟩ ?_
  obtain ⟨c4, h⟩ := h
  refine tw_isub hX twd_br_close_17 c4 ?_
  refine tw_istore (L' := [some (.inr 23), some (.inr 1), some (.inr 19), some (.inl v3), some (.inl v4), some (.inl (-(pa_pairs (Int.toNat (se_places (Int.toNat v3)))))), some (.inl (v4 - 1)), none]) hX twd_br_close_18 (by decide) rfl ?_
  obtain ⟨f13, h⟩ := h
  refine twt_br_close_20 hX (fun  h => ?_) hK f13 _ h
  refine tw_iload hX twd_br_close_76 rfl ?_
  exact tw_ret hX twd_br_close_78 (hK _ _ h)
