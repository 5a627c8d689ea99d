def twr_tl_within (v0 v1 v2 : Int) : Int := if v0 < v1 then 0 else (if v2 < v0 then 0 else 1)
set_option maxRecDepth 100000 in
set_option maxHeartbeats 4000000 in
theorem twc_tl_within {l : Launch} {D : va_G} {ad : Nat → Nat} {cI cZ : ClassId} {Post : tw_P} {v0 v1 v2 : Int} {pa_size pa_base le_ofParagraph ex_last ex_lostIsolates ex_lostEmbeddings ex_openIsolates se_count se_embedding se_beginning se_end fi_count tl_measure tl_stale : Int} {pa_kinds pa_groups pa_widths pa_pairs ma_others ma_waiting le_types le_partners le_resolved ex_levels ex_types ex_entryLevels ex_entryOverrides ex_entryIsolates se_places se_types se_marks br_partners br_list fi_breaks fi_starts fi_extents fi_groups sh_levels sh_order : Nat → Int} (hK : ∀ (z : Int), z = twr_tl_within v0 v1 v2 → Post (some z) (tw_mC pa_kinds pa_groups pa_widths pa_pairs pa_size pa_base ma_others ma_waiting le_types le_partners le_resolved le_ofParagraph ex_levels ex_types ex_entryLevels ex_entryOverrides ex_entryIsolates ex_last ex_lostIsolates ex_lostEmbeddings ex_openIsolates se_places se_types se_marks se_count se_embedding se_beginning se_end br_partners br_list fi_breaks fi_starts fi_extents fi_count fi_groups sh_levels sh_order tl_measure tl_stale)) : tw_ct (tw_YC l D ad cI cZ) twy_tl_within (Cond.code twy_tl_within prog_1_method_21_code 3 (some .boolean) :: tw_Wg) 0 [.inl v0, .inl v1, .inl v2] (tw_mC pa_kinds pa_groups pa_widths pa_pairs pa_size pa_base ma_others ma_waiting le_types le_partners le_resolved le_ofParagraph ex_levels ex_types ex_entryLevels ex_entryOverrides ex_entryIsolates ex_last ex_lostIsolates ex_lostEmbeddings ex_openIsolates se_places se_types se_marks se_count se_embedding se_beginning se_end br_partners br_list fi_breaks fi_starts fi_extents fi_count fi_groups sh_levels sh_order tl_measure tl_stale) Post := by
  refine tw_of (own := twR_tl) (L0 := [some (.inl v0), some (.inl v1), some (.inl v2)]) (by decide) rfl rfl (Nat.le_of_ble_eq_true rfl) (fun Z hX => ?_)
  refine tw_iload_n hX twd_tl_within_0 rfl rfl ?_
  refine tw_iload_n hX twd_tl_within_1 rfl rfl ?_
  refine tw_icmp_lt hX twd_tl_within_2 rfl (fun q1 => ?_) (fun q1 => ?_)
  · have _tw := trivial
    refine tw_iconst hX twd_tl_within_14 ⟨by decide, by decide⟩ ?_
    exact tw_zret hX twd_tl_within_15 ⟨by decide, by decide⟩ (hK _ (Eq.symm (if_pos q1)))
  · have _tw := trivial
    refine tw_iload_n hX twd_tl_within_5 rfl rfl ?_
    refine tw_iload_n hX twd_tl_within_6 rfl rfl ?_
    refine tw_icmp_gt hX twd_tl_within_7 rfl (fun q2 => ?_) (fun q2 => ?_)
    · have _tw := trivial
      refine tw_iconst hX twd_tl_within_14 ⟨by decide, by decide⟩ ?_
      exact tw_zret hX twd_tl_within_15 ⟨by decide, by decide⟩ (hK _ (Eq.symm (Eq.trans (if_neg q1) (if_pos q2))))
    · have _tw := trivial
      refine tw_iconst hX twd_tl_within_10 ⟨by decide, by decide⟩ ?_
      refine tw_goto hX twd_tl_within_11 rfl ?_
      exact tw_zret hX twd_tl_within_15 ⟨by decide, by decide⟩ (hK _ (Eq.symm (Eq.trans (if_neg q1) (if_neg q2))))
def two_pa_append (v1 v2 v3 v4 : Int) (pa_kinds : Nat → Int) (pa_groups : Nat → Int) (pa_widths : Nat → Int) (pa_pairs : Nat → Int) (pa_size : Int) : Prop := ((pa_size < 64 → ((0 ≤ pa_size ∧ pa_size < 64) ∧ (0 ≤ pa_size ∧ pa_size < 64) ∧ ((v1 < 12 → ((0 ≤ pa_size ∧ pa_size < 64) ∧ ((v1 = 11 → ((0 ≤ pa_size ∧ pa_size < 64) ∧ (tw_rg (pa_size + 1)))) ∧ (¬ v1 = 11 → ((0 ≤ pa_size ∧ pa_size < 64) ∧ (tw_rg (pa_size + 1))))))) ∧ (¬ v1 < 12 → ((0 ≤ pa_size ∧ pa_size < 64) ∧ ((v1 = 11 → ((0 ≤ pa_size ∧ pa_size < 64) ∧ (tw_rg (pa_size + 1)))) ∧ (¬ v1 = 11 → ((0 ≤ pa_size ∧ pa_size < 64) ∧ (tw_rg (pa_size + 1)))))))))))
def twr_pa_append (v1 v2 v3 v4 : Int) (pa_kinds : Nat → Int) (pa_groups : Nat → Int) (pa_widths : Nat → Int) (pa_pairs : Nat → Int) (pa_size : Int) : Int := if pa_size < 64 then 1 else 0
def twu_pa_append__pa_kinds (v1 v2 v3 v4 : Int) (pa_kinds : Nat → Int) (pa_groups : Nat → Int) (pa_widths : Nat → Int) (pa_pairs : Nat → Int) (pa_size : Int) : Nat → Int := if pa_size < 64 then (tw_up pa_kinds (Int.toNat pa_size) v1) else pa_kinds
def twu_pa_append__pa_groups (v1 v2 v3 v4 : Int) (pa_kinds : Nat → Int) (pa_groups : Nat → Int) (pa_widths : Nat → Int) (pa_pairs : Nat → Int) (pa_size : Int) : Nat → Int := if pa_size < 64 then (tw_up pa_groups (Int.toNat pa_size) v2) else pa_groups
def twu_pa_append__pa_widths (v1 v2 v3 v4 : Int) (pa_kinds : Nat → Int) (pa_groups : Nat → Int) (pa_widths : Nat → Int) (pa_pairs : Nat → Int) (pa_size : Int) : Nat → Int := if pa_size < 64 then (if v1 < 12 then (tw_up pa_widths (Int.toNat pa_size) v3) else (tw_up pa_widths (Int.toNat pa_size) 0)) else pa_widths
def twu_pa_append__pa_pairs (v1 v2 v3 v4 : Int) (pa_kinds : Nat → Int) (pa_groups : Nat → Int) (pa_widths : Nat → Int) (pa_pairs : Nat → Int) (pa_size : Int) : Nat → Int := if pa_size < 64 then (if v1 = 11 then (tw_up pa_pairs (Int.toNat pa_size) v4) else (tw_up pa_pairs (Int.toNat pa_size) 0)) else pa_pairs
def twu_pa_append__pa_size (v1 v2 v3 v4 : Int) (pa_kinds : Nat → Int) (pa_groups : Nat → Int) (pa_widths : Nat → Int) (pa_pairs : Nat → Int) (pa_size : Int) : Int := if pa_size < 64 then (pa_size + 1) else pa_size
set_option maxRecDepth 100000 in
set_option maxHeartbeats 4000000 in
theorem twc_pa_append {l : Launch} {D : va_G} {ad : Nat → Nat} {cI cZ : ClassId} {Post : tw_P} {v1 v2 v3 v4 : Int} {pa_size pa_base le_ofParagraph ex_last ex_lostIsolates ex_lostEmbeddings ex_openIsolates se_count se_embedding se_beginning se_end fi_count tl_measure tl_stale : Int} {pa_kinds pa_groups pa_widths pa_pairs ma_others ma_waiting le_types le_partners le_resolved ex_levels ex_types ex_entryLevels ex_entryOverrides ex_entryIsolates se_places se_types se_marks br_partners br_list fi_breaks fi_starts fi_extents fi_groups sh_levels sh_order : Nat → Int} (h : two_pa_append v1 v2 v3 v4 pa_kinds pa_groups pa_widths pa_pairs pa_size) (hK : ∀ (z : Int) (n_pa_kinds : Nat → Int) (n_pa_groups : Nat → Int) (n_pa_widths : Nat → Int) (n_pa_pairs : Nat → Int) (n_pa_size : Int), z = twr_pa_append v1 v2 v3 v4 pa_kinds pa_groups pa_widths pa_pairs pa_size → n_pa_kinds = twu_pa_append__pa_kinds v1 v2 v3 v4 pa_kinds pa_groups pa_widths pa_pairs pa_size → n_pa_groups = twu_pa_append__pa_groups v1 v2 v3 v4 pa_kinds pa_groups pa_widths pa_pairs pa_size → n_pa_widths = twu_pa_append__pa_widths v1 v2 v3 v4 pa_kinds pa_groups pa_widths pa_pairs pa_size → n_pa_pairs = twu_pa_append__pa_pairs v1 v2 v3 v4 pa_kinds pa_groups pa_widths pa_pairs pa_size → n_pa_size = twu_pa_append__pa_size v1 v2 v3 v4 pa_kinds pa_groups pa_widths pa_pairs pa_size → Post (some z) (tw_mC n_pa_kinds n_pa_groups n_pa_widths n_pa_pairs n_pa_size pa_base ma_others ma_waiting le_types le_partners le_resolved le_ofParagraph ex_levels ex_types ex_entryLevels ex_entryOverrides ex_entryIsolates ex_last ex_lostIsolates ex_lostEmbeddings ex_openIsolates se_places se_types se_marks se_count se_embedding se_beginning se_end br_partners br_list fi_breaks fi_starts fi_extents fi_count fi_groups sh_levels sh_order tl_measure tl_stale)) : tw_ct (tw_YC l D ad cI cZ) twy_pa_append (Cond.code twy_pa_append prog_7_method_2_code 5 (some .boolean) :: tw_Wg) 0 [.inr 1, .inl v1, .inl v2, .inl v3, .inl v4] (tw_mC pa_kinds pa_groups pa_widths pa_pairs pa_size pa_base ma_others ma_waiting le_types le_partners le_resolved le_ofParagraph ex_levels ex_types ex_entryLevels ex_entryOverrides ex_entryIsolates ex_last ex_lostIsolates ex_lostEmbeddings ex_openIsolates se_places se_types se_marks se_count se_embedding se_beginning se_end br_partners br_list fi_breaks fi_starts fi_extents fi_count fi_groups sh_levels sh_order tl_measure tl_stale) Post := by
  refine tw_of (own := twR_pa) (L0 := [some (.inr 1), some (.inl v1), some (.inl v2), some (.inl v3), some (.inl v4)]) (by decide) rfl rfl (Nat.le_of_ble_eq_true rfl) (fun Z hX => ?_)
  unfold two_pa_append at h
  refine tw_aload_n hX twd_pa_append_0 rfl rfl ?_
  refine tw_get (kf := 4) hX twd_pa_append_1 twin_pa rfl (by decide) tww_115 rfl rfl rfl ?_
  refine tw_bipush hX twd_pa_append_4 (by decide +kernel) ⟨by decide, by decide⟩ ?_
  refine tw_icmp_lt hX twd_pa_append_6 rfl (fun q13 => ?_) (fun q13 => ?_)
  · have _tw := trivial
    have h := h q13
    refine tw_aload_n hX twd_pa_append_11 rfl rfl ?_
    refine tw_get (kf := 0) hX twd_pa_append_12 twin_pa rfl (by decide) tww_102 rfl rfl rfl ?_
    refine tw_aload_n hX twd_pa_append_15 rfl rfl ?_
    refine tw_get (kf := 4) hX twd_pa_append_16 twin_pa rfl (by decide) tww_115 rfl rfl rfl ?_
    refine tw_iload_n hX twd_pa_append_19 rfl rfl ?_
    obtain ⟨c1, h⟩ := h
    refine tw_iastore (mem' := (tw_mC (tw_up pa_kinds (Int.toNat pa_size) v1) pa_groups pa_widths pa_pairs pa_size pa_base ma_others ma_waiting le_types le_partners le_resolved le_ofParagraph ex_levels ex_types ex_entryLevels ex_entryOverrides ex_entryIsolates ex_last ex_lostIsolates ex_lostEmbeddings ex_openIsolates se_places se_types se_marks se_count se_embedding se_beginning se_end br_partners br_list fi_breaks fi_starts fi_extents fi_count fi_groups sh_levels sh_order tl_measure tl_stale)) hX twd_pa_append_20 rfl c1 rfl ?_
    refine tw_aload_n hX twd_pa_append_21 rfl rfl ?_
    refine tw_get (kf := 1) hX twd_pa_append_22 twin_pa rfl (by decide) tww_108 rfl rfl rfl ?_
    refine tw_aload_n hX twd_pa_append_25 rfl rfl ?_
    refine tw_get (kf := 4) hX twd_pa_append_26 twin_pa rfl (by decide) tww_115 rfl rfl rfl ?_
    refine tw_iload_n hX twd_pa_append_29 rfl rfl ?_
    obtain ⟨c2, h⟩ := h
    refine tw_iastore (mem' := (tw_mC (tw_up pa_kinds (Int.toNat pa_size) v1) (tw_up pa_groups (Int.toNat pa_size) v2) pa_widths pa_pairs pa_size pa_base ma_others ma_waiting le_types le_partners le_resolved le_ofParagraph ex_levels ex_types ex_entryLevels ex_entryOverrides ex_entryIsolates ex_last ex_lostIsolates ex_lostEmbeddings ex_openIsolates se_places se_types se_marks se_count se_embedding se_beginning se_end br_partners br_list fi_breaks fi_starts fi_extents fi_count fi_groups sh_levels sh_order tl_measure tl_stale)) hX twd_pa_append_30 rfl c2 rfl ?_
    refine tw_aload_n hX twd_pa_append_31 rfl rfl ?_
    refine tw_get (kf := 2) hX twd_pa_append_32 twin_pa rfl (by decide) tww_110 rfl rfl rfl ?_
    refine tw_aload_n hX twd_pa_append_35 rfl rfl ?_
    refine tw_get (kf := 4) hX twd_pa_append_36 twin_pa rfl (by decide) tww_115 rfl rfl rfl ?_
    refine tw_iload_n hX twd_pa_append_39 rfl rfl ?_
    refine tw_bipush hX twd_pa_append_40 (by decide +kernel) ⟨by decide, by decide⟩ ?_
    refine tw_icmp_lt hX twd_pa_append_42 rfl (fun q14 => ?_) (fun q14 => ?_)
    · have _tw := trivial
      have h := h.1 q14
      refine tw_iload_n hX twd_pa_append_49 rfl rfl ?_
      obtain ⟨c3, h⟩ := h
      refine tw_iastore (mem' := (tw_mC (tw_up pa_kinds (Int.toNat pa_size) v1) (tw_up pa_groups (Int.toNat pa_size) v2) (tw_up pa_widths (Int.toNat pa_size) v3) pa_pairs pa_size pa_base ma_others ma_waiting le_types le_partners le_resolved le_ofParagraph ex_levels ex_types ex_entryLevels ex_entryOverrides ex_entryIsolates ex_last ex_lostIsolates ex_lostEmbeddings ex_openIsolates se_places se_types se_marks se_count se_embedding se_beginning se_end br_partners br_list fi_breaks fi_starts fi_extents fi_count fi_groups sh_levels sh_order tl_measure tl_stale)) hX twd_pa_append_50 rfl c3 rfl ?_
      refine tw_aload_n hX twd_pa_append_51 rfl rfl ?_
      refine tw_get (kf := 3) hX twd_pa_append_52 twin_pa rfl (by decide) tww_112 rfl rfl rfl ?_
      refine tw_aload_n hX twd_pa_append_55 rfl rfl ?_
      refine tw_get (kf := 4) hX twd_pa_append_56 twin_pa rfl (by decide) tww_115 rfl rfl rfl ?_
      refine tw_iload_n hX twd_pa_append_59 rfl rfl ?_
      refine tw_bipush hX twd_pa_append_60 (by decide +kernel) ⟨by decide, by decide⟩ ?_
      refine tw_icmp_ne hX twd_pa_append_62 rfl (fun q15 => ?_) (fun q15 => ?_)
      · have _tw := trivial
        have h := h.2 q15
        refine tw_iconst hX twd_pa_append_70 ⟨by decide, by decide⟩ ?_
        obtain ⟨c4, h⟩ := h
        refine tw_iastore (mem' := (tw_mC (tw_up pa_kinds (Int.toNat pa_size) v1) (tw_up pa_groups (Int.toNat pa_size) v2) (tw_up pa_widths (Int.toNat pa_size) v3) (tw_up pa_pairs (Int.toNat pa_size) 0) pa_size pa_base ma_others ma_waiting le_types le_partners le_resolved le_ofParagraph ex_levels ex_types ex_entryLevels ex_entryOverrides ex_entryIsolates ex_last ex_lostIsolates ex_lostEmbeddings ex_openIsolates se_places se_types se_marks se_count se_embedding se_beginning se_end br_partners br_list fi_breaks fi_starts fi_extents fi_count fi_groups sh_levels sh_order tl_measure tl_stale)) hX twd_pa_append_71 rfl c4 rfl ?_
        refine tw_aload_n hX twd_pa_append_72 rfl rfl ?_
        refine tw_dup hX twd_pa_append_73 ?_
        refine tw_get (kf := 4) hX twd_pa_append_74 twin_pa rfl (by decide) tww_115 rfl rfl rfl ?_
        refine tw_iconst hX twd_pa_append_77 ⟨by decide, by decide⟩ ?_
        have c5 := h
        refine tw_iadd hX twd_pa_append_78 c5 ?_
        refine tw_put (kf := 4) (mem' := (tw_mC (tw_up pa_kinds (Int.toNat pa_size) v1) (tw_up pa_groups (Int.toNat pa_size) v2) (tw_up pa_widths (Int.toNat pa_size) v3) (tw_up pa_pairs (Int.toNat pa_size) 0) (pa_size + 1) pa_base ma_others ma_waiting le_types le_partners le_resolved le_ofParagraph ex_levels ex_types ex_entryLevels ex_entryOverrides ex_entryIsolates ex_last ex_lostIsolates ex_lostEmbeddings ex_openIsolates se_places se_types se_marks se_count se_embedding se_beginning se_end br_partners br_list fi_breaks fi_starts fi_extents fi_count fi_groups sh_levels sh_order tl_measure tl_stale)) twt_pa hX twd_pa_append_79 twin_pa twtok_pa twnm_pa rfl (by decide) tww_115 rfl rfl rfl (Or.inl rfl) rfl (Nat.le_of_ble_eq_true rfl) rfl ?_
        refine tw_iconst hX twd_pa_append_82 ⟨by decide, by decide⟩ ?_
        exact tw_zret hX twd_pa_append_83 ⟨by decide, by decide⟩ (hK _ _ _ _ _ _ (Eq.symm (if_pos q13)) (Eq.symm (if_pos q13)) (Eq.symm (if_pos q13)) (Eq.symm (Eq.trans (if_pos q13) (if_pos q14))) (Eq.symm (Eq.trans (if_pos q13) (if_neg q15))) (Eq.symm (if_pos q13)))
      · have _tw := trivial
        have h := h.1 q15
        refine tw_iload hX twd_pa_append_65 rfl ?_
        refine tw_goto hX twd_pa_append_67 rfl ?_
        obtain ⟨c6, h⟩ := h
        refine tw_iastore (mem' := (tw_mC (tw_up pa_kinds (Int.toNat pa_size) v1) (tw_up pa_groups (Int.toNat pa_size) v2) (tw_up pa_widths (Int.toNat pa_size) v3) (tw_up pa_pairs (Int.toNat pa_size) v4) pa_size pa_base ma_others ma_waiting le_types le_partners le_resolved le_ofParagraph ex_levels ex_types ex_entryLevels ex_entryOverrides ex_entryIsolates ex_last ex_lostIsolates ex_lostEmbeddings ex_openIsolates se_places se_types se_marks se_count se_embedding se_beginning se_end br_partners br_list fi_breaks fi_starts fi_extents fi_count fi_groups sh_levels sh_order tl_measure tl_stale)) hX twd_pa_append_71 rfl c6 rfl ?_
        refine tw_aload_n hX twd_pa_append_72 rfl rfl ?_
        refine tw_dup hX twd_pa_append_73 ?_
        refine tw_get (kf := 4) hX twd_pa_append_74 twin_pa rfl (by decide) tww_115 rfl rfl rfl ?_
        refine tw_iconst hX twd_pa_append_77 ⟨by decide, by decide⟩ ?_
        have c7 := h
        refine tw_iadd hX twd_pa_append_78 c7 ?_
        refine tw_put (kf := 4) (mem' := (tw_mC (tw_up pa_kinds (Int.toNat pa_size) v1) (tw_up pa_groups (Int.toNat pa_size) v2) (tw_up pa_widths (Int.toNat pa_size) v3) (tw_up pa_pairs (Int.toNat pa_size) v4) (pa_size + 1) pa_base ma_others ma_waiting le_types le_partners le_resolved le_ofParagraph ex_levels ex_types ex_entryLevels ex_entryOverrides ex_entryIsolates ex_last ex_lostIsolates ex_lostEmbeddings ex_openIsolates se_places se_types se_marks se_count se_embedding se_beginning se_end br_partners br_list fi_breaks fi_starts fi_extents fi_count fi_groups sh_levels sh_order tl_measure tl_stale)) twt_pa hX twd_pa_append_79 twin_pa twtok_pa twnm_pa rfl (by decide) tww_115 rfl rfl rfl (Or.inl rfl) rfl (Nat.le_of_ble_eq_true rfl) rfl ?_
        refine tw_iconst hX twd_pa_append_82 ⟨by decide, by decide⟩ ?_
        exact tw_zret hX twd_pa_append_83 ⟨by decide, by decide⟩ (hK _ _ _ _ _ _ (Eq.symm (if_pos q13)) (Eq.symm (if_pos q13)) (Eq.symm (if_pos q13)) (Eq.symm (Eq.trans (if_pos q13) (if_pos q14))) (Eq.symm (Eq.trans (if_pos q13) (if_pos q15))) (Eq.symm (if_pos q13)))
    · have _tw := trivial
      have h := h.2 q14
      refine tw_iconst hX twd_pa_append_45 ⟨by decide, by decide⟩ ?_
      refine tw_goto hX twd_pa_append_46 rfl ?_
      obtain ⟨c8, h⟩ := h
      refine tw_iastore (mem' := (tw_mC (tw_up pa_kinds (Int.toNat pa_size) v1) (tw_up pa_groups (Int.toNat pa_size) v2) (tw_up pa_widths (Int.toNat pa_size) 0) pa_pairs pa_size pa_base ma_others ma_waiting le_types le_partners le_resolved le_ofParagraph ex_levels ex_types ex_entryLevels ex_entryOverrides ex_entryIsolates ex_last ex_lostIsolates ex_lostEmbeddings ex_openIsolates se_places se_types se_marks se_count se_embedding se_beginning se_end br_partners br_list fi_breaks fi_starts fi_extents fi_count fi_groups sh_levels sh_order tl_measure tl_stale)) hX twd_pa_append_50 rfl c8 rfl ?_
      refine tw_aload_n hX twd_pa_append_51 rfl rfl ?_
      refine tw_get (kf := 3) hX twd_pa_append_52 twin_pa rfl (by decide) tww_112 rfl rfl rfl ?_
      refine tw_aload_n hX twd_pa_append_55 rfl rfl ?_
      refine tw_get (kf := 4) hX twd_pa_append_56 twin_pa rfl (by decide) tww_115 rfl rfl rfl ?_
      refine tw_iload_n hX twd_pa_append_59 rfl rfl ?_
      refine tw_bipush hX twd_pa_append_60 (by decide +kernel) ⟨by decide, by decide⟩ ?_
      refine tw_icmp_ne hX twd_pa_append_62 rfl (fun q16 => ?_) (fun q16 => ?_)
      · have _tw := trivial
        have h := h.2 q16
        refine tw_iconst hX twd_pa_append_70 ⟨by decide, by decide⟩ ?_
        obtain ⟨c9, h⟩ := h
        refine tw_iastore (mem' := (tw_mC (tw_up pa_kinds (Int.toNat pa_size) v1) (tw_up pa_groups (Int.toNat pa_size) v2) (tw_up pa_widths (Int.toNat pa_size) 0) (tw_up pa_pairs (Int.toNat pa_size) 0) pa_size pa_base ma_others ma_waiting le_types le_partners le_resolved le_ofParagraph ex_levels ex_types ex_entryLevels ex_entryOverrides ex_entryIsolates ex_last ex_lostIsolates ex_lostEmbeddings ex_openIsolates se_places se_types se_marks se_count se_embedding se_beginning se_end br_partners br_list fi_breaks fi_starts fi_extents fi_count fi_groups sh_levels sh_order tl_measure tl_stale)) hX twd_pa_append_71 rfl c9 rfl ?_
        refine tw_aload_n hX twd_pa_append_72 rfl rfl ?_
        refine tw_dup hX twd_pa_append_73 ?_
        refine tw_get (kf := 4) hX twd_pa_append_74 twin_pa rfl (by decide) tww_115 rfl rfl rfl ?_
        refine tw_iconst hX twd_pa_append_77 ⟨by decide, by decide⟩ ?_
        have c10 := h
        refine tw_iadd hX twd_pa_append_78 c10 ?_
        refine tw_put (kf := 4) (mem' := (tw_mC (tw_up pa_kinds (Int.toNat pa_size) v1) (tw_up pa_groups (Int.toNat pa_size) v2) (tw_up pa_widths (Int.toNat pa_size) 0) (tw_up pa_pairs (Int.toNat pa_size) 0) (pa_size + 1) pa_base ma_others ma_waiting le_types le_partners le_resolved le_ofParagraph ex_levels ex_types ex_entryLevels ex_entryOverrides ex_entryIsolates ex_last ex_lostIsolates ex_lostEmbeddings ex_openIsolates se_places se_types se_marks se_count se_embedding se_beginning se_end br_partners br_list fi_breaks fi_starts fi_extents fi_count fi_groups sh_levels sh_order tl_measure tl_stale)) twt_pa hX twd_pa_append_79 twin_pa twtok_pa twnm_pa rfl (by decide) tww_115 rfl rfl rfl (Or.inl rfl) rfl (Nat.le_of_ble_eq_true rfl) rfl ?_
        refine tw_iconst hX twd_pa_append_82 ⟨by decide, by decide⟩ ?_
        exact tw_zret hX twd_pa_append_83 ⟨by decide, by decide⟩ (hK _ _ _ _ _ _ (Eq.symm (if_pos q13)) (Eq.symm (if_pos q13)) (Eq.symm (if_pos q13)) (Eq.symm (Eq.trans (if_pos q13) (if_neg q14))) (Eq.symm (Eq.trans (if_pos q13) (if_neg q16))) (Eq.symm (if_pos q13)))
      · have _tw := trivial
        have h := h.1 q16
        refine tw_iload hX twd_pa_append_65 rfl ?_
        refine tw_goto hX twd_pa_append_67 rfl ?_
        obtain ⟨c11, h⟩ := h
        refine tw_iastore (mem' := (tw_mC (tw_up pa_kinds (Int.toNat pa_size) v1) (tw_up pa_groups (Int.toNat pa_size) v2) (tw_up pa_widths (Int.toNat pa_size) 0) (tw_up pa_pairs (Int.toNat pa_size) v4) pa_size pa_base ma_others ma_waiting le_types le_partners le_resolved le_ofParagraph ex_levels ex_types ex_entryLevels ex_entryOverrides ex_entryIsolates ex_last ex_lostIsolates ex_lostEmbeddings ex_openIsolates se_places se_types se_marks se_count se_embedding se_beginning se_end br_partners br_list fi_breaks fi_starts fi_extents fi_count fi_groups sh_levels sh_order tl_measure tl_stale)) hX twd_pa_append_71 rfl c11 rfl ?_
        refine tw_aload_n hX twd_pa_append_72 rfl rfl ?_
        refine tw_dup hX twd_pa_append_73 ?_
        refine tw_get (kf := 4) hX twd_pa_append_74 twin_pa rfl (by decide) tww_115 rfl rfl rfl ?_
        refine tw_iconst hX twd_pa_append_77 ⟨by decide, by decide⟩ ?_
        have c12 := h
        refine tw_iadd hX twd_pa_append_78 c12 ?_
        refine tw_put (kf := 4) (mem' := (tw_mC (tw_up pa_kinds (Int.toNat pa_size) v1) (tw_up pa_groups (Int.toNat pa_size) v2) (tw_up pa_widths (Int.toNat pa_size) 0) (tw_up pa_pairs (Int.toNat pa_size) v4) (pa_size + 1) pa_base ma_others ma_waiting le_types le_partners le_resolved le_ofParagraph ex_levels ex_types ex_entryLevels ex_entryOverrides ex_entryIsolates ex_last ex_lostIsolates ex_lostEmbeddings ex_openIsolates se_places se_types se_marks se_count se_embedding se_beginning se_end br_partners br_list fi_breaks fi_starts fi_extents fi_count fi_groups sh_levels sh_order tl_measure tl_stale)) twt_pa hX twd_pa_append_79 twin_pa twtok_pa twnm_pa rfl (by decide) tww_115 rfl rfl rfl (Or.inl rfl) rfl (Nat.le_of_ble_eq_true rfl) rfl ?_
        refine tw_iconst hX twd_pa_append_82 ⟨by decide, by decide⟩ ?_
        exact tw_zret hX twd_pa_append_83 ⟨by decide, by decide⟩ (hK _ _ _ _ _ _ (Eq.symm (if_pos q13)) (Eq.symm (if_pos q13)) (Eq.symm (if_pos q13)) (Eq.symm (Eq.trans (if_pos q13) (if_neg q14))) (Eq.symm (Eq.trans (if_pos q13) (if_pos q16))) (Eq.symm (if_pos q13)))
  · have _tw := trivial
    refine tw_iconst hX twd_pa_append_9 ⟨by decide, by decide⟩ ?_
    exact tw_zret hX twd_pa_append_10 ⟨by decide, by decide⟩ (hK _ _ _ _ _ _ (Eq.symm (if_neg q13)) (Eq.symm (if_neg q13)) (Eq.symm (if_neg q13)) (Eq.symm (if_neg q13)) (Eq.symm (if_neg q13)) (Eq.symm (if_neg q13)))
def two_tl_add (v1 v2 v3 v4 : Int) (pa_kinds : Nat → Int) (pa_groups : Nat → Int) (pa_widths : Nat → Int) (pa_pairs : Nat → Int) (pa_size : Int) (tl_stale : Int) : Prop := ((¬ (twr_tl_within v1 0 20) = 0 → ((¬ (twr_tl_within v2 0 6) = 0 → ((¬ (twr_tl_within v3 0 3) = 0 → ((¬ (twr_tl_within v4 (-3) 3) = 0 → ((two_pa_append v1 v2 v3 v4 pa_kinds pa_groups pa_widths pa_pairs pa_size))))))))))
def twr_tl_add (v1 v2 v3 v4 : Int) (pa_kinds : Nat → Int) (pa_groups : Nat → Int) (pa_widths : Nat → Int) (pa_pairs : Nat → Int) (pa_size : Int) (tl_stale : Int) : Int := if (twr_tl_within v1 0 20) = 0 then 0 else (if (twr_tl_within v2 0 6) = 0 then 0 else (if (twr_tl_within v3 0 3) = 0 then 0 else (if (twr_tl_within v4 (-3) 3) = 0 then 0 else (if (twr_pa_append v1 v2 v3 v4 pa_kinds pa_groups pa_widths pa_pairs pa_size) = 0 then 0 else 1))))
def twu_tl_add__pa_kinds (v1 v2 v3 v4 : Int) (pa_kinds : Nat → Int) (pa_groups : Nat → Int) (pa_widths : Nat → Int) (pa_pairs : Nat → Int) (pa_size : Int) (tl_stale : Int) : Nat → Int := if (twr_tl_within v1 0 20) = 0 then pa_kinds else (if (twr_tl_within v2 0 6) = 0 then pa_kinds else (if (twr_tl_within v3 0 3) = 0 then pa_kinds else (if (twr_tl_within v4 (-3) 3) = 0 then pa_kinds else (twu_pa_append__pa_kinds v1 v2 v3 v4 pa_kinds pa_groups pa_widths pa_pairs pa_size))))
def twu_tl_add__pa_groups (v1 v2 v3 v4 : Int) (pa_kinds : Nat → Int) (pa_groups : Nat → Int) (pa_widths : Nat → Int) (pa_pairs : Nat → Int) (pa_size : Int) (tl_stale : Int) : Nat → Int := if (twr_tl_within v1 0 20) = 0 then pa_groups else (if (twr_tl_within v2 0 6) = 0 then pa_groups else (if (twr_tl_within v3 0 3) = 0 then pa_groups else (if (twr_tl_within v4 (-3) 3) = 0 then pa_groups else (twu_pa_append__pa_groups v1 v2 v3 v4 pa_kinds pa_groups pa_widths pa_pairs pa_size))))
def twu_tl_add__pa_widths (v1 v2 v3 v4 : Int) (pa_kinds : Nat → Int) (pa_groups : Nat → Int) (pa_widths : Nat → Int) (pa_pairs : Nat → Int) (pa_size : Int) (tl_stale : Int) : Nat → Int := if (twr_tl_within v1 0 20) = 0 then pa_widths else (if (twr_tl_within v2 0 6) = 0 then pa_widths else (if (twr_tl_within v3 0 3) = 0 then pa_widths else (if (twr_tl_within v4 (-3) 3) = 0 then pa_widths else (twu_pa_append__pa_widths v1 v2 v3 v4 pa_kinds pa_groups pa_widths pa_pairs pa_size))))
def twu_tl_add__pa_pairs (v1 v2 v3 v4 : Int) (pa_kinds : Nat → Int) (pa_groups : Nat → Int) (pa_widths : Nat → Int) (pa_pairs : Nat → Int) (pa_size : Int) (tl_stale : Int) : Nat → Int := if (twr_tl_within v1 0 20) = 0 then pa_pairs else (if (twr_tl_within v2 0 6) = 0 then pa_pairs else (if (twr_tl_within v3 0 3) = 0 then pa_pairs else (if (twr_tl_within v4 (-3) 3) = 0 then pa_pairs else (twu_pa_append__pa_pairs v1 v2 v3 v4 pa_kinds pa_groups pa_widths pa_pairs pa_size))))
def twu_tl_add__pa_size (v1 v2 v3 v4 : Int) (pa_kinds : Nat → Int) (pa_groups : Nat → Int) (pa_widths : Nat → Int) (pa_pairs : Nat → Int) (pa_size : Int) (tl_stale : Int) : Int := if (twr_tl_within v1 0 20) = 0 then pa_size else (if (twr_tl_within v2 0 6) = 0 then pa_size else (if (twr_tl_within v3 0 3) = 0 then pa_size else (if (twr_tl_within v4 (-3) 3) = 0 then pa_size else (twu_pa_append__pa_size v1 v2 v3 v4 pa_kinds pa_groups pa_widths pa_pairs pa_size))))
def twu_tl_add__tl_stale (v1 v2 v3 v4 : Int) (pa_kinds : Nat → Int) (pa_groups : Nat → Int) (pa_widths : Nat → Int) (pa_pairs : Nat → Int) (pa_size : Int) (tl_stale : Int) : Int := if (twr_tl_within v1 0 20) = 0 then tl_stale else (if (twr_tl_within v2 0 6) = 0 then tl_stale else (if (twr_tl_within v3 0 3) = 0 then tl_stale else (if (twr_tl_within v4 (-3) 3) = 0 then tl_stale else (if (twr_pa_append v1 v2 v3 v4 pa_kinds pa_groups pa_widths pa_pairs pa_size) = 0 then tl_stale else 1))))
set_option maxRecDepth 100000 in
set_option maxHeartbeats 4000000 in
theorem twc_tl_add {l : Launch} {D : va_G} {ad : Nat → Nat} {cI cZ : ClassId} {Post : tw_P} {v1 v2 v3 v4 : Int} {pa_size pa_base le_ofParagraph ex_last ex_lostIsolates ex_lostEmbeddings ex_openIsolates se_count se_embedding se_beginning se_end fi_count tl_measure tl_stale : Int} {pa_kinds pa_groups pa_widths pa_pairs ma_others ma_waiting le_types le_partners le_resolved ex_levels ex_types ex_entryLevels ex_entryOverrides ex_entryIsolates se_places se_types se_marks br_partners br_list fi_breaks fi_starts fi_extents fi_groups sh_levels sh_order : Nat → Int} (h : two_tl_add v1 v2 v3 v4 pa_kinds pa_groups pa_widths pa_pairs pa_size tl_stale) (hK : ∀ (z : Int) (n_pa_kinds : Nat → Int) (n_pa_groups : Nat → Int) (n_pa_widths : Nat → Int) (n_pa_pairs : Nat → Int) (n_pa_size : Int) (n_tl_stale : Int), z = twr_tl_add v1 v2 v3 v4 pa_kinds pa_groups pa_widths pa_pairs pa_size tl_stale → n_pa_kinds = twu_tl_add__pa_kinds v1 v2 v3 v4 pa_kinds pa_groups pa_widths pa_pairs pa_size tl_stale → n_pa_groups = twu_tl_add__pa_groups v1 v2 v3 v4 pa_kinds pa_groups pa_widths pa_pairs pa_size tl_stale → n_pa_widths = twu_tl_add__pa_widths v1 v2 v3 v4 pa_kinds pa_groups pa_widths pa_pairs pa_size tl_stale → n_pa_pairs = twu_tl_add__pa_pairs v1 v2 v3 v4 pa_kinds pa_groups pa_widths pa_pairs pa_size tl_stale → n_pa_size = twu_tl_add__pa_size v1 v2 v3 v4 pa_kinds pa_groups pa_widths pa_pairs pa_size tl_stale → n_tl_stale = twu_tl_add__tl_stale v1 v2 v3 v4 pa_kinds pa_groups pa_widths pa_pairs pa_size tl_stale → Post (some z) (tw_mC n_pa_kinds n_pa_groups n_pa_widths n_pa_pairs n_pa_size pa_base ma_others ma_waiting le_types le_partners le_resolved le_ofParagraph ex_levels ex_types ex_entryLevels ex_entryOverrides ex_entryIsolates ex_last ex_lostIsolates ex_lostEmbeddings ex_openIsolates se_places se_types se_marks se_count se_embedding se_beginning se_end br_partners br_list fi_breaks fi_starts fi_extents fi_count fi_groups sh_levels sh_order tl_measure n_tl_stale)) : tw_ct (tw_YC l D ad cI cZ) twy_tl_add (Cond.code twy_tl_add prog_1_method_2_code 5 (some .boolean) :: tw_Wg) 1 [.inr 0, .inl v1, .inl v2, .inl v3, .inl v4] (tw_mC pa_kinds pa_groups pa_widths pa_pairs pa_size pa_base ma_others ma_waiting le_types le_partners le_resolved le_ofParagraph ex_levels ex_types ex_entryLevels ex_entryOverrides ex_entryIsolates ex_last ex_lostIsolates ex_lostEmbeddings ex_openIsolates se_places se_types se_marks se_count se_embedding se_beginning se_end br_partners br_list fi_breaks fi_starts fi_extents fi_count fi_groups sh_levels sh_order tl_measure tl_stale) Post := by
  refine tw_of (own := twR_tl) (L0 := [some (.inr 0), some (.inl v1), some (.inl v2), some (.inl v3), some (.inl v4)]) (by decide) rfl rfl (Nat.le_of_ble_eq_true rfl) (fun Z hX => ?_)
  unfold two_tl_add at h
  refine tw_iload_n hX twd_tl_add_0 rfl rfl ?_
  refine tw_iconst hX twd_tl_add_1 ⟨by decide, by decide⟩ ?_
  refine tw_bipush hX twd_tl_add_2 (by decide +kernel) ⟨by decide, by decide⟩ ?_
  refine tw_callS (As := [.inl v1, .inl 0, .inl 20]) (n := 3) hX twd_tl_add_4 tw_good tww_351 tww_349 tww_350 tww_77 twk_tl_within ⟨by decide, by decide⟩ rfl (Nat.le_of_ble_eq_true rfl) (twc_tl_within (fun z1 e2 => ?_))
  subst e2
  change tw_rn (tw_YC l D ad cI cZ) Z Post 7 [some (.inr 0), some (.inl v1), some (.inl v2), some (.inl v3), some (.inl v4)] [.inl (twr_tl_within v1 0 20)] (tw_mC pa_kinds pa_groups pa_widths pa_pairs pa_size pa_base ma_others ma_waiting le_types le_partners le_resolved le_ofParagraph ex_levels ex_types ex_entryLevels ex_entryOverrides ex_entryIsolates ex_last ex_lostIsolates ex_lostEmbeddings ex_openIsolates se_places se_types se_marks se_count se_embedding se_beginning se_end br_partners br_list fi_breaks fi_starts fi_extents fi_count fi_groups sh_levels sh_order tl_measure tl_stale)
  refine tw_if_eq hX twd_tl_add_7 rfl (fun q22 => ?_) (fun q22 => ?_)
  · have _tw := trivial
    refine tw_iconst hX twd_tl_add_20 ⟨by decide, by decide⟩ ?_
    exact tw_zret hX twd_tl_add_21 ⟨by decide, by decide⟩ (hK _ _ _ _ _ _ _ (Eq.symm (if_pos q22)) (Eq.symm (if_pos q22)) (Eq.symm (if_pos q22)) (Eq.symm (if_pos q22)) (Eq.symm (if_pos q22)) (Eq.symm (if_pos q22)) (Eq.symm (if_pos q22)))
  · have _tw := trivial
    have h := h q22
    refine tw_iload_n hX twd_tl_add_10 rfl rfl ?_
    refine tw_iconst hX twd_tl_add_11 ⟨by decide, by decide⟩ ?_
    refine tw_bipush hX twd_tl_add_12 (by decide +kernel) ⟨by decide, by decide⟩ ?_
    refine tw_callS (As := [.inl v2, .inl 0, .inl 6]) (n := 3) hX twd_tl_add_14 tw_good tww_351 tww_349 tww_350 tww_77 twk_tl_within ⟨by decide, by decide⟩ rfl (Nat.le_of_ble_eq_true rfl) (twc_tl_within (fun z3 e4 => ?_))
    subst e4
    change tw_rn (tw_YC l D ad cI cZ) Z Post 17 [some (.inr 0), some (.inl v1), some (.inl v2), some (.inl v3), some (.inl v4)] [.inl (twr_tl_within v2 0 6)] (tw_mC pa_kinds pa_groups pa_widths pa_pairs pa_size pa_base ma_others ma_waiting le_types le_partners le_resolved le_ofParagraph ex_levels ex_types ex_entryLevels ex_entryOverrides ex_entryIsolates ex_last ex_lostIsolates ex_lostEmbeddings ex_openIsolates se_places se_types se_marks se_count se_embedding se_beginning se_end br_partners br_list fi_breaks fi_starts fi_extents fi_count fi_groups sh_levels sh_order tl_measure tl_stale)
    refine tw_if_ne hX twd_tl_add_17 rfl (fun q23 => ?_) (fun q23 => ?_)
    · have _tw := trivial
      have h := h q23
      refine tw_iload_n hX twd_tl_add_22 rfl rfl ?_
      refine tw_iconst hX twd_tl_add_23 ⟨by decide, by decide⟩ ?_
      refine tw_iconst hX twd_tl_add_24 ⟨by decide, by decide⟩ ?_
      refine tw_callS (As := [.inl v3, .inl 0, .inl 3]) (n := 3) hX twd_tl_add_25 tw_good tww_351 tww_349 tww_350 tww_77 twk_tl_within ⟨by decide, by decide⟩ rfl (Nat.le_of_ble_eq_true rfl) (twc_tl_within (fun z5 e6 => ?_))
      subst e6
      change tw_rn (tw_YC l D ad cI cZ) Z Post 28 [some (.inr 0), some (.inl v1), some (.inl v2), some (.inl v3), some (.inl v4)] [.inl (twr_tl_within v3 0 3)] (tw_mC pa_kinds pa_groups pa_widths pa_pairs pa_size pa_base ma_others ma_waiting le_types le_partners le_resolved le_ofParagraph ex_levels ex_types ex_entryLevels ex_entryOverrides ex_entryIsolates ex_last ex_lostIsolates ex_lostEmbeddings ex_openIsolates se_places se_types se_marks se_count se_embedding se_beginning se_end br_partners br_list fi_breaks fi_starts fi_extents fi_count fi_groups sh_levels sh_order tl_measure tl_stale)
      refine tw_if_eq hX twd_tl_add_28 rfl (fun q24 => ?_) (fun q24 => ?_)
      · have _tw := trivial
        refine tw_iconst hX twd_tl_add_42 ⟨by decide, by decide⟩ ?_
        exact tw_zret hX twd_tl_add_43 ⟨by decide, by decide⟩ (hK _ _ _ _ _ _ _ (Eq.symm (Eq.trans (if_neg q22) (Eq.trans (if_neg q23) (if_pos q24)))) (Eq.symm (Eq.trans (if_neg q22) (Eq.trans (if_neg q23) (if_pos q24)))) (Eq.symm (Eq.trans (if_neg q22) (Eq.trans (if_neg q23) (if_pos q24)))) (Eq.symm (Eq.trans (if_neg q22) (Eq.trans (if_neg q23) (if_pos q24)))) (Eq.symm (Eq.trans (if_neg q22) (Eq.trans (if_neg q23) (if_pos q24)))) (Eq.symm (Eq.trans (if_neg q22) (Eq.trans (if_neg q23) (if_pos q24)))) (Eq.symm (Eq.trans (if_neg q22) (Eq.trans (if_neg q23) (if_pos q24)))))
      · have _tw := trivial
        have h := h q24
        refine tw_iload hX twd_tl_add_31 rfl ?_
        refine tw_bipush hX twd_tl_add_33 (by decide +kernel) ⟨by decide, by decide⟩ ?_
        refine tw_iconst hX twd_tl_add_35 ⟨by decide, by decide⟩ ?_
        refine tw_callS (As := [.inl v4, .inl ((-3)), .inl 3]) (n := 3) hX twd_tl_add_36 tw_good tww_351 tww_349 tww_350 tww_77 twk_tl_within ⟨by decide, by decide⟩ rfl (Nat.le_of_ble_eq_true rfl) (twc_tl_within (fun z7 e8 => ?_))
        subst e8
        change tw_rn (tw_YC l D ad cI cZ) Z Post 39 [some (.inr 0), some (.inl v1), some (.inl v2), some (.inl v3), some (.inl v4)] [.inl (twr_tl_within v4 (-3) 3)] (tw_mC pa_kinds pa_groups pa_widths pa_pairs pa_size pa_base ma_others ma_waiting le_types le_partners le_resolved le_ofParagraph ex_levels ex_types ex_entryLevels ex_entryOverrides ex_entryIsolates ex_last ex_lostIsolates ex_lostEmbeddings ex_openIsolates se_places se_types se_marks se_count se_embedding se_beginning se_end br_partners br_list fi_breaks fi_starts fi_extents fi_count fi_groups sh_levels sh_order tl_measure tl_stale)
        refine tw_if_ne hX twd_tl_add_39 rfl (fun q25 => ?_) (fun q25 => ?_)
        · have _tw := trivial
          have h := h q25
          refine tw_aload_n hX twd_tl_add_44 rfl rfl ?_
          refine tw_get (kf := 0) hX twd_tl_add_45 twin_tl rfl (by decide) tww_326 rfl rfl rfl ?_
          refine tw_iload_n hX twd_tl_add_48 rfl rfl ?_
          refine tw_iload_n hX twd_tl_add_49 rfl rfl ?_
          refine tw_iload_n hX twd_tl_add_50 rfl rfl ?_
          refine tw_iload hX twd_tl_add_51 rfl ?_
          have c9 := h
          refine tw_callV (As := [.inl v1, .inl v2, .inl v3, .inl v4]) (n := 4) hX twd_tl_add_53 tw_good tww_355 tww_352 tww_353 tww_354 tww_78 twk_pa_append rfl rfl ⟨by decide, by decide⟩ rfl (Nat.le_of_ble_eq_true rfl) (twc_pa_append c9 (fun z10 w11 w12 w13 w14 w15 e16 e17 e18 e19 e20 e21 => ?_))
          subst e16
          subst e17
          subst e18
          subst e19
          subst e20
          subst e21
          change tw_rn (tw_YC l D ad cI cZ) Z Post 56 [some (.inr 0), some (.inl v1), some (.inl v2), some (.inl v3), some (.inl v4)] [.inl (twr_pa_append v1 v2 v3 v4 pa_kinds pa_groups pa_widths pa_pairs pa_size)] (tw_mC (twu_pa_append__pa_kinds v1 v2 v3 v4 pa_kinds pa_groups pa_widths pa_pairs pa_size) (twu_pa_append__pa_groups v1 v2 v3 v4 pa_kinds pa_groups pa_widths pa_pairs pa_size) (twu_pa_append__pa_widths v1 v2 v3 v4 pa_kinds pa_groups pa_widths pa_pairs pa_size) (twu_pa_append__pa_pairs v1 v2 v3 v4 pa_kinds pa_groups pa_widths pa_pairs pa_size) (twu_pa_append__pa_size v1 v2 v3 v4 pa_kinds pa_groups pa_widths pa_pairs pa_size) pa_base ma_others ma_waiting le_types le_partners le_resolved le_ofParagraph ex_levels ex_types ex_entryLevels ex_entryOverrides ex_entryIsolates ex_last ex_lostIsolates ex_lostEmbeddings ex_openIsolates se_places se_types se_marks se_count se_embedding se_beginning se_end br_partners br_list fi_breaks fi_starts fi_extents fi_count fi_groups sh_levels sh_order tl_measure tl_stale)
          refine tw_if_ne hX twd_tl_add_56 rfl (fun q26 => ?_) (fun q26 => ?_)
          · have _tw := trivial
            refine tw_aload_n hX twd_tl_add_61 rfl rfl ?_
            refine tw_iconst hX twd_tl_add_62 ⟨by decide, by decide⟩ ?_
            refine tw_put (kf := 5) (mem' := (tw_mC (twu_pa_append__pa_kinds v1 v2 v3 v4 pa_kinds pa_groups pa_widths pa_pairs pa_size) (twu_pa_append__pa_groups v1 v2 v3 v4 pa_kinds pa_groups pa_widths pa_pairs pa_size) (twu_pa_append__pa_widths v1 v2 v3 v4 pa_kinds pa_groups pa_widths pa_pairs pa_size) (twu_pa_append__pa_pairs v1 v2 v3 v4 pa_kinds pa_groups pa_widths pa_pairs pa_size) (twu_pa_append__pa_size v1 v2 v3 v4 pa_kinds pa_groups pa_widths pa_pairs pa_size) pa_base ma_others ma_waiting le_types le_partners le_resolved le_ofParagraph ex_levels ex_types ex_entryLevels ex_entryOverrides ex_entryIsolates ex_last ex_lostIsolates ex_lostEmbeddings ex_openIsolates se_places se_types se_marks se_count se_embedding se_beginning se_end br_partners br_list fi_breaks fi_starts fi_extents fi_count fi_groups sh_levels sh_order tl_measure 1)) twt_tl hX twd_tl_add_63 twin_tl twtok_tl twnm_tl rfl (by decide) tww_331 rfl rfl rfl (Or.inr ⟨rfl, ⟨by decide, by decide⟩⟩) rfl (Nat.le_of_ble_eq_true rfl) rfl ?_
            refine tw_iconst hX twd_tl_add_66 ⟨by decide, by decide⟩ ?_
            exact tw_zret hX twd_tl_add_67 ⟨by decide, by decide⟩ (hK _ _ _ _ _ _ _ (Eq.symm (Eq.trans (if_neg q22) (Eq.trans (if_neg q23) (Eq.trans (if_neg q24) (Eq.trans (if_neg q25) (if_neg q26)))))) (Eq.symm (Eq.trans (if_neg q22) (Eq.trans (if_neg q23) (Eq.trans (if_neg q24) (if_neg q25))))) (Eq.symm (Eq.trans (if_neg q22) (Eq.trans (if_neg q23) (Eq.trans (if_neg q24) (if_neg q25))))) (Eq.symm (Eq.trans (if_neg q22) (Eq.trans (if_neg q23) (Eq.trans (if_neg q24) (if_neg q25))))) (Eq.symm (Eq.trans (if_neg q22) (Eq.trans (if_neg q23) (Eq.trans (if_neg q24) (if_neg q25))))) (Eq.symm (Eq.trans (if_neg q22) (Eq.trans (if_neg q23) (Eq.trans (if_neg q24) (if_neg q25))))) (Eq.symm (Eq.trans (if_neg q22) (Eq.trans (if_neg q23) (Eq.trans (if_neg q24) (Eq.trans (if_neg q25) (if_neg q26)))))))
          · have _tw := trivial
            refine tw_iconst hX twd_tl_add_59 ⟨by decide, by decide⟩ ?_
            exact tw_zret hX twd_tl_add_60 ⟨by decide, by decide⟩ (hK _ _ _ _ _ _ _ (Eq.symm (Eq.trans (if_neg q22) (Eq.trans (if_neg q23) (Eq.trans (if_neg q24) (Eq.trans (if_neg q25) (if_pos q26)))))) (Eq.symm (Eq.trans (if_neg q22) (Eq.trans (if_neg q23) (Eq.trans (if_neg q24) (if_neg q25))))) (Eq.symm (Eq.trans (if_neg q22) (Eq.trans (if_neg q23) (Eq.trans (if_neg q24) (if_neg q25))))) (Eq.symm (Eq.trans (if_neg q22) (Eq.trans (if_neg q23) (Eq.trans (if_neg q24) (if_neg q25))))) (Eq.symm (Eq.trans (if_neg q22) (Eq.trans (if_neg q23) (Eq.trans (if_neg q24) (if_neg q25))))) (Eq.symm (Eq.trans (if_neg q22) (Eq.trans (if_neg q23) (Eq.trans (if_neg q24) (if_neg q25))))) (Eq.symm (Eq.trans (if_neg q22) (Eq.trans (if_neg q23) (Eq.trans (if_neg q24) (Eq.trans (if_neg q25) (if_pos q26)))))))
        · have _tw := trivial
          refine tw_iconst hX twd_tl_add_42 ⟨by decide, by decide⟩ ?_
          exact tw_zret hX twd_tl_add_43 ⟨by decide, by decide⟩ (hK _ _ _ _ _ _ _ (Eq.symm (Eq.trans (if_neg q22) (Eq.trans (if_neg q23) (Eq.trans (if_neg q24) (if_pos q25))))) (Eq.symm (Eq.trans (if_neg q22) (Eq.trans (if_neg q23) (Eq.trans (if_neg q24) (if_pos q25))))) (Eq.symm (Eq.trans (if_neg q22) (Eq.trans (if_neg q23) (Eq.trans (if_neg q24) (if_pos q25))))) (Eq.symm (Eq.trans (if_neg q22) (Eq.trans (if_neg q23) (Eq.trans (if_neg q24) (if_pos q25))))) (Eq.symm (Eq.trans (if_neg q22) (Eq.trans (if_neg q23) (Eq.trans (if_neg q24) (if_pos q25))))) (Eq.symm (Eq.trans (if_neg q22) (Eq.trans (if_neg q23) (Eq.trans (if_neg q24) (if_pos q25))))) (Eq.symm (Eq.trans (if_neg q22) (Eq.trans (if_neg q23) (Eq.trans (if_neg q24) (if_pos q25))))))
    · have _tw := trivial
      refine tw_iconst hX twd_tl_add_20 ⟨by decide, by decide⟩ ?_
      exact tw_zret hX twd_tl_add_21 ⟨by decide, by decide⟩ (hK _ _ _ _ _ _ _ (Eq.symm (Eq.trans (if_neg q22) (if_pos q23))) (Eq.symm (Eq.trans (if_neg q22) (if_pos q23))) (Eq.symm (Eq.trans (if_neg q22) (if_pos q23))) (Eq.symm (Eq.trans (if_neg q22) (if_pos q23))) (Eq.symm (Eq.trans (if_neg q22) (if_pos q23))) (Eq.symm (Eq.trans (if_neg q22) (if_pos q23))) (Eq.symm (Eq.trans (if_neg q22) (if_pos q23))))
def two_tl_drop (pa_size : Int) (tl_stale : Int) : Prop := ((¬ pa_size = 0 → ((tw_rg (pa_size - 1)))))
def twr_tl_drop (pa_size : Int) (tl_stale : Int) : Int := if pa_size = 0 then 0 else 1
def twu_tl_drop__pa_size (pa_size : Int) (tl_stale : Int) : Int := if pa_size = 0 then pa_size else (pa_size - 1)
def twu_tl_drop__tl_stale (pa_size : Int) (tl_stale : Int) : Int := if pa_size = 0 then tl_stale else 1
set_option maxRecDepth 100000 in
set_option maxHeartbeats 4000000 in
theorem twc_tl_drop {l : Launch} {D : va_G} {ad : Nat → Nat} {cI cZ : ClassId} {Post : tw_P} {pa_size pa_base le_ofParagraph ex_last ex_lostIsolates ex_lostEmbeddings ex_openIsolates se_count se_embedding se_beginning se_end fi_count tl_measure tl_stale : Int} {pa_kinds pa_groups pa_widths pa_pairs ma_others ma_waiting le_types le_partners le_resolved ex_levels ex_types ex_entryLevels ex_entryOverrides ex_entryIsolates se_places se_types se_marks br_partners br_list fi_breaks fi_starts fi_extents fi_groups sh_levels sh_order : Nat → Int} (h : two_tl_drop pa_size tl_stale) (hK : ∀ (z : Int) (n_pa_size : Int) (n_tl_stale : Int), z = twr_tl_drop pa_size tl_stale → n_pa_size = twu_tl_drop__pa_size pa_size tl_stale → n_tl_stale = twu_tl_drop__tl_stale pa_size tl_stale → Post (some z) (tw_mC pa_kinds pa_groups pa_widths pa_pairs n_pa_size pa_base ma_others ma_waiting le_types le_partners le_resolved le_ofParagraph ex_levels ex_types ex_entryLevels ex_entryOverrides ex_entryIsolates ex_last ex_lostIsolates ex_lostEmbeddings ex_openIsolates se_places se_types se_marks se_count se_embedding se_beginning se_end br_partners br_list fi_breaks fi_starts fi_extents fi_count fi_groups sh_levels sh_order tl_measure n_tl_stale)) : tw_ct (tw_YC l D ad cI cZ) twy_tl_drop (Cond.code twy_tl_drop prog_1_method_3_code 1 (some .boolean) :: tw_Wg) 0 [.inr 0] (tw_mC pa_kinds pa_groups pa_widths pa_pairs pa_size pa_base ma_others ma_waiting le_types le_partners le_resolved le_ofParagraph ex_levels ex_types ex_entryLevels ex_entryOverrides ex_entryIsolates ex_last ex_lostIsolates ex_lostEmbeddings ex_openIsolates se_places se_types se_marks se_count se_embedding se_beginning se_end br_partners br_list fi_breaks fi_starts fi_extents fi_count fi_groups sh_levels sh_order tl_measure tl_stale) Post := by
  refine tw_of (own := twR_tl) (L0 := [some (.inr 0)]) (by decide) rfl rfl (Nat.le_of_ble_eq_true rfl) (fun Z hX => ?_)
  unfold two_tl_drop at h
  refine tw_aload_n hX twd_tl_drop_0 rfl rfl ?_
  refine tw_get (kf := 0) hX twd_tl_drop_1 twin_tl rfl (by decide) tww_326 rfl rfl rfl ?_
  refine tw_get (kf := 4) hX twd_tl_drop_4 twin_pa rfl (by decide) tww_119 rfl rfl rfl ?_
  refine tw_if_ne hX twd_tl_drop_7 rfl (fun q2 => ?_) (fun q2 => ?_)
  · have _tw := trivial
    have h := h q2
    refine tw_aload_n hX twd_tl_drop_12 rfl rfl ?_
    refine tw_get (kf := 0) hX twd_tl_drop_13 twin_tl rfl (by decide) tww_326 rfl rfl rfl ?_
    refine tw_dup hX twd_tl_drop_16 ?_
    refine tw_get (kf := 4) hX twd_tl_drop_17 twin_pa rfl (by decide) tww_119 rfl rfl rfl ?_
    refine tw_iconst hX twd_tl_drop_20 ⟨by decide, by decide⟩ ?_
    have c1 := h
    refine tw_isub hX twd_tl_drop_21 c1 ?_
    refine tw_put (kf := 4) (mem' := (tw_mC pa_kinds pa_groups pa_widths pa_pairs (pa_size - 1) pa_base ma_others ma_waiting le_types le_partners le_resolved le_ofParagraph ex_levels ex_types ex_entryLevels ex_entryOverrides ex_entryIsolates ex_last ex_lostIsolates ex_lostEmbeddings ex_openIsolates se_places se_types se_marks se_count se_embedding se_beginning se_end br_partners br_list fi_breaks fi_starts fi_extents fi_count fi_groups sh_levels sh_order tl_measure tl_stale)) twt_pa hX twd_tl_drop_22 twin_pa twtok_pa twnm_pa rfl (by decide) tww_119 rfl rfl rfl (Or.inl rfl) rfl (Nat.le_of_ble_eq_true rfl) rfl ?_
    refine tw_aload_n hX twd_tl_drop_25 rfl rfl ?_
    refine tw_iconst hX twd_tl_drop_26 ⟨by decide, by decide⟩ ?_
    refine tw_put (kf := 5) (mem' := (tw_mC pa_kinds pa_groups pa_widths pa_pairs (pa_size - 1) pa_base ma_others ma_waiting le_types le_partners le_resolved le_ofParagraph ex_levels ex_types ex_entryLevels ex_entryOverrides ex_entryIsolates ex_last ex_lostIsolates ex_lostEmbeddings ex_openIsolates se_places se_types se_marks se_count se_embedding se_beginning se_end br_partners br_list fi_breaks fi_starts fi_extents fi_count fi_groups sh_levels sh_order tl_measure 1)) twt_tl hX twd_tl_drop_27 twin_tl twtok_tl twnm_tl rfl (by decide) tww_331 rfl rfl rfl (Or.inr ⟨rfl, ⟨by decide, by decide⟩⟩) rfl (Nat.le_of_ble_eq_true rfl) rfl ?_
    refine tw_iconst hX twd_tl_drop_30 ⟨by decide, by decide⟩ ?_
    exact tw_zret hX twd_tl_drop_31 ⟨by decide, by decide⟩ (hK _ _ _ (Eq.symm (if_neg q2)) (Eq.symm (if_neg q2)) (Eq.symm (if_neg q2)))
  · have _tw := trivial
    refine tw_iconst hX twd_tl_drop_10 ⟨by decide, by decide⟩ ?_
    exact tw_zret hX twd_tl_drop_11 ⟨by decide, by decide⟩ (hK _ _ _ (Eq.symm (if_pos q2)) (Eq.symm (if_pos q2)) (Eq.symm (if_pos q2)))
def twu_tl_clear__pa_size (pa_size : Int) (tl_stale : Int) : Int := 0
def twu_tl_clear__tl_stale (pa_size : Int) (tl_stale : Int) : Int := 1
set_option maxRecDepth 100000 in
set_option maxHeartbeats 4000000 in
theorem twc_tl_clear {l : Launch} {D : va_G} {ad : Nat → Nat} {cI cZ : ClassId} {Post : tw_P} {pa_size pa_base le_ofParagraph ex_last ex_lostIsolates ex_lostEmbeddings ex_openIsolates se_count se_embedding se_beginning se_end fi_count tl_measure tl_stale : Int} {pa_kinds pa_groups pa_widths pa_pairs ma_others ma_waiting le_types le_partners le_resolved ex_levels ex_types ex_entryLevels ex_entryOverrides ex_entryIsolates se_places se_types se_marks br_partners br_list fi_breaks fi_starts fi_extents fi_groups sh_levels sh_order : Nat → Int} (hK : ∀ (n_pa_size : Int) (n_tl_stale : Int), n_pa_size = twu_tl_clear__pa_size pa_size tl_stale → n_tl_stale = twu_tl_clear__tl_stale pa_size tl_stale → Post none (tw_mC pa_kinds pa_groups pa_widths pa_pairs n_pa_size pa_base ma_others ma_waiting le_types le_partners le_resolved le_ofParagraph ex_levels ex_types ex_entryLevels ex_entryOverrides ex_entryIsolates ex_last ex_lostIsolates ex_lostEmbeddings ex_openIsolates se_places se_types se_marks se_count se_embedding se_beginning se_end br_partners br_list fi_breaks fi_starts fi_extents fi_count fi_groups sh_levels sh_order tl_measure n_tl_stale)) : tw_ct (tw_YC l D ad cI cZ) twy_tl_clear (Cond.code twy_tl_clear prog_1_method_4_code 1 none :: tw_Wg) 0 [.inr 0] (tw_mC pa_kinds pa_groups pa_widths pa_pairs pa_size pa_base ma_others ma_waiting le_types le_partners le_resolved le_ofParagraph ex_levels ex_types ex_entryLevels ex_entryOverrides ex_entryIsolates ex_last ex_lostIsolates ex_lostEmbeddings ex_openIsolates se_places se_types se_marks se_count se_embedding se_beginning se_end br_partners br_list fi_breaks fi_starts fi_extents fi_count fi_groups sh_levels sh_order tl_measure tl_stale) Post := by
  refine tw_of (own := twR_tl) (L0 := [some (.inr 0)]) (by decide) rfl rfl (Nat.le_of_ble_eq_true rfl) (fun Z hX => ?_)
  refine tw_aload_n hX twd_tl_clear_0 rfl rfl ?_
  refine tw_get (kf := 0) hX twd_tl_clear_1 twin_tl rfl (by decide) tww_326 rfl rfl rfl ?_
  refine tw_iconst hX twd_tl_clear_4 ⟨by decide, by decide⟩ ?_
  refine tw_put (kf := 4) (mem' := (tw_mC pa_kinds pa_groups pa_widths pa_pairs 0 pa_base ma_others ma_waiting le_types le_partners le_resolved le_ofParagraph ex_levels ex_types ex_entryLevels ex_entryOverrides ex_entryIsolates ex_last ex_lostIsolates ex_lostEmbeddings ex_openIsolates se_places se_types se_marks se_count se_embedding se_beginning se_end br_partners br_list fi_breaks fi_starts fi_extents fi_count fi_groups sh_levels sh_order tl_measure tl_stale)) twt_pa hX twd_tl_clear_5 twin_pa twtok_pa twnm_pa rfl (by decide) tww_119 rfl rfl rfl (Or.inl rfl) rfl (Nat.le_of_ble_eq_true rfl) rfl ?_
  refine tw_aload_n hX twd_tl_clear_8 rfl rfl ?_
  refine tw_iconst hX twd_tl_clear_9 ⟨by decide, by decide⟩ ?_
  refine tw_put (kf := 5) (mem' := (tw_mC pa_kinds pa_groups pa_widths pa_pairs 0 pa_base ma_others ma_waiting le_types le_partners le_resolved le_ofParagraph ex_levels ex_types ex_entryLevels ex_entryOverrides ex_entryIsolates ex_last ex_lostIsolates ex_lostEmbeddings ex_openIsolates se_places se_types se_marks se_count se_embedding se_beginning se_end br_partners br_list fi_breaks fi_starts fi_extents fi_count fi_groups sh_levels sh_order tl_measure 1)) twt_tl hX twd_tl_clear_10 twin_tl twtok_tl twnm_tl rfl (by decide) tww_331 rfl rfl rfl (Or.inr ⟨rfl, ⟨by decide, by decide⟩⟩) rfl (Nat.le_of_ble_eq_true rfl) rfl ?_
  exact tw_vret hX twd_tl_clear_13 (hK _ _ (Eq.symm rfl) (Eq.symm rfl))
def twr_tl_base (v1 : Int) (pa_base : Int) (tl_stale : Int) : Int := if (twr_tl_within v1 0 2) = 0 then 0 else 1
def twu_tl_base__pa_base (v1 : Int) (pa_base : Int) (tl_stale : Int) : Int := if (twr_tl_within v1 0 2) = 0 then pa_base else v1
def twu_tl_base__tl_stale (v1 : Int) (pa_base : Int) (tl_stale : Int) : Int := if (twr_tl_within v1 0 2) = 0 then tl_stale else 1
set_option maxRecDepth 100000 in
set_option maxHeartbeats 4000000 in
theorem twc_tl_base {l : Launch} {D : va_G} {ad : Nat → Nat} {cI cZ : ClassId} {Post : tw_P} {v1 : Int} {pa_size pa_base le_ofParagraph ex_last ex_lostIsolates ex_lostEmbeddings ex_openIsolates se_count se_embedding se_beginning se_end fi_count tl_measure tl_stale : Int} {pa_kinds pa_groups pa_widths pa_pairs ma_others ma_waiting le_types le_partners le_resolved ex_levels ex_types ex_entryLevels ex_entryOverrides ex_entryIsolates se_places se_types se_marks br_partners br_list fi_breaks fi_starts fi_extents fi_groups sh_levels sh_order : Nat → Int} (hK : ∀ (z : Int) (n_pa_base : Int) (n_tl_stale : Int), z = twr_tl_base v1 pa_base tl_stale → n_pa_base = twu_tl_base__pa_base v1 pa_base tl_stale → n_tl_stale = twu_tl_base__tl_stale v1 pa_base tl_stale → Post (some z) (tw_mC pa_kinds pa_groups pa_widths pa_pairs pa_size n_pa_base ma_others ma_waiting le_types le_partners le_resolved le_ofParagraph ex_levels ex_types ex_entryLevels ex_entryOverrides ex_entryIsolates ex_last ex_lostIsolates ex_lostEmbeddings ex_openIsolates se_places se_types se_marks se_count se_embedding se_beginning se_end br_partners br_list fi_breaks fi_starts fi_extents fi_count fi_groups sh_levels sh_order tl_measure n_tl_stale)) : tw_ct (tw_YC l D ad cI cZ) twy_tl_base (Cond.code twy_tl_base prog_1_method_5_code 2 (some .boolean) :: tw_Wg) 1 [.inr 0, .inl v1] (tw_mC pa_kinds pa_groups pa_widths pa_pairs pa_size pa_base ma_others ma_waiting le_types le_partners le_resolved le_ofParagraph ex_levels ex_types ex_entryLevels ex_entryOverrides ex_entryIsolates ex_last ex_lostIsolates ex_lostEmbeddings ex_openIsolates se_places se_types se_marks se_count se_embedding se_beginning se_end br_partners br_list fi_breaks fi_starts fi_extents fi_count fi_groups sh_levels sh_order tl_measure tl_stale) Post := by
  refine tw_of (own := twR_tl) (L0 := [some (.inr 0), some (.inl v1)]) (by decide) rfl rfl (Nat.le_of_ble_eq_true rfl) (fun Z hX => ?_)
  refine tw_iload_n hX twd_tl_base_0 rfl rfl ?_
  refine tw_iconst hX twd_tl_base_1 ⟨by decide, by decide⟩ ?_
  refine tw_iconst hX twd_tl_base_2 ⟨by decide, by decide⟩ ?_
  refine tw_callS (As := [.inl v1, .inl 0, .inl 2]) (n := 3) hX twd_tl_base_3 tw_good tww_351 tww_349 tww_350 tww_77 twk_tl_within ⟨by decide, by decide⟩ rfl (Nat.le_of_ble_eq_true rfl) (twc_tl_within (fun z1 e2 => ?_))
  subst e2
  change tw_rn (tw_YC l D ad cI cZ) Z Post 6 [some (.inr 0), some (.inl v1)] [.inl (twr_tl_within v1 0 2)] (tw_mC pa_kinds pa_groups pa_widths pa_pairs pa_size pa_base ma_others ma_waiting le_types le_partners le_resolved le_ofParagraph ex_levels ex_types ex_entryLevels ex_entryOverrides ex_entryIsolates ex_last ex_lostIsolates ex_lostEmbeddings ex_openIsolates se_places se_types se_marks se_count se_embedding se_beginning se_end br_partners br_list fi_breaks fi_starts fi_extents fi_count fi_groups sh_levels sh_order tl_measure tl_stale)
  refine tw_if_ne hX twd_tl_base_6 rfl (fun q3 => ?_) (fun q3 => ?_)
  · have _tw := trivial
    refine tw_aload_n hX twd_tl_base_11 rfl rfl ?_
    refine tw_get (kf := 0) hX twd_tl_base_12 twin_tl rfl (by decide) tww_326 rfl rfl rfl ?_
    refine tw_iload_n hX twd_tl_base_15 rfl rfl ?_
    refine tw_put (kf := 5) (mem' := (tw_mC pa_kinds pa_groups pa_widths pa_pairs pa_size v1 ma_others ma_waiting le_types le_partners le_resolved le_ofParagraph ex_levels ex_types ex_entryLevels ex_entryOverrides ex_entryIsolates ex_last ex_lostIsolates ex_lostEmbeddings ex_openIsolates se_places se_types se_marks se_count se_embedding se_beginning se_end br_partners br_list fi_breaks fi_starts fi_extents fi_count fi_groups sh_levels sh_order tl_measure tl_stale)) twt_pa hX twd_tl_base_16 twin_pa twtok_pa twnm_pa rfl (by decide) tww_123 rfl rfl rfl (Or.inl rfl) rfl (Nat.le_of_ble_eq_true rfl) rfl ?_
    refine tw_aload_n hX twd_tl_base_19 rfl rfl ?_
    refine tw_iconst hX twd_tl_base_20 ⟨by decide, by decide⟩ ?_
    refine tw_put (kf := 5) (mem' := (tw_mC pa_kinds pa_groups pa_widths pa_pairs pa_size v1 ma_others ma_waiting le_types le_partners le_resolved le_ofParagraph ex_levels ex_types ex_entryLevels ex_entryOverrides ex_entryIsolates ex_last ex_lostIsolates ex_lostEmbeddings ex_openIsolates se_places se_types se_marks se_count se_embedding se_beginning se_end br_partners br_list fi_breaks fi_starts fi_extents fi_count fi_groups sh_levels sh_order tl_measure 1)) twt_tl hX twd_tl_base_21 twin_tl twtok_tl twnm_tl rfl (by decide) tww_331 rfl rfl rfl (Or.inr ⟨rfl, ⟨by decide, by decide⟩⟩) rfl (Nat.le_of_ble_eq_true rfl) rfl ?_
    refine tw_iconst hX twd_tl_base_24 ⟨by decide, by decide⟩ ?_
    exact tw_zret hX twd_tl_base_25 ⟨by decide, by decide⟩ (hK _ _ _ (Eq.symm (if_neg q3)) (Eq.symm (if_neg q3)) (Eq.symm (if_neg q3)))
  · have _tw := trivial
    refine tw_iconst hX twd_tl_base_9 ⟨by decide, by decide⟩ ?_
    exact tw_zret hX twd_tl_base_10 ⟨by decide, by decide⟩ (hK _ _ _ (Eq.symm (if_pos q3)) (Eq.symm (if_pos q3)) (Eq.symm (if_pos q3)))
def twr_tl_measure (v1 : Int) (tl_measure : Int) (tl_stale : Int) : Int := if (twr_tl_within v1 1 100) = 0 then 0 else 1
def twu_tl_measure__tl_measure (v1 : Int) (tl_measure : Int) (tl_stale : Int) : Int := if (twr_tl_within v1 1 100) = 0 then tl_measure else v1
def twu_tl_measure__tl_stale (v1 : Int) (tl_measure : Int) (tl_stale : Int) : Int := if (twr_tl_within v1 1 100) = 0 then tl_stale else 1
set_option maxRecDepth 100000 in
set_option maxHeartbeats 4000000 in
theorem twc_tl_measure {l : Launch} {D : va_G} {ad : Nat → Nat} {cI cZ : ClassId} {Post : tw_P} {v1 : Int} {pa_size pa_base le_ofParagraph ex_last ex_lostIsolates ex_lostEmbeddings ex_openIsolates se_count se_embedding se_beginning se_end fi_count tl_measure tl_stale : Int} {pa_kinds pa_groups pa_widths pa_pairs ma_others ma_waiting le_types le_partners le_resolved ex_levels ex_types ex_entryLevels ex_entryOverrides ex_entryIsolates se_places se_types se_marks br_partners br_list fi_breaks fi_starts fi_extents fi_groups sh_levels sh_order : Nat → Int} (hK : ∀ (z : Int) (n_tl_measure : Int) (n_tl_stale : Int), z = twr_tl_measure v1 tl_measure tl_stale → n_tl_measure = twu_tl_measure__tl_measure v1 tl_measure tl_stale → n_tl_stale = twu_tl_measure__tl_stale v1 tl_measure tl_stale → Post (some z) (tw_mC pa_kinds pa_groups pa_widths pa_pairs pa_size pa_base ma_others ma_waiting le_types le_partners le_resolved le_ofParagraph ex_levels ex_types ex_entryLevels ex_entryOverrides ex_entryIsolates ex_last ex_lostIsolates ex_lostEmbeddings ex_openIsolates se_places se_types se_marks se_count se_embedding se_beginning se_end br_partners br_list fi_breaks fi_starts fi_extents fi_count fi_groups sh_levels sh_order n_tl_measure n_tl_stale)) : tw_ct (tw_YC l D ad cI cZ) twy_tl_measure (Cond.code twy_tl_measure prog_1_method_6_code 2 (some .boolean) :: tw_Wg) 1 [.inr 0, .inl v1] (tw_mC pa_kinds pa_groups pa_widths pa_pairs pa_size pa_base ma_others ma_waiting le_types le_partners le_resolved le_ofParagraph ex_levels ex_types ex_entryLevels ex_entryOverrides ex_entryIsolates ex_last ex_lostIsolates ex_lostEmbeddings ex_openIsolates se_places se_types se_marks se_count se_embedding se_beginning se_end br_partners br_list fi_breaks fi_starts fi_extents fi_count fi_groups sh_levels sh_order tl_measure tl_stale) Post := by
  refine tw_of (own := twR_tl) (L0 := [some (.inr 0), some (.inl v1)]) (by decide) rfl rfl (Nat.le_of_ble_eq_true rfl) (fun Z hX => ?_)
  refine tw_iload_n hX twd_tl_measure_0 rfl rfl ?_
  refine tw_iconst hX twd_tl_measure_1 ⟨by decide, by decide⟩ ?_
  refine tw_bipush hX twd_tl_measure_2 (by decide +kernel) ⟨by decide, by decide⟩ ?_
  refine tw_callS (As := [.inl v1, .inl 1, .inl 100]) (n := 3) hX twd_tl_measure_4 tw_good tww_351 tww_349 tww_350 tww_77 twk_tl_within ⟨by decide, by decide⟩ rfl (Nat.le_of_ble_eq_true rfl) (twc_tl_within (fun z1 e2 => ?_))
  subst e2
  change tw_rn (tw_YC l D ad cI cZ) Z Post 7 [some (.inr 0), some (.inl v1)] [.inl (twr_tl_within v1 1 100)] (tw_mC pa_kinds pa_groups pa_widths pa_pairs pa_size pa_base ma_others ma_waiting le_types le_partners le_resolved le_ofParagraph ex_levels ex_types ex_entryLevels ex_entryOverrides ex_entryIsolates ex_last ex_lostIsolates ex_lostEmbeddings ex_openIsolates se_places se_types se_marks se_count se_embedding se_beginning se_end br_partners br_list fi_breaks fi_starts fi_extents fi_count fi_groups sh_levels sh_order tl_measure tl_stale)
  refine tw_if_ne hX twd_tl_measure_7 rfl (fun q3 => ?_) (fun q3 => ?_)
  · have _tw := trivial
    refine tw_aload_n hX twd_tl_measure_12 rfl rfl ?_
    refine tw_iload_n hX twd_tl_measure_13 rfl rfl ?_
    refine tw_put (kf := 4) (mem' := (tw_mC pa_kinds pa_groups pa_widths pa_pairs pa_size pa_base ma_others ma_waiting le_types le_partners le_resolved le_ofParagraph ex_levels ex_types ex_entryLevels ex_entryOverrides ex_entryIsolates ex_last ex_lostIsolates ex_lostEmbeddings ex_openIsolates se_places se_types se_marks se_count se_embedding se_beginning se_end br_partners br_list fi_breaks fi_starts fi_extents fi_count fi_groups sh_levels sh_order v1 tl_stale)) twt_tl hX twd_tl_measure_14 twin_tl twtok_tl twnm_tl rfl (by decide) tww_330 rfl rfl rfl (Or.inl rfl) rfl (Nat.le_of_ble_eq_true rfl) rfl ?_
    refine tw_aload_n hX twd_tl_measure_17 rfl rfl ?_
    refine tw_iconst hX twd_tl_measure_18 ⟨by decide, by decide⟩ ?_
    refine tw_put (kf := 5) (mem' := (tw_mC pa_kinds pa_groups pa_widths pa_pairs pa_size pa_base ma_others ma_waiting le_types le_partners le_resolved le_ofParagraph ex_levels ex_types ex_entryLevels ex_entryOverrides ex_entryIsolates ex_last ex_lostIsolates ex_lostEmbeddings ex_openIsolates se_places se_types se_marks se_count se_embedding se_beginning se_end br_partners br_list fi_breaks fi_starts fi_extents fi_count fi_groups sh_levels sh_order v1 1)) twt_tl hX twd_tl_measure_19 twin_tl twtok_tl twnm_tl rfl (by decide) tww_331 rfl rfl rfl (Or.inr ⟨rfl, ⟨by decide, by decide⟩⟩) rfl (Nat.le_of_ble_eq_true rfl) rfl ?_
    refine tw_iconst hX twd_tl_measure_22 ⟨by decide, by decide⟩ ?_
    exact tw_zret hX twd_tl_measure_23 ⟨by decide, by decide⟩ (hK _ _ _ (Eq.symm (if_neg q3)) (Eq.symm (if_neg q3)) (Eq.symm (if_neg q3)))
  · have _tw := trivial
    refine tw_iconst hX twd_tl_measure_10 ⟨by decide, by decide⟩ ?_
    exact tw_zret hX twd_tl_measure_11 ⟨by decide, by decide⟩ (hK _ _ _ (Eq.symm (if_pos q3)) (Eq.symm (if_pos q3)) (Eq.symm (if_pos q3)))
def twr_tl_length (pa_size : Int) : Int := pa_size
set_option maxRecDepth 100000 in
set_option maxHeartbeats 4000000 in
theorem twc_tl_length {l : Launch} {D : va_G} {ad : Nat → Nat} {cI cZ : ClassId} {Post : tw_P} {pa_size pa_base le_ofParagraph ex_last ex_lostIsolates ex_lostEmbeddings ex_openIsolates se_count se_embedding se_beginning se_end fi_count tl_measure tl_stale : Int} {pa_kinds pa_groups pa_widths pa_pairs ma_others ma_waiting le_types le_partners le_resolved ex_levels ex_types ex_entryLevels ex_entryOverrides ex_entryIsolates se_places se_types se_marks br_partners br_list fi_breaks fi_starts fi_extents fi_groups sh_levels sh_order : Nat → Int} (hK : ∀ (z : Int), z = twr_tl_length pa_size → Post (some z) (tw_mC pa_kinds pa_groups pa_widths pa_pairs pa_size pa_base ma_others ma_waiting le_types le_partners le_resolved le_ofParagraph ex_levels ex_types ex_entryLevels ex_entryOverrides ex_entryIsolates ex_last ex_lostIsolates ex_lostEmbeddings ex_openIsolates se_places se_types se_marks se_count se_embedding se_beginning se_end br_partners br_list fi_breaks fi_starts fi_extents fi_count fi_groups sh_levels sh_order tl_measure tl_stale)) : tw_ct (tw_YC l D ad cI cZ) twy_tl_length (Cond.code twy_tl_length prog_1_method_7_code 1 (some .int) :: tw_Wg) 0 [.inr 0] (tw_mC pa_kinds pa_groups pa_widths pa_pairs pa_size pa_base ma_others ma_waiting le_types le_partners le_resolved le_ofParagraph ex_levels ex_types ex_entryLevels ex_entryOverrides ex_entryIsolates ex_last ex_lostIsolates ex_lostEmbeddings ex_openIsolates se_places se_types se_marks se_count se_embedding se_beginning se_end br_partners br_list fi_breaks fi_starts fi_extents fi_count fi_groups sh_levels sh_order tl_measure tl_stale) Post := by
  refine tw_of (own := twR_tl) (L0 := [some (.inr 0)]) (by decide) rfl rfl (Nat.le_of_ble_eq_true rfl) (fun Z hX => ?_)
  refine tw_aload_n hX twd_tl_length_0 rfl rfl ?_
  refine tw_get (kf := 0) hX twd_tl_length_1 twin_tl rfl (by decide) tww_326 rfl rfl rfl ?_
  refine tw_get (kf := 4) hX twd_tl_length_4 twin_pa rfl (by decide) tww_119 rfl rfl rfl ?_
  exact tw_ret hX twd_tl_length_7 (hK _ (Eq.symm rfl))
def twr_tl_isOpener (v0 : Int) : Int := if v0 < 17 then 0 else (if 19 < v0 then 0 else 1)
set_option maxRecDepth 100000 in
set_option maxHeartbeats 4000000 in
theorem twc_tl_isOpener {l : Launch} {D : va_G} {ad : Nat → Nat} {cI cZ : ClassId} {Post : tw_P} {v0 : Int} {pa_size pa_base le_ofParagraph ex_last ex_lostIsolates ex_lostEmbeddings ex_openIsolates se_count se_embedding se_beginning se_end fi_count tl_measure tl_stale : Int} {pa_kinds pa_groups pa_widths pa_pairs ma_others ma_waiting le_types le_partners le_resolved ex_levels ex_types ex_entryLevels ex_entryOverrides ex_entryIsolates se_places se_types se_marks br_partners br_list fi_breaks fi_starts fi_extents fi_groups sh_levels sh_order : Nat → Int} (hK : ∀ (z : Int), z = twr_tl_isOpener v0 → Post (some z) (tw_mC pa_kinds pa_groups pa_widths pa_pairs pa_size pa_base ma_others ma_waiting le_types le_partners le_resolved le_ofParagraph ex_levels ex_types ex_entryLevels ex_entryOverrides ex_entryIsolates ex_last ex_lostIsolates ex_lostEmbeddings ex_openIsolates se_places se_types se_marks se_count se_embedding se_beginning se_end br_partners br_list fi_breaks fi_starts fi_extents fi_count fi_groups sh_levels sh_order tl_measure tl_stale)) : tw_ct (tw_YC l D ad cI cZ) twy_tl_isOpener (Cond.code twy_tl_isOpener prog_1_method_24_code 1 (some .boolean) :: tw_Wg) 0 [.inl v0] (tw_mC pa_kinds pa_groups pa_widths pa_pairs pa_size pa_base ma_others ma_waiting le_types le_partners le_resolved le_ofParagraph ex_levels ex_types ex_entryLevels ex_entryOverrides ex_entryIsolates ex_last ex_lostIsolates ex_lostEmbeddings ex_openIsolates se_places se_types se_marks se_count se_embedding se_beginning se_end br_partners br_list fi_breaks fi_starts fi_extents fi_count fi_groups sh_levels sh_order tl_measure tl_stale) Post := by
  refine tw_of (own := twR_tl) (L0 := [some (.inl v0)]) (by decide) rfl rfl (Nat.le_of_ble_eq_true rfl) (fun Z hX => ?_)
  refine tw_iload_n hX twd_tl_isOpener_0 rfl rfl ?_
  refine tw_bipush hX twd_tl_isOpener_1 (by decide +kernel) ⟨by decide, by decide⟩ ?_
  refine tw_icmp_lt hX twd_tl_isOpener_3 rfl (fun q1 => ?_) (fun q1 => ?_)
  · have _tw := trivial
    refine tw_iconst hX twd_tl_isOpener_16 ⟨by decide, by decide⟩ ?_
    exact tw_zret hX twd_tl_isOpener_17 ⟨by decide, by decide⟩ (hK _ (Eq.symm (if_pos q1)))
  · have _tw := trivial
    refine tw_iload_n hX twd_tl_isOpener_6 rfl rfl ?_
    refine tw_bipush hX twd_tl_isOpener_7 (by decide +kernel) ⟨by decide, by decide⟩ ?_
    refine tw_icmp_gt hX twd_tl_isOpener_9 rfl (fun q2 => ?_) (fun q2 => ?_)
    · have _tw := trivial
      refine tw_iconst hX twd_tl_isOpener_16 ⟨by decide, by decide⟩ ?_
      exact tw_zret hX twd_tl_isOpener_17 ⟨by decide, by decide⟩ (hK _ (Eq.symm (Eq.trans (if_neg q1) (if_pos q2))))
    · have _tw := trivial
      refine tw_iconst hX twd_tl_isOpener_12 ⟨by decide, by decide⟩ ?_
      refine tw_goto hX twd_tl_isOpener_13 rfl ?_
      exact tw_zret hX twd_tl_isOpener_17 ⟨by decide, by decide⟩ (hK _ (Eq.symm (Eq.trans (if_neg q1) (if_neg q2))))
def twl_ma_find_4 (X92 : (Nat → Int) → (Nat → Int) → Prop) (pa_kinds : Nat → Int) (pa_size : Int) : Nat → Int → Int → (Nat → Int) → (Nat → Int) → Prop
  | 0, _, _, _, _ => False
  | f + 1, v2, v3, ma_others, ma_waiting =>
    ((pa_size ≤ v3 →
    X92 ma_others ma_waiting) ∧
    (¬ pa_size ≤ v3 →
    (0 ≤ v3 ∧ v3 < 64) ∧ (0 ≤ v3 ∧ v3 < 64) ∧ (((((twr_tl_isOpener (pa_kinds (Int.toNat v3))) = 0 → (((pa_kinds (Int.toNat v3)) = 20 → ((¬ v2 ≤ 0 → ((tw_rg (v2 + -1)) ∧ (0 ≤ (v2 + -1) ∧ (v2 + -1) < 64) ∧ (0 ≤ (ma_waiting (Int.toNat (v2 + -1))) ∧ (ma_waiting (Int.toNat (v2 + -1))) < 64) ∧ (0 ≤ v3 ∧ v3 < 64))))))) ∧ (¬ (twr_tl_isOpener (pa_kinds (Int.toNat v3))) = 0 → ((0 ≤ v2 ∧ v2 < 64) ∧ (tw_rg (v2 + 1)))))) ∧
      (∀ x11 : Int, x11 = (if (twr_tl_isOpener (pa_kinds (Int.toNat v3))) = 0 then (if (pa_kinds (Int.toNat v3)) = 20 then (if v2 ≤ 0 then v2 else (v2 + -1)) else v2) else (v2 + 1)) →
      ∀ x_12_ma_others : Nat → Int, x_12_ma_others = (if (twr_tl_isOpener (pa_kinds (Int.toNat v3))) = 0 then (if (pa_kinds (Int.toNat v3)) = 20 then (if v2 ≤ 0 then (tw_up ma_others (Int.toNat v3) (-1)) else (tw_up (tw_up (tw_up ma_others (Int.toNat v3) (-1)) (Int.toNat (ma_waiting (Int.toNat (v2 + -1)))) v3) (Int.toNat v3) (ma_waiting (Int.toNat (v2 + -1))))) else (tw_up ma_others (Int.toNat v3) (-1))) else (tw_up ma_others (Int.toNat v3) (-1))) →
      ∀ x_13_ma_waiting : Nat → Int, x_13_ma_waiting = (if (twr_tl_isOpener (pa_kinds (Int.toNat v3))) = 0 then ma_waiting else (tw_up ma_waiting (Int.toNat v2) v3)) →
      (tw_rg (v3 + 1)) ∧ twl_ma_find_4 X92 pa_kinds pa_size f x11 (v3 + 1) x_12_ma_others x_13_ma_waiting))))
set_option maxRecDepth 100000 in
set_option maxHeartbeats 4000000 in
theorem twt_ma_find_4 {l : Launch} {D : va_G} {ad : Nat → Nat} {cI cZ : ClassId} {Z : tw_Z} {Post : tw_P} {X92 : (Nat → Int) → (Nat → Int) → Prop} {pa_size pa_base le_ofParagraph ex_last ex_lostIsolates ex_lostEmbeddings ex_openIsolates se_count se_embedding se_beginning se_end fi_count tl_measure tl_stale : Int} {pa_kinds pa_groups pa_widths pa_pairs le_types le_partners le_resolved ex_levels ex_types ex_entryLevels ex_entryOverrides ex_entryIsolates se_places se_types se_marks br_partners br_list fi_breaks fi_starts fi_extents fi_groups sh_levels sh_order : Nat → Int} (hX : tw_cx (tw_YC l D ad cI cZ) Z prog_6_method_2_code twR_ma tw_Wg none 1 6) (hX92 : ∀ (ma_others : Nat → Int) (ma_waiting : Nat → Int), X92 ma_others ma_waiting → tw_rn (tw_YC l D ad cI cZ) Z Post 92 [none, none, none, none, none, none] [] (tw_mC pa_kinds pa_groups pa_widths pa_pairs pa_size pa_base ma_others ma_waiting le_types le_partners le_resolved le_ofParagraph ex_levels ex_types ex_entryLevels ex_entryOverrides ex_entryIsolates ex_last ex_lostIsolates ex_lostEmbeddings ex_openIsolates se_places se_types se_marks se_count se_embedding se_beginning se_end br_partners br_list fi_breaks fi_starts fi_extents fi_count fi_groups sh_levels sh_order tl_measure tl_stale)) : ∀ (f : Nat) (v2 : Int) (v3 : Int) (ma_others : Nat → Int) (ma_waiting : Nat → Int), twl_ma_find_4 X92 pa_kinds pa_size f v2 v3 ma_others ma_waiting → tw_rn (tw_YC l D ad cI cZ) Z Post 4 [some (.inr 7), some (.inr 1), some (.inl v2), some (.inl v3), none, none] [] (tw_mC pa_kinds pa_groups pa_widths pa_pairs pa_size pa_base ma_others ma_waiting le_types le_partners le_resolved le_ofParagraph ex_levels ex_types ex_entryLevels ex_entryOverrides ex_entryIsolates ex_last ex_lostIsolates ex_lostEmbeddings ex_openIsolates se_places se_types se_marks se_count se_embedding se_beginning se_end br_partners br_list fi_breaks fi_starts fi_extents fi_count fi_groups sh_levels sh_order tl_measure tl_stale) := by
  intro f
  induction f with
  | zero => intro v2 v3 ma_others ma_waiting h; rw [twl_ma_find_4] at h; exact h.elim
  | succ f ih =>
    intro v2 v3 ma_others ma_waiting h
    rw [twl_ma_find_4] at h
    refine tw_iload_n hX twd_ma_find_4 rfl rfl ?_
    refine tw_aload_n hX twd_ma_find_5 rfl rfl ?_
    refine tw_get (kf := 4) hX twd_ma_find_6 twin_pa rfl (by decide) tww_116 rfl rfl rfl ?_
    refine tw_icmp_ge hX twd_ma_find_9 rfl (fun q23 => ?_) (fun q23 => ?_)
    · have h := h.1 q23
      refine tw_wk (L' := [none, none, none, none, none, none]) (tw_le_n (tw_le_n (tw_le_n (tw_le_n (tw_le_n (tw_le_n tw_le_0)))))) ?_
      exact hX92 _ _ h
    · have h := h.2 q23
      refine tw_aload_n hX twd_ma_find_12 rfl rfl ?_
      refine tw_get (kf := 0) hX twd_ma_find_13 twin_pa rfl (by decide) tww_103 rfl rfl rfl ?_
      refine tw_iload_n hX twd_ma_find_16 rfl rfl ?_
      obtain ⟨c1, h⟩ := h
      refine tw_iaload hX twd_ma_find_17 rfl c1 ?_
      refine tw_istore (L' := [some (.inr 7), some (.inr 1), some (.inl v2), some (.inl v3), some (.inl (pa_kinds (Int.toNat v3))), none]) hX twd_ma_find_18 (by decide) rfl ?_
      refine tw_aload_n hX twd_ma_find_20 rfl rfl ?_
      refine tw_get (kf := 0) hX twd_ma_find_21 twin_ma rfl (by decide) tww_150 rfl rfl rfl ?_
      refine tw_iload_n hX twd_ma_find_24 rfl rfl ?_
      refine tw_iconst hX twd_ma_find_25 ⟨by decide, by decide⟩ ?_
      obtain ⟨c2, h⟩ := h
      refine tw_iastore (mem' := (tw_mC pa_kinds pa_groups pa_widths pa_pairs pa_size pa_base (tw_up ma_others (Int.toNat v3) (-1)) ma_waiting le_types le_partners le_resolved le_ofParagraph ex_levels ex_types ex_entryLevels ex_entryOverrides ex_entryIsolates ex_last ex_lostIsolates ex_lostEmbeddings ex_openIsolates se_places se_types se_marks se_count se_embedding se_beginning se_end br_partners br_list fi_breaks fi_starts fi_extents fi_count fi_groups sh_levels sh_order tl_measure tl_stale)) hX twd_ma_find_26 rfl c2 rfl ?_
      refine tw_iload hX twd_ma_find_27 rfl ?_
      refine tw_callSN (As := [.inl (pa_kinds (Int.toNat v3))]) (n := 1) hX twd_ma_find_29 tw_good tww_394 twn_0 tww_393 tww_77 twk_tl_isOpener ⟨by decide, by decide⟩ rfl (Nat.le_of_ble_eq_true rfl) (twc_tl_isOpener (fun z3 e4 => ?_))
      subst e4
      change tw_rn (tw_YC l D ad cI cZ) Z Post 32 [some (.inr 7), some (.inr 1), some (.inl v2), some (.inl v3), some (.inl (pa_kinds (Int.toNat v3))), none] [.inl (twr_tl_isOpener (pa_kinds (Int.toNat v3)))] (tw_mC pa_kinds pa_groups pa_widths pa_pairs pa_size pa_base (tw_up ma_others (Int.toNat v3) (-1)) ma_waiting le_types le_partners le_resolved le_ofParagraph ex_levels ex_types ex_entryLevels ex_entryOverrides ex_entryIsolates ex_last ex_lostIsolates ex_lostEmbeddings ex_openIsolates se_places se_types se_marks se_count se_embedding se_beginning se_end br_partners br_list fi_breaks fi_starts fi_extents fi_count fi_groups sh_levels sh_order tl_measure tl_stale)
      obtain ⟨o15, h⟩ := h
      have j16 : ∀ x11 : Int, x11 = (if (twr_tl_isOpener (pa_kinds (Int.toNat v3))) = 0 then (if (pa_kinds (Int.toNat v3)) = 20 then (if v2 ≤ 0 then v2 else (v2 + -1)) else v2) else (v2 + 1)) → ∀ x_12_ma_others : Nat → Int, x_12_ma_others = (if (twr_tl_isOpener (pa_kinds (Int.toNat v3))) = 0 then (if (pa_kinds (Int.toNat v3)) = 20 then (if v2 ≤ 0 then (tw_up ma_others (Int.toNat v3) (-1)) else (tw_up (tw_up (tw_up ma_others (Int.toNat v3) (-1)) (Int.toNat (ma_waiting (Int.toNat (v2 + -1)))) v3) (Int.toNat v3) (ma_waiting (Int.toNat (v2 + -1))))) else (tw_up ma_others (Int.toNat v3) (-1))) else (tw_up ma_others (Int.toNat v3) (-1))) → ∀ x_13_ma_waiting : Nat → Int, x_13_ma_waiting = (if (twr_tl_isOpener (pa_kinds (Int.toNat v3))) = 0 then ma_waiting else (tw_up ma_waiting (Int.toNat v2) v3)) → tw_rn (tw_YC l D ad cI cZ) Z Post 86 [some (.inr 7), some (.inr 1), some (.inl x11), some (.inl v3), none, none] [] (tw_mC pa_kinds pa_groups pa_widths pa_pairs pa_size pa_base x_12_ma_others x_13_ma_waiting le_types le_partners le_resolved le_ofParagraph ex_levels ex_types ex_entryLevels ex_entryOverrides ex_entryIsolates ex_last ex_lostIsolates ex_lostEmbeddings ex_openIsolates se_places se_types se_marks se_count se_embedding se_beginning se_end br_partners br_list fi_breaks fi_starts fi_extents fi_count fi_groups sh_levels sh_order tl_measure tl_stale) := by
        intro x11 e17 x_12_ma_others e18 x_13_ma_waiting e19
        have h := h x11 e17 x_12_ma_others e18 x_13_ma_waiting e19
        obtain ⟨c14, h⟩ := h
        refine tw_iinc (L' := [some (.inr 7), some (.inr 1), some (.inl x11), some (.inl (v3 + 1)), none, none]) hX twd_ma_find_86 rfl (by decide) c14 rfl ?_
        refine tw_goto hX twd_ma_find_89 rfl ?_
        exact ih _ _ _ _ h
      refine tw_if_eq hX twd_ma_find_32 rfl (fun q20 => ?_) (fun q20 => ?_)
      · have _tw := trivial
        have o15 := o15.1 q20
        refine tw_iload hX twd_ma_find_48 rfl ?_
        refine tw_bipush hX twd_ma_find_50 (by decide +kernel) ⟨by decide, by decide⟩ ?_
        refine tw_icmp_ne hX twd_ma_find_52 rfl (fun q21 => ?_) (fun q21 => ?_)
        · have _tw := trivial
          refine tw_wk (L' := [some (.inr 7), some (.inr 1), some (.inl v2), some (.inl v3), none, none]) (tw_le_s (tw_le_s (tw_le_s (tw_le_s (tw_le_n (tw_le_n tw_le_0)))))) ?_
          exact j16 _ (Eq.symm (Eq.trans (if_pos q20) (if_neg q21))) _ (Eq.symm (Eq.trans (if_pos q20) (if_neg q21))) _ (Eq.symm (if_pos q20))
        · have _tw := trivial
          have o15 := o15 q21
          refine tw_iload_n hX twd_ma_find_55 rfl rfl ?_
          refine tw_if_le hX twd_ma_find_56 rfl (fun q22 => ?_) (fun q22 => ?_)
          · have _tw := trivial
            refine tw_wk (L' := [some (.inr 7), some (.inr 1), some (.inl v2), some (.inl v3), none, none]) (tw_le_s (tw_le_s (tw_le_s (tw_le_s (tw_le_n (tw_le_n tw_le_0)))))) ?_
            exact j16 _ (Eq.symm (Eq.trans (if_pos q20) (Eq.trans (if_pos q21) (if_pos q22)))) _ (Eq.symm (Eq.trans (if_pos q20) (Eq.trans (if_pos q21) (if_pos q22)))) _ (Eq.symm (if_pos q20))
          · have _tw := trivial
            have o15 := o15 q22
            obtain ⟨c5, o15⟩ := o15
            refine tw_iinc (L' := [some (.inr 7), some (.inr 1), some (.inl (v2 + -1)), some (.inl v3), some (.inl (pa_kinds (Int.toNat v3))), none]) hX twd_ma_find_59 rfl (by decide) c5 rfl ?_
            refine tw_aload_n hX twd_ma_find_62 rfl rfl ?_
            refine tw_get (kf := 1) hX twd_ma_find_63 twin_ma rfl (by decide) tww_154 rfl rfl rfl ?_
            refine tw_iload_n hX twd_ma_find_66 rfl rfl ?_
            obtain ⟨c6, o15⟩ := o15
            refine tw_iaload hX twd_ma_find_67 rfl c6 ?_
            refine tw_istore (L' := [some (.inr 7), some (.inr 1), some (.inl (v2 + -1)), some (.inl v3), some (.inl (pa_kinds (Int.toNat v3))), some (.inl (ma_waiting (Int.toNat (v2 + -1))))]) hX twd_ma_find_68 (by decide) rfl ?_
            refine tw_aload_n hX twd_ma_find_70 rfl rfl ?_
            refine tw_get (kf := 0) hX twd_ma_find_71 twin_ma rfl (by decide) tww_150 rfl rfl rfl ?_
            refine tw_iload hX twd_ma_find_74 rfl ?_
            refine tw_iload_n hX twd_ma_find_76 rfl rfl ?_
            obtain ⟨c7, o15⟩ := o15
            refine tw_iastore (mem' := (tw_mC pa_kinds pa_groups pa_widths pa_pairs pa_size pa_base (tw_up (tw_up ma_others (Int.toNat v3) (-1)) (Int.toNat (ma_waiting (Int.toNat (v2 + -1)))) v3) ma_waiting le_types le_partners le_resolved le_ofParagraph ex_levels ex_types ex_entryLevels ex_entryOverrides ex_entryIsolates ex_last ex_lostIsolates ex_lostEmbeddings ex_openIsolates se_places se_types se_marks se_count se_embedding se_beginning se_end br_partners br_list fi_breaks fi_starts fi_extents fi_count fi_groups sh_levels sh_order tl_measure tl_stale)) hX twd_ma_find_77 rfl c7 rfl ?_
            refine tw_aload_n hX twd_ma_find_78 rfl rfl ?_
            refine tw_get (kf := 0) hX twd_ma_find_79 twin_ma rfl (by decide) tww_150 rfl rfl rfl ?_
            refine tw_iload_n hX twd_ma_find_82 rfl rfl ?_
            refine tw_iload hX twd_ma_find_83 rfl ?_
            have c8 := o15
            refine tw_iastore (mem' := (tw_mC pa_kinds pa_groups pa_widths pa_pairs pa_size pa_base (tw_up (tw_up (tw_up ma_others (Int.toNat v3) (-1)) (Int.toNat (ma_waiting (Int.toNat (v2 + -1)))) v3) (Int.toNat v3) (ma_waiting (Int.toNat (v2 + -1)))) ma_waiting le_types le_partners le_resolved le_ofParagraph ex_levels ex_types ex_entryLevels ex_entryOverrides ex_entryIsolates ex_last ex_lostIsolates ex_lostEmbeddings ex_openIsolates se_places se_types se_marks se_count se_embedding se_beginning se_end br_partners br_list fi_breaks fi_starts fi_extents fi_count fi_groups sh_levels sh_order tl_measure tl_stale)) hX twd_ma_find_85 rfl c8 rfl ?_
            refine tw_wk (L' := [some (.inr 7), some (.inr 1), some (.inl (v2 + -1)), some (.inl v3), none, none]) (tw_le_s (tw_le_s (tw_le_s (tw_le_s (tw_le_n (tw_le_n tw_le_0)))))) ?_
            exact j16 _ (Eq.symm (Eq.trans (if_pos q20) (Eq.trans (if_pos q21) (if_neg q22)))) _ (Eq.symm (Eq.trans (if_pos q20) (Eq.trans (if_pos q21) (if_neg q22)))) _ (Eq.symm (if_pos q20))
      · have _tw := trivial
        have o15 := o15.2 q20
        refine tw_aload_n hX twd_ma_find_35 rfl rfl ?_
        refine tw_get (kf := 1) hX twd_ma_find_36 twin_ma rfl (by decide) tww_154 rfl rfl rfl ?_
        refine tw_iload_n hX twd_ma_find_39 rfl rfl ?_
        refine tw_iload_n hX twd_ma_find_40 rfl rfl ?_
        obtain ⟨c9, o15⟩ := o15
        refine tw_iastore (mem' := (tw_mC pa_kinds pa_groups pa_widths pa_pairs pa_size pa_base (tw_up ma_others (Int.toNat v3) (-1)) (tw_up ma_waiting (Int.toNat v2) v3) le_types le_partners le_resolved le_ofParagraph ex_levels ex_types ex_entryLevels ex_entryOverrides ex_entryIsolates ex_last ex_lostIsolates ex_lostEmbeddings ex_openIsolates se_places se_types se_marks se_count se_embedding se_beginning se_end br_partners br_list fi_breaks fi_starts fi_extents fi_count fi_groups sh_levels sh_order tl_measure tl_stale)) hX twd_ma_find_41 rfl c9 rfl ?_
        have c10 := o15
        refine tw_iinc (L' := [some (.inr 7), some (.inr 1), some (.inl (v2 + 1)), some (.inl v3), some (.inl (pa_kinds (Int.toNat v3))), none]) hX twd_ma_find_42 rfl (by decide) c10 rfl ?_
        refine tw_goto hX twd_ma_find_45 rfl ?_
        refine tw_wk (L' := [some (.inr 7), some (.inr 1), some (.inl (v2 + 1)), some (.inl v3), none, none]) (tw_le_s (tw_le_s (tw_le_s (tw_le_s (tw_le_n (tw_le_n tw_le_0)))))) ?_
        exact j16 _ (Eq.symm (if_neg q20)) _ (Eq.symm (if_neg q20)) _ (Eq.symm (if_neg q20))
def tww_ma_find (pa_kinds : Nat → Int) (pa_size : Int) (ma_others : Nat → Int) (ma_waiting : Nat → Int) (K : (Nat → Int) → (Nat → Int) → Prop) : Prop :=
  (∃ f26 : Nat, twl_ma_find_4 (fun (y24_ma_others : Nat → Int) (y25_ma_waiting : Nat → Int) =>
  K y24_ma_others y25_ma_waiting) pa_kinds pa_size f26 0 0 ma_others ma_waiting)
set_option maxRecDepth 100000 in
set_option maxHeartbeats 4000000 in
theorem twc_ma_find {l : Launch} {D : va_G} {ad : Nat → Nat} {cI cZ : ClassId} {Post : tw_P} {K : (Nat → Int) → (Nat → Int) → Prop} {pa_size pa_base le_ofParagraph ex_last ex_lostIsolates ex_lostEmbeddings ex_openIsolates se_count se_embedding se_beginning se_end fi_count tl_measure tl_stale : Int} {pa_kinds pa_groups pa_widths pa_pairs ma_others ma_waiting le_types le_partners le_resolved ex_levels ex_types ex_entryLevels ex_entryOverrides ex_entryIsolates se_places se_types se_marks br_partners br_list fi_breaks fi_starts fi_extents fi_groups sh_levels sh_order : Nat → Int} (h : tww_ma_find pa_kinds pa_size ma_others ma_waiting K) (hK : ∀ (n_ma_others : Nat → Int) (n_ma_waiting : Nat → Int), K n_ma_others n_ma_waiting → Post none (tw_mC pa_kinds pa_groups pa_widths pa_pairs pa_size pa_base n_ma_others n_ma_waiting le_types le_partners le_resolved le_ofParagraph ex_levels ex_types ex_entryLevels ex_entryOverrides ex_entryIsolates ex_last ex_lostIsolates ex_lostEmbeddings ex_openIsolates se_places se_types se_marks se_count se_embedding se_beginning se_end br_partners br_list fi_breaks fi_starts fi_extents fi_count fi_groups sh_levels sh_order tl_measure tl_stale)) : tw_ct (tw_YC l D ad cI cZ) twy_ma_find (Cond.code twy_ma_find prog_6_method_2_code 6 none :: tw_Wg) 1 [.inr 7, .inr 1] (tw_mC pa_kinds pa_groups pa_widths pa_pairs pa_size pa_base ma_others ma_waiting le_types le_partners le_resolved le_ofParagraph ex_levels ex_types ex_entryLevels ex_entryOverrides ex_entryIsolates ex_last ex_lostIsolates ex_lostEmbeddings ex_openIsolates se_places se_types se_marks se_count se_embedding se_beginning se_end br_partners br_list fi_breaks fi_starts fi_extents fi_count fi_groups sh_levels sh_order tl_measure tl_stale) Post := by
  refine tw_of (own := twR_ma) (L0 := [some (.inr 7), some (.inr 1), none, none, none, none]) (by decide) rfl rfl (Nat.le_of_ble_eq_true rfl) (fun Z hX => ?_)
  unfold tww_ma_find at h
  refine tw_iconst hX twd_ma_find_0 ⟨by decide, by decide⟩ ?_
  refine tw_istore_n (L' := [some (.inr 7), some (.inr 1), some (.inl 0), none, none, none]) hX twd_ma_find_1 rfl (by decide) rfl ?_
  refine tw_iconst hX twd_ma_find_2 ⟨by decide, by decide⟩ ?_
  refine tw_istore_n (L' := [some (.inr 7), some (.inr 1), some (.inl 0), some (.inl 0), none, none]) hX twd_ma_find_3 rfl (by decide) rfl ?_
  obtain ⟨f26, h⟩ := h
  refine twt_ma_find_4 hX (fun y24_ma_others y25_ma_waiting h => ?_) f26 _ _ _ _ h
  exact tw_vret hX twd_ma_find_92 (hK _ _ h)
def twl_ma_direction_6 (K : Int → Prop) (X90 : Prop) (v3 : Int) (pa_kinds : Nat → Int) (ma_others : Nat → Int) : Nat → Int → Int → Prop
  | 0, _, _ => False
  | f + 1, v4, v5 =>
    ((v3 ≤ v5 →
    X90) ∧
    (¬ v3 ≤ v5 →
    (∀ J2 : Int → Prop, (∀ (x1 : Int), ((tw_rg (v5 + 1)) ∧ twl_ma_direction_6 K X90 v3 pa_kinds ma_others f x1 (v5 + 1)) → J2 x1) →
      ((v4 ≤ v5 →
      (0 ≤ v5 ∧ v5 < 64) ∧ (((pa_kinds (Int.toNat v5)) = 0 →
        K 0) ∧
        (¬ (pa_kinds (Int.toNat v5)) = 0 →
        (((pa_kinds (Int.toNat v5)) = 1 →
          K 1) ∧
          (¬ (pa_kinds (Int.toNat v5)) = 1 →
          (((pa_kinds (Int.toNat v5)) = 2 →
            K 1) ∧
            (¬ (pa_kinds (Int.toNat v5)) = 2 →
            (((twr_tl_isOpener (pa_kinds (Int.toNat v5))) = 0 →
              J2 v4) ∧
              (¬ (twr_tl_isOpener (pa_kinds (Int.toNat v5))) = 0 →
              (0 ≤ v5 ∧ v5 < 64) ∧ (((ma_others (Int.toNat v5)) = (-1) →
                K 0) ∧
                (¬ (ma_others (Int.toNat v5)) = (-1) →
                (0 ≤ v5 ∧ v5 < 64) ∧ (tw_rg ((ma_others (Int.toNat v5)) + 1)) ∧ J2 ((ma_others (Int.toNat v5)) + 1)))))))))))) ∧
      (¬ v4 ≤ v5 →
      J2 v4)))))
set_option maxRecDepth 100000 in
set_option maxHeartbeats 4000000 in
theorem twt_ma_direction_6 {l : Launch} {D : va_G} {ad : Nat → Nat} {cI cZ : ClassId} {Z : tw_Z} {Post : tw_P} {K : Int → Prop} {X90 : Prop} {v3 : Int} {pa_size pa_base le_ofParagraph ex_last ex_lostIsolates ex_lostEmbeddings ex_openIsolates se_count se_embedding se_beginning se_end fi_count tl_measure tl_stale : Int} {pa_kinds pa_groups pa_widths pa_pairs ma_others ma_waiting le_types le_partners le_resolved ex_levels ex_types ex_entryLevels ex_entryOverrides ex_entryIsolates se_places se_types se_marks br_partners br_list fi_breaks fi_starts fi_extents fi_groups sh_levels sh_order : Nat → Int} (hX : tw_cx (tw_YC l D ad cI cZ) Z prog_6_method_3_code twR_ma tw_Wg (some .int) 1 7) (hX90 : X90 → tw_rn (tw_YC l D ad cI cZ) Z Post 90 [none, none, none, none, none, none, none] [] (tw_mC pa_kinds pa_groups pa_widths pa_pairs pa_size pa_base ma_others ma_waiting le_types le_partners le_resolved le_ofParagraph ex_levels ex_types ex_entryLevels ex_entryOverrides ex_entryIsolates ex_last ex_lostIsolates ex_lostEmbeddings ex_openIsolates se_places se_types se_marks se_count se_embedding se_beginning se_end br_partners br_list fi_breaks fi_starts fi_extents fi_count fi_groups sh_levels sh_order tl_measure tl_stale)) (hK : ∀ (z : Int), K z → Post (some z) (tw_mC pa_kinds pa_groups pa_widths pa_pairs pa_size pa_base ma_others ma_waiting le_types le_partners le_resolved le_ofParagraph ex_levels ex_types ex_entryLevels ex_entryOverrides ex_entryIsolates ex_last ex_lostIsolates ex_lostEmbeddings ex_openIsolates se_places se_types se_marks se_count se_embedding se_beginning se_end br_partners br_list fi_breaks fi_starts fi_extents fi_count fi_groups sh_levels sh_order tl_measure tl_stale)) : ∀ (f : Nat) (v4 : Int) (v5 : Int), twl_ma_direction_6 K X90 v3 pa_kinds ma_others f v4 v5 → tw_rn (tw_YC l D ad cI cZ) Z Post 6 [some (.inr 7), some (.inr 1), none, some (.inl v3), some (.inl v4), some (.inl v5), none] [] (tw_mC pa_kinds pa_groups pa_widths pa_pairs pa_size pa_base ma_others ma_waiting le_types le_partners le_resolved le_ofParagraph ex_levels ex_types ex_entryLevels ex_entryOverrides ex_entryIsolates ex_last ex_lostIsolates ex_lostEmbeddings ex_openIsolates se_places se_types se_marks se_count se_embedding se_beginning se_end br_partners br_list fi_breaks fi_starts fi_extents fi_count fi_groups sh_levels sh_order tl_measure tl_stale) := by
  intro f
  induction f with
  | zero => intro v4 v5 h; rw [twl_ma_direction_6] at h; exact h.elim
  | succ f ih =>
    intro v4 v5 h
    rw [twl_ma_direction_6] at h
    refine tw_iload hX twd_ma_direction_6 rfl ?_
    refine tw_iload_n hX twd_ma_direction_8 rfl rfl ?_
    refine tw_icmp_ge hX twd_ma_direction_9 rfl (fun q16 => ?_) (fun q16 => ?_)
    · have h := h.1 q16
      refine tw_wk (L' := [none, none, none, none, none, none, none]) (tw_le_n (tw_le_n (tw_le_n (tw_le_n (tw_le_n (tw_le_n (tw_le_n tw_le_0))))))) ?_
      exact hX90 h
    · have h := h.2 q16
      refine tw_iload hX twd_ma_direction_12 rfl ?_
      refine tw_iload hX twd_ma_direction_14 rfl ?_
      have h := h (fun (x1 : Int) => tw_rn (tw_YC l D ad cI cZ) Z Post 84 [some (.inr 7), some (.inr 1), none, some (.inl v3), some (.inl x1), some (.inl v5), none] [] (tw_mC pa_kinds pa_groups pa_widths pa_pairs pa_size pa_base ma_others ma_waiting le_types le_partners le_resolved le_ofParagraph ex_levels ex_types ex_entryLevels ex_entryOverrides ex_entryIsolates ex_last ex_lostIsolates ex_lostEmbeddings ex_openIsolates se_places se_types se_marks se_count se_embedding se_beginning se_end br_partners br_list fi_breaks fi_starts fi_extents fi_count fi_groups sh_levels sh_order tl_measure tl_stale)) (by
        intro x1 h
        obtain ⟨c3, h⟩ := h
        refine tw_iinc (L' := [some (.inr 7), some (.inr 1), none, some (.inl v3), some (.inl x1), some (.inl (v5 + 1)), none]) hX twd_ma_direction_84 rfl (by decide) c3 rfl ?_
        refine tw_goto hX twd_ma_direction_87 rfl ?_
        exact ih _ _ h)
      refine tw_icmp_ge hX twd_ma_direction_16 rfl (fun q15 => ?_) (fun q15 => ?_)
      · have h := h.1 q15
        refine tw_aload_n hX twd_ma_direction_22 rfl rfl ?_
        refine tw_get (kf := 0) hX twd_ma_direction_23 twin_pa rfl (by decide) tww_103 rfl rfl rfl ?_
        refine tw_iload hX twd_ma_direction_26 rfl ?_
        obtain ⟨c4, h⟩ := h
        refine tw_iaload hX twd_ma_direction_28 rfl c4 ?_
        refine tw_istore (L' := [some (.inr 7), some (.inr 1), none, some (.inl v3), some (.inl v4), some (.inl v5), some (.inl (pa_kinds (Int.toNat v5)))]) hX twd_ma_direction_29 (by decide) rfl ?_
        refine tw_iload hX twd_ma_direction_31 rfl ?_
        refine tw_if_ne hX twd_ma_direction_33 rfl (fun q14 => ?_) (fun q14 => ?_)
        · have h := h.2 q14
          refine tw_iload hX twd_ma_direction_38 rfl ?_
          refine tw_iconst hX twd_ma_direction_40 ⟨by decide, by decide⟩ ?_
          refine tw_icmp_eq hX twd_ma_direction_41 rfl (fun q13 => ?_) (fun q13 => ?_)
          · have h := h.1 q13
            refine tw_iconst hX twd_ma_direction_50 ⟨by decide, by decide⟩ ?_
            exact tw_ret hX twd_ma_direction_51 (hK _ h)
          · have h := h.2 q13
            refine tw_iload hX twd_ma_direction_44 rfl ?_
            refine tw_iconst hX twd_ma_direction_46 ⟨by decide, by decide⟩ ?_
            refine tw_icmp_ne hX twd_ma_direction_47 rfl (fun q12 => ?_) (fun q12 => ?_)
            · have h := h.2 q12
              refine tw_iload hX twd_ma_direction_52 rfl ?_
              refine tw_callSN (As := [.inl (pa_kinds (Int.toNat v5))]) (n := 1) hX twd_ma_direction_54 tw_good tww_394 twn_0 tww_393 tww_77 twk_tl_isOpener ⟨by decide, by decide⟩ rfl (Nat.le_of_ble_eq_true rfl) (twc_tl_isOpener (fun z5 e6 => ?_))
              subst e6
              change tw_rn (tw_YC l D ad cI cZ) Z Post 57 [some (.inr 7), some (.inr 1), none, some (.inl v3), some (.inl v4), some (.inl v5), some (.inl (pa_kinds (Int.toNat v5)))] [.inl (twr_tl_isOpener (pa_kinds (Int.toNat v5)))] (tw_mC pa_kinds pa_groups pa_widths pa_pairs pa_size pa_base ma_others ma_waiting le_types le_partners le_resolved le_ofParagraph ex_levels ex_types ex_entryLevels ex_entryOverrides ex_entryIsolates ex_last ex_lostIsolates ex_lostEmbeddings ex_openIsolates se_places se_types se_marks se_count se_embedding se_beginning se_end br_partners br_list fi_breaks fi_starts fi_extents fi_count fi_groups sh_levels sh_order tl_measure tl_stale)
              refine tw_if_eq hX twd_ma_direction_57 rfl (fun q11 => ?_) (fun q11 => ?_)
              · have h := h.1 q11
                refine tw_wk (L' := [some (.inr 7), some (.inr 1), none, some (.inl v3), some (.inl v4), some (.inl v5), none]) (tw_le_s (tw_le_s (tw_le_n (tw_le_s (tw_le_s (tw_le_s (tw_le_n tw_le_0))))))) ?_
                exact h
              · have h := h.2 q11
                refine tw_aload_n hX twd_ma_direction_60 rfl rfl ?_
                refine tw_get (kf := 0) hX twd_ma_direction_61 twin_ma rfl (by decide) tww_150 rfl rfl rfl ?_
                refine tw_iload hX twd_ma_direction_64 rfl ?_
                obtain ⟨c7, h⟩ := h
                refine tw_iaload hX twd_ma_direction_66 rfl c7 ?_
                refine tw_iconst hX twd_ma_direction_67 ⟨by decide, by decide⟩ ?_
                refine tw_icmp_ne hX twd_ma_direction_68 rfl (fun q10 => ?_) (fun q10 => ?_)
                · have h := h.2 q10
                  refine tw_aload_n hX twd_ma_direction_73 rfl rfl ?_
                  refine tw_get (kf := 0) hX twd_ma_direction_74 twin_ma rfl (by decide) tww_150 rfl rfl rfl ?_
                  refine tw_iload hX twd_ma_direction_77 rfl ?_
                  obtain ⟨c8, h⟩ := h
                  refine tw_iaload hX twd_ma_direction_79 rfl c8 ?_
                  refine tw_iconst hX twd_ma_direction_80 ⟨by decide, by decide⟩ ?_
                  obtain ⟨c9, h⟩ := h
                  refine tw_iadd hX twd_ma_direction_81 c9 ?_
                  refine tw_istore (L' := [some (.inr 7), some (.inr 1), none, some (.inl v3), some (.inl ((ma_others (Int.toNat v5)) + 1)), some (.inl v5), some (.inl (pa_kinds (Int.toNat v5)))]) hX twd_ma_direction_82 (by decide) rfl ?_
                  refine tw_wk (L' := [some (.inr 7), some (.inr 1), none, some (.inl v3), some (.inl ((ma_others (Int.toNat v5)) + 1)), some (.inl v5), none]) (tw_le_s (tw_le_s (tw_le_n (tw_le_s (tw_le_s (tw_le_s (tw_le_n tw_le_0))))))) ?_
                  exact h
                · have h := h.1 q10
                  refine tw_iconst hX twd_ma_direction_71 ⟨by decide, by decide⟩ ?_
                  exact tw_ret hX twd_ma_direction_72 (hK _ h)
            · have h := h.1 q12
              refine tw_iconst hX twd_ma_direction_50 ⟨by decide, by decide⟩ ?_
              exact tw_ret hX twd_ma_direction_51 (hK _ h)
        · have h := h.1 q14
          refine tw_iconst hX twd_ma_direction_36 ⟨by decide, by decide⟩ ?_
          exact tw_ret hX twd_ma_direction_37 (hK _ h)
      · have h := h.2 q15
        refine tw_goto hX twd_ma_direction_19 rfl ?_
        exact h
def tww_ma_direction (v2 v3 : Int) (pa_kinds : Nat → Int) (ma_others : Nat → Int) (K : Int → Prop) : Prop :=
  (∃ f17 : Nat, twl_ma_direction_6 K (K 0) v3 pa_kinds ma_others f17 v2 v2)
set_option maxRecDepth 100000 in
set_option maxHeartbeats 4000000 in
theorem twc_ma_direction {l : Launch} {D : va_G} {ad : Nat → Nat} {cI cZ : ClassId} {Post : tw_P} {K : Int → Prop} {v2 v3 : Int} {pa_size pa_base le_ofParagraph ex_last ex_lostIsolates ex_lostEmbeddings ex_openIsolates se_count se_embedding se_beginning se_end fi_count tl_measure tl_stale : Int} {pa_kinds pa_groups pa_widths pa_pairs ma_others ma_waiting le_types le_partners le_resolved ex_levels ex_types ex_entryLevels ex_entryOverrides ex_entryIsolates se_places se_types se_marks br_partners br_list fi_breaks fi_starts fi_extents fi_groups sh_levels sh_order : Nat → Int} (h : tww_ma_direction v2 v3 pa_kinds ma_others K) (hK : ∀ (z : Int), K z → Post (some z) (tw_mC pa_kinds pa_groups pa_widths pa_pairs pa_size pa_base ma_others ma_waiting le_types le_partners le_resolved le_ofParagraph ex_levels ex_types ex_entryLevels ex_entryOverrides ex_entryIsolates ex_last ex_lostIsolates ex_lostEmbeddings ex_openIsolates se_places se_types se_marks se_count se_embedding se_beginning se_end br_partners br_list fi_breaks fi_starts fi_extents fi_count fi_groups sh_levels sh_order tl_measure tl_stale)) : tw_ct (tw_YC l D ad cI cZ) twy_ma_direction (Cond.code twy_ma_direction prog_6_method_3_code 7 (some .int) :: tw_Wg) 1 [.inr 7, .inr 1, .inl v2, .inl v3] (tw_mC pa_kinds pa_groups pa_widths pa_pairs pa_size pa_base ma_others ma_waiting le_types le_partners le_resolved le_ofParagraph ex_levels ex_types ex_entryLevels ex_entryOverrides ex_entryIsolates ex_last ex_lostIsolates ex_lostEmbeddings ex_openIsolates se_places se_types se_marks se_count se_embedding se_beginning se_end br_partners br_list fi_breaks fi_starts fi_extents fi_count fi_groups sh_levels sh_order tl_measure tl_stale) Post := by
  refine tw_of (own := twR_ma) (L0 := [some (.inr 7), some (.inr 1), some (.inl v2), some (.inl v3), none, none, none]) (by decide) rfl rfl (Nat.le_of_ble_eq_true rfl) (fun Z hX => ?_)
  unfold tww_ma_direction at h
  refine tw_iload_n hX twd_ma_direction_0 rfl rfl ?_
  refine tw_istore (L' := [some (.inr 7), some (.inr 1), some (.inl v2), some (.inl v3), some (.inl v2), none, none]) hX twd_ma_direction_1 (by decide) rfl ?_
  refine tw_iload_n hX twd_ma_direction_3 rfl rfl ?_
  refine tw_istore (L' := [some (.inr 7), some (.inr 1), some (.inl v2), some (.inl v3), some (.inl v2), some (.inl v2), none]) hX twd_ma_direction_4 (by decide) rfl ?_
  obtain ⟨f17, h⟩ := h
  refine tw_wk (L' := [some (.inr 7), some (.inr 1), none, some (.inl v3), some (.inl v2), some (.inl v2), none]) (tw_le_s (tw_le_s (tw_le_n (tw_le_s (tw_le_s (tw_le_s (tw_le_n tw_le_0))))))) ?_
  refine twt_ma_direction_6 hX (fun  h => ?_) hK f17 _ _ h
  refine tw_iconst hX twd_ma_direction_90 ⟨by decide, by decide⟩ ?_
  exact tw_ret hX twd_ma_direction_91 (hK _ h)
def twu_ex_begin__ex_entryLevels (v1 : Int) (ex_entryLevels : Nat → Int) (ex_entryOverrides : Nat → Int) (ex_entryIsolates : Nat → Int) (ex_last : Int) (ex_lostIsolates : Int) (ex_lostEmbeddings : Int) (ex_openIsolates : Int) : Nat → Int := tw_up ex_entryLevels (Int.toNat 0) v1
def twu_ex_begin__ex_entryOverrides (v1 : Int) (ex_entryLevels : Nat → Int) (ex_entryOverrides : Nat → Int) (ex_entryIsolates : Nat → Int) (ex_last : Int) (ex_lostIsolates : Int) (ex_lostEmbeddings : Int) (ex_openIsolates : Int) : Nat → Int := tw_up ex_entryOverrides (Int.toNat 0) (-1)
def twu_ex_begin__ex_entryIsolates (v1 : Int) (ex_entryLevels : Nat → Int) (ex_entryOverrides : Nat → Int) (ex_entryIsolates : Nat → Int) (ex_last : Int) (ex_lostIsolates : Int) (ex_lostEmbeddings : Int) (ex_openIsolates : Int) : Nat → Int := tw_up ex_entryIsolates (Int.toNat 0) 0
def twu_ex_begin__ex_last (v1 : Int) (ex_entryLevels : Nat → Int) (ex_entryOverrides : Nat → Int) (ex_entryIsolates : Nat → Int) (ex_last : Int) (ex_lostIsolates : Int) (ex_lostEmbeddings : Int) (ex_openIsolates : Int) : Int := 0
def twu_ex_begin__ex_lostIsolates (v1 : Int) (ex_entryLevels : Nat → Int) (ex_entryOverrides : Nat → Int) (ex_entryIsolates : Nat → Int) (ex_last : Int) (ex_lostIsolates : Int) (ex_lostEmbeddings : Int) (ex_openIsolates : Int) : Int := 0
def twu_ex_begin__ex_lostEmbeddings (v1 : Int) (ex_entryLevels : Nat → Int) (ex_entryOverrides : Nat → Int) (ex_entryIsolates : Nat → Int) (ex_last : Int) (ex_lostIsolates : Int) (ex_lostEmbeddings : Int) (ex_openIsolates : Int) : Int := 0
def twu_ex_begin__ex_openIsolates (v1 : Int) (ex_entryLevels : Nat → Int) (ex_entryOverrides : Nat → Int) (ex_entryIsolates : Nat → Int) (ex_last : Int) (ex_lostIsolates : Int) (ex_lostEmbeddings : Int) (ex_openIsolates : Int) : Int := 0
set_option maxRecDepth 100000 in
set_option maxHeartbeats 4000000 in
theorem twc_ex_begin {l : Launch} {D : va_G} {ad : Nat → Nat} {cI cZ : ClassId} {Post : tw_P} {v1 : Int} {pa_size pa_base le_ofParagraph ex_last ex_lostIsolates ex_lostEmbeddings ex_openIsolates se_count se_embedding se_beginning se_end fi_count tl_measure tl_stale : Int} {pa_kinds pa_groups pa_widths pa_pairs ma_others ma_waiting le_types le_partners le_resolved ex_levels ex_types ex_entryLevels ex_entryOverrides ex_entryIsolates se_places se_types se_marks br_partners br_list fi_breaks fi_starts fi_extents fi_groups sh_levels sh_order : Nat → Int} (hK : ∀ (n_ex_entryLevels : Nat → Int) (n_ex_entryOverrides : Nat → Int) (n_ex_entryIsolates : Nat → Int) (n_ex_last : Int) (n_ex_lostIsolates : Int) (n_ex_lostEmbeddings : Int) (n_ex_openIsolates : Int), n_ex_entryLevels = twu_ex_begin__ex_entryLevels v1 ex_entryLevels ex_entryOverrides ex_entryIsolates ex_last ex_lostIsolates ex_lostEmbeddings ex_openIsolates → n_ex_entryOverrides = twu_ex_begin__ex_entryOverrides v1 ex_entryLevels ex_entryOverrides ex_entryIsolates ex_last ex_lostIsolates ex_lostEmbeddings ex_openIsolates → n_ex_entryIsolates = twu_ex_begin__ex_entryIsolates v1 ex_entryLevels ex_entryOverrides ex_entryIsolates ex_last ex_lostIsolates ex_lostEmbeddings ex_openIsolates → n_ex_last = twu_ex_begin__ex_last v1 ex_entryLevels ex_entryOverrides ex_entryIsolates ex_last ex_lostIsolates ex_lostEmbeddings ex_openIsolates → n_ex_lostIsolates = twu_ex_begin__ex_lostIsolates v1 ex_entryLevels ex_entryOverrides ex_entryIsolates ex_last ex_lostIsolates ex_lostEmbeddings ex_openIsolates → n_ex_lostEmbeddings = twu_ex_begin__ex_lostEmbeddings v1 ex_entryLevels ex_entryOverrides ex_entryIsolates ex_last ex_lostIsolates ex_lostEmbeddings ex_openIsolates → n_ex_openIsolates = twu_ex_begin__ex_openIsolates v1 ex_entryLevels ex_entryOverrides ex_entryIsolates ex_last ex_lostIsolates ex_lostEmbeddings ex_openIsolates → Post none (tw_mC pa_kinds pa_groups pa_widths pa_pairs pa_size pa_base ma_others ma_waiting le_types le_partners le_resolved le_ofParagraph ex_levels ex_types n_ex_entryLevels n_ex_entryOverrides n_ex_entryIsolates n_ex_last n_ex_lostIsolates n_ex_lostEmbeddings n_ex_openIsolates se_places se_types se_marks se_count se_embedding se_beginning se_end br_partners br_list fi_breaks fi_starts fi_extents fi_count fi_groups sh_levels sh_order tl_measure tl_stale)) : tw_ct (tw_YC l D ad cI cZ) twy_ex_begin (Cond.code twy_ex_begin prog_3_method_3_code 2 none :: tw_Wg) 0 [.inr 13, .inl v1] (tw_mC pa_kinds pa_groups pa_widths pa_pairs pa_size pa_base ma_others ma_waiting le_types le_partners le_resolved le_ofParagraph ex_levels ex_types ex_entryLevels ex_entryOverrides ex_entryIsolates ex_last ex_lostIsolates ex_lostEmbeddings ex_openIsolates se_places se_types se_marks se_count se_embedding se_beginning se_end br_partners br_list fi_breaks fi_starts fi_extents fi_count fi_groups sh_levels sh_order tl_measure tl_stale) Post := by
  refine tw_of (own := twR_ex) (L0 := [some (.inr 13), some (.inl v1)]) (by decide) rfl rfl (Nat.le_of_ble_eq_true rfl) (fun Z hX => ?_)
  refine tw_aload_n hX twd_ex_begin_0 rfl rfl ?_
  refine tw_iconst hX twd_ex_begin_1 ⟨by decide, by decide⟩ ?_
  refine tw_put (kf := 6) (mem' := (tw_mC pa_kinds pa_groups pa_widths pa_pairs pa_size pa_base ma_others ma_waiting le_types le_partners le_resolved le_ofParagraph ex_levels ex_types ex_entryLevels ex_entryOverrides ex_entryIsolates ex_last 0 ex_lostEmbeddings ex_openIsolates se_places se_types se_marks se_count se_embedding se_beginning se_end br_partners br_list fi_breaks fi_starts fi_extents fi_count fi_groups sh_levels sh_order tl_measure tl_stale)) twt_ex hX twd_ex_begin_2 twin_ex twtok_ex twnm_ex rfl (by decide) tww_174 rfl rfl rfl (Or.inl rfl) rfl (Nat.le_of_ble_eq_true rfl) rfl ?_
  refine tw_aload_n hX twd_ex_begin_5 rfl rfl ?_
  refine tw_iconst hX twd_ex_begin_6 ⟨by decide, by decide⟩ ?_
  refine tw_put (kf := 7) (mem' := (tw_mC pa_kinds pa_groups pa_widths pa_pairs pa_size pa_base ma_others ma_waiting le_types le_partners le_resolved le_ofParagraph ex_levels ex_types ex_entryLevels ex_entryOverrides ex_entryIsolates ex_last 0 0 ex_openIsolates se_places se_types se_marks se_count se_embedding se_beginning se_end br_partners br_list fi_breaks fi_starts fi_extents fi_count fi_groups sh_levels sh_order tl_measure tl_stale)) twt_ex hX twd_ex_begin_7 twin_ex twtok_ex twnm_ex rfl (by decide) tww_175 rfl rfl rfl (Or.inl rfl) rfl (Nat.le_of_ble_eq_true rfl) rfl ?_
  refine tw_aload_n hX twd_ex_begin_10 rfl rfl ?_
  refine tw_iconst hX twd_ex_begin_11 ⟨by decide, by decide⟩ ?_
  refine tw_put (kf := 8) (mem' := (tw_mC pa_kinds pa_groups pa_widths pa_pairs pa_size pa_base ma_others ma_waiting le_types le_partners le_resolved le_ofParagraph ex_levels ex_types ex_entryLevels ex_entryOverrides ex_entryIsolates ex_last 0 0 0 se_places se_types se_marks se_count se_embedding se_beginning se_end br_partners br_list fi_breaks fi_starts fi_extents fi_count fi_groups sh_levels sh_order tl_measure tl_stale)) twt_ex hX twd_ex_begin_12 twin_ex twtok_ex twnm_ex rfl (by decide) tww_176 rfl rfl rfl (Or.inl rfl) rfl (Nat.le_of_ble_eq_true rfl) rfl ?_
  refine tw_aload_n hX twd_ex_begin_15 rfl rfl ?_
  refine tw_iconst hX twd_ex_begin_16 ⟨by decide, by decide⟩ ?_
  refine tw_put (kf := 5) (mem' := (tw_mC pa_kinds pa_groups pa_widths pa_pairs pa_size pa_base ma_others ma_waiting le_types le_partners le_resolved le_ofParagraph ex_levels ex_types ex_entryLevels ex_entryOverrides ex_entryIsolates 0 0 0 0 se_places se_types se_marks se_count se_embedding se_beginning se_end br_partners br_list fi_breaks fi_starts fi_extents fi_count fi_groups sh_levels sh_order tl_measure tl_stale)) twt_ex hX twd_ex_begin_17 twin_ex twtok_ex twnm_ex rfl (by decide) tww_173 rfl rfl rfl (Or.inl rfl) rfl (Nat.le_of_ble_eq_true rfl) rfl ?_
  refine tw_aload_n hX twd_ex_begin_20 rfl rfl ?_
  refine tw_get (kf := 2) hX twd_ex_begin_21 twin_ex rfl (by decide) tww_170 rfl rfl rfl ?_
  refine tw_iconst hX twd_ex_begin_24 ⟨by decide, by decide⟩ ?_
  refine tw_iload_n hX twd_ex_begin_25 rfl rfl ?_
  refine tw_iastore (mem' := (tw_mC pa_kinds pa_groups pa_widths pa_pairs pa_size pa_base ma_others ma_waiting le_types le_partners le_resolved le_ofParagraph ex_levels ex_types (tw_up ex_entryLevels (Int.toNat 0) v1) ex_entryOverrides ex_entryIsolates 0 0 0 0 se_places se_types se_marks se_count se_embedding se_beginning se_end br_partners br_list fi_breaks fi_starts fi_extents fi_count fi_groups sh_levels sh_order tl_measure tl_stale)) hX twd_ex_begin_26 rfl ⟨by decide, by decide⟩ rfl ?_
  refine tw_aload_n hX twd_ex_begin_27 rfl rfl ?_
  refine tw_get (kf := 3) hX twd_ex_begin_28 twin_ex rfl (by decide) tww_171 rfl rfl rfl ?_
  refine tw_iconst hX twd_ex_begin_31 ⟨by decide, by decide⟩ ?_
  refine tw_iconst hX twd_ex_begin_32 ⟨by decide, by decide⟩ ?_
  refine tw_iastore (mem' := (tw_mC pa_kinds pa_groups pa_widths pa_pairs pa_size pa_base ma_others ma_waiting le_types le_partners le_resolved le_ofParagraph ex_levels ex_types (tw_up ex_entryLevels (Int.toNat 0) v1) (tw_up ex_entryOverrides (Int.toNat 0) (-1)) ex_entryIsolates 0 0 0 0 se_places se_types se_marks se_count se_embedding se_beginning se_end br_partners br_list fi_breaks fi_starts fi_extents fi_count fi_groups sh_levels sh_order tl_measure tl_stale)) hX twd_ex_begin_33 rfl ⟨by decide, by decide⟩ rfl ?_
  refine tw_aload_n hX twd_ex_begin_34 rfl rfl ?_
  refine tw_get (kf := 4) hX twd_ex_begin_35 twin_ex rfl (by decide) tww_172 rfl rfl rfl ?_
  refine tw_iconst hX twd_ex_begin_38 ⟨by decide, by decide⟩ ?_
  refine tw_iconst hX twd_ex_begin_39 ⟨by decide, by decide⟩ ?_
  refine tw_bastore (mem' := (tw_mC pa_kinds pa_groups pa_widths pa_pairs pa_size pa_base ma_others ma_waiting le_types le_partners le_resolved le_ofParagraph ex_levels ex_types (tw_up ex_entryLevels (Int.toNat 0) v1) (tw_up ex_entryOverrides (Int.toNat 0) (-1)) (tw_up ex_entryIsolates (Int.toNat 0) 0) 0 0 0 0 se_places se_types se_marks se_count se_embedding se_beginning se_end br_partners br_list fi_breaks fi_starts fi_extents fi_count fi_groups sh_levels sh_order tl_measure tl_stale)) hX twd_ex_begin_40 rfl ⟨by decide, by decide⟩ ⟨by decide, by decide⟩ rfl ?_
  exact tw_vret hX twd_ex_begin_41 (hK _ _ _ _ _ _ _ (Eq.symm rfl) (Eq.symm rfl) (Eq.symm rfl) (Eq.symm rfl) (Eq.symm rfl) (Eq.symm rfl) (Eq.symm rfl))
def twl_ex_endIsolate_37 (X66 : Int → Prop) (ex_entryIsolates : Nat → Int) (ex_lostIsolates : Int) (ex_lostEmbeddings : Int) (ex_openIsolates : Int) : Nat → Int → Int → Prop
  | 0, _, _ => False
  | f + 1, v1, ex_last =>
    ((v1 ≤ 0 →
    X66 ex_last) ∧
    (¬ v1 ≤ 0 →
    (0 ≤ v1 ∧ v1 < 6) ∧ (((ex_entryIsolates (Int.toNat v1)) = 0 →
      (tw_rg (ex_last - 1)) ∧ (tw_rg (v1 + -1)) ∧ twl_ex_endIsolate_37 X66 ex_entryIsolates ex_lostIsolates ex_lostEmbeddings ex_openIsolates f (v1 + -1) (ex_last - 1)) ∧
      (¬ (ex_entryIsolates (Int.toNat v1)) = 0 →
      X66 ex_last))))
set_option maxRecDepth 100000 in
set_option maxHeartbeats 4000000 in
theorem twt_ex_endIsolate_37 {l : Launch} {D : va_G} {ad : Nat → Nat} {cI cZ : ClassId} {Z : tw_Z} {Post : tw_P} {X66 : Int → Prop} {pa_size pa_base le_ofParagraph ex_lostIsolates ex_lostEmbeddings ex_openIsolates se_count se_embedding se_beginning se_end fi_count tl_measure tl_stale : Int} {pa_kinds pa_groups pa_widths pa_pairs ma_others ma_waiting le_types le_partners le_resolved ex_levels ex_types ex_entryLevels ex_entryOverrides ex_entryIsolates se_places se_types se_marks br_partners br_list fi_breaks fi_starts fi_extents fi_groups sh_levels sh_order : Nat → Int} (hX : tw_cx (tw_YC l D ad cI cZ) Z prog_3_method_13_code twR_ex tw_Wg none 0 2) (hX66 : ∀ (ex_last : Int), X66 ex_last → tw_rn (tw_YC l D ad cI cZ) Z Post 66 [some (.inr 13), none] [] (tw_mC pa_kinds pa_groups pa_widths pa_pairs pa_size pa_base ma_others ma_waiting le_types le_partners le_resolved le_ofParagraph ex_levels ex_types ex_entryLevels ex_entryOverrides ex_entryIsolates ex_last ex_lostIsolates ex_lostEmbeddings ex_openIsolates se_places se_types se_marks se_count se_embedding se_beginning se_end br_partners br_list fi_breaks fi_starts fi_extents fi_count fi_groups sh_levels sh_order tl_measure tl_stale)) : ∀ (f : Nat) (v1 : Int) (ex_last : Int), twl_ex_endIsolate_37 X66 ex_entryIsolates ex_lostIsolates ex_lostEmbeddings ex_openIsolates f v1 ex_last → tw_rn (tw_YC l D ad cI cZ) Z Post 37 [some (.inr 13), some (.inl v1)] [] (tw_mC pa_kinds pa_groups pa_widths pa_pairs pa_size pa_base ma_others ma_waiting le_types le_partners le_resolved le_ofParagraph ex_levels ex_types ex_entryLevels ex_entryOverrides ex_entryIsolates ex_last ex_lostIsolates ex_lostEmbeddings ex_openIsolates se_places se_types se_marks se_count se_embedding se_beginning se_end br_partners br_list fi_breaks fi_starts fi_extents fi_count fi_groups sh_levels sh_order tl_measure tl_stale) := by
  intro f
  induction f with
  | zero => intro v1 ex_last h; rw [twl_ex_endIsolate_37] at h; exact h.elim
  | succ f ih =>
    intro v1 ex_last h
    rw [twl_ex_endIsolate_37] at h
    refine tw_iload_n hX twd_ex_endIsolate_37 rfl rfl ?_
    refine tw_if_le hX twd_ex_endIsolate_38 rfl (fun q5 => ?_) (fun q5 => ?_)
    · have h := h.1 q5
      refine tw_wk (L' := [some (.inr 13), none]) (tw_le_s (tw_le_n tw_le_0)) ?_
      exact hX66 _ h
    · have h := h.2 q5
      refine tw_aload_n hX twd_ex_endIsolate_41 rfl rfl ?_
      refine tw_get (kf := 4) hX twd_ex_endIsolate_42 twin_ex rfl (by decide) tww_172 rfl rfl rfl ?_
      refine tw_iload_n hX twd_ex_endIsolate_45 rfl rfl ?_
      obtain ⟨c1, h⟩ := h
      refine tw_baload hX twd_ex_endIsolate_46 rfl c1 ?_
      refine tw_if_ne hX twd_ex_endIsolate_47 rfl (fun q4 => ?_) (fun q4 => ?_)
      · have h := h.2 q4
        refine tw_wk (L' := [some (.inr 13), none]) (tw_le_s (tw_le_n tw_le_0)) ?_
        exact hX66 _ h
      · have h := h.1 q4
        refine tw_aload_n hX twd_ex_endIsolate_50 rfl rfl ?_
        refine tw_dup hX twd_ex_endIsolate_51 ?_
        refine tw_get (kf := 5) hX twd_ex_endIsolate_52 twin_ex rfl (by decide) tww_173 rfl rfl rfl ?_
        refine tw_iconst hX twd_ex_endIsolate_55 ⟨by decide, by decide⟩ ?_
        obtain ⟨c2, h⟩ := h
        refine tw_isub hX twd_ex_endIsolate_56 c2 ?_
        refine tw_put (kf := 5) (mem' := (tw_mC pa_kinds pa_groups pa_widths pa_pairs pa_size pa_base ma_others ma_waiting le_types le_partners le_resolved le_ofParagraph ex_levels ex_types ex_entryLevels ex_entryOverrides ex_entryIsolates (ex_last - 1) ex_lostIsolates ex_lostEmbeddings ex_openIsolates se_places se_types se_marks se_count se_embedding se_beginning se_end br_partners br_list fi_breaks fi_starts fi_extents fi_count fi_groups sh_levels sh_order tl_measure tl_stale)) twt_ex hX twd_ex_endIsolate_57 twin_ex twtok_ex twnm_ex rfl (by decide) tww_173 rfl rfl rfl (Or.inl rfl) rfl (Nat.le_of_ble_eq_true rfl) rfl ?_
        obtain ⟨c3, h⟩ := h
        refine tw_iinc (L' := [some (.inr 13), some (.inl (v1 + -1))]) hX twd_ex_endIsolate_60 rfl (by decide) c3 rfl ?_
        refine tw_goto hX twd_ex_endIsolate_63 rfl ?_
        exact ih _ _ h
def tww_ex_endIsolate (ex_entryIsolates : Nat → Int) (ex_last : Int) (ex_lostIsolates : Int) (ex_lostEmbeddings : Int) (ex_openIsolates : Int) (K : Int → Int → Int → Int → Prop) : Prop :=
  ((ex_lostIsolates ≤ 0 →
  ((ex_openIsolates ≤ 0 →
    K ex_last ex_lostIsolates ex_lostEmbeddings ex_openIsolates) ∧
    (¬ ex_openIsolates ≤ 0 →
    (∃ f14 : Nat, twl_ex_endIsolate_37 (fun (y6_ex_last : Int) =>
      (((¬ y6_ex_last ≤ 0 → ((tw_rg (y6_ex_last - 1))))) ∧
        (∀ x_8_ex_last : Int, x_8_ex_last = (if y6_ex_last ≤ 0 then y6_ex_last else (y6_ex_last - 1)) →
        (tw_rg (ex_openIsolates - 1)) ∧ K x_8_ex_last ex_lostIsolates 0 (ex_openIsolates - 1)))) ex_entryIsolates ex_lostIsolates 0 ex_openIsolates f14 ex_last ex_last)))) ∧
  (¬ ex_lostIsolates ≤ 0 →
  (tw_rg (ex_lostIsolates - 1)) ∧ K ex_last (ex_lostIsolates - 1) ex_lostEmbeddings ex_openIsolates))
set_option maxRecDepth 100000 in
set_option maxHeartbeats 4000000 in
theorem twc_ex_endIsolate {l : Launch} {D : va_G} {ad : Nat → Nat} {cI cZ : ClassId} {Post : tw_P} {K : Int → Int → Int → Int → Prop} {pa_size pa_base le_ofParagraph ex_last ex_lostIsolates ex_lostEmbeddings ex_openIsolates se_count se_embedding se_beginning se_end fi_count tl_measure tl_stale : Int} {pa_kinds pa_groups pa_widths pa_pairs ma_others ma_waiting le_types le_partners le_resolved ex_levels ex_types ex_entryLevels ex_entryOverrides ex_entryIsolates se_places se_types se_marks br_partners br_list fi_breaks fi_starts fi_extents fi_groups sh_levels sh_order : Nat → Int} (h : tww_ex_endIsolate ex_entryIsolates ex_last ex_lostIsolates ex_lostEmbeddings ex_openIsolates K) (hK : ∀ (n_ex_last : Int) (n_ex_lostIsolates : Int) (n_ex_lostEmbeddings : Int) (n_ex_openIsolates : Int), K n_ex_last n_ex_lostIsolates n_ex_lostEmbeddings n_ex_openIsolates → Post none (tw_mC pa_kinds pa_groups pa_widths pa_pairs pa_size pa_base ma_others ma_waiting le_types le_partners le_resolved le_ofParagraph ex_levels ex_types ex_entryLevels ex_entryOverrides ex_entryIsolates n_ex_last n_ex_lostIsolates n_ex_lostEmbeddings n_ex_openIsolates se_places se_types se_marks se_count se_embedding se_beginning se_end br_partners br_list fi_breaks fi_starts fi_extents fi_count fi_groups sh_levels sh_order tl_measure tl_stale)) : tw_ct (tw_YC l D ad cI cZ) twy_ex_endIsolate (Cond.code twy_ex_endIsolate prog_3_method_13_code 2 none :: tw_Wg) 0 [.inr 13] (tw_mC pa_kinds pa_groups pa_widths pa_pairs pa_size pa_base ma_others ma_waiting le_types le_partners le_resolved le_ofParagraph ex_levels ex_types ex_entryLevels ex_entryOverrides ex_entryIsolates ex_last ex_lostIsolates ex_lostEmbeddings ex_openIsolates se_places se_types se_marks se_count se_embedding se_beginning se_end br_partners br_list fi_breaks fi_starts fi_extents fi_count fi_groups sh_levels sh_order tl_measure tl_stale) Post := by
  refine tw_of (own := twR_ex) (L0 := [some (.inr 13), none]) (by decide) rfl rfl (Nat.le_of_ble_eq_true rfl) (fun Z hX => ?_)
  unfold tww_ex_endIsolate at h
  refine tw_aload_n hX twd_ex_endIsolate_0 rfl rfl ?_
  refine tw_get (kf := 6) hX twd_ex_endIsolate_1 twin_ex rfl (by decide) tww_174 rfl rfl rfl ?_
  refine tw_if_le hX twd_ex_endIsolate_4 rfl (fun q17 => ?_) (fun q17 => ?_)
  · have h := h.1 q17
    refine tw_aload_n hX twd_ex_endIsolate_20 rfl rfl ?_
    refine tw_get (kf := 8) hX twd_ex_endIsolate_21 twin_ex rfl (by decide) tww_176 rfl rfl rfl ?_
    refine tw_if_le hX twd_ex_endIsolate_24 rfl (fun q15 => ?_) (fun q15 => ?_)
    · have h := h.1 q15
      exact tw_vret hX twd_ex_endIsolate_93 (hK _ _ _ _ h)
    · have h := h.2 q15
      refine tw_aload_n hX twd_ex_endIsolate_27 rfl rfl ?_
      refine tw_iconst hX twd_ex_endIsolate_28 ⟨by decide, by decide⟩ ?_
      refine tw_put (kf := 7) (mem' := (tw_mC pa_kinds pa_groups pa_widths pa_pairs pa_size pa_base ma_others ma_waiting le_types le_partners le_resolved le_ofParagraph ex_levels ex_types ex_entryLevels ex_entryOverrides ex_entryIsolates ex_last ex_lostIsolates 0 ex_openIsolates se_places se_types se_marks se_count se_embedding se_beginning se_end br_partners br_list fi_breaks fi_starts fi_extents fi_count fi_groups sh_levels sh_order tl_measure tl_stale)) twt_ex hX twd_ex_endIsolate_29 twin_ex twtok_ex twnm_ex rfl (by decide) tww_175 rfl rfl rfl (Or.inl rfl) rfl (Nat.le_of_ble_eq_true rfl) rfl ?_
      refine tw_aload_n hX twd_ex_endIsolate_32 rfl rfl ?_
      refine tw_get (kf := 5) hX twd_ex_endIsolate_33 twin_ex rfl (by decide) tww_173 rfl rfl rfl ?_
      refine tw_istore_n (L' := [some (.inr 13), some (.inl ex_last)]) hX twd_ex_endIsolate_36 rfl (by decide) rfl ?_
      obtain ⟨f14, h⟩ := h
      refine twt_ex_endIsolate_37 hX (fun y6_ex_last h => ?_) f14 _ _ h
      refine tw_aload_n hX twd_ex_endIsolate_66 rfl rfl ?_
      refine tw_get (kf := 5) hX twd_ex_endIsolate_67 twin_ex rfl (by decide) tww_173 rfl rfl rfl ?_
      obtain ⟨o10, h⟩ := h
      have j11 : ∀ x_8_ex_last : Int, x_8_ex_last = (if y6_ex_last ≤ 0 then y6_ex_last else (y6_ex_last - 1)) → tw_rn (tw_YC l D ad cI cZ) Z Post 83 [some (.inr 13), none] [] (tw_mC pa_kinds pa_groups pa_widths pa_pairs pa_size pa_base ma_others ma_waiting le_types le_partners le_resolved le_ofParagraph ex_levels ex_types ex_entryLevels ex_entryOverrides ex_entryIsolates x_8_ex_last ex_lostIsolates 0 ex_openIsolates se_places se_types se_marks se_count se_embedding se_beginning se_end br_partners br_list fi_breaks fi_starts fi_extents fi_count fi_groups sh_levels sh_order tl_measure tl_stale) := by
        intro x_8_ex_last e12
        have h := h x_8_ex_last e12
        refine tw_aload_n hX twd_ex_endIsolate_83 rfl rfl ?_
        refine tw_dup hX twd_ex_endIsolate_84 ?_
        refine tw_get (kf := 8) hX twd_ex_endIsolate_85 twin_ex rfl (by decide) tww_176 rfl rfl rfl ?_
        refine tw_iconst hX twd_ex_endIsolate_88 ⟨by decide, by decide⟩ ?_
        obtain ⟨c9, h⟩ := h
        refine tw_isub hX twd_ex_endIsolate_89 c9 ?_
        refine tw_put (kf := 8) (mem' := (tw_mC pa_kinds pa_groups pa_widths pa_pairs pa_size pa_base ma_others ma_waiting le_types le_partners le_resolved le_ofParagraph ex_levels ex_types ex_entryLevels ex_entryOverrides ex_entryIsolates x_8_ex_last ex_lostIsolates 0 (ex_openIsolates - 1) se_places se_types se_marks se_count se_embedding se_beginning se_end br_partners br_list fi_breaks fi_starts fi_extents fi_count fi_groups sh_levels sh_order tl_measure tl_stale)) twt_ex hX twd_ex_endIsolate_90 twin_ex twtok_ex twnm_ex rfl (by decide) tww_176 rfl rfl rfl (Or.inl rfl) rfl (Nat.le_of_ble_eq_true rfl) rfl ?_
        exact tw_vret hX twd_ex_endIsolate_93 (hK _ _ _ _ h)
      refine tw_if_le hX twd_ex_endIsolate_70 rfl (fun q13 => ?_) (fun q13 => ?_)
      · have _tw := trivial
        exact j11 _ (Eq.symm (if_pos q13))
      · have _tw := trivial
        have o10 := o10 q13
        refine tw_aload_n hX twd_ex_endIsolate_73 rfl rfl ?_
        refine tw_dup hX twd_ex_endIsolate_74 ?_
        refine tw_get (kf := 5) hX twd_ex_endIsolate_75 twin_ex rfl (by decide) tww_173 rfl rfl rfl ?_
        refine tw_iconst hX twd_ex_endIsolate_78 ⟨by decide, by decide⟩ ?_
        have c7 := o10
        refine tw_isub hX twd_ex_endIsolate_79 c7 ?_
        refine tw_put (kf := 5) (mem' := (tw_mC pa_kinds pa_groups pa_widths pa_pairs pa_size pa_base ma_others ma_waiting le_types le_partners le_resolved le_ofParagraph ex_levels ex_types ex_entryLevels ex_entryOverrides ex_entryIsolates (y6_ex_last - 1) ex_lostIsolates 0 ex_openIsolates se_places se_types se_marks se_count se_embedding se_beginning se_end br_partners br_list fi_breaks fi_starts fi_extents fi_count fi_groups sh_levels sh_order tl_measure tl_stale)) twt_ex hX twd_ex_endIsolate_80 twin_ex twtok_ex twnm_ex rfl (by decide) tww_173 rfl rfl rfl (Or.inl rfl) rfl (Nat.le_of_ble_eq_true rfl) rfl ?_
        exact j11 _ (Eq.symm (if_neg q13))
  · have h := h.2 q17
    refine tw_aload_n hX twd_ex_endIsolate_7 rfl rfl ?_
    refine tw_dup hX twd_ex_endIsolate_8 ?_
    refine tw_get (kf := 6) hX twd_ex_endIsolate_9 twin_ex rfl (by decide) tww_174 rfl rfl rfl ?_
    refine tw_iconst hX twd_ex_endIsolate_12 ⟨by decide, by decide⟩ ?_
    obtain ⟨c16, h⟩ := h
    refine tw_isub hX twd_ex_endIsolate_13 c16 ?_
    refine tw_put (kf := 6) (mem' := (tw_mC pa_kinds pa_groups pa_widths pa_pairs pa_size pa_base ma_others ma_waiting le_types le_partners le_resolved le_ofParagraph ex_levels ex_types ex_entryLevels ex_entryOverrides ex_entryIsolates ex_last (ex_lostIsolates - 1) ex_lostEmbeddings ex_openIsolates se_places se_types se_marks se_count se_embedding se_beginning se_end br_partners br_list fi_breaks fi_starts fi_extents fi_count fi_groups sh_levels sh_order tl_measure tl_stale)) twt_ex hX twd_ex_endIsolate_14 twin_ex twtok_ex twnm_ex rfl (by decide) tww_174 rfl rfl rfl (Or.inl rfl) rfl (Nat.le_of_ble_eq_true rfl) rfl ?_
    refine tw_goto hX twd_ex_endIsolate_17 rfl ?_
    exact tw_vret hX twd_ex_endIsolate_93 (hK _ _ _ _ h)
def two_ex_endEmbedding (ex_entryIsolates : Nat → Int) (ex_last : Int) (ex_lostIsolates : Int) (ex_lostEmbeddings : Int) : Prop := ((ex_lostIsolates ≤ 0 → (((ex_lostEmbeddings ≤ 0 → ((¬ ex_last ≤ 0 → ((0 ≤ ex_last ∧ ex_last < 6) ∧ ((ex_entryIsolates (Int.toNat ex_last)) = 0 → ((tw_rg (ex_last - 1)))))))) ∧ (¬ ex_lostEmbeddings ≤ 0 → ((tw_rg (ex_lostEmbeddings - 1))))))))
def twu_ex_endEmbedding__ex_last (ex_entryIsolates : Nat → Int) (ex_last : Int) (ex_lostIsolates : Int) (ex_lostEmbeddings : Int) : Int := if ex_lostIsolates ≤ 0 then (if ex_lostEmbeddings ≤ 0 then (if ex_last ≤ 0 then ex_last else (if (ex_entryIsolates (Int.toNat ex_last)) = 0 then (ex_last - 1) else ex_last)) else ex_last) else ex_last
def twu_ex_endEmbedding__ex_lostEmbeddings (ex_entryIsolates : Nat → Int) (ex_last : Int) (ex_lostIsolates : Int) (ex_lostEmbeddings : Int) : Int := if ex_lostIsolates ≤ 0 then (if ex_lostEmbeddings ≤ 0 then ex_lostEmbeddings else (ex_lostEmbeddings - 1)) else ex_lostEmbeddings
set_option maxRecDepth 100000 in
set_option maxHeartbeats 4000000 in
theorem twc_ex_endEmbedding {l : Launch} {D : va_G} {ad : Nat → Nat} {cI cZ : ClassId} {Post : tw_P} {pa_size pa_base le_ofParagraph ex_last ex_lostIsolates ex_lostEmbeddings ex_openIsolates se_count se_embedding se_beginning se_end fi_count tl_measure tl_stale : Int} {pa_kinds pa_groups pa_widths pa_pairs ma_others ma_waiting le_types le_partners le_resolved ex_levels ex_types ex_entryLevels ex_entryOverrides ex_entryIsolates se_places se_types se_marks br_partners br_list fi_breaks fi_starts fi_extents fi_groups sh_levels sh_order : Nat → Int} (h : two_ex_endEmbedding ex_entryIsolates ex_last ex_lostIsolates ex_lostEmbeddings) (hK : ∀ (n_ex_last : Int) (n_ex_lostEmbeddings : Int), n_ex_last = twu_ex_endEmbedding__ex_last ex_entryIsolates ex_last ex_lostIsolates ex_lostEmbeddings → n_ex_lostEmbeddings = twu_ex_endEmbedding__ex_lostEmbeddings ex_entryIsolates ex_last ex_lostIsolates ex_lostEmbeddings → Post none (tw_mC pa_kinds pa_groups pa_widths pa_pairs pa_size pa_base ma_others ma_waiting le_types le_partners le_resolved le_ofParagraph ex_levels ex_types ex_entryLevels ex_entryOverrides ex_entryIsolates n_ex_last ex_lostIsolates n_ex_lostEmbeddings ex_openIsolates se_places se_types se_marks se_count se_embedding se_beginning se_end br_partners br_list fi_breaks fi_starts fi_extents fi_count fi_groups sh_levels sh_order tl_measure tl_stale)) : tw_ct (tw_YC l D ad cI cZ) twy_ex_endEmbedding (Cond.code twy_ex_endEmbedding prog_3_method_11_code 1 none :: tw_Wg) 0 [.inr 13] (tw_mC pa_kinds pa_groups pa_widths pa_pairs pa_size pa_base ma_others ma_waiting le_types le_partners le_resolved le_ofParagraph ex_levels ex_types ex_entryLevels ex_entryOverrides ex_entryIsolates ex_last ex_lostIsolates ex_lostEmbeddings ex_openIsolates se_places se_types se_marks se_count se_embedding se_beginning se_end br_partners br_list fi_breaks fi_starts fi_extents fi_count fi_groups sh_levels sh_order tl_measure tl_stale) Post := by
  refine tw_of (own := twR_ex) (L0 := [some (.inr 13)]) (by decide) rfl rfl (Nat.le_of_ble_eq_true rfl) (fun Z hX => ?_)
  unfold two_ex_endEmbedding at h
  refine tw_aload_n hX twd_ex_endEmbedding_0 rfl rfl ?_
  refine tw_get (kf := 6) hX twd_ex_endEmbedding_1 twin_ex rfl (by decide) tww_174 rfl rfl rfl ?_
  refine tw_if_le hX twd_ex_endEmbedding_4 rfl (fun q4 => ?_) (fun q4 => ?_)
  · have _tw := trivial
    have h := h q4
    refine tw_aload_n hX twd_ex_endEmbedding_8 rfl rfl ?_
    refine tw_get (kf := 7) hX twd_ex_endEmbedding_9 twin_ex rfl (by decide) tww_175 rfl rfl rfl ?_
    refine tw_if_le hX twd_ex_endEmbedding_12 rfl (fun q5 => ?_) (fun q5 => ?_)
    · have _tw := trivial
      have h := h.1 q5
      refine tw_aload_n hX twd_ex_endEmbedding_28 rfl rfl ?_
      refine tw_get (kf := 5) hX twd_ex_endEmbedding_29 twin_ex rfl (by decide) tww_173 rfl rfl rfl ?_
      refine tw_if_le hX twd_ex_endEmbedding_32 rfl (fun q6 => ?_) (fun q6 => ?_)
      · have _tw := trivial
        exact tw_vret hX twd_ex_endEmbedding_57 (hK _ _ (Eq.symm (Eq.trans (if_pos q4) (Eq.trans (if_pos q5) (if_pos q6)))) (Eq.symm (Eq.trans (if_pos q4) (if_pos q5))))
      · have _tw := trivial
        have h := h q6
        refine tw_aload_n hX twd_ex_endEmbedding_35 rfl rfl ?_
        refine tw_get (kf := 4) hX twd_ex_endEmbedding_36 twin_ex rfl (by decide) tww_172 rfl rfl rfl ?_
        refine tw_aload_n hX twd_ex_endEmbedding_39 rfl rfl ?_
        refine tw_get (kf := 5) hX twd_ex_endEmbedding_40 twin_ex rfl (by decide) tww_173 rfl rfl rfl ?_
        obtain ⟨c1, h⟩ := h
        refine tw_baload hX twd_ex_endEmbedding_43 rfl c1 ?_
        refine tw_if_ne hX twd_ex_endEmbedding_44 rfl (fun q7 => ?_) (fun q7 => ?_)
        · have _tw := trivial
          exact tw_vret hX twd_ex_endEmbedding_57 (hK _ _ (Eq.symm (Eq.trans (if_pos q4) (Eq.trans (if_pos q5) (Eq.trans (if_neg q6) (if_neg q7))))) (Eq.symm (Eq.trans (if_pos q4) (if_pos q5))))
        · have _tw := trivial
          have h := h q7
          refine tw_aload_n hX twd_ex_endEmbedding_47 rfl rfl ?_
          refine tw_dup hX twd_ex_endEmbedding_48 ?_
          refine tw_get (kf := 5) hX twd_ex_endEmbedding_49 twin_ex rfl (by decide) tww_173 rfl rfl rfl ?_
          refine tw_iconst hX twd_ex_endEmbedding_52 ⟨by decide, by decide⟩ ?_
          have c2 := h
          refine tw_isub hX twd_ex_endEmbedding_53 c2 ?_
          refine tw_put (kf := 5) (mem' := (tw_mC pa_kinds pa_groups pa_widths pa_pairs pa_size pa_base ma_others ma_waiting le_types le_partners le_resolved le_ofParagraph ex_levels ex_types ex_entryLevels ex_entryOverrides ex_entryIsolates (ex_last - 1) ex_lostIsolates ex_lostEmbeddings ex_openIsolates se_places se_types se_marks se_count se_embedding se_beginning se_end br_partners br_list fi_breaks fi_starts fi_extents fi_count fi_groups sh_levels sh_order tl_measure tl_stale)) twt_ex hX twd_ex_endEmbedding_54 twin_ex twtok_ex twnm_ex rfl (by decide) tww_173 rfl rfl rfl (Or.inl rfl) rfl (Nat.le_of_ble_eq_true rfl) rfl ?_
          exact tw_vret hX twd_ex_endEmbedding_57 (hK _ _ (Eq.symm (Eq.trans (if_pos q4) (Eq.trans (if_pos q5) (Eq.trans (if_neg q6) (if_pos q7))))) (Eq.symm (Eq.trans (if_pos q4) (if_pos q5))))
    · have _tw := trivial
      have h := h.2 q5
      refine tw_aload_n hX twd_ex_endEmbedding_15 rfl rfl ?_
      refine tw_dup hX twd_ex_endEmbedding_16 ?_
      refine tw_get (kf := 7) hX twd_ex_endEmbedding_17 twin_ex rfl (by decide) tww_175 rfl rfl rfl ?_
      refine tw_iconst hX twd_ex_endEmbedding_20 ⟨by decide, by decide⟩ ?_
      have c3 := h
      refine tw_isub hX twd_ex_endEmbedding_21 c3 ?_
      refine tw_put (kf := 7) (mem' := (tw_mC pa_kinds pa_groups pa_widths pa_pairs pa_size pa_base ma_others ma_waiting le_types le_partners le_resolved le_ofParagraph ex_levels ex_types ex_entryLevels ex_entryOverrides ex_entryIsolates ex_last ex_lostIsolates (ex_lostEmbeddings - 1) ex_openIsolates se_places se_types se_marks se_count se_embedding se_beginning se_end br_partners br_list fi_breaks fi_starts fi_extents fi_count fi_groups sh_levels sh_order tl_measure tl_stale)) twt_ex hX twd_ex_endEmbedding_22 twin_ex twtok_ex twnm_ex rfl (by decide) tww_175 rfl rfl rfl (Or.inl rfl) rfl (Nat.le_of_ble_eq_true rfl) rfl ?_
      refine tw_goto hX twd_ex_endEmbedding_25 rfl ?_
      exact tw_vret hX twd_ex_endEmbedding_57 (hK _ _ (Eq.symm (Eq.trans (if_pos q4) (if_neg q5))) (Eq.symm (Eq.trans (if_pos q4) (if_neg q5))))
  · have _tw := trivial
    exact tw_vret hX twd_ex_endEmbedding_7 (hK _ _ (Eq.symm (if_neg q4)) (Eq.symm (if_neg q4)))
def twr_tl_isHidden (v0 : Int) : Int := if v0 < 12 then 0 else (if 16 < v0 then 0 else 1)
set_option maxRecDepth 100000 in
set_option maxHeartbeats 4000000 in
theorem twc_tl_isHidden {l : Launch} {D : va_G} {ad : Nat → Nat} {cI cZ : ClassId} {Post : tw_P} {v0 : Int} {pa_size pa_base le_ofParagraph ex_last ex_lostIsolates ex_lostEmbeddings ex_openIsolates se_count se_embedding se_beginning se_end fi_count tl_measure tl_stale : Int} {pa_kinds pa_groups pa_widths pa_pairs ma_others ma_waiting le_types le_partners le_resolved ex_levels ex_types ex_entryLevels ex_entryOverrides ex_entryIsolates se_places se_types se_marks br_partners br_list fi_breaks fi_starts fi_extents fi_groups sh_levels sh_order : Nat → Int} (hK : ∀ (z : Int), z = twr_tl_isHidden v0 → Post (some z) (tw_mC pa_kinds pa_groups pa_widths pa_pairs pa_size pa_base ma_others ma_waiting le_types le_partners le_resolved le_ofParagraph ex_levels ex_types ex_entryLevels ex_entryOverrides ex_entryIsolates ex_last ex_lostIsolates ex_lostEmbeddings ex_openIsolates se_places se_types se_marks se_count se_embedding se_beginning se_end br_partners br_list fi_breaks fi_starts fi_extents fi_count fi_groups sh_levels sh_order tl_measure tl_stale)) : tw_ct (tw_YC l D ad cI cZ) twy_tl_isHidden (Cond.code twy_tl_isHidden prog_1_method_23_code 1 (some .boolean) :: tw_Wg) 0 [.inl v0] (tw_mC pa_kinds pa_groups pa_widths pa_pairs pa_size pa_base ma_others ma_waiting le_types le_partners le_resolved le_ofParagraph ex_levels ex_types ex_entryLevels ex_entryOverrides ex_entryIsolates ex_last ex_lostIsolates ex_lostEmbeddings ex_openIsolates se_places se_types se_marks se_count se_embedding se_beginning se_end br_partners br_list fi_breaks fi_starts fi_extents fi_count fi_groups sh_levels sh_order tl_measure tl_stale) Post := by
  refine tw_of (own := twR_tl) (L0 := [some (.inl v0)]) (by decide) rfl rfl (Nat.le_of_ble_eq_true rfl) (fun Z hX => ?_)
  refine tw_iload_n hX twd_tl_isHidden_0 rfl rfl ?_
  refine tw_bipush hX twd_tl_isHidden_1 (by decide +kernel) ⟨by decide, by decide⟩ ?_
  refine tw_icmp_lt hX twd_tl_isHidden_3 rfl (fun q1 => ?_) (fun q1 => ?_)
  · have _tw := trivial
    refine tw_iconst hX twd_tl_isHidden_16 ⟨by decide, by decide⟩ ?_
    exact tw_zret hX twd_tl_isHidden_17 ⟨by decide, by decide⟩ (hK _ (Eq.symm (if_pos q1)))
  · have _tw := trivial
    refine tw_iload_n hX twd_tl_isHidden_6 rfl rfl ?_
    refine tw_bipush hX twd_tl_isHidden_7 (by decide +kernel) ⟨by decide, by decide⟩ ?_
    refine tw_icmp_gt hX twd_tl_isHidden_9 rfl (fun q2 => ?_) (fun q2 => ?_)
    · have _tw := trivial
      refine tw_iconst hX twd_tl_isHidden_16 ⟨by decide, by decide⟩ ?_
      exact tw_zret hX twd_tl_isHidden_17 ⟨by decide, by decide⟩ (hK _ (Eq.symm (Eq.trans (if_neg q1) (if_pos q2))))
    · have _tw := trivial
      refine tw_iconst hX twd_tl_isHidden_12 ⟨by decide, by decide⟩ ?_
      refine tw_goto hX twd_tl_isHidden_13 rfl ?_
      exact tw_zret hX twd_tl_isHidden_17 ⟨by decide, by decide⟩ (hK _ (Eq.symm (Eq.trans (if_neg q1) (if_neg q2))))
def two_tl_isOdd (v0 : Int) : Prop := ((0 ≤ v0))
def twr_tl_isOdd (v0 : Int) : Int := if (v0 % 2) = 1 then 1 else 0
set_option maxRecDepth 100000 in
set_option maxHeartbeats 4000000 in
theorem twc_tl_isOdd {l : Launch} {D : va_G} {ad : Nat → Nat} {cI cZ : ClassId} {Post : tw_P} {v0 : Int} {pa_size pa_base le_ofParagraph ex_last ex_lostIsolates ex_lostEmbeddings ex_openIsolates se_count se_embedding se_beginning se_end fi_count tl_measure tl_stale : Int} {pa_kinds pa_groups pa_widths pa_pairs ma_others ma_waiting le_types le_partners le_resolved ex_levels ex_types ex_entryLevels ex_entryOverrides ex_entryIsolates se_places se_types se_marks br_partners br_list fi_breaks fi_starts fi_extents fi_groups sh_levels sh_order : Nat → Int} (h : two_tl_isOdd v0) (hK : ∀ (z : Int), z = twr_tl_isOdd v0 → Post (some z) (tw_mC pa_kinds pa_groups pa_widths pa_pairs pa_size pa_base ma_others ma_waiting le_types le_partners le_resolved le_ofParagraph ex_levels ex_types ex_entryLevels ex_entryOverrides ex_entryIsolates ex_last ex_lostIsolates ex_lostEmbeddings ex_openIsolates se_places se_types se_marks se_count se_embedding se_beginning se_end br_partners br_list fi_breaks fi_starts fi_extents fi_count fi_groups sh_levels sh_order tl_measure tl_stale)) : tw_ct (tw_YC l D ad cI cZ) twy_tl_isOdd (Cond.code twy_tl_isOdd prog_1_method_22_code 1 (some .boolean) :: tw_Wg) 0 [.inl v0] (tw_mC pa_kinds pa_groups pa_widths pa_pairs pa_size pa_base ma_others ma_waiting le_types le_partners le_resolved le_ofParagraph ex_levels ex_types ex_entryLevels ex_entryOverrides ex_entryIsolates ex_last ex_lostIsolates ex_lostEmbeddings ex_openIsolates se_places se_types se_marks se_count se_embedding se_beginning se_end br_partners br_list fi_breaks fi_starts fi_extents fi_count fi_groups sh_levels sh_order tl_measure tl_stale) Post := by
  refine tw_of (own := twR_tl) (L0 := [some (.inl v0)]) (by decide) rfl rfl (Nat.le_of_ble_eq_true rfl) (fun Z hX => ?_)
  unfold two_tl_isOdd at h
  refine tw_iload_n hX twd_tl_isOdd_0 rfl rfl ?_
  refine tw_iconst hX twd_tl_isOdd_1 ⟨by decide, by decide⟩ ?_
  have c1 := h
  refine tw_iand1 hX twd_tl_isOdd_2 c1 ?_
  refine tw_iconst hX twd_tl_isOdd_3 ⟨by decide, by decide⟩ ?_
  refine tw_icmp_ne hX twd_tl_isOdd_4 rfl (fun q2 => ?_) (fun q2 => ?_)
  · have _tw := trivial
    refine tw_iconst hX twd_tl_isOdd_11 ⟨by decide, by decide⟩ ?_
    exact tw_zret hX twd_tl_isOdd_12 ⟨by decide, by decide⟩ (hK _ (Eq.symm (if_neg q2)))
  · have _tw := trivial
    refine tw_iconst hX twd_tl_isOdd_7 ⟨by decide, by decide⟩ ?_
    refine tw_goto hX twd_tl_isOdd_8 rfl ?_
    exact tw_zret hX twd_tl_isOdd_12 ⟨by decide, by decide⟩ (hK _ (Eq.symm (if_pos q2)))
def two_ex_nextLevel (v1 : Int) (ex_entryLevels : Nat → Int) (ex_last : Int) : Prop := ((0 ≤ ex_last ∧ ex_last < 6) ∧ (tw_rg ((ex_entryLevels (Int.toNat ex_last)) + 1)) ∧ (two_tl_isOdd ((ex_entryLevels (Int.toNat ex_last)) + 1)) ∧ (¬ (twr_tl_isOdd ((ex_entryLevels (Int.toNat ex_last)) + 1)) = v1 → ((tw_rg (((ex_entryLevels (Int.toNat ex_last)) + 1) + 1)))))
def twr_ex_nextLevel (v1 : Int) (ex_entryLevels : Nat → Int) (ex_last : Int) : Int := if (twr_tl_isOdd ((ex_entryLevels (Int.toNat ex_last)) + 1)) = v1 then ((ex_entryLevels (Int.toNat ex_last)) + 1) else (((ex_entryLevels (Int.toNat ex_last)) + 1) + 1)
set_option maxRecDepth 100000 in
set_option maxHeartbeats 4000000 in
theorem twc_ex_nextLevel {l : Launch} {D : va_G} {ad : Nat → Nat} {cI cZ : ClassId} {Post : tw_P} {v1 : Int} {pa_size pa_base le_ofParagraph ex_last ex_lostIsolates ex_lostEmbeddings ex_openIsolates se_count se_embedding se_beginning se_end fi_count tl_measure tl_stale : Int} {pa_kinds pa_groups pa_widths pa_pairs ma_others ma_waiting le_types le_partners le_resolved ex_levels ex_types ex_entryLevels ex_entryOverrides ex_entryIsolates se_places se_types se_marks br_partners br_list fi_breaks fi_starts fi_extents fi_groups sh_levels sh_order : Nat → Int} (h : two_ex_nextLevel v1 ex_entryLevels ex_last) (hK : ∀ (z : Int), z = twr_ex_nextLevel v1 ex_entryLevels ex_last → Post (some z) (tw_mC pa_kinds pa_groups pa_widths pa_pairs pa_size pa_base ma_others ma_waiting le_types le_partners le_resolved le_ofParagraph ex_levels ex_types ex_entryLevels ex_entryOverrides ex_entryIsolates ex_last ex_lostIsolates ex_lostEmbeddings ex_openIsolates se_places se_types se_marks se_count se_embedding se_beginning se_end br_partners br_list fi_breaks fi_starts fi_extents fi_count fi_groups sh_levels sh_order tl_measure tl_stale)) : tw_ct (tw_YC l D ad cI cZ) twy_ex_nextLevel (Cond.code twy_ex_nextLevel prog_3_method_6_code 3 (some .int) :: tw_Wg) 1 [.inr 13, .inl v1] (tw_mC pa_kinds pa_groups pa_widths pa_pairs pa_size pa_base ma_others ma_waiting le_types le_partners le_resolved le_ofParagraph ex_levels ex_types ex_entryLevels ex_entryOverrides ex_entryIsolates ex_last ex_lostIsolates ex_lostEmbeddings ex_openIsolates se_places se_types se_marks se_count se_embedding se_beginning se_end br_partners br_list fi_breaks fi_starts fi_extents fi_count fi_groups sh_levels sh_order tl_measure tl_stale) Post := by
  refine tw_of (own := twR_ex) (L0 := [some (.inr 13), some (.inl v1), none]) (by decide) rfl rfl (Nat.le_of_ble_eq_true rfl) (fun Z hX => ?_)
  unfold two_ex_nextLevel at h
  refine tw_aload_n hX twd_ex_nextLevel_0 rfl rfl ?_
  refine tw_get (kf := 2) hX twd_ex_nextLevel_1 twin_ex rfl (by decide) tww_170 rfl rfl rfl ?_
  refine tw_aload_n hX twd_ex_nextLevel_4 rfl rfl ?_
  refine tw_get (kf := 5) hX twd_ex_nextLevel_5 twin_ex rfl (by decide) tww_173 rfl rfl rfl ?_
  obtain ⟨c1, h⟩ := h
  refine tw_iaload hX twd_ex_nextLevel_8 rfl c1 ?_
  refine tw_iconst hX twd_ex_nextLevel_9 ⟨by decide, by decide⟩ ?_
  obtain ⟨c2, h⟩ := h
  refine tw_iadd hX twd_ex_nextLevel_10 c2 ?_
  refine tw_istore_n (L' := [some (.inr 13), some (.inl v1), some (.inl ((ex_entryLevels (Int.toNat ex_last)) + 1))]) hX twd_ex_nextLevel_11 rfl (by decide) rfl ?_
  refine tw_iload_n hX twd_ex_nextLevel_12 rfl rfl ?_
  obtain ⟨c3, h⟩ := h
  refine tw_callSN (As := [.inl ((ex_entryLevels (Int.toNat ex_last)) + 1)]) (n := 1) hX twd_ex_nextLevel_13 tw_good tww_428 twn_1 tww_427 tww_77 twk_tl_isOdd ⟨by decide, by decide⟩ rfl (Nat.le_of_ble_eq_true rfl) (twc_tl_isOdd c3 (fun z4 e5 => ?_))
  subst e5
  change tw_rn (tw_YC l D ad cI cZ) Z Post 16 [some (.inr 13), some (.inl v1), some (.inl ((ex_entryLevels (Int.toNat ex_last)) + 1))] [.inl (twr_tl_isOdd ((ex_entryLevels (Int.toNat ex_last)) + 1))] (tw_mC pa_kinds pa_groups pa_widths pa_pairs pa_size pa_base ma_others ma_waiting le_types le_partners le_resolved le_ofParagraph ex_levels ex_types ex_entryLevels ex_entryOverrides ex_entryIsolates ex_last ex_lostIsolates ex_lostEmbeddings ex_openIsolates se_places se_types se_marks se_count se_embedding se_beginning se_end br_partners br_list fi_breaks fi_starts fi_extents fi_count fi_groups sh_levels sh_order tl_measure tl_stale)
  refine tw_iload_n hX twd_ex_nextLevel_16 rfl rfl ?_
  refine tw_icmp_ne hX twd_ex_nextLevel_17 rfl (fun q7 => ?_) (fun q7 => ?_)
  · have _tw := trivial
    have h := h q7
    refine tw_iload_n hX twd_ex_nextLevel_24 rfl rfl ?_
    refine tw_iconst hX twd_ex_nextLevel_25 ⟨by decide, by decide⟩ ?_
    have c6 := h
    refine tw_iadd hX twd_ex_nextLevel_26 c6 ?_
    exact tw_ret hX twd_ex_nextLevel_27 (hK _ (Eq.symm (if_neg q7)))
  · have _tw := trivial
    refine tw_iload_n hX twd_ex_nextLevel_20 rfl rfl ?_
    refine tw_goto hX twd_ex_nextLevel_21 rfl ?_
    exact tw_ret hX twd_ex_nextLevel_27 (hK _ (Eq.symm (if_pos q7)))
def twr_ex_fits (v1 : Int) (ex_lostIsolates : Int) (ex_lostEmbeddings : Int) : Int := if 5 < v1 then 0 else (if ex_lostIsolates = 0 then (if ex_lostEmbeddings = 0 then 1 else 0) else 0)
set_option maxRecDepth 100000 in
set_option maxHeartbeats 4000000 in
theorem twc_ex_fits {l : Launch} {D : va_G} {ad : Nat → Nat} {cI cZ : ClassId} {Post : tw_P} {v1 : Int} {pa_size pa_base le_ofParagraph ex_last ex_lostIsolates ex_lostEmbeddings ex_openIsolates se_count se_embedding se_beginning se_end fi_count tl_measure tl_stale : Int} {pa_kinds pa_groups pa_widths pa_pairs ma_others ma_waiting le_types le_partners le_resolved ex_levels ex_types ex_entryLevels ex_entryOverrides ex_entryIsolates se_places se_types se_marks br_partners br_list fi_breaks fi_starts fi_extents fi_groups sh_levels sh_order : Nat → Int} (hK : ∀ (z : Int), z = twr_ex_fits v1 ex_lostIsolates ex_lostEmbeddings → Post (some z) (tw_mC pa_kinds pa_groups pa_widths pa_pairs pa_size pa_base ma_others ma_waiting le_types le_partners le_resolved le_ofParagraph ex_levels ex_types ex_entryLevels ex_entryOverrides ex_entryIsolates ex_last ex_lostIsolates ex_lostEmbeddings ex_openIsolates se_places se_types se_marks se_count se_embedding se_beginning se_end br_partners br_list fi_breaks fi_starts fi_extents fi_count fi_groups sh_levels sh_order tl_measure tl_stale)) : tw_ct (tw_YC l D ad cI cZ) twy_ex_fits (Cond.code twy_ex_fits prog_3_method_7_code 2 (some .boolean) :: tw_Wg) 0 [.inr 13, .inl v1] (tw_mC pa_kinds pa_groups pa_widths pa_pairs pa_size pa_base ma_others ma_waiting le_types le_partners le_resolved le_ofParagraph ex_levels ex_types ex_entryLevels ex_entryOverrides ex_entryIsolates ex_last ex_lostIsolates ex_lostEmbeddings ex_openIsolates se_places se_types se_marks se_count se_embedding se_beginning se_end br_partners br_list fi_breaks fi_starts fi_extents fi_count fi_groups sh_levels sh_order tl_measure tl_stale) Post := by
  refine tw_of (own := twR_ex) (L0 := [some (.inr 13), some (.inl v1)]) (by decide) rfl rfl (Nat.le_of_ble_eq_true rfl) (fun Z hX => ?_)
  refine tw_iload_n hX twd_ex_fits_0 rfl rfl ?_
  refine tw_iconst hX twd_ex_fits_1 ⟨by decide, by decide⟩ ?_
  refine tw_icmp_gt hX twd_ex_fits_2 rfl (fun q1 => ?_) (fun q1 => ?_)
  · have _tw := trivial
    refine tw_iconst hX twd_ex_fits_23 ⟨by decide, by decide⟩ ?_
    exact tw_zret hX twd_ex_fits_24 ⟨by decide, by decide⟩ (hK _ (Eq.symm (if_pos q1)))
  · have _tw := trivial
    refine tw_aload_n hX twd_ex_fits_5 rfl rfl ?_
    refine tw_get (kf := 6) hX twd_ex_fits_6 twin_ex rfl (by decide) tww_174 rfl rfl rfl ?_
    refine tw_if_ne hX twd_ex_fits_9 rfl (fun q2 => ?_) (fun q2 => ?_)
    · have _tw := trivial
      refine tw_iconst hX twd_ex_fits_23 ⟨by decide, by decide⟩ ?_
      exact tw_zret hX twd_ex_fits_24 ⟨by decide, by decide⟩ (hK _ (Eq.symm (Eq.trans (if_neg q1) (if_neg q2))))
    · have _tw := trivial
      refine tw_aload_n hX twd_ex_fits_12 rfl rfl ?_
      refine tw_get (kf := 7) hX twd_ex_fits_13 twin_ex rfl (by decide) tww_175 rfl rfl rfl ?_
      refine tw_if_ne hX twd_ex_fits_16 rfl (fun q3 => ?_) (fun q3 => ?_)
      · have _tw := trivial
        refine tw_iconst hX twd_ex_fits_23 ⟨by decide, by decide⟩ ?_
        exact tw_zret hX twd_ex_fits_24 ⟨by decide, by decide⟩ (hK _ (Eq.symm (Eq.trans (if_neg q1) (Eq.trans (if_pos q2) (if_neg q3)))))
      · have _tw := trivial
        refine tw_iconst hX twd_ex_fits_19 ⟨by decide, by decide⟩ ?_
        refine tw_goto hX twd_ex_fits_20 rfl ?_
        exact tw_zret hX twd_ex_fits_24 ⟨by decide, by decide⟩ (hK _ (Eq.symm (Eq.trans (if_neg q1) (Eq.trans (if_pos q2) (if_pos q3)))))
def twr_ex_overrideOf (v0 : Int) : Int := if v0 = 14 then 0 else (if v0 = 15 then 1 else (-1))
set_option maxRecDepth 100000 in
set_option maxHeartbeats 4000000 in
theorem twc_ex_overrideOf {l : Launch} {D : va_G} {ad : Nat → Nat} {cI cZ : ClassId} {Post : tw_P} {v0 : Int} {pa_size pa_base le_ofParagraph ex_last ex_lostIsolates ex_lostEmbeddings ex_openIsolates se_count se_embedding se_beginning se_end fi_count tl_measure tl_stale : Int} {pa_kinds pa_groups pa_widths pa_pairs ma_others ma_waiting le_types le_partners le_resolved ex_levels ex_types ex_entryLevels ex_entryOverrides ex_entryIsolates se_places se_types se_marks br_partners br_list fi_breaks fi_starts fi_extents fi_groups sh_levels sh_order : Nat → Int} (hK : ∀ (z : Int), z = twr_ex_overrideOf v0 → Post (some z) (tw_mC pa_kinds pa_groups pa_widths pa_pairs pa_size pa_base ma_others ma_waiting le_types le_partners le_resolved le_ofParagraph ex_levels ex_types ex_entryLevels ex_entryOverrides ex_entryIsolates ex_last ex_lostIsolates ex_lostEmbeddings ex_openIsolates se_places se_types se_marks se_count se_embedding se_beginning se_end br_partners br_list fi_breaks fi_starts fi_extents fi_count fi_groups sh_levels sh_order tl_measure tl_stale)) : tw_ct (tw_YC l D ad cI cZ) twy_ex_overrideOf (Cond.code twy_ex_overrideOf prog_3_method_10_code 1 (some .int) :: tw_Wg) 0 [.inl v0] (tw_mC pa_kinds pa_groups pa_widths pa_pairs pa_size pa_base ma_others ma_waiting le_types le_partners le_resolved le_ofParagraph ex_levels ex_types ex_entryLevels ex_entryOverrides ex_entryIsolates ex_last ex_lostIsolates ex_lostEmbeddings ex_openIsolates se_places se_types se_marks se_count se_embedding se_beginning se_end br_partners br_list fi_breaks fi_starts fi_extents fi_count fi_groups sh_levels sh_order tl_measure tl_stale) Post := by
  refine tw_of (own := twR_ex) (L0 := [some (.inl v0)]) (by decide) rfl rfl (Nat.le_of_ble_eq_true rfl) (fun Z hX => ?_)
  refine tw_iload_n hX twd_ex_overrideOf_0 rfl rfl ?_
  refine tw_bipush hX twd_ex_overrideOf_1 (by decide +kernel) ⟨by decide, by decide⟩ ?_
  refine tw_icmp_ne hX twd_ex_overrideOf_3 rfl (fun q1 => ?_) (fun q1 => ?_)
  · have _tw := trivial
    refine tw_iload_n hX twd_ex_overrideOf_8 rfl rfl ?_
    refine tw_bipush hX twd_ex_overrideOf_9 (by decide +kernel) ⟨by decide, by decide⟩ ?_
    refine tw_icmp_ne hX twd_ex_overrideOf_11 rfl (fun q2 => ?_) (fun q2 => ?_)
    · have _tw := trivial
      refine tw_iconst hX twd_ex_overrideOf_18 ⟨by decide, by decide⟩ ?_
      exact tw_ret hX twd_ex_overrideOf_19 (hK _ (Eq.symm (Eq.trans (if_neg q1) (if_neg q2))))
    · have _tw := trivial
      refine tw_iconst hX twd_ex_overrideOf_14 ⟨by decide, by decide⟩ ?_
      refine tw_goto hX twd_ex_overrideOf_15 rfl ?_
      exact tw_ret hX twd_ex_overrideOf_19 (hK _ (Eq.symm (Eq.trans (if_neg q1) (if_pos q2))))
  · have _tw := trivial
    refine tw_iconst hX twd_ex_overrideOf_6 ⟨by decide, by decide⟩ ?_
    exact tw_ret hX twd_ex_overrideOf_7 (hK _ (Eq.symm (if_pos q1)))
def two_ex_push (v1 v2 v3 : Int) (ex_entryLevels : Nat → Int) (ex_entryOverrides : Nat → Int) (ex_entryIsolates : Nat → Int) (ex_last : Int) : Prop := ((¬ 5 ≤ ex_last → ((tw_rg (ex_last + 1)) ∧ (0 ≤ (ex_last + 1) ∧ (ex_last + 1) < 6) ∧ (0 ≤ (ex_last + 1) ∧ (ex_last + 1) < 6) ∧ (0 ≤ (ex_last + 1) ∧ (ex_last + 1) < 6) ∧ (0 ≤ v3 ∧ v3 ≤ 1))))
def twu_ex_push__ex_entryLevels (v1 v2 v3 : Int) (ex_entryLevels : Nat → Int) (ex_entryOverrides : Nat → Int) (ex_entryIsolates : Nat → Int) (ex_last : Int) : Nat → Int := if 5 ≤ ex_last then ex_entryLevels else (tw_up ex_entryLevels (Int.toNat (ex_last + 1)) v1)
def twu_ex_push__ex_entryOverrides (v1 v2 v3 : Int) (ex_entryLevels : Nat → Int) (ex_entryOverrides : Nat → Int) (ex_entryIsolates : Nat → Int) (ex_last : Int) : Nat → Int := if 5 ≤ ex_last then ex_entryOverrides else (tw_up ex_entryOverrides (Int.toNat (ex_last + 1)) v2)
def twu_ex_push__ex_entryIsolates (v1 v2 v3 : Int) (ex_entryLevels : Nat → Int) (ex_entryOverrides : Nat → Int) (ex_entryIsolates : Nat → Int) (ex_last : Int) : Nat → Int := if 5 ≤ ex_last then ex_entryIsolates else (tw_up ex_entryIsolates (Int.toNat (ex_last + 1)) v3)
def twu_ex_push__ex_last (v1 v2 v3 : Int) (ex_entryLevels : Nat → Int) (ex_entryOverrides : Nat → Int) (ex_entryIsolates : Nat → Int) (ex_last : Int) : Int := if 5 ≤ ex_last then ex_last else (ex_last + 1)
set_option maxRecDepth 100000 in
set_option maxHeartbeats 4000000 in
theorem twc_ex_push {l : Launch} {D : va_G} {ad : Nat → Nat} {cI cZ : ClassId} {Post : tw_P} {v1 v2 v3 : Int} {pa_size pa_base le_ofParagraph ex_last ex_lostIsolates ex_lostEmbeddings ex_openIsolates se_count se_embedding se_beginning se_end fi_count tl_measure tl_stale : Int} {pa_kinds pa_groups pa_widths pa_pairs ma_others ma_waiting le_types le_partners le_resolved ex_levels ex_types ex_entryLevels ex_entryOverrides ex_entryIsolates se_places se_types se_marks br_partners br_list fi_breaks fi_starts fi_extents fi_groups sh_levels sh_order : Nat → Int} (h : two_ex_push v1 v2 v3 ex_entryLevels ex_entryOverrides ex_entryIsolates ex_last) (hK : ∀ (n_ex_entryLevels : Nat → Int) (n_ex_entryOverrides : Nat → Int) (n_ex_entryIsolates : Nat → Int) (n_ex_last : Int), n_ex_entryLevels = twu_ex_push__ex_entryLevels v1 v2 v3 ex_entryLevels ex_entryOverrides ex_entryIsolates ex_last → n_ex_entryOverrides = twu_ex_push__ex_entryOverrides v1 v2 v3 ex_entryLevels ex_entryOverrides ex_entryIsolates ex_last → n_ex_entryIsolates = twu_ex_push__ex_entryIsolates v1 v2 v3 ex_entryLevels ex_entryOverrides ex_entryIsolates ex_last → n_ex_last = twu_ex_push__ex_last v1 v2 v3 ex_entryLevels ex_entryOverrides ex_entryIsolates ex_last → Post none (tw_mC pa_kinds pa_groups pa_widths pa_pairs pa_size pa_base ma_others ma_waiting le_types le_partners le_resolved le_ofParagraph ex_levels ex_types n_ex_entryLevels n_ex_entryOverrides n_ex_entryIsolates n_ex_last ex_lostIsolates ex_lostEmbeddings ex_openIsolates se_places se_types se_marks se_count se_embedding se_beginning se_end br_partners br_list fi_breaks fi_starts fi_extents fi_count fi_groups sh_levels sh_order tl_measure tl_stale)) : tw_ct (tw_YC l D ad cI cZ) twy_ex_push (Cond.code twy_ex_push prog_3_method_8_code 4 none :: tw_Wg) 0 [.inr 13, .inl v1, .inl v2, .inl v3] (tw_mC pa_kinds pa_groups pa_widths pa_pairs pa_size pa_base ma_others ma_waiting le_types le_partners le_resolved le_ofParagraph ex_levels ex_types ex_entryLevels ex_entryOverrides ex_entryIsolates ex_last ex_lostIsolates ex_lostEmbeddings ex_openIsolates se_places se_types se_marks se_count se_embedding se_beginning se_end br_partners br_list fi_breaks fi_starts fi_extents fi_count fi_groups sh_levels sh_order tl_measure tl_stale) Post := by
  refine tw_of (own := twR_ex) (L0 := [some (.inr 13), some (.inl v1), some (.inl v2), some (.inl v3)]) (by decide) rfl rfl (Nat.le_of_ble_eq_true rfl) (fun Z hX => ?_)
  unfold two_ex_push at h
  refine tw_aload_n hX twd_ex_push_0 rfl rfl ?_
  refine tw_get (kf := 5) hX twd_ex_push_1 twin_ex rfl (by decide) tww_173 rfl rfl rfl ?_
  refine tw_iconst hX twd_ex_push_4 ⟨by decide, by decide⟩ ?_
  refine tw_icmp_ge hX twd_ex_push_5 rfl (fun q6 => ?_) (fun q6 => ?_)
  · have _tw := trivial
    exact tw_vret hX twd_ex_push_48 (hK _ _ _ _ (Eq.symm (if_pos q6)) (Eq.symm (if_pos q6)) (Eq.symm (if_pos q6)) (Eq.symm (if_pos q6)))
  · have _tw := trivial
    have h := h q6
    refine tw_aload_n hX twd_ex_push_8 rfl rfl ?_
    refine tw_dup hX twd_ex_push_9 ?_
    refine tw_get (kf := 5) hX twd_ex_push_10 twin_ex rfl (by decide) tww_173 rfl rfl rfl ?_
    refine tw_iconst hX twd_ex_push_13 ⟨by decide, by decide⟩ ?_
    obtain ⟨c1, h⟩ := h
    refine tw_iadd hX twd_ex_push_14 c1 ?_
    refine tw_put (kf := 5) (mem' := (tw_mC pa_kinds pa_groups pa_widths pa_pairs pa_size pa_base ma_others ma_waiting le_types le_partners le_resolved le_ofParagraph ex_levels ex_types ex_entryLevels ex_entryOverrides ex_entryIsolates (ex_last + 1) ex_lostIsolates ex_lostEmbeddings ex_openIsolates se_places se_types se_marks se_count se_embedding se_beginning se_end br_partners br_list fi_breaks fi_starts fi_extents fi_count fi_groups sh_levels sh_order tl_measure tl_stale)) twt_ex hX twd_ex_push_15 twin_ex twtok_ex twnm_ex rfl (by decide) tww_173 rfl rfl rfl (Or.inl rfl) rfl (Nat.le_of_ble_eq_true rfl) rfl ?_
    refine tw_aload_n hX twd_ex_push_18 rfl rfl ?_
    refine tw_get (kf := 2) hX twd_ex_push_19 twin_ex rfl (by decide) tww_170 rfl rfl rfl ?_
    refine tw_aload_n hX twd_ex_push_22 rfl rfl ?_
    refine tw_get (kf := 5) hX twd_ex_push_23 twin_ex rfl (by decide) tww_173 rfl rfl rfl ?_
    refine tw_iload_n hX twd_ex_push_26 rfl rfl ?_
    obtain ⟨c2, h⟩ := h
    refine tw_iastore (mem' := (tw_mC pa_kinds pa_groups pa_widths pa_pairs pa_size pa_base ma_others ma_waiting le_types le_partners le_resolved le_ofParagraph ex_levels ex_types (tw_up ex_entryLevels (Int.toNat (ex_last + 1)) v1) ex_entryOverrides ex_entryIsolates (ex_last + 1) ex_lostIsolates ex_lostEmbeddings ex_openIsolates se_places se_types se_marks se_count se_embedding se_beginning se_end br_partners br_list fi_breaks fi_starts fi_extents fi_count fi_groups sh_levels sh_order tl_measure tl_stale)) hX twd_ex_push_27 rfl c2 rfl ?_
    refine tw_aload_n hX twd_ex_push_28 rfl rfl ?_
    refine tw_get (kf := 3) hX twd_ex_push_29 twin_ex rfl (by decide) tww_171 rfl rfl rfl ?_
    refine tw_aload_n hX twd_ex_push_32 rfl rfl ?_
    refine tw_get (kf := 5) hX twd_ex_push_33 twin_ex rfl (by decide) tww_173 rfl rfl rfl ?_
    refine tw_iload_n hX twd_ex_push_36 rfl rfl ?_
    obtain ⟨c3, h⟩ := h
    refine tw_iastore (mem' := (tw_mC pa_kinds pa_groups pa_widths pa_pairs pa_size pa_base ma_others ma_waiting le_types le_partners le_resolved le_ofParagraph ex_levels ex_types (tw_up ex_entryLevels (Int.toNat (ex_last + 1)) v1) (tw_up ex_entryOverrides (Int.toNat (ex_last + 1)) v2) ex_entryIsolates (ex_last + 1) ex_lostIsolates ex_lostEmbeddings ex_openIsolates se_places se_types se_marks se_count se_embedding se_beginning se_end br_partners br_list fi_breaks fi_starts fi_extents fi_count fi_groups sh_levels sh_order tl_measure tl_stale)) hX twd_ex_push_37 rfl c3 rfl ?_
    refine tw_aload_n hX twd_ex_push_38 rfl rfl ?_
    refine tw_get (kf := 4) hX twd_ex_push_39 twin_ex rfl (by decide) tww_172 rfl rfl rfl ?_
    refine tw_aload_n hX twd_ex_push_42 rfl rfl ?_
    refine tw_get (kf := 5) hX twd_ex_push_43 twin_ex rfl (by decide) tww_173 rfl rfl rfl ?_
    refine tw_iload_n hX twd_ex_push_46 rfl rfl ?_
    obtain ⟨c4, h⟩ := h
    have c5 := h
    refine tw_bastore (mem' := (tw_mC pa_kinds pa_groups pa_widths pa_pairs pa_size pa_base ma_others ma_waiting le_types le_partners le_resolved le_ofParagraph ex_levels ex_types (tw_up ex_entryLevels (Int.toNat (ex_last + 1)) v1) (tw_up ex_entryOverrides (Int.toNat (ex_last + 1)) v2) (tw_up ex_entryIsolates (Int.toNat (ex_last + 1)) v3) (ex_last + 1) ex_lostIsolates ex_lostEmbeddings ex_openIsolates se_places se_types se_marks se_count se_embedding se_beginning se_end br_partners br_list fi_breaks fi_starts fi_extents fi_count fi_groups sh_levels sh_order tl_measure tl_stale)) hX twd_ex_push_47 rfl c4 c5 rfl ?_
    exact tw_vret hX twd_ex_push_48 (hK _ _ _ _ (Eq.symm (if_neg q6)) (Eq.symm (if_neg q6)) (Eq.symm (if_neg q6)) (Eq.symm (if_neg q6)))
def two_ex_beginEmbedding (v1 : Int) (ex_entryLevels : Nat → Int) (ex_entryOverrides : Nat → Int) (ex_entryIsolates : Nat → Int) (ex_last : Int) (ex_lostIsolates : Int) (ex_lostEmbeddings : Int) : Prop := (((v1 = 13 → ((two_ex_nextLevel 1 ex_entryLevels ex_last) ∧ (((twr_ex_fits (twr_ex_nextLevel 1 ex_entryLevels ex_last) ex_lostIsolates ex_lostEmbeddings) = 0 → ((ex_lostIsolates = 0 → ((tw_rg (ex_lostEmbeddings + 1)))))) ∧ (¬ (twr_ex_fits (twr_ex_nextLevel 1 ex_entryLevels ex_last) ex_lostIsolates ex_lostEmbeddings) = 0 → ((two_ex_push (twr_ex_nextLevel 1 ex_entryLevels ex_last) (twr_ex_overrideOf v1) 0 ex_entryLevels ex_entryOverrides ex_entryIsolates ex_last)))))) ∧ (¬ v1 = 13 → (((v1 = 15 → ((two_ex_nextLevel 1 ex_entryLevels ex_last) ∧ (((twr_ex_fits (twr_ex_nextLevel 1 ex_entryLevels ex_last) ex_lostIsolates ex_lostEmbeddings) = 0 → ((ex_lostIsolates = 0 → ((tw_rg (ex_lostEmbeddings + 1)))))) ∧ (¬ (twr_ex_fits (twr_ex_nextLevel 1 ex_entryLevels ex_last) ex_lostIsolates ex_lostEmbeddings) = 0 → ((two_ex_push (twr_ex_nextLevel 1 ex_entryLevels ex_last) (twr_ex_overrideOf v1) 0 ex_entryLevels ex_entryOverrides ex_entryIsolates ex_last)))))) ∧ (¬ v1 = 15 → ((two_ex_nextLevel 0 ex_entryLevels ex_last) ∧ (((twr_ex_fits (twr_ex_nextLevel 0 ex_entryLevels ex_last) ex_lostIsolates ex_lostEmbeddings) = 0 → ((ex_lostIsolates = 0 → ((tw_rg (ex_lostEmbeddings + 1)))))) ∧ (¬ (twr_ex_fits (twr_ex_nextLevel 0 ex_entryLevels ex_last) ex_lostIsolates ex_lostEmbeddings) = 0 → ((two_ex_push (twr_ex_nextLevel 0 ex_entryLevels ex_last) (twr_ex_overrideOf v1) 0 ex_entryLevels ex_entryOverrides ex_entryIsolates ex_last)))))))))))
def twu_ex_beginEmbedding__ex_entryLevels (v1 : Int) (ex_entryLevels : Nat → Int) (ex_entryOverrides : Nat → Int) (ex_entryIsolates : Nat → Int) (ex_last : Int) (ex_lostIsolates : Int) (ex_lostEmbeddings : Int) : Nat → Int := if v1 = 13 then (if (twr_ex_fits (twr_ex_nextLevel 1 ex_entryLevels ex_last) ex_lostIsolates ex_lostEmbeddings) = 0 then ex_entryLevels else (twu_ex_push__ex_entryLevels (twr_ex_nextLevel 1 ex_entryLevels ex_last) (twr_ex_overrideOf v1) 0 ex_entryLevels ex_entryOverrides ex_entryIsolates ex_last)) else (if v1 = 15 then (if (twr_ex_fits (twr_ex_nextLevel 1 ex_entryLevels ex_last) ex_lostIsolates ex_lostEmbeddings) = 0 then ex_entryLevels else (twu_ex_push__ex_entryLevels (twr_ex_nextLevel 1 ex_entryLevels ex_last) (twr_ex_overrideOf v1) 0 ex_entryLevels ex_entryOverrides ex_entryIsolates ex_last)) else (if (twr_ex_fits (twr_ex_nextLevel 0 ex_entryLevels ex_last) ex_lostIsolates ex_lostEmbeddings) = 0 then ex_entryLevels else (twu_ex_push__ex_entryLevels (twr_ex_nextLevel 0 ex_entryLevels ex_last) (twr_ex_overrideOf v1) 0 ex_entryLevels ex_entryOverrides ex_entryIsolates ex_last)))
def twu_ex_beginEmbedding__ex_entryOverrides (v1 : Int) (ex_entryLevels : Nat → Int) (ex_entryOverrides : Nat → Int) (ex_entryIsolates : Nat → Int) (ex_last : Int) (ex_lostIsolates : Int) (ex_lostEmbeddings : Int) : Nat → Int := if v1 = 13 then (if (twr_ex_fits (twr_ex_nextLevel 1 ex_entryLevels ex_last) ex_lostIsolates ex_lostEmbeddings) = 0 then ex_entryOverrides else (twu_ex_push__ex_entryOverrides (twr_ex_nextLevel 1 ex_entryLevels ex_last) (twr_ex_overrideOf v1) 0 ex_entryLevels ex_entryOverrides ex_entryIsolates ex_last)) else (if v1 = 15 then (if (twr_ex_fits (twr_ex_nextLevel 1 ex_entryLevels ex_last) ex_lostIsolates ex_lostEmbeddings) = 0 then ex_entryOverrides else (twu_ex_push__ex_entryOverrides (twr_ex_nextLevel 1 ex_entryLevels ex_last) (twr_ex_overrideOf v1) 0 ex_entryLevels ex_entryOverrides ex_entryIsolates ex_last)) else (if (twr_ex_fits (twr_ex_nextLevel 0 ex_entryLevels ex_last) ex_lostIsolates ex_lostEmbeddings) = 0 then ex_entryOverrides else (twu_ex_push__ex_entryOverrides (twr_ex_nextLevel 0 ex_entryLevels ex_last) (twr_ex_overrideOf v1) 0 ex_entryLevels ex_entryOverrides ex_entryIsolates ex_last)))
def twu_ex_beginEmbedding__ex_entryIsolates (v1 : Int) (ex_entryLevels : Nat → Int) (ex_entryOverrides : Nat → Int) (ex_entryIsolates : Nat → Int) (ex_last : Int) (ex_lostIsolates : Int) (ex_lostEmbeddings : Int) : Nat → Int := if v1 = 13 then (if (twr_ex_fits (twr_ex_nextLevel 1 ex_entryLevels ex_last) ex_lostIsolates ex_lostEmbeddings) = 0 then ex_entryIsolates else (twu_ex_push__ex_entryIsolates (twr_ex_nextLevel 1 ex_entryLevels ex_last) (twr_ex_overrideOf v1) 0 ex_entryLevels ex_entryOverrides ex_entryIsolates ex_last)) else (if v1 = 15 then (if (twr_ex_fits (twr_ex_nextLevel 1 ex_entryLevels ex_last) ex_lostIsolates ex_lostEmbeddings) = 0 then ex_entryIsolates else (twu_ex_push__ex_entryIsolates (twr_ex_nextLevel 1 ex_entryLevels ex_last) (twr_ex_overrideOf v1) 0 ex_entryLevels ex_entryOverrides ex_entryIsolates ex_last)) else (if (twr_ex_fits (twr_ex_nextLevel 0 ex_entryLevels ex_last) ex_lostIsolates ex_lostEmbeddings) = 0 then ex_entryIsolates else (twu_ex_push__ex_entryIsolates (twr_ex_nextLevel 0 ex_entryLevels ex_last) (twr_ex_overrideOf v1) 0 ex_entryLevels ex_entryOverrides ex_entryIsolates ex_last)))
def twu_ex_beginEmbedding__ex_last (v1 : Int) (ex_entryLevels : Nat → Int) (ex_entryOverrides : Nat → Int) (ex_entryIsolates : Nat → Int) (ex_last : Int) (ex_lostIsolates : Int) (ex_lostEmbeddings : Int) : Int := if v1 = 13 then (if (twr_ex_fits (twr_ex_nextLevel 1 ex_entryLevels ex_last) ex_lostIsolates ex_lostEmbeddings) = 0 then ex_last else (twu_ex_push__ex_last (twr_ex_nextLevel 1 ex_entryLevels ex_last) (twr_ex_overrideOf v1) 0 ex_entryLevels ex_entryOverrides ex_entryIsolates ex_last)) else (if v1 = 15 then (if (twr_ex_fits (twr_ex_nextLevel 1 ex_entryLevels ex_last) ex_lostIsolates ex_lostEmbeddings) = 0 then ex_last else (twu_ex_push__ex_last (twr_ex_nextLevel 1 ex_entryLevels ex_last) (twr_ex_overrideOf v1) 0 ex_entryLevels ex_entryOverrides ex_entryIsolates ex_last)) else (if (twr_ex_fits (twr_ex_nextLevel 0 ex_entryLevels ex_last) ex_lostIsolates ex_lostEmbeddings) = 0 then ex_last else (twu_ex_push__ex_last (twr_ex_nextLevel 0 ex_entryLevels ex_last) (twr_ex_overrideOf v1) 0 ex_entryLevels ex_entryOverrides ex_entryIsolates ex_last)))
def twu_ex_beginEmbedding__ex_lostEmbeddings (v1 : Int) (ex_entryLevels : Nat → Int) (ex_entryOverrides : Nat → Int) (ex_entryIsolates : Nat → Int) (ex_last : Int) (ex_lostIsolates : Int) (ex_lostEmbeddings : Int) : Int := if v1 = 13 then (if (twr_ex_fits (twr_ex_nextLevel 1 ex_entryLevels ex_last) ex_lostIsolates ex_lostEmbeddings) = 0 then (if ex_lostIsolates = 0 then (ex_lostEmbeddings + 1) else ex_lostEmbeddings) else ex_lostEmbeddings) else (if v1 = 15 then (if (twr_ex_fits (twr_ex_nextLevel 1 ex_entryLevels ex_last) ex_lostIsolates ex_lostEmbeddings) = 0 then (if ex_lostIsolates = 0 then (ex_lostEmbeddings + 1) else ex_lostEmbeddings) else ex_lostEmbeddings) else (if (twr_ex_fits (twr_ex_nextLevel 0 ex_entryLevels ex_last) ex_lostIsolates ex_lostEmbeddings) = 0 then (if ex_lostIsolates = 0 then (ex_lostEmbeddings + 1) else ex_lostEmbeddings) else ex_lostEmbeddings))
set_option maxRecDepth 100000 in
set_option maxHeartbeats 4000000 in
theorem twc_ex_beginEmbedding {l : Launch} {D : va_G} {ad : Nat → Nat} {cI cZ : ClassId} {Post : tw_P} {v1 : Int} {pa_size pa_base le_ofParagraph ex_last ex_lostIsolates ex_lostEmbeddings ex_openIsolates se_count se_embedding se_beginning se_end fi_count tl_measure tl_stale : Int} {pa_kinds pa_groups pa_widths pa_pairs ma_others ma_waiting le_types le_partners le_resolved ex_levels ex_types ex_entryLevels ex_entryOverrides ex_entryIsolates se_places se_types se_marks br_partners br_list fi_breaks fi_starts fi_extents fi_groups sh_levels sh_order : Nat → Int} (h : two_ex_beginEmbedding v1 ex_entryLevels ex_entryOverrides ex_entryIsolates ex_last ex_lostIsolates ex_lostEmbeddings) (hK : ∀ (n_ex_entryLevels : Nat → Int) (n_ex_entryOverrides : Nat → Int) (n_ex_entryIsolates : Nat → Int) (n_ex_last : Int) (n_ex_lostEmbeddings : Int), n_ex_entryLevels = twu_ex_beginEmbedding__ex_entryLevels v1 ex_entryLevels ex_entryOverrides ex_entryIsolates ex_last ex_lostIsolates ex_lostEmbeddings → n_ex_entryOverrides = twu_ex_beginEmbedding__ex_entryOverrides v1 ex_entryLevels ex_entryOverrides ex_entryIsolates ex_last ex_lostIsolates ex_lostEmbeddings → n_ex_entryIsolates = twu_ex_beginEmbedding__ex_entryIsolates v1 ex_entryLevels ex_entryOverrides ex_entryIsolates ex_last ex_lostIsolates ex_lostEmbeddings → n_ex_last = twu_ex_beginEmbedding__ex_last v1 ex_entryLevels ex_entryOverrides ex_entryIsolates ex_last ex_lostIsolates ex_lostEmbeddings → n_ex_lostEmbeddings = twu_ex_beginEmbedding__ex_lostEmbeddings v1 ex_entryLevels ex_entryOverrides ex_entryIsolates ex_last ex_lostIsolates ex_lostEmbeddings → Post none (tw_mC pa_kinds pa_groups pa_widths pa_pairs pa_size pa_base ma_others ma_waiting le_types le_partners le_resolved le_ofParagraph ex_levels ex_types n_ex_entryLevels n_ex_entryOverrides n_ex_entryIsolates n_ex_last ex_lostIsolates n_ex_lostEmbeddings ex_openIsolates se_places se_types se_marks se_count se_embedding se_beginning se_end br_partners br_list fi_breaks fi_starts fi_extents fi_count fi_groups sh_levels sh_order tl_measure tl_stale)) : tw_ct (tw_YC l D ad cI cZ) twy_ex_beginEmbedding (Cond.code twy_ex_beginEmbedding prog_3_method_9_code 3 none :: tw_Wg) 2 [.inr 13, .inl v1] (tw_mC pa_kinds pa_groups pa_widths pa_pairs pa_size pa_base ma_others ma_waiting le_types le_partners le_resolved le_ofParagraph ex_levels ex_types ex_entryLevels ex_entryOverrides ex_entryIsolates ex_last ex_lostIsolates ex_lostEmbeddings ex_openIsolates se_places se_types se_marks se_count se_embedding se_beginning se_end br_partners br_list fi_breaks fi_starts fi_extents fi_count fi_groups sh_levels sh_order tl_measure tl_stale) Post := by
  refine tw_of (own := twR_ex) (L0 := [some (.inr 13), some (.inl v1), none]) (by decide) rfl rfl (Nat.le_of_ble_eq_true rfl) (fun Z hX => ?_)
  unfold two_ex_beginEmbedding at h
  refine tw_aload_n hX twd_ex_beginEmbedding_0 rfl rfl ?_
  refine tw_iload_n hX twd_ex_beginEmbedding_1 rfl rfl ?_
  refine tw_bipush hX twd_ex_beginEmbedding_2 (by decide +kernel) ⟨by decide, by decide⟩ ?_
  refine tw_icmp_eq hX twd_ex_beginEmbedding_4 rfl (fun q55 => ?_) (fun q55 => ?_)
  · have _tw := trivial
    have h := h.1 q55
    refine tw_iconst hX twd_ex_beginEmbedding_13 ⟨by decide, by decide⟩ ?_
    refine tw_goto hX twd_ex_beginEmbedding_14 rfl ?_
    obtain ⟨c1, h⟩ := h
    refine tw_callV (As := [.inl 1]) (n := 1) hX twd_ex_beginEmbedding_18 tw_good tww_425 tww_422 tww_424 tww_5 tww_81 twk_ex_nextLevel rfl rfl ⟨by decide, by decide⟩ rfl (Nat.le_of_ble_eq_true rfl) (twc_ex_nextLevel c1 (fun z2 e3 => ?_))
    subst e3
    change tw_rn (tw_YC l D ad cI cZ) Z Post 21 [some (.inr 13), some (.inl v1), none] [.inl (twr_ex_nextLevel 1 ex_entryLevels ex_last)] (tw_mC pa_kinds pa_groups pa_widths pa_pairs pa_size pa_base ma_others ma_waiting le_types le_partners le_resolved le_ofParagraph ex_levels ex_types ex_entryLevels ex_entryOverrides ex_entryIsolates ex_last ex_lostIsolates ex_lostEmbeddings ex_openIsolates se_places se_types se_marks se_count se_embedding se_beginning se_end br_partners br_list fi_breaks fi_starts fi_extents fi_count fi_groups sh_levels sh_order tl_measure tl_stale)
    refine tw_istore_n (L' := [some (.inr 13), some (.inl v1), some (.inl (twr_ex_nextLevel 1 ex_entryLevels ex_last))]) hX twd_ex_beginEmbedding_21 rfl (by decide) rfl ?_
    refine tw_aload_n hX twd_ex_beginEmbedding_22 rfl rfl ?_
    refine tw_iload_n hX twd_ex_beginEmbedding_23 rfl rfl ?_
    refine tw_callV (As := [.inl (twr_ex_nextLevel 1 ex_entryLevels ex_last)]) (n := 1) hX twd_ex_beginEmbedding_24 tw_good tww_432 tww_429 tww_431 tww_6 tww_81 twk_ex_fits rfl rfl ⟨by decide, by decide⟩ rfl (Nat.le_of_ble_eq_true rfl) (twc_ex_fits (fun z4 e5 => ?_))
    subst e5
    change tw_rn (tw_YC l D ad cI cZ) Z Post 27 [some (.inr 13), some (.inl v1), some (.inl (twr_ex_nextLevel 1 ex_entryLevels ex_last))] [.inl (twr_ex_fits (twr_ex_nextLevel 1 ex_entryLevels ex_last) ex_lostIsolates ex_lostEmbeddings)] (tw_mC pa_kinds pa_groups pa_widths pa_pairs pa_size pa_base ma_others ma_waiting le_types le_partners le_resolved le_ofParagraph ex_levels ex_types ex_entryLevels ex_entryOverrides ex_entryIsolates ex_last ex_lostIsolates ex_lostEmbeddings ex_openIsolates se_places se_types se_marks se_count se_embedding se_beginning se_end br_partners br_list fi_breaks fi_starts fi_extents fi_count fi_groups sh_levels sh_order tl_measure tl_stale)
    refine tw_if_eq hX twd_ex_beginEmbedding_27 rfl (fun q56 => ?_) (fun q56 => ?_)
    · have _tw := trivial
      have h := h.1 q56
      refine tw_aload_n hX twd_ex_beginEmbedding_43 rfl rfl ?_
      refine tw_get (kf := 6) hX twd_ex_beginEmbedding_44 twin_ex rfl (by decide) tww_174 rfl rfl rfl ?_
      refine tw_if_ne hX twd_ex_beginEmbedding_47 rfl (fun q57 => ?_) (fun q57 => ?_)
      · have _tw := trivial
        exact tw_vret hX twd_ex_beginEmbedding_60 (hK _ _ _ _ _ (Eq.symm (Eq.trans (if_pos q55) (if_pos q56))) (Eq.symm (Eq.trans (if_pos q55) (if_pos q56))) (Eq.symm (Eq.trans (if_pos q55) (if_pos q56))) (Eq.symm (Eq.trans (if_pos q55) (if_pos q56))) (Eq.symm (Eq.trans (if_pos q55) (Eq.trans (if_pos q56) (if_neg q57)))))
      · have _tw := trivial
        have h := h q57
        refine tw_aload_n hX twd_ex_beginEmbedding_50 rfl rfl ?_
        refine tw_dup hX twd_ex_beginEmbedding_51 ?_
        refine tw_get (kf := 7) hX twd_ex_beginEmbedding_52 twin_ex rfl (by decide) tww_175 rfl rfl rfl ?_
        refine tw_iconst hX twd_ex_beginEmbedding_55 ⟨by decide, by decide⟩ ?_
        have c6 := h
        refine tw_iadd hX twd_ex_beginEmbedding_56 c6 ?_
        refine tw_put (kf := 7) (mem' := (tw_mC pa_kinds pa_groups pa_widths pa_pairs pa_size pa_base ma_others ma_waiting le_types le_partners le_resolved le_ofParagraph ex_levels ex_types ex_entryLevels ex_entryOverrides ex_entryIsolates ex_last ex_lostIsolates (ex_lostEmbeddings + 1) ex_openIsolates se_places se_types se_marks se_count se_embedding se_beginning se_end br_partners br_list fi_breaks fi_starts fi_extents fi_count fi_groups sh_levels sh_order tl_measure tl_stale)) twt_ex hX twd_ex_beginEmbedding_57 twin_ex twtok_ex twnm_ex rfl (by decide) tww_175 rfl rfl rfl (Or.inl rfl) rfl (Nat.le_of_ble_eq_true rfl) rfl ?_
        exact tw_vret hX twd_ex_beginEmbedding_60 (hK _ _ _ _ _ (Eq.symm (Eq.trans (if_pos q55) (if_pos q56))) (Eq.symm (Eq.trans (if_pos q55) (if_pos q56))) (Eq.symm (Eq.trans (if_pos q55) (if_pos q56))) (Eq.symm (Eq.trans (if_pos q55) (if_pos q56))) (Eq.symm (Eq.trans (if_pos q55) (Eq.trans (if_pos q56) (if_pos q57)))))
    · have _tw := trivial
      have h := h.2 q56
      refine tw_aload_n hX twd_ex_beginEmbedding_30 rfl rfl ?_
      refine tw_iload_n hX twd_ex_beginEmbedding_31 rfl rfl ?_
      refine tw_iload_n hX twd_ex_beginEmbedding_32 rfl rfl ?_
      refine tw_callS (As := [.inl v1]) (n := 1) hX twd_ex_beginEmbedding_33 tw_good tww_435 tww_433 tww_434 tww_81 twk_ex_overrideOf ⟨by decide, by decide⟩ rfl (Nat.le_of_ble_eq_true rfl) (twc_ex_overrideOf (fun z7 e8 => ?_))
      subst e8
      change tw_rn (tw_YC l D ad cI cZ) Z Post 36 [some (.inr 13), some (.inl v1), some (.inl (twr_ex_nextLevel 1 ex_entryLevels ex_last))] [.inl (twr_ex_overrideOf v1), .inl (twr_ex_nextLevel 1 ex_entryLevels ex_last), .inr 13] (tw_mC pa_kinds pa_groups pa_widths pa_pairs pa_size pa_base ma_others ma_waiting le_types le_partners le_resolved le_ofParagraph ex_levels ex_types ex_entryLevels ex_entryOverrides ex_entryIsolates ex_last ex_lostIsolates ex_lostEmbeddings ex_openIsolates se_places se_types se_marks se_count se_embedding se_beginning se_end br_partners br_list fi_breaks fi_starts fi_extents fi_count fi_groups sh_levels sh_order tl_measure tl_stale)
      refine tw_iconst hX twd_ex_beginEmbedding_36 ⟨by decide, by decide⟩ ?_
      have c9 := h
      refine tw_callV (As := [.inl (twr_ex_nextLevel 1 ex_entryLevels ex_last), .inl (twr_ex_overrideOf v1), .inl 0]) (n := 3) hX twd_ex_beginEmbedding_37 tw_good tww_439 tww_436 tww_438 tww_7 tww_81 twk_ex_push rfl rfl ⟨by decide, by decide⟩ rfl (Nat.le_of_ble_eq_true rfl) (twc_ex_push c9 (fun w11 w12 w13 w14 e15 e16 e17 e18 => ?_))
      subst e15
      subst e16
      subst e17
      subst e18
      change tw_rn (tw_YC l D ad cI cZ) Z Post 40 [some (.inr 13), some (.inl v1), some (.inl (twr_ex_nextLevel 1 ex_entryLevels ex_last))] [] (tw_mC pa_kinds pa_groups pa_widths pa_pairs pa_size pa_base ma_others ma_waiting le_types le_partners le_resolved le_ofParagraph ex_levels ex_types (twu_ex_push__ex_entryLevels (twr_ex_nextLevel 1 ex_entryLevels ex_last) (twr_ex_overrideOf v1) 0 ex_entryLevels ex_entryOverrides ex_entryIsolates ex_last) (twu_ex_push__ex_entryOverrides (twr_ex_nextLevel 1 ex_entryLevels ex_last) (twr_ex_overrideOf v1) 0 ex_entryLevels ex_entryOverrides ex_entryIsolates ex_last) (twu_ex_push__ex_entryIsolates (twr_ex_nextLevel 1 ex_entryLevels ex_last) (twr_ex_overrideOf v1) 0 ex_entryLevels ex_entryOverrides ex_entryIsolates ex_last) (twu_ex_push__ex_last (twr_ex_nextLevel 1 ex_entryLevels ex_last) (twr_ex_overrideOf v1) 0 ex_entryLevels ex_entryOverrides ex_entryIsolates ex_last) ex_lostIsolates ex_lostEmbeddings ex_openIsolates se_places se_types se_marks se_count se_embedding se_beginning se_end br_partners br_list fi_breaks fi_starts fi_extents fi_count fi_groups sh_levels sh_order tl_measure tl_stale)
      refine tw_goto hX twd_ex_beginEmbedding_40 rfl ?_
      exact tw_vret hX twd_ex_beginEmbedding_60 (hK _ _ _ _ _ (Eq.symm (Eq.trans (if_pos q55) (if_neg q56))) (Eq.symm (Eq.trans (if_pos q55) (if_neg q56))) (Eq.symm (Eq.trans (if_pos q55) (if_neg q56))) (Eq.symm (Eq.trans (if_pos q55) (if_neg q56))) (Eq.symm (Eq.trans (if_pos q55) (if_neg q56))))
  · have _tw := trivial
    have h := h.2 q55
    refine tw_iload_n hX twd_ex_beginEmbedding_7 rfl rfl ?_
    refine tw_bipush hX twd_ex_beginEmbedding_8 (by decide +kernel) ⟨by decide, by decide⟩ ?_
    refine tw_icmp_ne hX twd_ex_beginEmbedding_10 rfl (fun q58 => ?_) (fun q58 => ?_)
    · have _tw := trivial
      have h := h.2 q58
      refine tw_iconst hX twd_ex_beginEmbedding_17 ⟨by decide, by decide⟩ ?_
      obtain ⟨c19, h⟩ := h
      refine tw_callV (As := [.inl 0]) (n := 1) hX twd_ex_beginEmbedding_18 tw_good tww_425 tww_422 tww_424 tww_5 tww_81 twk_ex_nextLevel rfl rfl ⟨by decide, by decide⟩ rfl (Nat.le_of_ble_eq_true rfl) (twc_ex_nextLevel c19 (fun z20 e21 => ?_))
      subst e21
      change tw_rn (tw_YC l D ad cI cZ) Z Post 21 [some (.inr 13), some (.inl v1), none] [.inl (twr_ex_nextLevel 0 ex_entryLevels ex_last)] (tw_mC pa_kinds pa_groups pa_widths pa_pairs pa_size pa_base ma_others ma_waiting le_types le_partners le_resolved le_ofParagraph ex_levels ex_types ex_entryLevels ex_entryOverrides ex_entryIsolates ex_last ex_lostIsolates ex_lostEmbeddings ex_openIsolates se_places se_types se_marks se_count se_embedding se_beginning se_end br_partners br_list fi_breaks fi_starts fi_extents fi_count fi_groups sh_levels sh_order tl_measure tl_stale)
      refine tw_istore_n (L' := [some (.inr 13), some (.inl v1), some (.inl (twr_ex_nextLevel 0 ex_entryLevels ex_last))]) hX twd_ex_beginEmbedding_21 rfl (by decide) rfl ?_
      refine tw_aload_n hX twd_ex_beginEmbedding_22 rfl rfl ?_
      refine tw_iload_n hX twd_ex_beginEmbedding_23 rfl rfl ?_
      refine tw_callV (As := [.inl (twr_ex_nextLevel 0 ex_entryLevels ex_last)]) (n := 1) hX twd_ex_beginEmbedding_24 tw_good tww_432 tww_429 tww_431 tww_6 tww_81 twk_ex_fits rfl rfl ⟨by decide, by decide⟩ rfl (Nat.le_of_ble_eq_true rfl) (twc_ex_fits (fun z22 e23 => ?_))
      subst e23
      change tw_rn (tw_YC l D ad cI cZ) Z Post 27 [some (.inr 13), some (.inl v1), some (.inl (twr_ex_nextLevel 0 ex_entryLevels ex_last))] [.inl (twr_ex_fits (twr_ex_nextLevel 0 ex_entryLevels ex_last) ex_lostIsolates ex_lostEmbeddings)] (tw_mC pa_kinds pa_groups pa_widths pa_pairs pa_size pa_base ma_others ma_waiting le_types le_partners le_resolved le_ofParagraph ex_levels ex_types ex_entryLevels ex_entryOverrides ex_entryIsolates ex_last ex_lostIsolates ex_lostEmbeddings ex_openIsolates se_places se_types se_marks se_count se_embedding se_beginning se_end br_partners br_list fi_breaks fi_starts fi_extents fi_count fi_groups sh_levels sh_order tl_measure tl_stale)
      refine tw_if_eq hX twd_ex_beginEmbedding_27 rfl (fun q59 => ?_) (fun q59 => ?_)
      · have _tw := trivial
        have h := h.1 q59
        refine tw_aload_n hX twd_ex_beginEmbedding_43 rfl rfl ?_
        refine tw_get (kf := 6) hX twd_ex_beginEmbedding_44 twin_ex rfl (by decide) tww_174 rfl rfl rfl ?_
        refine tw_if_ne hX twd_ex_beginEmbedding_47 rfl (fun q60 => ?_) (fun q60 => ?_)
        · have _tw := trivial
          exact tw_vret hX twd_ex_beginEmbedding_60 (hK _ _ _ _ _ (Eq.symm (Eq.trans (if_neg q55) (Eq.trans (if_neg q58) (if_pos q59)))) (Eq.symm (Eq.trans (if_neg q55) (Eq.trans (if_neg q58) (if_pos q59)))) (Eq.symm (Eq.trans (if_neg q55) (Eq.trans (if_neg q58) (if_pos q59)))) (Eq.symm (Eq.trans (if_neg q55) (Eq.trans (if_neg q58) (if_pos q59)))) (Eq.symm (Eq.trans (if_neg q55) (Eq.trans (if_neg q58) (Eq.trans (if_pos q59) (if_neg q60))))))
        · have _tw := trivial
          have h := h q60
          refine tw_aload_n hX twd_ex_beginEmbedding_50 rfl rfl ?_
          refine tw_dup hX twd_ex_beginEmbedding_51 ?_
          refine tw_get (kf := 7) hX twd_ex_beginEmbedding_52 twin_ex rfl (by decide) tww_175 rfl rfl rfl ?_
          refine tw_iconst hX twd_ex_beginEmbedding_55 ⟨by decide, by decide⟩ ?_
          have c24 := h
          refine tw_iadd hX twd_ex_beginEmbedding_56 c24 ?_
          refine tw_put (kf := 7) (mem' := (tw_mC pa_kinds pa_groups pa_widths pa_pairs pa_size pa_base ma_others ma_waiting le_types le_partners le_resolved le_ofParagraph ex_levels ex_types ex_entryLevels ex_entryOverrides ex_entryIsolates ex_last ex_lostIsolates (ex_lostEmbeddings + 1) ex_openIsolates se_places se_types se_marks se_count se_embedding se_beginning se_end br_partners br_list fi_breaks fi_starts fi_extents fi_count fi_groups sh_levels sh_order tl_measure tl_stale)) twt_ex hX twd_ex_beginEmbedding_57 twin_ex twtok_ex twnm_ex rfl (by decide) tww_175 rfl rfl rfl (Or.inl rfl) rfl (Nat.le_of_ble_eq_true rfl) rfl ?_
          exact tw_vret hX twd_ex_beginEmbedding_60 (hK _ _ _ _ _ (Eq.symm (Eq.trans (if_neg q55) (Eq.trans (if_neg q58) (if_pos q59)))) (Eq.symm (Eq.trans (if_neg q55) (Eq.trans (if_neg q58) (if_pos q59)))) (Eq.symm (Eq.trans (if_neg q55) (Eq.trans (if_neg q58) (if_pos q59)))) (Eq.symm (Eq.trans (if_neg q55) (Eq.trans (if_neg q58) (if_pos q59)))) (Eq.symm (Eq.trans (if_neg q55) (Eq.trans (if_neg q58) (Eq.trans (if_pos q59) (if_pos q60))))))
      · have _tw := trivial
        have h := h.2 q59
        refine tw_aload_n hX twd_ex_beginEmbedding_30 rfl rfl ?_
        refine tw_iload_n hX twd_ex_beginEmbedding_31 rfl rfl ?_
        refine tw_iload_n hX twd_ex_beginEmbedding_32 rfl rfl ?_
        refine tw_callS (As := [.inl v1]) (n := 1) hX twd_ex_beginEmbedding_33 tw_good tww_435 tww_433 tww_434 tww_81 twk_ex_overrideOf ⟨by decide, by decide⟩ rfl (Nat.le_of_ble_eq_true rfl) (twc_ex_overrideOf (fun z25 e26 => ?_))
        subst e26
        change tw_rn (tw_YC l D ad cI cZ) Z Post 36 [some (.inr 13), some (.inl v1), some (.inl (twr_ex_nextLevel 0 ex_entryLevels ex_last))] [.inl (twr_ex_overrideOf v1), .inl (twr_ex_nextLevel 0 ex_entryLevels ex_last), .inr 13] (tw_mC pa_kinds pa_groups pa_widths pa_pairs pa_size pa_base ma_others ma_waiting le_types le_partners le_resolved le_ofParagraph ex_levels ex_types ex_entryLevels ex_entryOverrides ex_entryIsolates ex_last ex_lostIsolates ex_lostEmbeddings ex_openIsolates se_places se_types se_marks se_count se_embedding se_beginning se_end br_partners br_list fi_breaks fi_starts fi_extents fi_count fi_groups sh_levels sh_order tl_measure tl_stale)
        refine tw_iconst hX twd_ex_beginEmbedding_36 ⟨by decide, by decide⟩ ?_
        have c27 := h
        refine tw_callV (As := [.inl (twr_ex_nextLevel 0 ex_entryLevels ex_last), .inl (twr_ex_overrideOf v1), .inl 0]) (n := 3) hX twd_ex_beginEmbedding_37 tw_good tww_439 tww_436 tww_438 tww_7 tww_81 twk_ex_push rfl rfl ⟨by decide, by decide⟩ rfl (Nat.le_of_ble_eq_true rfl) (twc_ex_push c27 (fun w29 w30 w31 w32 e33 e34 e35 e36 => ?_))
        subst e33
        subst e34
        subst e35
        subst e36
        change tw_rn (tw_YC l D ad cI cZ) Z Post 40 [some (.inr 13), some (.inl v1), some (.inl (twr_ex_nextLevel 0 ex_entryLevels ex_last))] [] (tw_mC pa_kinds pa_groups pa_widths pa_pairs pa_size pa_base ma_others ma_waiting le_types le_partners le_resolved le_ofParagraph ex_levels ex_types (twu_ex_push__ex_entryLevels (twr_ex_nextLevel 0 ex_entryLevels ex_last) (twr_ex_overrideOf v1) 0 ex_entryLevels ex_entryOverrides ex_entryIsolates ex_last) (twu_ex_push__ex_entryOverrides (twr_ex_nextLevel 0 ex_entryLevels ex_last) (twr_ex_overrideOf v1) 0 ex_entryLevels ex_entryOverrides ex_entryIsolates ex_last) (twu_ex_push__ex_entryIsolates (twr_ex_nextLevel 0 ex_entryLevels ex_last) (twr_ex_overrideOf v1) 0 ex_entryLevels ex_entryOverrides ex_entryIsolates ex_last) (twu_ex_push__ex_last (twr_ex_nextLevel 0 ex_entryLevels ex_last) (twr_ex_overrideOf v1) 0 ex_entryLevels ex_entryOverrides ex_entryIsolates ex_last) ex_lostIsolates ex_lostEmbeddings ex_openIsolates se_places se_types se_marks se_count se_embedding se_beginning se_end br_partners br_list fi_breaks fi_starts fi_extents fi_count fi_groups sh_levels sh_order tl_measure tl_stale)
        refine tw_goto hX twd_ex_beginEmbedding_40 rfl ?_
        exact tw_vret hX twd_ex_beginEmbedding_60 (hK _ _ _ _ _ (Eq.symm (Eq.trans (if_neg q55) (Eq.trans (if_neg q58) (if_neg q59)))) (Eq.symm (Eq.trans (if_neg q55) (Eq.trans (if_neg q58) (if_neg q59)))) (Eq.symm (Eq.trans (if_neg q55) (Eq.trans (if_neg q58) (if_neg q59)))) (Eq.symm (Eq.trans (if_neg q55) (Eq.trans (if_neg q58) (if_neg q59)))) (Eq.symm (Eq.trans (if_neg q55) (Eq.trans (if_neg q58) (if_neg q59)))))
    · have _tw := trivial
      have h := h.1 q58
      refine tw_iconst hX twd_ex_beginEmbedding_13 ⟨by decide, by decide⟩ ?_
      refine tw_goto hX twd_ex_beginEmbedding_14 rfl ?_
      obtain ⟨c37, h⟩ := h
      refine tw_callV (As := [.inl 1]) (n := 1) hX twd_ex_beginEmbedding_18 tw_good tww_425 tww_422 tww_424 tww_5 tww_81 twk_ex_nextLevel rfl rfl ⟨by decide, by decide⟩ rfl (Nat.le_of_ble_eq_true rfl) (twc_ex_nextLevel c37 (fun z38 e39 => ?_))
      subst e39
      change tw_rn (tw_YC l D ad cI cZ) Z Post 21 [some (.inr 13), some (.inl v1), none] [.inl (twr_ex_nextLevel 1 ex_entryLevels ex_last)] (tw_mC pa_kinds pa_groups pa_widths pa_pairs pa_size pa_base ma_others ma_waiting le_types le_partners le_resolved le_ofParagraph ex_levels ex_types ex_entryLevels ex_entryOverrides ex_entryIsolates ex_last ex_lostIsolates ex_lostEmbeddings ex_openIsolates se_places se_types se_marks se_count se_embedding se_beginning se_end br_partners br_list fi_breaks fi_starts fi_extents fi_count fi_groups sh_levels sh_order tl_measure tl_stale)
      refine tw_istore_n (L' := [some (.inr 13), some (.inl v1), some (.inl (twr_ex_nextLevel 1 ex_entryLevels ex_last))]) hX twd_ex_beginEmbedding_21 rfl (by decide) rfl ?_
      refine tw_aload_n hX twd_ex_beginEmbedding_22 rfl rfl ?_
      refine tw_iload_n hX twd_ex_beginEmbedding_23 rfl rfl ?_
      refine tw_callV (As := [.inl (twr_ex_nextLevel 1 ex_entryLevels ex_last)]) (n := 1) hX twd_ex_beginEmbedding_24 tw_good tww_432 tww_429 tww_431 tww_6 tww_81 twk_ex_fits rfl rfl ⟨by decide, by decide⟩ rfl (Nat.le_of_ble_eq_true rfl) (twc_ex_fits (fun z40 e41 => ?_))
      subst e41
      change tw_rn (tw_YC l D ad cI cZ) Z Post 27 [some (.inr 13), some (.inl v1), some (.inl (twr_ex_nextLevel 1 ex_entryLevels ex_last))] [.inl (twr_ex_fits (twr_ex_nextLevel 1 ex_entryLevels ex_last) ex_lostIsolates ex_lostEmbeddings)] (tw_mC pa_kinds pa_groups pa_widths pa_pairs pa_size pa_base ma_others ma_waiting le_types le_partners le_resolved le_ofParagraph ex_levels ex_types ex_entryLevels ex_entryOverrides ex_entryIsolates ex_last ex_lostIsolates ex_lostEmbeddings ex_openIsolates se_places se_types se_marks se_count se_embedding se_beginning se_end br_partners br_list fi_breaks fi_starts fi_extents fi_count fi_groups sh_levels sh_order tl_measure tl_stale)
      refine tw_if_eq hX twd_ex_beginEmbedding_27 rfl (fun q61 => ?_) (fun q61 => ?_)
      · have _tw := trivial
        have h := h.1 q61
        refine tw_aload_n hX twd_ex_beginEmbedding_43 rfl rfl ?_
        refine tw_get (kf := 6) hX twd_ex_beginEmbedding_44 twin_ex rfl (by decide) tww_174 rfl rfl rfl ?_
        refine tw_if_ne hX twd_ex_beginEmbedding_47 rfl (fun q62 => ?_) (fun q62 => ?_)
        · have _tw := trivial
          exact tw_vret hX twd_ex_beginEmbedding_60 (hK _ _ _ _ _ (Eq.symm (Eq.trans (if_neg q55) (Eq.trans (if_pos q58) (if_pos q61)))) (Eq.symm (Eq.trans (if_neg q55) (Eq.trans (if_pos q58) (if_pos q61)))) (Eq.symm (Eq.trans (if_neg q55) (Eq.trans (if_pos q58) (if_pos q61)))) (Eq.symm (Eq.trans (if_neg q55) (Eq.trans (if_pos q58) (if_pos q61)))) (Eq.symm (Eq.trans (if_neg q55) (Eq.trans (if_pos q58) (Eq.trans (if_pos q61) (if_neg q62))))))
        · have _tw := trivial
          have h := h q62
          refine tw_aload_n hX twd_ex_beginEmbedding_50 rfl rfl ?_
          refine tw_dup hX twd_ex_beginEmbedding_51 ?_
          refine tw_get (kf := 7) hX twd_ex_beginEmbedding_52 twin_ex rfl (by decide) tww_175 rfl rfl rfl ?_
          refine tw_iconst hX twd_ex_beginEmbedding_55 ⟨by decide, by decide⟩ ?_
          have c42 := h
          refine tw_iadd hX twd_ex_beginEmbedding_56 c42 ?_
          refine tw_put (kf := 7) (mem' := (tw_mC pa_kinds pa_groups pa_widths pa_pairs pa_size pa_base ma_others ma_waiting le_types le_partners le_resolved le_ofParagraph ex_levels ex_types ex_entryLevels ex_entryOverrides ex_entryIsolates ex_last ex_lostIsolates (ex_lostEmbeddings + 1) ex_openIsolates se_places se_types se_marks se_count se_embedding se_beginning se_end br_partners br_list fi_breaks fi_starts fi_extents fi_count fi_groups sh_levels sh_order tl_measure tl_stale)) twt_ex hX twd_ex_beginEmbedding_57 twin_ex twtok_ex twnm_ex rfl (by decide) tww_175 rfl rfl rfl (Or.inl rfl) rfl (Nat.le_of_ble_eq_true rfl) rfl ?_
          exact tw_vret hX twd_ex_beginEmbedding_60 (hK _ _ _ _ _ (Eq.symm (Eq.trans (if_neg q55) (Eq.trans (if_pos q58) (if_pos q61)))) (Eq.symm (Eq.trans (if_neg q55) (Eq.trans (if_pos q58) (if_pos q61)))) (Eq.symm (Eq.trans (if_neg q55) (Eq.trans (if_pos q58) (if_pos q61)))) (Eq.symm (Eq.trans (if_neg q55) (Eq.trans (if_pos q58) (if_pos q61)))) (Eq.symm (Eq.trans (if_neg q55) (Eq.trans (if_pos q58) (Eq.trans (if_pos q61) (if_pos q62))))))
      · have _tw := trivial
        have h := h.2 q61
        refine tw_aload_n hX twd_ex_beginEmbedding_30 rfl rfl ?_
        refine tw_iload_n hX twd_ex_beginEmbedding_31 rfl rfl ?_
        refine tw_iload_n hX twd_ex_beginEmbedding_32 rfl rfl ?_
        refine tw_callS (As := [.inl v1]) (n := 1) hX twd_ex_beginEmbedding_33 tw_good tww_435 tww_433 tww_434 tww_81 twk_ex_overrideOf ⟨by decide, by decide⟩ rfl (Nat.le_of_ble_eq_true rfl) (twc_ex_overrideOf (fun z43 e44 => ?_))
        subst e44
        change tw_rn (tw_YC l D ad cI cZ) Z Post 36 [some (.inr 13), some (.inl v1), some (.inl (twr_ex_nextLevel 1 ex_entryLevels ex_last))] [.inl (twr_ex_overrideOf v1), .inl (twr_ex_nextLevel 1 ex_entryLevels ex_last), .inr 13] (tw_mC pa_kinds pa_groups pa_widths pa_pairs pa_size pa_base ma_others ma_waiting le_types le_partners le_resolved le_ofParagraph ex_levels ex_types ex_entryLevels ex_entryOverrides ex_entryIsolates ex_last ex_lostIsolates ex_lostEmbeddings ex_openIsolates se_places se_types se_marks se_count se_embedding se_beginning se_end br_partners br_list fi_breaks fi_starts fi_extents fi_count fi_groups sh_levels sh_order tl_measure tl_stale)
        refine tw_iconst hX twd_ex_beginEmbedding_36 ⟨by decide, by decide⟩ ?_
        have c45 := h
        refine tw_callV (As := [.inl (twr_ex_nextLevel 1 ex_entryLevels ex_last), .inl (twr_ex_overrideOf v1), .inl 0]) (n := 3) hX twd_ex_beginEmbedding_37 tw_good tww_439 tww_436 tww_438 tww_7 tww_81 twk_ex_push rfl rfl ⟨by decide, by decide⟩ rfl (Nat.le_of_ble_eq_true rfl) (twc_ex_push c45 (fun w47 w48 w49 w50 e51 e52 e53 e54 => ?_))
        subst e51
        subst e52
        subst e53
        subst e54
        change tw_rn (tw_YC l D ad cI cZ) Z Post 40 [some (.inr 13), some (.inl v1), some (.inl (twr_ex_nextLevel 1 ex_entryLevels ex_last))] [] (tw_mC pa_kinds pa_groups pa_widths pa_pairs pa_size pa_base ma_others ma_waiting le_types le_partners le_resolved le_ofParagraph ex_levels ex_types (twu_ex_push__ex_entryLevels (twr_ex_nextLevel 1 ex_entryLevels ex_last) (twr_ex_overrideOf v1) 0 ex_entryLevels ex_entryOverrides ex_entryIsolates ex_last) (twu_ex_push__ex_entryOverrides (twr_ex_nextLevel 1 ex_entryLevels ex_last) (twr_ex_overrideOf v1) 0 ex_entryLevels ex_entryOverrides ex_entryIsolates ex_last) (twu_ex_push__ex_entryIsolates (twr_ex_nextLevel 1 ex_entryLevels ex_last) (twr_ex_overrideOf v1) 0 ex_entryLevels ex_entryOverrides ex_entryIsolates ex_last) (twu_ex_push__ex_last (twr_ex_nextLevel 1 ex_entryLevels ex_last) (twr_ex_overrideOf v1) 0 ex_entryLevels ex_entryOverrides ex_entryIsolates ex_last) ex_lostIsolates ex_lostEmbeddings ex_openIsolates se_places se_types se_marks se_count se_embedding se_beginning se_end br_partners br_list fi_breaks fi_starts fi_extents fi_count fi_groups sh_levels sh_order tl_measure tl_stale)
        refine tw_goto hX twd_ex_beginEmbedding_40 rfl ?_
        exact tw_vret hX twd_ex_beginEmbedding_60 (hK _ _ _ _ _ (Eq.symm (Eq.trans (if_neg q55) (Eq.trans (if_pos q58) (if_neg q61)))) (Eq.symm (Eq.trans (if_neg q55) (Eq.trans (if_pos q58) (if_neg q61)))) (Eq.symm (Eq.trans (if_neg q55) (Eq.trans (if_pos q58) (if_neg q61)))) (Eq.symm (Eq.trans (if_neg q55) (Eq.trans (if_pos q58) (if_neg q61)))) (Eq.symm (Eq.trans (if_neg q55) (Eq.trans (if_pos q58) (if_neg q61)))))
def two_ex_give (v1 v2 : Int) (ex_levels : Nat → Int) (ex_types : Nat → Int) (ex_entryLevels : Nat → Int) (ex_entryOverrides : Nat → Int) (ex_last : Int) : Prop := ((0 ≤ ex_last ∧ ex_last < 6) ∧ (0 ≤ v1 ∧ v1 < 64) ∧ (0 ≤ ex_last ∧ ex_last < 6) ∧ (((ex_entryOverrides (Int.toNat ex_last)) = (-1) → ((0 ≤ v1 ∧ v1 < 64))) ∧ (¬ (ex_entryOverrides (Int.toNat ex_last)) = (-1) → ((0 ≤ ex_last ∧ ex_last < 6) ∧ (0 ≤ v1 ∧ v1 < 64)))))
def twu_ex_give__ex_levels (v1 v2 : Int) (ex_levels : Nat → Int) (ex_types : Nat → Int) (ex_entryLevels : Nat → Int) (ex_entryOverrides : Nat → Int) (ex_last : Int) : Nat → Int := tw_up ex_levels (Int.toNat v1) (ex_entryLevels (Int.toNat ex_last))
def twu_ex_give__ex_types (v1 v2 : Int) (ex_levels : Nat → Int) (ex_types : Nat → Int) (ex_entryLevels : Nat → Int) (ex_entryOverrides : Nat → Int) (ex_last : Int) : Nat → Int := if (ex_entryOverrides (Int.toNat ex_last)) = (-1) then (tw_up ex_types (Int.toNat v1) v2) else (tw_up ex_types (Int.toNat v1) (ex_entryOverrides (Int.toNat ex_last)))
set_option maxRecDepth 100000 in
set_option maxHeartbeats 4000000 in
theorem twc_ex_give {l : Launch} {D : va_G} {ad : Nat → Nat} {cI cZ : ClassId} {Post : tw_P} {v1 v2 : Int} {pa_size pa_base le_ofParagraph ex_last ex_lostIsolates ex_lostEmbeddings ex_openIsolates se_count se_embedding se_beginning se_end fi_count tl_measure tl_stale : Int} {pa_kinds pa_groups pa_widths pa_pairs ma_others ma_waiting le_types le_partners le_resolved ex_levels ex_types ex_entryLevels ex_entryOverrides ex_entryIsolates se_places se_types se_marks br_partners br_list fi_breaks fi_starts fi_extents fi_groups sh_levels sh_order : Nat → Int} (h : two_ex_give v1 v2 ex_levels ex_types ex_entryLevels ex_entryOverrides ex_last) (hK : ∀ (n_ex_levels : Nat → Int) (n_ex_types : Nat → Int), n_ex_levels = twu_ex_give__ex_levels v1 v2 ex_levels ex_types ex_entryLevels ex_entryOverrides ex_last → n_ex_types = twu_ex_give__ex_types v1 v2 ex_levels ex_types ex_entryLevels ex_entryOverrides ex_last → Post none (tw_mC pa_kinds pa_groups pa_widths pa_pairs pa_size pa_base ma_others ma_waiting le_types le_partners le_resolved le_ofParagraph n_ex_levels n_ex_types ex_entryLevels ex_entryOverrides ex_entryIsolates ex_last ex_lostIsolates ex_lostEmbeddings ex_openIsolates se_places se_types se_marks se_count se_embedding se_beginning se_end br_partners br_list fi_breaks fi_starts fi_extents fi_count fi_groups sh_levels sh_order tl_measure tl_stale)) : tw_ct (tw_YC l D ad cI cZ) twy_ex_give (Cond.code twy_ex_give prog_3_method_4_code 3 none :: tw_Wg) 0 [.inr 13, .inl v1, .inl v2] (tw_mC pa_kinds pa_groups pa_widths pa_pairs pa_size pa_base ma_others ma_waiting le_types le_partners le_resolved le_ofParagraph ex_levels ex_types ex_entryLevels ex_entryOverrides ex_entryIsolates ex_last ex_lostIsolates ex_lostEmbeddings ex_openIsolates se_places se_types se_marks se_count se_embedding se_beginning se_end br_partners br_list fi_breaks fi_starts fi_extents fi_count fi_groups sh_levels sh_order tl_measure tl_stale) Post := by
  refine tw_of (own := twR_ex) (L0 := [some (.inr 13), some (.inl v1), some (.inl v2)]) (by decide) rfl rfl (Nat.le_of_ble_eq_true rfl) (fun Z hX => ?_)
  unfold two_ex_give at h
  refine tw_aload_n hX twd_ex_give_0 rfl rfl ?_
  refine tw_get (kf := 0) hX twd_ex_give_1 twin_ex rfl (by decide) tww_166 rfl rfl rfl ?_
  refine tw_iload_n hX twd_ex_give_4 rfl rfl ?_
  refine tw_aload_n hX twd_ex_give_5 rfl rfl ?_
  refine tw_get (kf := 2) hX twd_ex_give_6 twin_ex rfl (by decide) tww_170 rfl rfl rfl ?_
  refine tw_aload_n hX twd_ex_give_9 rfl rfl ?_
  refine tw_get (kf := 5) hX twd_ex_give_10 twin_ex rfl (by decide) tww_173 rfl rfl rfl ?_
  obtain ⟨c1, h⟩ := h
  refine tw_iaload hX twd_ex_give_13 rfl c1 ?_
  obtain ⟨c2, h⟩ := h
  refine tw_iastore (mem' := (tw_mC pa_kinds pa_groups pa_widths pa_pairs pa_size pa_base ma_others ma_waiting le_types le_partners le_resolved le_ofParagraph (tw_up ex_levels (Int.toNat v1) (ex_entryLevels (Int.toNat ex_last))) ex_types ex_entryLevels ex_entryOverrides ex_entryIsolates ex_last ex_lostIsolates ex_lostEmbeddings ex_openIsolates se_places se_types se_marks se_count se_embedding se_beginning se_end br_partners br_list fi_breaks fi_starts fi_extents fi_count fi_groups sh_levels sh_order tl_measure tl_stale)) hX twd_ex_give_14 rfl c2 rfl ?_
  refine tw_aload_n hX twd_ex_give_15 rfl rfl ?_
  refine tw_get (kf := 1) hX twd_ex_give_16 twin_ex rfl (by decide) tww_168 rfl rfl rfl ?_
  refine tw_iload_n hX twd_ex_give_19 rfl rfl ?_
  refine tw_aload_n hX twd_ex_give_20 rfl rfl ?_
  refine tw_get (kf := 3) hX twd_ex_give_21 twin_ex rfl (by decide) tww_171 rfl rfl rfl ?_
  refine tw_aload_n hX twd_ex_give_24 rfl rfl ?_
  refine tw_get (kf := 5) hX twd_ex_give_25 twin_ex rfl (by decide) tww_173 rfl rfl rfl ?_
  obtain ⟨c3, h⟩ := h
  refine tw_iaload hX twd_ex_give_28 rfl c3 ?_
  refine tw_iconst hX twd_ex_give_29 ⟨by decide, by decide⟩ ?_
  refine tw_icmp_ne hX twd_ex_give_30 rfl (fun q7 => ?_) (fun q7 => ?_)
  · have _tw := trivial
    have h := h.2 q7
    refine tw_aload_n hX twd_ex_give_37 rfl rfl ?_
    refine tw_get (kf := 3) hX twd_ex_give_38 twin_ex rfl (by decide) tww_171 rfl rfl rfl ?_
    refine tw_aload_n hX twd_ex_give_41 rfl rfl ?_
    refine tw_get (kf := 5) hX twd_ex_give_42 twin_ex rfl (by decide) tww_173 rfl rfl rfl ?_
    obtain ⟨c4, h⟩ := h
    refine tw_iaload hX twd_ex_give_45 rfl c4 ?_
    have c5 := h
    refine tw_iastore (mem' := (tw_mC pa_kinds pa_groups pa_widths pa_pairs pa_size pa_base ma_others ma_waiting le_types le_partners le_resolved le_ofParagraph (tw_up ex_levels (Int.toNat v1) (ex_entryLevels (Int.toNat ex_last))) (tw_up ex_types (Int.toNat v1) (ex_entryOverrides (Int.toNat ex_last))) ex_entryLevels ex_entryOverrides ex_entryIsolates ex_last ex_lostIsolates ex_lostEmbeddings ex_openIsolates se_places se_types se_marks se_count se_embedding se_beginning se_end br_partners br_list fi_breaks fi_starts fi_extents fi_count fi_groups sh_levels sh_order tl_measure tl_stale)) hX twd_ex_give_46 rfl c5 rfl ?_
    exact tw_vret hX twd_ex_give_47 (hK _ _ (Eq.symm rfl) (Eq.symm (if_neg q7)))
  · have _tw := trivial
    have h := h.1 q7
    refine tw_iload_n hX twd_ex_give_33 rfl rfl ?_
    refine tw_goto hX twd_ex_give_34 rfl ?_
    have c6 := h
    refine tw_iastore (mem' := (tw_mC pa_kinds pa_groups pa_widths pa_pairs pa_size pa_base ma_others ma_waiting le_types le_partners le_resolved le_ofParagraph (tw_up ex_levels (Int.toNat v1) (ex_entryLevels (Int.toNat ex_last))) (tw_up ex_types (Int.toNat v1) v2) ex_entryLevels ex_entryOverrides ex_entryIsolates ex_last ex_lostIsolates ex_lostEmbeddings ex_openIsolates se_places se_types se_marks se_count se_embedding se_beginning se_end br_partners br_list fi_breaks fi_starts fi_extents fi_count fi_groups sh_levels sh_order tl_measure tl_stale)) hX twd_ex_give_46 rfl c6 rfl ?_
    exact tw_vret hX twd_ex_give_47 (hK _ _ (Eq.symm rfl) (Eq.symm (if_pos q7)))
def tww_ex_wantsOdd (v3 : Int) (pa_kinds : Nat → Int) (pa_size : Int) (ma_others : Nat → Int) (K : Int → Prop) : Prop :=
  (0 ≤ v3 ∧ v3 < 64) ∧ (((pa_kinds (Int.toNat v3)) = 19 →
  (0 ≤ v3 ∧ v3 < 64) ∧ (∀ x3 : Int, x3 = (if (ma_others (Int.toNat v3)) = (-1) then pa_size else (ma_others (Int.toNat v3))) →
    (tw_rg (v3 + 1)) ∧ tww_ma_direction (v3 + 1) x3 pa_kinds ma_others (fun z5 =>
      ((z5 = 1 →
      K 1) ∧
      (¬ z5 = 1 →
      K 0))))) ∧
  (¬ (pa_kinds (Int.toNat v3)) = 19 →
  (0 ≤ v3 ∧ v3 < 64) ∧ (((pa_kinds (Int.toNat v3)) = 18 →
    K 1) ∧
    (¬ (pa_kinds (Int.toNat v3)) = 18 →
    K 0))))
set_option maxRecDepth 100000 in
set_option maxHeartbeats 4000000 in
theorem twc_ex_wantsOdd {l : Launch} {D : va_G} {ad : Nat → Nat} {cI cZ : ClassId} {Post : tw_P} {K : Int → Prop} {v3 : Int} {pa_size pa_base le_ofParagraph ex_last ex_lostIsolates ex_lostEmbeddings ex_openIsolates se_count se_embedding se_beginning se_end fi_count tl_measure tl_stale : Int} {pa_kinds pa_groups pa_widths pa_pairs ma_others ma_waiting le_types le_partners le_resolved ex_levels ex_types ex_entryLevels ex_entryOverrides ex_entryIsolates se_places se_types se_marks br_partners br_list fi_breaks fi_starts fi_extents fi_groups sh_levels sh_order : Nat → Int} (h : tww_ex_wantsOdd v3 pa_kinds pa_size ma_others K) (hK : ∀ (z : Int), K z → Post (some z) (tw_mC pa_kinds pa_groups pa_widths pa_pairs pa_size pa_base ma_others ma_waiting le_types le_partners le_resolved le_ofParagraph ex_levels ex_types ex_entryLevels ex_entryOverrides ex_entryIsolates ex_last ex_lostIsolates ex_lostEmbeddings ex_openIsolates se_places se_types se_marks se_count se_embedding se_beginning se_end br_partners br_list fi_breaks fi_starts fi_extents fi_count fi_groups sh_levels sh_order tl_measure tl_stale)) : tw_ct (tw_YC l D ad cI cZ) twy_ex_wantsOdd (Cond.code twy_ex_wantsOdd prog_3_method_5_code 6 (some .boolean) :: tw_Wg) 2 [.inr 13, .inr 1, .inr 7, .inl v3] (tw_mC pa_kinds pa_groups pa_widths pa_pairs pa_size pa_base ma_others ma_waiting le_types le_partners le_resolved le_ofParagraph ex_levels ex_types ex_entryLevels ex_entryOverrides ex_entryIsolates ex_last ex_lostIsolates ex_lostEmbeddings ex_openIsolates se_places se_types se_marks se_count se_embedding se_beginning se_end br_partners br_list fi_breaks fi_starts fi_extents fi_count fi_groups sh_levels sh_order tl_measure tl_stale) Post := by
  refine tw_of (own := twR_ex) (L0 := [some (.inr 13), some (.inr 1), some (.inr 7), some (.inl v3), none, none]) (by decide) rfl rfl (Nat.le_of_ble_eq_true rfl) (fun Z hX => ?_)
  unfold tww_ex_wantsOdd at h
  refine tw_aload_n hX twd_ex_wantsOdd_0 rfl rfl ?_
  refine tw_get (kf := 0) hX twd_ex_wantsOdd_1 twin_pa rfl (by decide) tww_104 rfl rfl rfl ?_
  refine tw_iload_n hX twd_ex_wantsOdd_4 rfl rfl ?_
  obtain ⟨c1, h⟩ := h
  refine tw_iaload hX twd_ex_wantsOdd_5 rfl c1 ?_
  refine tw_bipush hX twd_ex_wantsOdd_6 (by decide +kernel) ⟨by decide, by decide⟩ ?_
  refine tw_icmp_eq hX twd_ex_wantsOdd_8 rfl (fun q12 => ?_) (fun q12 => ?_)
  · have h := h.1 q12
    refine tw_aload_n hX twd_ex_wantsOdd_28 rfl rfl ?_
    refine tw_get (kf := 0) hX twd_ex_wantsOdd_29 twin_ma rfl (by decide) tww_152 rfl rfl rfl ?_
    refine tw_iload_n hX twd_ex_wantsOdd_32 rfl rfl ?_
    obtain ⟨c2, h⟩ := h
    refine tw_iaload hX twd_ex_wantsOdd_33 rfl c2 ?_
    refine tw_istore (L' := [some (.inr 13), some (.inr 1), some (.inr 7), some (.inl v3), some (.inl (ma_others (Int.toNat v3))), none]) hX twd_ex_wantsOdd_34 (by decide) rfl ?_
    refine tw_iload hX twd_ex_wantsOdd_36 rfl ?_
    refine tw_iconst hX twd_ex_wantsOdd_38 ⟨by decide, by decide⟩ ?_
    have j7 : ∀ x3 : Int, x3 = (if (ma_others (Int.toNat v3)) = (-1) then pa_size else (ma_others (Int.toNat v3))) → tw_rn (tw_YC l D ad cI cZ) Z Post 51 [none, some (.inr 1), some (.inr 7), some (.inl v3), none, none] [.inl x3] (tw_mC pa_kinds pa_groups pa_widths pa_pairs pa_size pa_base ma_others ma_waiting le_types le_partners le_resolved le_ofParagraph ex_levels ex_types ex_entryLevels ex_entryOverrides ex_entryIsolates ex_last ex_lostIsolates ex_lostEmbeddings ex_openIsolates se_places se_types se_marks se_count se_embedding se_beginning se_end br_partners br_list fi_breaks fi_starts fi_extents fi_count fi_groups sh_levels sh_order tl_measure tl_stale) := by
      intro x3 e8
      have h := h x3 e8
      refine tw_istore (L' := [none, some (.inr 1), some (.inr 7), some (.inl v3), none, some (.inl x3)]) hX twd_ex_wantsOdd_51 (by decide) rfl ?_
      refine tw_aload_n hX twd_ex_wantsOdd_53 rfl rfl ?_
      refine tw_aload_n hX twd_ex_wantsOdd_54 rfl rfl ?_
      refine tw_iload_n hX twd_ex_wantsOdd_55 rfl rfl ?_
      refine tw_iconst hX twd_ex_wantsOdd_56 ⟨by decide, by decide⟩ ?_
      obtain ⟨c4, h⟩ := h
      refine tw_iadd hX twd_ex_wantsOdd_57 c4 ?_
      refine tw_iload hX twd_ex_wantsOdd_58 rfl ?_
      refine tw_callV (As := [.inr 1, .inl (v3 + 1), .inl x3]) (n := 3) hX twd_ex_wantsOdd_60 tw_good tww_398 tww_449 tww_396 tww_397 tww_80 twk_ma_direction rfl rfl ⟨by decide, by decide⟩ rfl (Nat.le_of_ble_eq_true rfl) (twc_ma_direction h (fun z5 h => ?_))
      change tw_rn (tw_YC l D ad cI cZ) Z Post 63 [none, some (.inr 1), some (.inr 7), some (.inl v3), none, some (.inl x3)] [.inl z5] (tw_mC pa_kinds pa_groups pa_widths pa_pairs pa_size pa_base ma_others ma_waiting le_types le_partners le_resolved le_ofParagraph ex_levels ex_types ex_entryLevels ex_entryOverrides ex_entryIsolates ex_last ex_lostIsolates ex_lostEmbeddings ex_openIsolates se_places se_types se_marks se_count se_embedding se_beginning se_end br_partners br_list fi_breaks fi_starts fi_extents fi_count fi_groups sh_levels sh_order tl_measure tl_stale)
      refine tw_iconst hX twd_ex_wantsOdd_63 ⟨by decide, by decide⟩ ?_
      refine tw_icmp_ne hX twd_ex_wantsOdd_64 rfl (fun q6 => ?_) (fun q6 => ?_)
      · have h := h.2 q6
        refine tw_iconst hX twd_ex_wantsOdd_71 ⟨by decide, by decide⟩ ?_
        exact tw_zret hX twd_ex_wantsOdd_72 ⟨by decide, by decide⟩ (hK _ h)
      · have h := h.1 q6
        refine tw_iconst hX twd_ex_wantsOdd_67 ⟨by decide, by decide⟩ ?_
        refine tw_goto hX twd_ex_wantsOdd_68 rfl ?_
        exact tw_zret hX twd_ex_wantsOdd_72 ⟨by decide, by decide⟩ (hK _ h)
    refine tw_icmp_ne hX twd_ex_wantsOdd_39 rfl (fun q9 => ?_) (fun q9 => ?_)
    · have _tw := trivial
      refine tw_iload hX twd_ex_wantsOdd_49 rfl ?_
      refine tw_wk (L' := [none, some (.inr 1), some (.inr 7), some (.inl v3), none, none]) (tw_le_n (tw_le_s (tw_le_s (tw_le_s (tw_le_n (tw_le_n tw_le_0)))))) ?_
      exact j7 _ (Eq.symm (if_neg q9))
    · have _tw := trivial
      refine tw_aload_n hX twd_ex_wantsOdd_42 rfl rfl ?_
      refine tw_get (kf := 4) hX twd_ex_wantsOdd_43 twin_pa rfl (by decide) tww_117 rfl rfl rfl ?_
      refine tw_goto hX twd_ex_wantsOdd_46 rfl ?_
      refine tw_wk (L' := [none, some (.inr 1), some (.inr 7), some (.inl v3), none, none]) (tw_le_n (tw_le_s (tw_le_s (tw_le_s (tw_le_n (tw_le_n tw_le_0)))))) ?_
      exact j7 _ (Eq.symm (if_pos q9))
  · have h := h.2 q12
    refine tw_aload_n hX twd_ex_wantsOdd_11 rfl rfl ?_
    refine tw_get (kf := 0) hX twd_ex_wantsOdd_12 twin_pa rfl (by decide) tww_104 rfl rfl rfl ?_
    refine tw_iload_n hX twd_ex_wantsOdd_15 rfl rfl ?_
    obtain ⟨c10, h⟩ := h
    refine tw_iaload hX twd_ex_wantsOdd_16 rfl c10 ?_
    refine tw_bipush hX twd_ex_wantsOdd_17 (by decide +kernel) ⟨by decide, by decide⟩ ?_
    refine tw_icmp_ne hX twd_ex_wantsOdd_19 rfl (fun q11 => ?_) (fun q11 => ?_)
    · have h := h.2 q11
      refine tw_iconst hX twd_ex_wantsOdd_26 ⟨by decide, by decide⟩ ?_
      exact tw_zret hX twd_ex_wantsOdd_27 ⟨by decide, by decide⟩ (hK _ h)
    · have h := h.1 q11
      refine tw_iconst hX twd_ex_wantsOdd_22 ⟨by decide, by decide⟩ ?_
      refine tw_goto hX twd_ex_wantsOdd_23 rfl ?_
      exact tw_zret hX twd_ex_wantsOdd_27 ⟨by decide, by decide⟩ (hK _ h)
def two_ex_beginIsolate (v1 : Int) (ex_entryLevels : Nat → Int) (ex_entryOverrides : Nat → Int) (ex_entryIsolates : Nat → Int) (ex_last : Int) (ex_lostIsolates : Int) (ex_lostEmbeddings : Int) (ex_openIsolates : Int) : Prop := ((two_ex_nextLevel v1 ex_entryLevels ex_last) ∧ (((twr_ex_fits (twr_ex_nextLevel v1 ex_entryLevels ex_last) ex_lostIsolates ex_lostEmbeddings) = 0 → ((tw_rg (ex_lostIsolates + 1)))) ∧ (¬ (twr_ex_fits (twr_ex_nextLevel v1 ex_entryLevels ex_last) ex_lostIsolates ex_lostEmbeddings) = 0 → ((tw_rg (ex_openIsolates + 1)) ∧ (two_ex_push (twr_ex_nextLevel v1 ex_entryLevels ex_last) (-1) 1 ex_entryLevels ex_entryOverrides ex_entryIsolates ex_last)))))
def twu_ex_beginIsolate__ex_entryLevels (v1 : Int) (ex_entryLevels : Nat → Int) (ex_entryOverrides : Nat → Int) (ex_entryIsolates : Nat → Int) (ex_last : Int) (ex_lostIsolates : Int) (ex_lostEmbeddings : Int) (ex_openIsolates : Int) : Nat → Int := if (twr_ex_fits (twr_ex_nextLevel v1 ex_entryLevels ex_last) ex_lostIsolates ex_lostEmbeddings) = 0 then ex_entryLevels else (twu_ex_push__ex_entryLevels (twr_ex_nextLevel v1 ex_entryLevels ex_last) (-1) 1 ex_entryLevels ex_entryOverrides ex_entryIsolates ex_last)
def twu_ex_beginIsolate__ex_entryOverrides (v1 : Int) (ex_entryLevels : Nat → Int) (ex_entryOverrides : Nat → Int) (ex_entryIsolates : Nat → Int) (ex_last : Int) (ex_lostIsolates : Int) (ex_lostEmbeddings : Int) (ex_openIsolates : Int) : Nat → Int := if (twr_ex_fits (twr_ex_nextLevel v1 ex_entryLevels ex_last) ex_lostIsolates ex_lostEmbeddings) = 0 then ex_entryOverrides else (twu_ex_push__ex_entryOverrides (twr_ex_nextLevel v1 ex_entryLevels ex_last) (-1) 1 ex_entryLevels ex_entryOverrides ex_entryIsolates ex_last)
def twu_ex_beginIsolate__ex_entryIsolates (v1 : Int) (ex_entryLevels : Nat → Int) (ex_entryOverrides : Nat → Int) (ex_entryIsolates : Nat → Int) (ex_last : Int) (ex_lostIsolates : Int) (ex_lostEmbeddings : Int) (ex_openIsolates : Int) : Nat → Int := if (twr_ex_fits (twr_ex_nextLevel v1 ex_entryLevels ex_last) ex_lostIsolates ex_lostEmbeddings) = 0 then ex_entryIsolates else (twu_ex_push__ex_entryIsolates (twr_ex_nextLevel v1 ex_entryLevels ex_last) (-1) 1 ex_entryLevels ex_entryOverrides ex_entryIsolates ex_last)
def twu_ex_beginIsolate__ex_last (v1 : Int) (ex_entryLevels : Nat → Int) (ex_entryOverrides : Nat → Int) (ex_entryIsolates : Nat → Int) (ex_last : Int) (ex_lostIsolates : Int) (ex_lostEmbeddings : Int) (ex_openIsolates : Int) : Int := if (twr_ex_fits (twr_ex_nextLevel v1 ex_entryLevels ex_last) ex_lostIsolates ex_lostEmbeddings) = 0 then ex_last else (twu_ex_push__ex_last (twr_ex_nextLevel v1 ex_entryLevels ex_last) (-1) 1 ex_entryLevels ex_entryOverrides ex_entryIsolates ex_last)
def twu_ex_beginIsolate__ex_lostIsolates (v1 : Int) (ex_entryLevels : Nat → Int) (ex_entryOverrides : Nat → Int) (ex_entryIsolates : Nat → Int) (ex_last : Int) (ex_lostIsolates : Int) (ex_lostEmbeddings : Int) (ex_openIsolates : Int) : Int := if (twr_ex_fits (twr_ex_nextLevel v1 ex_entryLevels ex_last) ex_lostIsolates ex_lostEmbeddings) = 0 then (ex_lostIsolates + 1) else ex_lostIsolates
def twu_ex_beginIsolate__ex_openIsolates (v1 : Int) (ex_entryLevels : Nat → Int) (ex_entryOverrides : Nat → Int) (ex_entryIsolates : Nat → Int) (ex_last : Int) (ex_lostIsolates : Int) (ex_lostEmbeddings : Int) (ex_openIsolates : Int) : Int := if (twr_ex_fits (twr_ex_nextLevel v1 ex_entryLevels ex_last) ex_lostIsolates ex_lostEmbeddings) = 0 then ex_openIsolates else (ex_openIsolates + 1)
set_option maxRecDepth 100000 in
set_option maxHeartbeats 4000000 in
theorem twc_ex_beginIsolate {l : Launch} {D : va_G} {ad : Nat → Nat} {cI cZ : ClassId} {Post : tw_P} {v1 : Int} {pa_size pa_base le_ofParagraph ex_last ex_lostIsolates ex_lostEmbeddings ex_openIsolates se_count se_embedding se_beginning se_end fi_count tl_measure tl_stale : Int} {pa_kinds pa_groups pa_widths pa_pairs ma_others ma_waiting le_types le_partners le_resolved ex_levels ex_types ex_entryLevels ex_entryOverrides ex_entryIsolates se_places se_types se_marks br_partners br_list fi_breaks fi_starts fi_extents fi_groups sh_levels sh_order : Nat → Int} (h : two_ex_beginIsolate v1 ex_entryLevels ex_entryOverrides ex_entryIsolates ex_last ex_lostIsolates ex_lostEmbeddings ex_openIsolates) (hK : ∀ (n_ex_entryLevels : Nat → Int) (n_ex_entryOverrides : Nat → Int) (n_ex_entryIsolates : Nat → Int) (n_ex_last : Int) (n_ex_lostIsolates : Int) (n_ex_openIsolates : Int), n_ex_entryLevels = twu_ex_beginIsolate__ex_entryLevels v1 ex_entryLevels ex_entryOverrides ex_entryIsolates ex_last ex_lostIsolates ex_lostEmbeddings ex_openIsolates → n_ex_entryOverrides = twu_ex_beginIsolate__ex_entryOverrides v1 ex_entryLevels ex_entryOverrides ex_entryIsolates ex_last ex_lostIsolates ex_lostEmbeddings ex_openIsolates → n_ex_entryIsolates = twu_ex_beginIsolate__ex_entryIsolates v1 ex_entryLevels ex_entryOverrides ex_entryIsolates ex_last ex_lostIsolates ex_lostEmbeddings ex_openIsolates → n_ex_last = twu_ex_beginIsolate__ex_last v1 ex_entryLevels ex_entryOverrides ex_entryIsolates ex_last ex_lostIsolates ex_lostEmbeddings ex_openIsolates → n_ex_lostIsolates = twu_ex_beginIsolate__ex_lostIsolates v1 ex_entryLevels ex_entryOverrides ex_entryIsolates ex_last ex_lostIsolates ex_lostEmbeddings ex_openIsolates → n_ex_openIsolates = twu_ex_beginIsolate__ex_openIsolates v1 ex_entryLevels ex_entryOverrides ex_entryIsolates ex_last ex_lostIsolates ex_lostEmbeddings ex_openIsolates → Post none (tw_mC pa_kinds pa_groups pa_widths pa_pairs pa_size pa_base ma_others ma_waiting le_types le_partners le_resolved le_ofParagraph ex_levels ex_types n_ex_entryLevels n_ex_entryOverrides n_ex_entryIsolates n_ex_last n_ex_lostIsolates ex_lostEmbeddings n_ex_openIsolates se_places se_types se_marks se_count se_embedding se_beginning se_end br_partners br_list fi_breaks fi_starts fi_extents fi_count fi_groups sh_levels sh_order tl_measure tl_stale)) : tw_ct (tw_YC l D ad cI cZ) twy_ex_beginIsolate (Cond.code twy_ex_beginIsolate prog_3_method_12_code 3 none :: tw_Wg) 2 [.inr 13, .inl v1] (tw_mC pa_kinds pa_groups pa_widths pa_pairs pa_size pa_base ma_others ma_waiting le_types le_partners le_resolved le_ofParagraph ex_levels ex_types ex_entryLevels ex_entryOverrides ex_entryIsolates ex_last ex_lostIsolates ex_lostEmbeddings ex_openIsolates se_places se_types se_marks se_count se_embedding se_beginning se_end br_partners br_list fi_breaks fi_starts fi_extents fi_count fi_groups sh_levels sh_order tl_measure tl_stale) Post := by
  refine tw_of (own := twR_ex) (L0 := [some (.inr 13), some (.inl v1), none]) (by decide) rfl rfl (Nat.le_of_ble_eq_true rfl) (fun Z hX => ?_)
  unfold two_ex_beginIsolate at h
  refine tw_aload_n hX twd_ex_beginIsolate_0 rfl rfl ?_
  refine tw_iload_n hX twd_ex_beginIsolate_1 rfl rfl ?_
  obtain ⟨c1, h⟩ := h
  refine tw_callV (As := [.inl v1]) (n := 1) hX twd_ex_beginIsolate_2 tw_good tww_425 tww_422 tww_424 tww_5 tww_81 twk_ex_nextLevel rfl rfl ⟨by decide, by decide⟩ rfl (Nat.le_of_ble_eq_true rfl) (twc_ex_nextLevel c1 (fun z2 e3 => ?_))
  subst e3
  change tw_rn (tw_YC l D ad cI cZ) Z Post 5 [some (.inr 13), some (.inl v1), none] [.inl (twr_ex_nextLevel v1 ex_entryLevels ex_last)] (tw_mC pa_kinds pa_groups pa_widths pa_pairs pa_size pa_base ma_others ma_waiting le_types le_partners le_resolved le_ofParagraph ex_levels ex_types ex_entryLevels ex_entryOverrides ex_entryIsolates ex_last ex_lostIsolates ex_lostEmbeddings ex_openIsolates se_places se_types se_marks se_count se_embedding se_beginning se_end br_partners br_list fi_breaks fi_starts fi_extents fi_count fi_groups sh_levels sh_order tl_measure tl_stale)
  refine tw_istore_n (L' := [some (.inr 13), some (.inl v1), some (.inl (twr_ex_nextLevel v1 ex_entryLevels ex_last))]) hX twd_ex_beginIsolate_5 rfl (by decide) rfl ?_
  refine tw_aload_n hX twd_ex_beginIsolate_6 rfl rfl ?_
  refine tw_iload_n hX twd_ex_beginIsolate_7 rfl rfl ?_
  refine tw_callV (As := [.inl (twr_ex_nextLevel v1 ex_entryLevels ex_last)]) (n := 1) hX twd_ex_beginIsolate_8 tw_good tww_432 tww_429 tww_431 tww_6 tww_81 twk_ex_fits rfl rfl ⟨by decide, by decide⟩ rfl (Nat.le_of_ble_eq_true rfl) (twc_ex_fits (fun z4 e5 => ?_))
  subst e5
  change tw_rn (tw_YC l D ad cI cZ) Z Post 11 [some (.inr 13), some (.inl v1), some (.inl (twr_ex_nextLevel v1 ex_entryLevels ex_last))] [.inl (twr_ex_fits (twr_ex_nextLevel v1 ex_entryLevels ex_last) ex_lostIsolates ex_lostEmbeddings)] (tw_mC pa_kinds pa_groups pa_widths pa_pairs pa_size pa_base ma_others ma_waiting le_types le_partners le_resolved le_ofParagraph ex_levels ex_types ex_entryLevels ex_entryOverrides ex_entryIsolates ex_last ex_lostIsolates ex_lostEmbeddings ex_openIsolates se_places se_types se_marks se_count se_embedding se_beginning se_end br_partners br_list fi_breaks fi_starts fi_extents fi_count fi_groups sh_levels sh_order tl_measure tl_stale)
  refine tw_if_eq hX twd_ex_beginIsolate_11 rfl (fun q18 => ?_) (fun q18 => ?_)
  · have _tw := trivial
    have h := h.1 q18
    refine tw_aload_n hX twd_ex_beginIsolate_34 rfl rfl ?_
    refine tw_dup hX twd_ex_beginIsolate_35 ?_
    refine tw_get (kf := 6) hX twd_ex_beginIsolate_36 twin_ex rfl (by decide) tww_174 rfl rfl rfl ?_
    refine tw_iconst hX twd_ex_beginIsolate_39 ⟨by decide, by decide⟩ ?_
    have c6 := h
    refine tw_iadd hX twd_ex_beginIsolate_40 c6 ?_
    refine tw_put (kf := 6) (mem' := (tw_mC pa_kinds pa_groups pa_widths pa_pairs pa_size pa_base ma_others ma_waiting le_types le_partners le_resolved le_ofParagraph ex_levels ex_types ex_entryLevels ex_entryOverrides ex_entryIsolates ex_last (ex_lostIsolates + 1) ex_lostEmbeddings ex_openIsolates se_places se_types se_marks se_count se_embedding se_beginning se_end br_partners br_list fi_breaks fi_starts fi_extents fi_count fi_groups sh_levels sh_order tl_measure tl_stale)) twt_ex hX twd_ex_beginIsolate_41 twin_ex twtok_ex twnm_ex rfl (by decide) tww_174 rfl rfl rfl (Or.inl rfl) rfl (Nat.le_of_ble_eq_true rfl) rfl ?_
    exact tw_vret hX twd_ex_beginIsolate_44 (hK _ _ _ _ _ _ (Eq.symm (if_pos q18)) (Eq.symm (if_pos q18)) (Eq.symm (if_pos q18)) (Eq.symm (if_pos q18)) (Eq.symm (if_pos q18)) (Eq.symm (if_pos q18)))
  · have _tw := trivial
    have h := h.2 q18
    refine tw_aload_n hX twd_ex_beginIsolate_14 rfl rfl ?_
    refine tw_dup hX twd_ex_beginIsolate_15 ?_
    refine tw_get (kf := 8) hX twd_ex_beginIsolate_16 twin_ex rfl (by decide) tww_176 rfl rfl rfl ?_
    refine tw_iconst hX twd_ex_beginIsolate_19 ⟨by decide, by decide⟩ ?_
    obtain ⟨c7, h⟩ := h
    refine tw_iadd hX twd_ex_beginIsolate_20 c7 ?_
    refine tw_put (kf := 8) (mem' := (tw_mC pa_kinds pa_groups pa_widths pa_pairs pa_size pa_base ma_others ma_waiting le_types le_partners le_resolved le_ofParagraph ex_levels ex_types ex_entryLevels ex_entryOverrides ex_entryIsolates ex_last ex_lostIsolates ex_lostEmbeddings (ex_openIsolates + 1) se_places se_types se_marks se_count se_embedding se_beginning se_end br_partners br_list fi_breaks fi_starts fi_extents fi_count fi_groups sh_levels sh_order tl_measure tl_stale)) twt_ex hX twd_ex_beginIsolate_21 twin_ex twtok_ex twnm_ex rfl (by decide) tww_176 rfl rfl rfl (Or.inl rfl) rfl (Nat.le_of_ble_eq_true rfl) rfl ?_
    refine tw_aload_n hX twd_ex_beginIsolate_24 rfl rfl ?_
    refine tw_iload_n hX twd_ex_beginIsolate_25 rfl rfl ?_
    refine tw_iconst hX twd_ex_beginIsolate_26 ⟨by decide, by decide⟩ ?_
    refine tw_iconst hX twd_ex_beginIsolate_27 ⟨by decide, by decide⟩ ?_
    have c8 := h
    refine tw_callV (As := [.inl (twr_ex_nextLevel v1 ex_entryLevels ex_last), .inl ((-1)), .inl 1]) (n := 3) hX twd_ex_beginIsolate_28 tw_good tww_439 tww_436 tww_438 tww_7 tww_81 twk_ex_push rfl rfl ⟨by decide, by decide⟩ rfl (Nat.le_of_ble_eq_true rfl) (twc_ex_push c8 (fun w10 w11 w12 w13 e14 e15 e16 e17 => ?_))
    subst e14
    subst e15
    subst e16
    subst e17
    change tw_rn (tw_YC l D ad cI cZ) Z Post 31 [some (.inr 13), some (.inl v1), some (.inl (twr_ex_nextLevel v1 ex_entryLevels ex_last))] [] (tw_mC pa_kinds pa_groups pa_widths pa_pairs pa_size pa_base ma_others ma_waiting le_types le_partners le_resolved le_ofParagraph ex_levels ex_types (twu_ex_push__ex_entryLevels (twr_ex_nextLevel v1 ex_entryLevels ex_last) (-1) 1 ex_entryLevels ex_entryOverrides ex_entryIsolates ex_last) (twu_ex_push__ex_entryOverrides (twr_ex_nextLevel v1 ex_entryLevels ex_last) (-1) 1 ex_entryLevels ex_entryOverrides ex_entryIsolates ex_last) (twu_ex_push__ex_entryIsolates (twr_ex_nextLevel v1 ex_entryLevels ex_last) (-1) 1 ex_entryLevels ex_entryOverrides ex_entryIsolates ex_last) (twu_ex_push__ex_last (twr_ex_nextLevel v1 ex_entryLevels ex_last) (-1) 1 ex_entryLevels ex_entryOverrides ex_entryIsolates ex_last) ex_lostIsolates ex_lostEmbeddings (ex_openIsolates + 1) se_places se_types se_marks se_count se_embedding se_beginning se_end br_partners br_list fi_breaks fi_starts fi_extents fi_count fi_groups sh_levels sh_order tl_measure tl_stale)
    refine tw_goto hX twd_ex_beginIsolate_31 rfl ?_
    exact tw_vret hX twd_ex_beginIsolate_44 (hK _ _ _ _ _ _ (Eq.symm (if_neg q18)) (Eq.symm (if_neg q18)) (Eq.symm (if_neg q18)) (Eq.symm (if_neg q18)) (Eq.symm (if_neg q18)) (Eq.symm (if_neg q18)))
def twl_ex_assign_8 (X102 : (Nat → Int) → (Nat → Int) → (Nat → Int) → (Nat → Int) → (Nat → Int) → Int → Int → Int → Int → Prop) (pa_kinds : Nat → Int) (pa_size : Int) (ma_others : Nat → Int) : Nat → Int → (Nat → Int) → (Nat → Int) → (Nat → Int) → (Nat → Int) → (Nat → Int) → Int → Int → Int → Int → Prop
  | 0, _, _, _, _, _, _, _, _, _, _ => False
  | f + 1, v4, ex_levels, ex_types, ex_entryLevels, ex_entryOverrides, ex_entryIsolates, ex_last, ex_lostIsolates, ex_lostEmbeddings, ex_openIsolates =>
    ((pa_size ≤ v4 →
    X102 ex_levels ex_types ex_entryLevels ex_entryOverrides ex_entryIsolates ex_last ex_lostIsolates ex_lostEmbeddings ex_openIsolates) ∧
    (¬ pa_size ≤ v4 →
    (0 ≤ v4 ∧ v4 < 64) ∧ (∀ J22 : Int → Int → Int → Int → Int → Prop, (∀ (x17 : Int) (x_18_ex_last : Int) (x_19_ex_lostIsolates : Int) (x_20_ex_lostEmbeddings : Int) (x_21_ex_openIsolates : Int), (((((x17 = 16 → ((two_ex_endEmbedding ex_entryIsolates x_18_ex_last x_19_ex_lostIsolates x_20_ex_lostEmbeddings))) ∧ (¬ x17 = 16 → ((((twr_tl_isHidden x17) = 0 → ((two_ex_give v4 x17 ex_levels ex_types ex_entryLevels ex_entryOverrides x_18_ex_last))) ∧ (¬ (twr_tl_isHidden x17) = 0 → ((two_ex_beginEmbedding x17 ex_entryLevels ex_entryOverrides ex_entryIsolates x_18_ex_last x_19_ex_lostIsolates x_20_ex_lostEmbeddings)))))))) ∧
        (∀ x_49_ex_levels : Nat → Int, x_49_ex_levels = (if x17 = 16 then ex_levels else (if (twr_tl_isHidden x17) = 0 then (twu_ex_give__ex_levels v4 x17 ex_levels ex_types ex_entryLevels ex_entryOverrides x_18_ex_last) else ex_levels)) →
        ∀ x_50_ex_types : Nat → Int, x_50_ex_types = (if x17 = 16 then ex_types else (if (twr_tl_isHidden x17) = 0 then (twu_ex_give__ex_types v4 x17 ex_levels ex_types ex_entryLevels ex_entryOverrides x_18_ex_last) else ex_types)) →
        ∀ x_51_ex_entryLevels : Nat → Int, x_51_ex_entryLevels = (if x17 = 16 then ex_entryLevels else (if (twr_tl_isHidden x17) = 0 then ex_entryLevels else (twu_ex_beginEmbedding__ex_entryLevels x17 ex_entryLevels ex_entryOverrides ex_entryIsolates x_18_ex_last x_19_ex_lostIsolates x_20_ex_lostEmbeddings))) →
        ∀ x_52_ex_entryOverrides : Nat → Int, x_52_ex_entryOverrides = (if x17 = 16 then ex_entryOverrides else (if (twr_tl_isHidden x17) = 0 then ex_entryOverrides else (twu_ex_beginEmbedding__ex_entryOverrides x17 ex_entryLevels ex_entryOverrides ex_entryIsolates x_18_ex_last x_19_ex_lostIsolates x_20_ex_lostEmbeddings))) →
        ∀ x_53_ex_entryIsolates : Nat → Int, x_53_ex_entryIsolates = (if x17 = 16 then ex_entryIsolates else (if (twr_tl_isHidden x17) = 0 then ex_entryIsolates else (twu_ex_beginEmbedding__ex_entryIsolates x17 ex_entryLevels ex_entryOverrides ex_entryIsolates x_18_ex_last x_19_ex_lostIsolates x_20_ex_lostEmbeddings))) →
        ∀ x_54_ex_last : Int, x_54_ex_last = (if x17 = 16 then (twu_ex_endEmbedding__ex_last ex_entryIsolates x_18_ex_last x_19_ex_lostIsolates x_20_ex_lostEmbeddings) else (if (twr_tl_isHidden x17) = 0 then x_18_ex_last else (twu_ex_beginEmbedding__ex_last x17 ex_entryLevels ex_entryOverrides ex_entryIsolates x_18_ex_last x_19_ex_lostIsolates x_20_ex_lostEmbeddings))) →
        ∀ x_55_ex_lostEmbeddings : Int, x_55_ex_lostEmbeddings = (if x17 = 16 then (twu_ex_endEmbedding__ex_lostEmbeddings ex_entryIsolates x_18_ex_last x_19_ex_lostIsolates x_20_ex_lostEmbeddings) else (if (twr_tl_isHidden x17) = 0 then x_20_ex_lostEmbeddings else (twu_ex_beginEmbedding__ex_lostEmbeddings x17 ex_entryLevels ex_entryOverrides ex_entryIsolates x_18_ex_last x_19_ex_lostIsolates x_20_ex_lostEmbeddings))) →
        (∀ J64 : (Nat → Int) → (Nat → Int) → (Nat → Int) → Int → Int → Int → Prop, (∀ (x_58_ex_entryLevels : Nat → Int) (x_59_ex_entryOverrides : Nat → Int) (x_60_ex_entryIsolates : Nat → Int) (x_61_ex_last : Int) (x_62_ex_lostIsolates : Int) (x_63_ex_openIsolates : Int), ((tw_rg (v4 + 1)) ∧ twl_ex_assign_8 X102 pa_kinds pa_size ma_others f (v4 + 1) x_49_ex_levels x_50_ex_types x_58_ex_entryLevels x_59_ex_entryOverrides x_60_ex_entryIsolates x_61_ex_last x_62_ex_lostIsolates x_55_ex_lostEmbeddings x_63_ex_openIsolates) → J64 x_58_ex_entryLevels x_59_ex_entryOverrides x_60_ex_entryIsolates x_61_ex_last x_62_ex_lostIsolates x_63_ex_openIsolates) →
          (((twr_tl_isOpener x17) = 0 →
          J64 x_51_ex_entryLevels x_52_ex_entryOverrides x_53_ex_entryIsolates x_54_ex_last x_19_ex_lostIsolates x_21_ex_openIsolates) ∧
          (¬ (twr_tl_isOpener x17) = 0 →
          tww_ex_wantsOdd v4 pa_kinds pa_size ma_others (fun z66 =>
            (two_ex_beginIsolate z66 x_51_ex_entryLevels x_52_ex_entryOverrides x_53_ex_entryIsolates x_54_ex_last x_19_ex_lostIsolates x_55_ex_lostEmbeddings x_21_ex_openIsolates) ∧ J64 (twu_ex_beginIsolate__ex_entryLevels z66 x_51_ex_entryLevels x_52_ex_entryOverrides x_53_ex_entryIsolates x_54_ex_last x_19_ex_lostIsolates x_55_ex_lostEmbeddings x_21_ex_openIsolates) (twu_ex_beginIsolate__ex_entryOverrides z66 x_51_ex_entryLevels x_52_ex_entryOverrides x_53_ex_entryIsolates x_54_ex_last x_19_ex_lostIsolates x_55_ex_lostEmbeddings x_21_ex_openIsolates) (twu_ex_beginIsolate__ex_entryIsolates z66 x_51_ex_entryLevels x_52_ex_entryOverrides x_53_ex_entryIsolates x_54_ex_last x_19_ex_lostIsolates x_55_ex_lostEmbeddings x_21_ex_openIsolates) (twu_ex_beginIsolate__ex_last z66 x_51_ex_entryLevels x_52_ex_entryOverrides x_53_ex_entryIsolates x_54_ex_last x_19_ex_lostIsolates x_55_ex_lostEmbeddings x_21_ex_openIsolates) (twu_ex_beginIsolate__ex_lostIsolates z66 x_51_ex_entryLevels x_52_ex_entryOverrides x_53_ex_entryIsolates x_54_ex_last x_19_ex_lostIsolates x_55_ex_lostEmbeddings x_21_ex_openIsolates) (twu_ex_beginIsolate__ex_openIsolates z66 x_51_ex_entryLevels x_52_ex_entryOverrides x_53_ex_entryIsolates x_54_ex_last x_19_ex_lostIsolates x_55_ex_lostEmbeddings x_21_ex_openIsolates)))))))) → J22 x17 x_18_ex_last x_19_ex_lostIsolates x_20_ex_lostEmbeddings x_21_ex_openIsolates) →
      (((pa_kinds (Int.toNat v4)) = 20 →
      tww_ex_endIsolate ex_entryIsolates ex_last ex_lostIsolates ex_lostEmbeddings ex_openIsolates (fun m_93_ex_last m_94_ex_lostIsolates m_95_ex_lostEmbeddings m_96_ex_openIsolates =>
        J22 (pa_kinds (Int.toNat v4)) m_93_ex_last m_94_ex_lostIsolates m_95_ex_lostEmbeddings m_96_ex_openIsolates)) ∧
      (¬ (pa_kinds (Int.toNat v4)) = 20 →
      J22 (pa_kinds (Int.toNat v4)) ex_last ex_lostIsolates ex_lostEmbeddings ex_openIsolates)))))
set_option maxRecDepth 100000 in
set_option maxHeartbeats 4000000 in
theorem twt_ex_assign_8 {l : Launch} {D : va_G} {ad : Nat → Nat} {cI cZ : ClassId} {Z : tw_Z} {Post : tw_P} {X102 : (Nat → Int) → (Nat → Int) → (Nat → Int) → (Nat → Int) → (Nat → Int) → Int → Int → Int → Int → Prop} {pa_size pa_base le_ofParagraph se_count se_embedding se_beginning se_end fi_count tl_measure tl_stale : Int} {pa_kinds pa_groups pa_widths pa_pairs ma_others ma_waiting le_types le_partners le_resolved se_places se_types se_marks br_partners br_list fi_breaks fi_starts fi_extents fi_groups sh_levels sh_order : Nat → Int} (hX : tw_cx (tw_YC l D ad cI cZ) Z prog_3_method_2_code twR_ex tw_Wg none 3 6) (hX102 : ∀ (ex_levels : Nat → Int) (ex_types : Nat → Int) (ex_entryLevels : Nat → Int) (ex_entryOverrides : Nat → Int) (ex_entryIsolates : Nat → Int) (ex_last : Int) (ex_lostIsolates : Int) (ex_lostEmbeddings : Int) (ex_openIsolates : Int), X102 ex_levels ex_types ex_entryLevels ex_entryOverrides ex_entryIsolates ex_last ex_lostIsolates ex_lostEmbeddings ex_openIsolates → tw_rn (tw_YC l D ad cI cZ) Z Post 102 [none, none, none, none, none, none] [] (tw_mC pa_kinds pa_groups pa_widths pa_pairs pa_size pa_base ma_others ma_waiting le_types le_partners le_resolved le_ofParagraph ex_levels ex_types ex_entryLevels ex_entryOverrides ex_entryIsolates ex_last ex_lostIsolates ex_lostEmbeddings ex_openIsolates se_places se_types se_marks se_count se_embedding se_beginning se_end br_partners br_list fi_breaks fi_starts fi_extents fi_count fi_groups sh_levels sh_order tl_measure tl_stale)) : ∀ (f : Nat) (v4 : Int) (ex_levels : Nat → Int) (ex_types : Nat → Int) (ex_entryLevels : Nat → Int) (ex_entryOverrides : Nat → Int) (ex_entryIsolates : Nat → Int) (ex_last : Int) (ex_lostIsolates : Int) (ex_lostEmbeddings : Int) (ex_openIsolates : Int), twl_ex_assign_8 X102 pa_kinds pa_size ma_others f v4 ex_levels ex_types ex_entryLevels ex_entryOverrides ex_entryIsolates ex_last ex_lostIsolates ex_lostEmbeddings ex_openIsolates → tw_rn (tw_YC l D ad cI cZ) Z Post 8 [some (.inr 13), some (.inr 1), some (.inr 7), none, some (.inl v4), none] [] (tw_mC pa_kinds pa_groups pa_widths pa_pairs pa_size pa_base ma_others ma_waiting le_types le_partners le_resolved le_ofParagraph ex_levels ex_types ex_entryLevels ex_entryOverrides ex_entryIsolates ex_last ex_lostIsolates ex_lostEmbeddings ex_openIsolates se_places se_types se_marks se_count se_embedding se_beginning se_end br_partners br_list fi_breaks fi_starts fi_extents fi_count fi_groups sh_levels sh_order tl_measure tl_stale) := by
  intro f
  induction f with
  | zero => intro v4 ex_levels ex_types ex_entryLevels ex_entryOverrides ex_entryIsolates ex_last ex_lostIsolates ex_lostEmbeddings ex_openIsolates h; rw [twl_ex_assign_8] at h; exact h.elim
  | succ f ih =>
    intro v4 ex_levels ex_types ex_entryLevels ex_entryOverrides ex_entryIsolates ex_last ex_lostIsolates ex_lostEmbeddings ex_openIsolates h
    rw [twl_ex_assign_8] at h
    refine tw_iload hX twd_ex_assign_8 rfl ?_
    refine tw_aload_n hX twd_ex_assign_10 rfl rfl ?_
    refine tw_get (kf := 4) hX twd_ex_assign_11 twin_pa rfl (by decide) tww_117 rfl rfl rfl ?_
    refine tw_icmp_ge hX twd_ex_assign_14 rfl (fun q98 => ?_) (fun q98 => ?_)
    · have h := h.1 q98
      refine tw_wk (L' := [none, none, none, none, none, none]) (tw_le_n (tw_le_n (tw_le_n (tw_le_n (tw_le_n (tw_le_n tw_le_0)))))) ?_
      exact hX102 _ _ _ _ _ _ _ _ _ h
    · have h := h.2 q98
      refine tw_aload_n hX twd_ex_assign_17 rfl rfl ?_
      refine tw_get (kf := 0) hX twd_ex_assign_18 twin_pa rfl (by decide) tww_104 rfl rfl rfl ?_
      refine tw_iload hX twd_ex_assign_21 rfl ?_
      obtain ⟨c16, h⟩ := h
      refine tw_iaload hX twd_ex_assign_23 rfl c16 ?_
      refine tw_istore (L' := [some (.inr 13), some (.inr 1), some (.inr 7), none, some (.inl v4), some (.inl (pa_kinds (Int.toNat v4)))]) hX twd_ex_assign_24 (by decide) rfl ?_
      refine tw_iload hX twd_ex_assign_26 rfl ?_
      refine tw_bipush hX twd_ex_assign_28 (by decide +kernel) ⟨by decide, by decide⟩ ?_
      have h := h (fun (x17 : Int) (x_18_ex_last : Int) (x_19_ex_lostIsolates : Int) (x_20_ex_lostEmbeddings : Int) (x_21_ex_openIsolates : Int) => tw_rn (tw_YC l D ad cI cZ) Z Post 37 [some (.inr 13), some (.inr 1), some (.inr 7), none, some (.inl v4), some (.inl x17)] [] (tw_mC pa_kinds pa_groups pa_widths pa_pairs pa_size pa_base ma_others ma_waiting le_types le_partners le_resolved le_ofParagraph ex_levels ex_types ex_entryLevels ex_entryOverrides ex_entryIsolates x_18_ex_last x_19_ex_lostIsolates x_20_ex_lostEmbeddings x_21_ex_openIsolates se_places se_types se_marks se_count se_embedding se_beginning se_end br_partners br_list fi_breaks fi_starts fi_extents fi_count fi_groups sh_levels sh_order tl_measure tl_stale)) (by
        intro x17 x_18_ex_last x_19_ex_lostIsolates x_20_ex_lostEmbeddings x_21_ex_openIsolates h
        refine tw_iload hX twd_ex_assign_37 rfl ?_
        refine tw_bipush hX twd_ex_assign_39 (by decide +kernel) ⟨by decide, by decide⟩ ?_
        obtain ⟨o82, h⟩ := h
        have j83 : ∀ x_49_ex_levels : Nat → Int, x_49_ex_levels = (if x17 = 16 then ex_levels else (if (twr_tl_isHidden x17) = 0 then (twu_ex_give__ex_levels v4 x17 ex_levels ex_types ex_entryLevels ex_entryOverrides x_18_ex_last) else ex_levels)) → ∀ x_50_ex_types : Nat → Int, x_50_ex_types = (if x17 = 16 then ex_types else (if (twr_tl_isHidden x17) = 0 then (twu_ex_give__ex_types v4 x17 ex_levels ex_types ex_entryLevels ex_entryOverrides x_18_ex_last) else ex_types)) → ∀ x_51_ex_entryLevels : Nat → Int, x_51_ex_entryLevels = (if x17 = 16 then ex_entryLevels else (if (twr_tl_isHidden x17) = 0 then ex_entryLevels else (twu_ex_beginEmbedding__ex_entryLevels x17 ex_entryLevels ex_entryOverrides ex_entryIsolates x_18_ex_last x_19_ex_lostIsolates x_20_ex_lostEmbeddings))) → ∀ x_52_ex_entryOverrides : Nat → Int, x_52_ex_entryOverrides = (if x17 = 16 then ex_entryOverrides else (if (twr_tl_isHidden x17) = 0 then ex_entryOverrides else (twu_ex_beginEmbedding__ex_entryOverrides x17 ex_entryLevels ex_entryOverrides ex_entryIsolates x_18_ex_last x_19_ex_lostIsolates x_20_ex_lostEmbeddings))) → ∀ x_53_ex_entryIsolates : Nat → Int, x_53_ex_entryIsolates = (if x17 = 16 then ex_entryIsolates else (if (twr_tl_isHidden x17) = 0 then ex_entryIsolates else (twu_ex_beginEmbedding__ex_entryIsolates x17 ex_entryLevels ex_entryOverrides ex_entryIsolates x_18_ex_last x_19_ex_lostIsolates x_20_ex_lostEmbeddings))) → ∀ x_54_ex_last : Int, x_54_ex_last = (if x17 = 16 then (twu_ex_endEmbedding__ex_last ex_entryIsolates x_18_ex_last x_19_ex_lostIsolates x_20_ex_lostEmbeddings) else (if (twr_tl_isHidden x17) = 0 then x_18_ex_last else (twu_ex_beginEmbedding__ex_last x17 ex_entryLevels ex_entryOverrides ex_entryIsolates x_18_ex_last x_19_ex_lostIsolates x_20_ex_lostEmbeddings))) → ∀ x_55_ex_lostEmbeddings : Int, x_55_ex_lostEmbeddings = (if x17 = 16 then (twu_ex_endEmbedding__ex_lostEmbeddings ex_entryIsolates x_18_ex_last x_19_ex_lostIsolates x_20_ex_lostEmbeddings) else (if (twr_tl_isHidden x17) = 0 then x_20_ex_lostEmbeddings else (twu_ex_beginEmbedding__ex_lostEmbeddings x17 ex_entryLevels ex_entryOverrides ex_entryIsolates x_18_ex_last x_19_ex_lostIsolates x_20_ex_lostEmbeddings))) → tw_rn (tw_YC l D ad cI cZ) Z Post 76 [some (.inr 13), some (.inr 1), some (.inr 7), none, some (.inl v4), some (.inl x17)] [] (tw_mC pa_kinds pa_groups pa_widths pa_pairs pa_size pa_base ma_others ma_waiting le_types le_partners le_resolved le_ofParagraph x_49_ex_levels x_50_ex_types x_51_ex_entryLevels x_52_ex_entryOverrides x_53_ex_entryIsolates x_54_ex_last x_19_ex_lostIsolates x_55_ex_lostEmbeddings x_21_ex_openIsolates se_places se_types se_marks se_count se_embedding se_beginning se_end br_partners br_list fi_breaks fi_starts fi_extents fi_count fi_groups sh_levels sh_order tl_measure tl_stale) := by
          intro x_49_ex_levels e84 x_50_ex_types e85 x_51_ex_entryLevels e86 x_52_ex_entryOverrides e87 x_53_ex_entryIsolates e88 x_54_ex_last e89 x_55_ex_lostEmbeddings e90
          have h := h x_49_ex_levels e84 x_50_ex_types e85 x_51_ex_entryLevels e86 x_52_ex_entryOverrides e87 x_53_ex_entryIsolates e88 x_54_ex_last e89 x_55_ex_lostEmbeddings e90
          refine tw_iload hX twd_ex_assign_76 rfl ?_
          refine tw_callSN (As := [.inl x17]) (n := 1) hX twd_ex_assign_78 tw_good tww_394 twn_3 tww_393 tww_77 twk_tl_isOpener ⟨by decide, by decide⟩ rfl (Nat.le_of_ble_eq_true rfl) (twc_tl_isOpener (fun z56 e57 => ?_))
          subst e57
          change tw_rn (tw_YC l D ad cI cZ) Z Post 81 [some (.inr 13), some (.inr 1), some (.inr 7), none, some (.inl v4), some (.inl x17)] [.inl (twr_tl_isOpener x17)] (tw_mC pa_kinds pa_groups pa_widths pa_pairs pa_size pa_base ma_others ma_waiting le_types le_partners le_resolved le_ofParagraph x_49_ex_levels x_50_ex_types x_51_ex_entryLevels x_52_ex_entryOverrides x_53_ex_entryIsolates x_54_ex_last x_19_ex_lostIsolates x_55_ex_lostEmbeddings x_21_ex_openIsolates se_places se_types se_marks se_count se_embedding se_beginning se_end br_partners br_list fi_breaks fi_starts fi_extents fi_count fi_groups sh_levels sh_order tl_measure tl_stale)
          have h := h (fun (x_58_ex_entryLevels : Nat → Int) (x_59_ex_entryOverrides : Nat → Int) (x_60_ex_entryIsolates : Nat → Int) (x_61_ex_last : Int) (x_62_ex_lostIsolates : Int) (x_63_ex_openIsolates : Int) => tw_rn (tw_YC l D ad cI cZ) Z Post 96 [some (.inr 13), some (.inr 1), some (.inr 7), none, some (.inl v4), none] [] (tw_mC pa_kinds pa_groups pa_widths pa_pairs pa_size pa_base ma_others ma_waiting le_types le_partners le_resolved le_ofParagraph x_49_ex_levels x_50_ex_types x_58_ex_entryLevels x_59_ex_entryOverrides x_60_ex_entryIsolates x_61_ex_last x_62_ex_lostIsolates x_55_ex_lostEmbeddings x_63_ex_openIsolates se_places se_types se_marks se_count se_embedding se_beginning se_end br_partners br_list fi_breaks fi_starts fi_extents fi_count fi_groups sh_levels sh_order tl_measure tl_stale)) (by
            intro x_58_ex_entryLevels x_59_ex_entryOverrides x_60_ex_entryIsolates x_61_ex_last x_62_ex_lostIsolates x_63_ex_openIsolates h
            obtain ⟨c65, h⟩ := h
            refine tw_iinc (L' := [some (.inr 13), some (.inr 1), some (.inr 7), none, some (.inl (v4 + 1)), none]) hX twd_ex_assign_96 rfl (by decide) c65 rfl ?_
            refine tw_goto hX twd_ex_assign_99 rfl ?_
            exact ih _ _ _ _ _ _ _ _ _ _ h)
          refine tw_if_eq hX twd_ex_assign_81 rfl (fun q81 => ?_) (fun q81 => ?_)
          · have h := h.1 q81
            refine tw_wk (L' := [some (.inr 13), some (.inr 1), some (.inr 7), none, some (.inl v4), none]) (tw_le_s (tw_le_s (tw_le_s (tw_le_n (tw_le_s (tw_le_n tw_le_0)))))) ?_
            exact h
          · have h := h.2 q81
            refine tw_aload_n hX twd_ex_assign_84 rfl rfl ?_
            refine tw_aload_n hX twd_ex_assign_85 rfl rfl ?_
            refine tw_aload_n hX twd_ex_assign_86 rfl rfl ?_
            refine tw_aload_n hX twd_ex_assign_87 rfl rfl ?_
            refine tw_iload hX twd_ex_assign_88 rfl ?_
            refine tw_callV (As := [.inr 1, .inr 7, .inl v4]) (n := 3) hX twd_ex_assign_90 tw_good tww_448 tww_445 tww_447 tww_9 tww_81 twk_ex_wantsOdd rfl rfl ⟨by decide, by decide⟩ rfl (Nat.le_of_ble_eq_true rfl) (twc_ex_wantsOdd h (fun z66 h => ?_))
            change tw_rn (tw_YC l D ad cI cZ) Z Post 93 [some (.inr 13), some (.inr 1), some (.inr 7), none, some (.inl v4), some (.inl x17)] [.inl z66, .inr 13] (tw_mC pa_kinds pa_groups pa_widths pa_pairs pa_size pa_base ma_others ma_waiting le_types le_partners le_resolved le_ofParagraph x_49_ex_levels x_50_ex_types x_51_ex_entryLevels x_52_ex_entryOverrides x_53_ex_entryIsolates x_54_ex_last x_19_ex_lostIsolates x_55_ex_lostEmbeddings x_21_ex_openIsolates se_places se_types se_marks se_count se_embedding se_beginning se_end br_partners br_list fi_breaks fi_starts fi_extents fi_count fi_groups sh_levels sh_order tl_measure tl_stale)
            obtain ⟨c67, h⟩ := h
            refine tw_callV (As := [.inl z66]) (n := 1) hX twd_ex_assign_93 tw_good tww_453 tww_450 tww_452 tww_10 tww_81 twk_ex_beginIsolate rfl rfl ⟨by decide, by decide⟩ rfl (Nat.le_of_ble_eq_true rfl) (twc_ex_beginIsolate c67 (fun w69 w70 w71 w72 w73 w74 e75 e76 e77 e78 e79 e80 => ?_))
            subst e75
            subst e76
            subst e77
            subst e78
            subst e79
            subst e80
            change tw_rn (tw_YC l D ad cI cZ) Z Post 96 [some (.inr 13), some (.inr 1), some (.inr 7), none, some (.inl v4), some (.inl x17)] [] (tw_mC pa_kinds pa_groups pa_widths pa_pairs pa_size pa_base ma_others ma_waiting le_types le_partners le_resolved le_ofParagraph x_49_ex_levels x_50_ex_types (twu_ex_beginIsolate__ex_entryLevels z66 x_51_ex_entryLevels x_52_ex_entryOverrides x_53_ex_entryIsolates x_54_ex_last x_19_ex_lostIsolates x_55_ex_lostEmbeddings x_21_ex_openIsolates) (twu_ex_beginIsolate__ex_entryOverrides z66 x_51_ex_entryLevels x_52_ex_entryOverrides x_53_ex_entryIsolates x_54_ex_last x_19_ex_lostIsolates x_55_ex_lostEmbeddings x_21_ex_openIsolates) (twu_ex_beginIsolate__ex_entryIsolates z66 x_51_ex_entryLevels x_52_ex_entryOverrides x_53_ex_entryIsolates x_54_ex_last x_19_ex_lostIsolates x_55_ex_lostEmbeddings x_21_ex_openIsolates) (twu_ex_beginIsolate__ex_last z66 x_51_ex_entryLevels x_52_ex_entryOverrides x_53_ex_entryIsolates x_54_ex_last x_19_ex_lostIsolates x_55_ex_lostEmbeddings x_21_ex_openIsolates) (twu_ex_beginIsolate__ex_lostIsolates z66 x_51_ex_entryLevels x_52_ex_entryOverrides x_53_ex_entryIsolates x_54_ex_last x_19_ex_lostIsolates x_55_ex_lostEmbeddings x_21_ex_openIsolates) x_55_ex_lostEmbeddings (twu_ex_beginIsolate__ex_openIsolates z66 x_51_ex_entryLevels x_52_ex_entryOverrides x_53_ex_entryIsolates x_54_ex_last x_19_ex_lostIsolates x_55_ex_lostEmbeddings x_21_ex_openIsolates) se_places se_types se_marks se_count se_embedding se_beginning se_end br_partners br_list fi_breaks fi_starts fi_extents fi_count fi_groups sh_levels sh_order tl_measure tl_stale)
            refine tw_wk (L' := [some (.inr 13), some (.inr 1), some (.inr 7), none, some (.inl v4), none]) (tw_le_s (tw_le_s (tw_le_s (tw_le_n (tw_le_s (tw_le_n tw_le_0)))))) ?_
            exact h
        refine tw_icmp_ne hX twd_ex_assign_41 rfl (fun q91 => ?_) (fun q91 => ?_)
        · have _tw := trivial
          have o82 := o82.2 q91
          refine tw_iload hX twd_ex_assign_51 rfl ?_
          refine tw_callSN (As := [.inl x17]) (n := 1) hX twd_ex_assign_53 tw_good tww_417 twn_2 tww_416 tww_77 twk_tl_isHidden ⟨by decide, by decide⟩ rfl (Nat.le_of_ble_eq_true rfl) (twc_tl_isHidden (fun z23 e24 => ?_))
          subst e24
          change tw_rn (tw_YC l D ad cI cZ) Z Post 56 [some (.inr 13), some (.inr 1), some (.inr 7), none, some (.inl v4), some (.inl x17)] [.inl (twr_tl_isHidden x17)] (tw_mC pa_kinds pa_groups pa_widths pa_pairs pa_size pa_base ma_others ma_waiting le_types le_partners le_resolved le_ofParagraph ex_levels ex_types ex_entryLevels ex_entryOverrides ex_entryIsolates x_18_ex_last x_19_ex_lostIsolates x_20_ex_lostEmbeddings x_21_ex_openIsolates se_places se_types se_marks se_count se_embedding se_beginning se_end br_partners br_list fi_breaks fi_starts fi_extents fi_count fi_groups sh_levels sh_order tl_measure tl_stale)
          refine tw_if_eq hX twd_ex_assign_56 rfl (fun q92 => ?_) (fun q92 => ?_)
          · have _tw := trivial
            have o82 := o82.1 q92
            refine tw_aload_n hX twd_ex_assign_68 rfl rfl ?_
            refine tw_iload hX twd_ex_assign_69 rfl ?_
            refine tw_iload hX twd_ex_assign_71 rfl ?_
            have c25 := o82
            refine tw_callV (As := [.inl v4, .inl x17]) (n := 2) hX twd_ex_assign_73 tw_good tww_443 tww_440 tww_442 tww_8 tww_81 twk_ex_give rfl rfl ⟨by decide, by decide⟩ rfl (Nat.le_of_ble_eq_true rfl) (twc_ex_give c25 (fun w27 w28 e29 e30 => ?_))
            subst e29
            subst e30
            change tw_rn (tw_YC l D ad cI cZ) Z Post 76 [some (.inr 13), some (.inr 1), some (.inr 7), none, some (.inl v4), some (.inl x17)] [] (tw_mC pa_kinds pa_groups pa_widths pa_pairs pa_size pa_base ma_others ma_waiting le_types le_partners le_resolved le_ofParagraph (twu_ex_give__ex_levels v4 x17 ex_levels ex_types ex_entryLevels ex_entryOverrides x_18_ex_last) (twu_ex_give__ex_types v4 x17 ex_levels ex_types ex_entryLevels ex_entryOverrides x_18_ex_last) ex_entryLevels ex_entryOverrides ex_entryIsolates x_18_ex_last x_19_ex_lostIsolates x_20_ex_lostEmbeddings x_21_ex_openIsolates se_places se_types se_marks se_count se_embedding se_beginning se_end br_partners br_list fi_breaks fi_starts fi_extents fi_count fi_groups sh_levels sh_order tl_measure tl_stale)
            exact j83 _ (Eq.symm (Eq.trans (if_neg q91) (if_pos q92))) _ (Eq.symm (Eq.trans (if_neg q91) (if_pos q92))) _ (Eq.symm (Eq.trans (if_neg q91) (if_pos q92))) _ (Eq.symm (Eq.trans (if_neg q91) (if_pos q92))) _ (Eq.symm (Eq.trans (if_neg q91) (if_pos q92))) _ (Eq.symm (Eq.trans (if_neg q91) (if_pos q92))) _ (Eq.symm (Eq.trans (if_neg q91) (if_pos q92)))
          · have _tw := trivial
            have o82 := o82.2 q92
            refine tw_aload_n hX twd_ex_assign_59 rfl rfl ?_
            refine tw_iload hX twd_ex_assign_60 rfl ?_
            have c31 := o82
            refine tw_callV (As := [.inl x17]) (n := 1) hX twd_ex_assign_62 tw_good tww_421 tww_418 tww_420 tww_4 tww_81 twk_ex_beginEmbedding rfl rfl ⟨by decide, by decide⟩ rfl (Nat.le_of_ble_eq_true rfl) (twc_ex_beginEmbedding c31 (fun w33 w34 w35 w36 w37 e38 e39 e40 e41 e42 => ?_))
            subst e38
            subst e39
            subst e40
            subst e41
            subst e42
            change tw_rn (tw_YC l D ad cI cZ) Z Post 65 [some (.inr 13), some (.inr 1), some (.inr 7), none, some (.inl v4), some (.inl x17)] [] (tw_mC pa_kinds pa_groups pa_widths pa_pairs pa_size pa_base ma_others ma_waiting le_types le_partners le_resolved le_ofParagraph ex_levels ex_types (twu_ex_beginEmbedding__ex_entryLevels x17 ex_entryLevels ex_entryOverrides ex_entryIsolates x_18_ex_last x_19_ex_lostIsolates x_20_ex_lostEmbeddings) (twu_ex_beginEmbedding__ex_entryOverrides x17 ex_entryLevels ex_entryOverrides ex_entryIsolates x_18_ex_last x_19_ex_lostIsolates x_20_ex_lostEmbeddings) (twu_ex_beginEmbedding__ex_entryIsolates x17 ex_entryLevels ex_entryOverrides ex_entryIsolates x_18_ex_last x_19_ex_lostIsolates x_20_ex_lostEmbeddings) (twu_ex_beginEmbedding__ex_last x17 ex_entryLevels ex_entryOverrides ex_entryIsolates x_18_ex_last x_19_ex_lostIsolates x_20_ex_lostEmbeddings) x_19_ex_lostIsolates (twu_ex_beginEmbedding__ex_lostEmbeddings x17 ex_entryLevels ex_entryOverrides ex_entryIsolates x_18_ex_last x_19_ex_lostIsolates x_20_ex_lostEmbeddings) x_21_ex_openIsolates se_places se_types se_marks se_count se_embedding se_beginning se_end br_partners br_list fi_breaks fi_starts fi_extents fi_count fi_groups sh_levels sh_order tl_measure tl_stale)
            refine tw_goto hX twd_ex_assign_65 rfl ?_
            exact j83 _ (Eq.symm (Eq.trans (if_neg q91) (if_neg q92))) _ (Eq.symm (Eq.trans (if_neg q91) (if_neg q92))) _ (Eq.symm (Eq.trans (if_neg q91) (if_neg q92))) _ (Eq.symm (Eq.trans (if_neg q91) (if_neg q92))) _ (Eq.symm (Eq.trans (if_neg q91) (if_neg q92))) _ (Eq.symm (Eq.trans (if_neg q91) (if_neg q92))) _ (Eq.symm (Eq.trans (if_neg q91) (if_neg q92)))
        · have _tw := trivial
          have o82 := o82.1 q91
          refine tw_aload_n hX twd_ex_assign_44 rfl rfl ?_
          have c43 := o82
          refine tw_callV (As := []) (n := 0) hX twd_ex_assign_45 tw_good tww_414 tww_411 tww_413 tww_3 tww_81 twk_ex_endEmbedding rfl rfl ⟨by decide, by decide⟩ rfl (Nat.le_of_ble_eq_true rfl) (twc_ex_endEmbedding c43 (fun w45 w46 e47 e48 => ?_))
          subst e47
          subst e48
          change tw_rn (tw_YC l D ad cI cZ) Z Post 48 [some (.inr 13), some (.inr 1), some (.inr 7), none, some (.inl v4), some (.inl x17)] [] (tw_mC pa_kinds pa_groups pa_widths pa_pairs pa_size pa_base ma_others ma_waiting le_types le_partners le_resolved le_ofParagraph ex_levels ex_types ex_entryLevels ex_entryOverrides ex_entryIsolates (twu_ex_endEmbedding__ex_last ex_entryIsolates x_18_ex_last x_19_ex_lostIsolates x_20_ex_lostEmbeddings) x_19_ex_lostIsolates (twu_ex_endEmbedding__ex_lostEmbeddings ex_entryIsolates x_18_ex_last x_19_ex_lostIsolates x_20_ex_lostEmbeddings) x_21_ex_openIsolates se_places se_types se_marks se_count se_embedding se_beginning se_end br_partners br_list fi_breaks fi_starts fi_extents fi_count fi_groups sh_levels sh_order tl_measure tl_stale)
          refine tw_goto hX twd_ex_assign_48 rfl ?_
          exact j83 _ (Eq.symm (if_pos q91)) _ (Eq.symm (if_pos q91)) _ (Eq.symm (if_pos q91)) _ (Eq.symm (if_pos q91)) _ (Eq.symm (if_pos q91)) _ (Eq.symm (if_pos q91)) _ (Eq.symm (if_pos q91)))
      refine tw_icmp_ne hX twd_ex_assign_30 rfl (fun q97 => ?_) (fun q97 => ?_)
      · have h := h.2 q97
        exact h
      · have h := h.1 q97
        refine tw_aload_n hX twd_ex_assign_33 rfl rfl ?_
        refine tw_callV (As := []) (n := 0) hX twd_ex_assign_34 tw_good tww_410 tww_407 tww_409 tww_2 tww_81 twk_ex_endIsolate rfl rfl ⟨by decide, by decide⟩ rfl (Nat.le_of_ble_eq_true rfl) (twc_ex_endIsolate h (fun m_93_ex_last m_94_ex_lostIsolates m_95_ex_lostEmbeddings m_96_ex_openIsolates h => ?_))
        change tw_rn (tw_YC l D ad cI cZ) Z Post 37 [some (.inr 13), some (.inr 1), some (.inr 7), none, some (.inl v4), some (.inl (pa_kinds (Int.toNat v4)))] [] (tw_mC pa_kinds pa_groups pa_widths pa_pairs pa_size pa_base ma_others ma_waiting le_types le_partners le_resolved le_ofParagraph ex_levels ex_types ex_entryLevels ex_entryOverrides ex_entryIsolates m_93_ex_last m_94_ex_lostIsolates m_95_ex_lostEmbeddings m_96_ex_openIsolates se_places se_types se_marks se_count se_embedding se_beginning se_end br_partners br_list fi_breaks fi_starts fi_extents fi_count fi_groups sh_levels sh_order tl_measure tl_stale)
        exact h
def tww_ex_assign (v3 : Int) (pa_kinds : Nat → Int) (pa_size : Int) (ma_others : Nat → Int) (ex_levels : Nat → Int) (ex_types : Nat → Int) (ex_entryLevels : Nat → Int) (ex_entryOverrides : Nat → Int) (ex_entryIsolates : Nat → Int) (ex_last : Int) (ex_lostIsolates : Int) (ex_lostEmbeddings : Int) (ex_openIsolates : Int) (K : (Nat → Int) → (Nat → Int) → (Nat → Int) → (Nat → Int) → (Nat → Int) → Int → Int → Int → Int → Prop) : Prop :=
  (∃ f108 : Nat, twl_ex_assign_8 (fun (y99_ex_levels : Nat → Int) (y100_ex_types : Nat → Int) (y101_ex_entryLevels : Nat → Int) (y102_ex_entryOverrides : Nat → Int) (y103_ex_entryIsolates : Nat → Int) (y104_ex_last : Int) (y105_ex_lostIsolates : Int) (y106_ex_lostEmbeddings : Int) (y107_ex_openIsolates : Int) =>
  K y99_ex_levels y100_ex_types y101_ex_entryLevels y102_ex_entryOverrides y103_ex_entryIsolates y104_ex_last y105_ex_lostIsolates y106_ex_lostEmbeddings y107_ex_openIsolates) pa_kinds pa_size ma_others f108 0 ex_levels ex_types (twu_ex_begin__ex_entryLevels v3 ex_entryLevels ex_entryOverrides ex_entryIsolates ex_last ex_lostIsolates ex_lostEmbeddings ex_openIsolates) (twu_ex_begin__ex_entryOverrides v3 ex_entryLevels ex_entryOverrides ex_entryIsolates ex_last ex_lostIsolates ex_lostEmbeddings ex_openIsolates) (twu_ex_begin__ex_entryIsolates v3 ex_entryLevels ex_entryOverrides ex_entryIsolates ex_last ex_lostIsolates ex_lostEmbeddings ex_openIsolates) (twu_ex_begin__ex_last v3 ex_entryLevels ex_entryOverrides ex_entryIsolates ex_last ex_lostIsolates ex_lostEmbeddings ex_openIsolates) (twu_ex_begin__ex_lostIsolates v3 ex_entryLevels ex_entryOverrides ex_entryIsolates ex_last ex_lostIsolates ex_lostEmbeddings ex_openIsolates) (twu_ex_begin__ex_lostEmbeddings v3 ex_entryLevels ex_entryOverrides ex_entryIsolates ex_last ex_lostIsolates ex_lostEmbeddings ex_openIsolates) (twu_ex_begin__ex_openIsolates v3 ex_entryLevels ex_entryOverrides ex_entryIsolates ex_last ex_lostIsolates ex_lostEmbeddings ex_openIsolates))
set_option maxRecDepth 100000 in
set_option maxHeartbeats 4000000 in
theorem twc_ex_assign {l : Launch} {D : va_G} {ad : Nat → Nat} {cI cZ : ClassId} {Post : tw_P} {K : (Nat → Int) → (Nat → Int) → (Nat → Int) → (Nat → Int) → (Nat → Int) → Int → Int → Int → Int → Prop} {v3 : Int} {pa_size pa_base le_ofParagraph ex_last ex_lostIsolates ex_lostEmbeddings ex_openIsolates se_count se_embedding se_beginning se_end fi_count tl_measure tl_stale : Int} {pa_kinds pa_groups pa_widths pa_pairs ma_others ma_waiting le_types le_partners le_resolved ex_levels ex_types ex_entryLevels ex_entryOverrides ex_entryIsolates se_places se_types se_marks br_partners br_list fi_breaks fi_starts fi_extents fi_groups sh_levels sh_order : Nat → Int} (h : tww_ex_assign v3 pa_kinds pa_size ma_others ex_levels ex_types ex_entryLevels ex_entryOverrides ex_entryIsolates ex_last ex_lostIsolates ex_lostEmbeddings ex_openIsolates K) (hK : ∀ (n_ex_levels : Nat → Int) (n_ex_types : Nat → Int) (n_ex_entryLevels : Nat → Int) (n_ex_entryOverrides : Nat → Int) (n_ex_entryIsolates : Nat → Int) (n_ex_last : Int) (n_ex_lostIsolates : Int) (n_ex_lostEmbeddings : Int) (n_ex_openIsolates : Int), K n_ex_levels n_ex_types n_ex_entryLevels n_ex_entryOverrides n_ex_entryIsolates n_ex_last n_ex_lostIsolates n_ex_lostEmbeddings n_ex_openIsolates → Post none (tw_mC pa_kinds pa_groups pa_widths pa_pairs pa_size pa_base ma_others ma_waiting le_types le_partners le_resolved le_ofParagraph n_ex_levels n_ex_types n_ex_entryLevels n_ex_entryOverrides n_ex_entryIsolates n_ex_last n_ex_lostIsolates n_ex_lostEmbeddings n_ex_openIsolates se_places se_types se_marks se_count se_embedding se_beginning se_end br_partners br_list fi_breaks fi_starts fi_extents fi_count fi_groups sh_levels sh_order tl_measure tl_stale)) : tw_ct (tw_YC l D ad cI cZ) twy_ex_assign (Cond.code twy_ex_assign prog_3_method_2_code 6 none :: tw_Wg) 3 [.inr 13, .inr 1, .inr 7, .inl v3] (tw_mC pa_kinds pa_groups pa_widths pa_pairs pa_size pa_base ma_others ma_waiting le_types le_partners le_resolved le_ofParagraph ex_levels ex_types ex_entryLevels ex_entryOverrides ex_entryIsolates ex_last ex_lostIsolates ex_lostEmbeddings ex_openIsolates se_places se_types se_marks se_count se_embedding se_beginning se_end br_partners br_list fi_breaks fi_starts fi_extents fi_count fi_groups sh_levels sh_order tl_measure tl_stale) Post := by
  refine tw_of (own := twR_ex) (L0 := [some (.inr 13), some (.inr 1), some (.inr 7), some (.inl v3), none, none]) (by decide) rfl rfl (Nat.le_of_ble_eq_true rfl) (fun Z hX => ?_)
  unfold tww_ex_assign at h
  refine tw_aload_n hX twd_ex_assign_0 rfl rfl ?_
  refine tw_iload_n hX twd_ex_assign_1 rfl rfl ?_
  refine tw_callV (As := [.inl v3]) (n := 1) hX twd_ex_assign_2 tw_good tww_406 tww_403 tww_405 tww_1 tww_81 twk_ex_begin rfl rfl ⟨by decide, by decide⟩ rfl (Nat.le_of_ble_eq_true rfl) (twc_ex_begin (fun w2 w3 w4 w5 w6 w7 w8 e9 e10 e11 e12 e13 e14 e15 => ?_))
  subst e9
  subst e10
  subst e11
  subst e12
  subst e13
  subst e14
  subst e15
  change tw_rn (tw_YC l D ad cI cZ) Z Post 5 [some (.inr 13), some (.inr 1), some (.inr 7), some (.inl v3), none, none] [] (tw_mC pa_kinds pa_groups pa_widths pa_pairs pa_size pa_base ma_others ma_waiting le_types le_partners le_resolved le_ofParagraph ex_levels ex_types (twu_ex_begin__ex_entryLevels v3 ex_entryLevels ex_entryOverrides ex_entryIsolates ex_last ex_lostIsolates ex_lostEmbeddings ex_openIsolates) (twu_ex_begin__ex_entryOverrides v3 ex_entryLevels ex_entryOverrides ex_entryIsolates ex_last ex_lostIsolates ex_lostEmbeddings ex_openIsolates) (twu_ex_begin__ex_entryIsolates v3 ex_entryLevels ex_entryOverrides ex_entryIsolates ex_last ex_lostIsolates ex_lostEmbeddings ex_openIsolates) (twu_ex_begin__ex_last v3 ex_entryLevels ex_entryOverrides ex_entryIsolates ex_last ex_lostIsolates ex_lostEmbeddings ex_openIsolates) (twu_ex_begin__ex_lostIsolates v3 ex_entryLevels ex_entryOverrides ex_entryIsolates ex_last ex_lostIsolates ex_lostEmbeddings ex_openIsolates) (twu_ex_begin__ex_lostEmbeddings v3 ex_entryLevels ex_entryOverrides ex_entryIsolates ex_last ex_lostIsolates ex_lostEmbeddings ex_openIsolates) (twu_ex_begin__ex_openIsolates v3 ex_entryLevels ex_entryOverrides ex_entryIsolates ex_last ex_lostIsolates ex_lostEmbeddings ex_openIsolates) se_places se_types se_marks se_count se_embedding se_beginning se_end br_partners br_list fi_breaks fi_starts fi_extents fi_count fi_groups sh_levels sh_order tl_measure tl_stale)
  refine tw_iconst hX twd_ex_assign_5 ⟨by decide, by decide⟩ ?_
  refine tw_istore (L' := [some (.inr 13), some (.inr 1), some (.inr 7), some (.inl v3), some (.inl 0), none]) hX twd_ex_assign_6 (by decide) rfl ?_
  obtain ⟨f108, h⟩ := h
  refine tw_wk (L' := [some (.inr 13), some (.inr 1), some (.inr 7), none, some (.inl 0), none]) (tw_le_s (tw_le_s (tw_le_s (tw_le_n (tw_le_s (tw_le_n tw_le_0)))))) ?_
  refine twt_ex_assign_8 hX (fun y99_ex_levels y100_ex_types y101_ex_entryLevels y102_ex_entryOverrides y103_ex_entryIsolates y104_ex_last y105_ex_lostIsolates y106_ex_lostEmbeddings y107_ex_openIsolates h => ?_) f108 _ _ _ _ _ _ _ _ _ _ h
  exact tw_vret hX twd_ex_assign_102 (hK _ _ _ _ _ _ _ _ _ h)
