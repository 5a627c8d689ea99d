def twl_br_pairUp_5 (X91 : (Nat → Int) → (Nat → Int) → Prop) (pa_pairs : Nat → Int) (se_places : Nat → Int) (se_types : Nat → Int) (se_count : Int) : Nat → Int → Int → (Nat → Int) → (Nat → Int) → Prop
  | 0, _, _, _, _ => False
  | f + 1, v3, v4, br_partners, br_list =>
    ((se_count ≤ v4 →
    X91 br_partners br_list) ∧
    (¬ se_count ≤ v4 →
    (0 ≤ v4 ∧ v4 < 64) ∧ (0 ≤ v4 ∧ v4 < 64) ∧ (0 ≤ (se_places (Int.toNat v4)) ∧ (se_places (Int.toNat v4)) < 64) ∧ (∀ J7 : Int → (Nat → Int) → (Nat → Int) → Prop, (∀ (x4 : Int) (x_5_br_partners : Nat → Int) (x_6_br_list : Nat → Int), ((tw_rg (v4 + 1)) ∧ twl_br_pairUp_5 X91 pa_pairs se_places se_types se_count f x4 (v4 + 1) x_5_br_partners x_6_br_list) → J7 x4 x_5_br_partners x_6_br_list) →
      (((pa_pairs (Int.toNat (se_places (Int.toNat v4)))) = 0 →
      J7 v3 (tw_up br_partners (Int.toNat v4) (-1)) br_list) ∧
      (¬ (pa_pairs (Int.toNat (se_places (Int.toNat v4)))) = 0 →
      (0 ≤ v4 ∧ v4 < 64) ∧ (((se_types (Int.toNat v4)) = 11 →
        ((0 ≤ (pa_pairs (Int.toNat (se_places (Int.toNat v4)))) →
          (0 ≤ v3 ∧ v3 < 64) ∧ (tw_rg (v3 + 1)) ∧ J7 (v3 + 1) (tw_up br_partners (Int.toNat v4) (-1)) (tw_up br_list (Int.toNat v3) v4)) ∧
          (¬ 0 ≤ (pa_pairs (Int.toNat (se_places (Int.toNat v4)))) →
          tww_br_close v4 v3 pa_pairs se_places (tw_up br_partners (Int.toNat v4) (-1)) br_list (fun z12 m_13_br_partners =>
            J7 z12 m_13_br_partners br_list)))) ∧
        (¬ (se_types (Int.toNat v4)) = 11 →
        J7 v3 (tw_up br_partners (Int.toNat v4) (-1)) br_list)))))))
set_option maxRecDepth 100000 in
set_option maxHeartbeats 4000000 in
theorem twt_br_pairUp_5 {l : Launch} {D : va_G} {ad : Nat → Nat} {cI cZ : ClassId} {Z : tw_Z} {Post : tw_P} {X91 : (Nat → Int) → (Nat → Int) → Prop} {pa_size pa_base le_ofParagraph ex_last ex_lostIsolates ex_lostEmbeddings ex_openIsolates se_count se_embedding se_beginning se_end fi_count tl_measure tl_stale : Int} {pa_kinds pa_groups pa_widths pa_pairs ma_others ma_waiting le_types le_partners le_resolved ex_levels ex_types ex_entryLevels ex_entryOverrides ex_entryIsolates se_places se_types se_marks fi_breaks fi_starts fi_extents fi_groups sh_levels sh_order : Nat → Int} (hX : tw_cx (tw_YC l D ad cI cZ) Z prog_2_method_3_code twR_br tw_Wg none 1 6) (hX91 : ∀ (br_partners : Nat → Int) (br_list : Nat → Int), X91 br_partners br_list → tw_rn (tw_YC l D ad cI cZ) Z Post 91 [none, none, none, none, none, none] [] (tw_mC pa_kinds pa_groups pa_widths pa_pairs pa_size pa_base ma_others ma_waiting le_types le_partners le_resolved le_ofParagraph ex_levels ex_types ex_entryLevels ex_entryOverrides ex_entryIsolates ex_last ex_lostIsolates ex_lostEmbeddings ex_openIsolates se_places se_types se_marks se_count se_embedding se_beginning se_end br_partners br_list fi_breaks fi_starts fi_extents fi_count fi_groups sh_levels sh_order tl_measure tl_stale)) : ∀ (f : Nat) (v3 : Int) (v4 : Int) (br_partners : Nat → Int) (br_list : Nat → Int), twl_br_pairUp_5 X91 pa_pairs se_places se_types se_count f v3 v4 br_partners br_list → tw_rn (tw_YC l D ad cI cZ) Z Post 5 [some (.inr 23), some (.inr 1), some (.inr 19), some (.inl v3), some (.inl v4), none] [] (tw_mC pa_kinds pa_groups pa_widths pa_pairs pa_size pa_base ma_others ma_waiting le_types le_partners le_resolved le_ofParagraph ex_levels ex_types ex_entryLevels ex_entryOverrides ex_entryIsolates ex_last ex_lostIsolates ex_lostEmbeddings ex_openIsolates se_places se_types se_marks se_count se_embedding se_beginning se_end br_partners br_list fi_breaks fi_starts fi_extents fi_count fi_groups sh_levels sh_order tl_measure tl_stale) := by
  intro f
  induction f with
  | zero => intro v3 v4 br_partners br_list h; rw [twl_br_pairUp_5] at h; exact h.elim
  | succ f ih =>
    intro v3 v4 br_partners br_list h
    rw [twl_br_pairUp_5] at h
    refine tw_iload hX twd_br_pairUp_5 rfl ?_
    refine tw_aload_n hX twd_br_pairUp_7 rfl rfl ?_
    refine tw_get (kf := 3) hX twd_br_pairUp_8 twin_se rfl (by decide) tww_212 rfl rfl rfl ?_
    refine tw_icmp_ge hX twd_br_pairUp_11 rfl (fun q17 => ?_) (fun q17 => ?_)
    · have h := h.1 q17
      refine tw_wk (L' := [none, none, none, none, none, none]) (tw_le_n (tw_le_n (tw_le_n (tw_le_n (tw_le_n (tw_le_n tw_le_0)))))) ?_
      exact hX91 _ _ h
    · have h := h.2 q17
      refine tw_aload_n hX twd_br_pairUp_14 rfl rfl ?_
      refine tw_get (kf := 0) hX twd_br_pairUp_15 twin_br rfl (by decide) tww_243 rfl rfl rfl ?_
      refine tw_iload hX twd_br_pairUp_18 rfl ?_
      refine tw_iconst hX twd_br_pairUp_20 ⟨by decide, by decide⟩ ?_
      obtain ⟨c1, h⟩ := h
      refine tw_iastore (mem' := (tw_mC pa_kinds pa_groups pa_widths pa_pairs pa_size pa_base ma_others ma_waiting le_types le_partners le_resolved le_ofParagraph ex_levels ex_types ex_entryLevels ex_entryOverrides ex_entryIsolates ex_last ex_lostIsolates ex_lostEmbeddings ex_openIsolates se_places se_types se_marks se_count se_embedding se_beginning se_end (tw_up br_partners (Int.toNat v4) (-1)) br_list fi_breaks fi_starts fi_extents fi_count fi_groups sh_levels sh_order tl_measure tl_stale)) hX twd_br_pairUp_21 rfl c1 rfl ?_
      refine tw_aload_n hX twd_br_pairUp_22 rfl rfl ?_
      refine tw_get (kf := 3) hX twd_br_pairUp_23 twin_pa rfl (by decide) tww_113 rfl rfl rfl ?_
      refine tw_aload_n hX twd_br_pairUp_26 rfl rfl ?_
      refine tw_get (kf := 0) hX twd_br_pairUp_27 twin_se rfl (by decide) tww_204 rfl rfl rfl ?_
      refine tw_iload hX twd_br_pairUp_30 rfl ?_
      obtain ⟨c2, h⟩ := h
      refine tw_iaload hX twd_br_pairUp_32 rfl c2 ?_
      obtain ⟨c3, h⟩ := h
      refine tw_iaload hX twd_br_pairUp_33 rfl c3 ?_
      refine tw_istore (L' := [some (.inr 23), some (.inr 1), some (.inr 19), some (.inl v3), some (.inl v4), some (.inl (pa_pairs (Int.toNat (se_places (Int.toNat v4)))))]) hX twd_br_pairUp_34 (by decide) rfl ?_
      refine tw_iload hX twd_br_pairUp_36 rfl ?_
      have h := h (fun (x4 : Int) (x_5_br_partners : Nat → Int) (x_6_br_list : Nat → Int) => tw_rn (tw_YC l D ad cI cZ) Z Post 85 [some (.inr 23), some (.inr 1), some (.inr 19), some (.inl x4), some (.inl v4), none] [] (tw_mC pa_kinds pa_groups pa_widths pa_pairs pa_size pa_base ma_others ma_waiting le_types le_partners le_resolved le_ofParagraph ex_levels ex_types ex_entryLevels ex_entryOverrides ex_entryIsolates ex_last ex_lostIsolates ex_lostEmbeddings ex_openIsolates se_places se_types se_marks se_count se_embedding se_beginning se_end x_5_br_partners x_6_br_list fi_breaks fi_starts fi_extents fi_count fi_groups sh_levels sh_order tl_measure tl_stale)) (by
        intro x4 x_5_br_partners x_6_br_list h
        obtain ⟨c8, h⟩ := h
        refine tw_iinc (L' := [some (.inr 23), some (.inr 1), some (.inr 19), some (.inl x4), some (.inl (v4 + 1)), none]) hX twd_br_pairUp_85 rfl (by decide) c8 rfl ?_
        refine tw_goto hX twd_br_pairUp_88 rfl ?_
        exact ih _ _ _ _ h)
      refine tw_if_eq hX twd_br_pairUp_38 rfl (fun q16 => ?_) (fun q16 => ?_)
      · have h := h.1 q16
        refine tw_wk (L' := [some (.inr 23), some (.inr 1), some (.inr 19), some (.inl v3), some (.inl v4), none]) (tw_le_s (tw_le_s (tw_le_s (tw_le_s (tw_le_s (tw_le_n tw_le_0)))))) ?_
        exact h
      · have h := h.2 q16
        refine tw_aload_n hX twd_br_pairUp_41 rfl rfl ?_
        refine tw_get (kf := 1) hX twd_br_pairUp_42 twin_se rfl (by decide) tww_207 rfl rfl rfl ?_
        refine tw_iload hX twd_br_pairUp_45 rfl ?_
        obtain ⟨c9, h⟩ := h
        refine tw_iaload hX twd_br_pairUp_47 rfl c9 ?_
        refine tw_bipush hX twd_br_pairUp_48 (by decide +kernel) ⟨by decide, by decide⟩ ?_
        refine tw_icmp_eq hX twd_br_pairUp_50 rfl (fun q15 => ?_) (fun q15 => ?_)
        · have h := h.1 q15
          refine tw_iload hX twd_br_pairUp_56 rfl ?_
          refine tw_if_ge hX twd_br_pairUp_58 rfl (fun q14 => ?_) (fun q14 => ?_)
          · have h := h.1 q14
            refine tw_aload_n hX twd_br_pairUp_74 rfl rfl ?_
            refine tw_get (kf := 1) hX twd_br_pairUp_75 twin_br rfl (by decide) tww_245 rfl rfl rfl ?_
            refine tw_iload_n hX twd_br_pairUp_78 rfl rfl ?_
            refine tw_iload hX twd_br_pairUp_79 rfl ?_
            obtain ⟨c10, h⟩ := h
            refine tw_iastore (mem' := (tw_mC pa_kinds pa_groups pa_widths pa_pairs pa_size pa_base ma_others ma_waiting le_types le_partners le_resolved le_ofParagraph ex_levels ex_types ex_entryLevels ex_entryOverrides ex_entryIsolates ex_last ex_lostIsolates ex_lostEmbeddings ex_openIsolates se_places se_types se_marks se_count se_embedding se_beginning se_end (tw_up br_partners (Int.toNat v4) (-1)) (tw_up br_list (Int.toNat v3) v4) fi_breaks fi_starts fi_extents fi_count fi_groups sh_levels sh_order tl_measure tl_stale)) hX twd_br_pairUp_81 rfl c10 rfl ?_
            obtain ⟨c11, h⟩ := h
            refine tw_iinc (L' := [some (.inr 23), some (.inr 1), some (.inr 19), some (.inl (v3 + 1)), some (.inl v4), some (.inl (pa_pairs (Int.toNat (se_places (Int.toNat v4)))))]) hX twd_br_pairUp_82 rfl (by decide) c11 rfl ?_
            refine tw_wk (L' := [some (.inr 23), some (.inr 1), some (.inr 19), some (.inl (v3 + 1)), some (.inl v4), none]) (tw_le_s (tw_le_s (tw_le_s (tw_le_s (tw_le_s (tw_le_n tw_le_0)))))) ?_
            exact h
          · have h := h.2 q14
            refine tw_aload_n hX twd_br_pairUp_61 rfl rfl ?_
            refine tw_aload_n hX twd_br_pairUp_62 rfl rfl ?_
            refine tw_aload_n hX twd_br_pairUp_63 rfl rfl ?_
            refine tw_iload hX twd_br_pairUp_64 rfl ?_
            refine tw_iload_n hX twd_br_pairUp_66 rfl rfl ?_
            refine tw_callV (As := [.inr 1, .inr 19, .inl v4, .inl v3]) (n := 4) hX twd_br_pairUp_67 tw_good tww_541 tww_538 tww_540 tww_25 tww_83 twk_br_close rfl rfl ⟨by decide, by decide⟩ rfl (Nat.le_of_ble_eq_true rfl) (twc_br_close h (fun z12 m_13_br_partners h => ?_))
            change tw_rn (tw_YC l D ad cI cZ) Z Post 70 [some (.inr 23), some (.inr 1), some (.inr 19), some (.inl v3), some (.inl v4), some (.inl (pa_pairs (Int.toNat (se_places (Int.toNat v4)))))] [.inl z12] (tw_mC pa_kinds pa_groups pa_widths pa_pairs pa_size pa_base ma_others ma_waiting le_types le_partners le_resolved le_ofParagraph ex_levels ex_types ex_entryLevels ex_entryOverrides ex_entryIsolates ex_last ex_lostIsolates ex_lostEmbeddings ex_openIsolates se_places se_types se_marks se_count se_embedding se_beginning se_end m_13_br_partners br_list fi_breaks fi_starts fi_extents fi_count fi_groups sh_levels sh_order tl_measure tl_stale)
            refine tw_istore_n (L' := [some (.inr 23), some (.inr 1), some (.inr 19), some (.inl z12), some (.inl v4), some (.inl (pa_pairs (Int.toNat (se_places (Int.toNat v4)))))]) hX twd_br_pairUp_70 rfl (by decide) rfl ?_
            refine tw_goto hX twd_br_pairUp_71 rfl ?_
            refine tw_wk (L' := [some (.inr 23), some (.inr 1), some (.inr 19), some (.inl z12), some (.inl v4), none]) (tw_le_s (tw_le_s (tw_le_s (tw_le_s (tw_le_s (tw_le_n tw_le_0)))))) ?_
            exact h
        · have h := h.2 q15
          refine tw_goto hX twd_br_pairUp_53 rfl ?_
          refine tw_wk (L' := [some (.inr 23), some (.inr 1), some (.inr 19), some (.inl v3), some (.inl v4), none]) (tw_le_s (tw_le_s (tw_le_s (tw_le_s (tw_le_s (tw_le_n tw_le_0)))))) ?_
          exact h
def tww_br_pairUp (pa_pairs : Nat → Int) (se_places : Nat → Int) (se_types : Nat → Int) (se_count : Int) (br_partners : Nat → Int) (br_list : Nat → Int) (K : (Nat → Int) → (Nat → Int) → Prop) : Prop :=
  (∃ f20 : Nat, twl_br_pairUp_5 (fun (y18_br_partners : Nat → Int) (y19_br_list : Nat → Int) =>
  K y18_br_partners y19_br_list) pa_pairs se_places se_types se_count f20 0 0 br_partners br_list)
set_option maxRecDepth 100000 in
set_option maxHeartbeats 4000000 in
theorem twc_br_pairUp {l : Launch} {D : va_G} {ad : Nat → Nat} {cI cZ : ClassId} {Post : tw_P} {K : (Nat → Int) → (Nat → Int) → Prop} {pa_size pa_base le_ofParagraph ex_last ex_lostIsolates ex_lostEmbeddings ex_openIsolates se_count se_embedding se_beginning se_end fi_count tl_measure tl_stale : Int} {pa_kinds pa_groups pa_widths pa_pairs ma_others ma_waiting le_types le_partners le_resolved ex_levels ex_types ex_entryLevels ex_entryOverrides ex_entryIsolates se_places se_types se_marks br_partners br_list fi_breaks fi_starts fi_extents fi_groups sh_levels sh_order : Nat → Int} (h : tww_br_pairUp pa_pairs se_places se_types se_count br_partners br_list K) (hK : ∀ (n_br_partners : Nat → Int) (n_br_list : Nat → Int), K n_br_partners n_br_list → Post none (tw_mC pa_kinds pa_groups pa_widths pa_pairs pa_size pa_base ma_others ma_waiting le_types le_partners le_resolved le_ofParagraph ex_levels ex_types ex_entryLevels ex_entryOverrides ex_entryIsolates ex_last ex_lostIsolates ex_lostEmbeddings ex_openIsolates se_places se_types se_marks se_count se_embedding se_beginning se_end n_br_partners n_br_list fi_breaks fi_starts fi_extents fi_count fi_groups sh_levels sh_order tl_measure tl_stale)) : tw_ct (tw_YC l D ad cI cZ) twy_br_pairUp (Cond.code twy_br_pairUp prog_2_method_3_code 6 none :: tw_Wg) 1 [.inr 23, .inr 1, .inr 19] (tw_mC pa_kinds pa_groups pa_widths pa_pairs pa_size pa_base ma_others ma_waiting le_types le_partners le_resolved le_ofParagraph ex_levels ex_types ex_entryLevels ex_entryOverrides ex_entryIsolates ex_last ex_lostIsolates ex_lostEmbeddings ex_openIsolates se_places se_types se_marks se_count se_embedding se_beginning se_end br_partners br_list fi_breaks fi_starts fi_extents fi_count fi_groups sh_levels sh_order tl_measure tl_stale) Post := by
  refine tw_of (own := twR_br) (L0 := [some (.inr 23), some (.inr 1), some (.inr 19), none, none, none]) (by decide) rfl rfl (Nat.le_of_ble_eq_true rfl) (fun Z hX => ?_)
  unfold tww_br_pairUp at h
  refine tw_iconst hX twd_br_pairUp_0 ⟨by decide, by decide⟩ ?_
  refine tw_istore_n (L' := [some (.inr 23), some (.inr 1), some (.inr 19), some (.inl 0), none, none]) hX twd_br_pairUp_1 rfl (by decide) rfl ?_
  refine tw_iconst hX twd_br_pairUp_2 ⟨by decide, by decide⟩ ?_
  refine tw_istore (L' := [some (.inr 23), some (.inr 1), some (.inr 19), some (.inl 0), some (.inl 0), none]) hX twd_br_pairUp_3 (by decide) rfl ?_
  obtain ⟨f20, h⟩ := h
  refine twt_br_pairUp_5 hX (fun y18_br_partners y19_br_list h => ?_) f20 _ _ _ _ h
  exact tw_vret hX twd_br_pairUp_91 (hK _ _ h)
def two_se_strongAt (v1 : Int) (se_types : Nat → Int) : Prop := ((0 ≤ v1 ∧ v1 < 64))
def twr_se_strongAt (v1 : Int) (se_types : Nat → Int) : Int := if (se_types (Int.toNat v1)) = 0 then 0 else (if (se_types (Int.toNat v1)) = 1 then 1 else (if (se_types (Int.toNat v1)) = 3 then 1 else (if (se_types (Int.toNat v1)) = 6 then 1 else (-1))))
set_option maxRecDepth 100000 in
set_option maxHeartbeats 4000000 in
theorem twc_se_strongAt {l : Launch} {D : va_G} {ad : Nat → Nat} {cI cZ : ClassId} {Post : tw_P} {v1 : Int} {pa_size pa_base le_ofParagraph ex_last ex_lostIsolates ex_lostEmbeddings ex_openIsolates se_count se_embedding se_beginning se_end fi_count tl_measure tl_stale : Int} {pa_kinds pa_groups pa_widths pa_pairs ma_others ma_waiting le_types le_partners le_resolved ex_levels ex_types ex_entryLevels ex_entryOverrides ex_entryIsolates se_places se_types se_marks br_partners br_list fi_breaks fi_starts fi_extents fi_groups sh_levels sh_order : Nat → Int} (h : two_se_strongAt v1 se_types) (hK : ∀ (z : Int), z = twr_se_strongAt v1 se_types → Post (some z) (tw_mC pa_kinds pa_groups pa_widths pa_pairs pa_size pa_base ma_others ma_waiting le_types le_partners le_resolved le_ofParagraph ex_levels ex_types ex_entryLevels ex_entryOverrides ex_entryIsolates ex_last ex_lostIsolates ex_lostEmbeddings ex_openIsolates se_places se_types se_marks se_count se_embedding se_beginning se_end br_partners br_list fi_breaks fi_starts fi_extents fi_count fi_groups sh_levels sh_order tl_measure tl_stale)) : tw_ct (tw_YC l D ad cI cZ) twy_se_strongAt (Cond.code twy_se_strongAt prog_8_method_12_code 3 (some .int) :: tw_Wg) 0 [.inr 19, .inl v1] (tw_mC pa_kinds pa_groups pa_widths pa_pairs pa_size pa_base ma_others ma_waiting le_types le_partners le_resolved le_ofParagraph ex_levels ex_types ex_entryLevels ex_entryOverrides ex_entryIsolates ex_last ex_lostIsolates ex_lostEmbeddings ex_openIsolates se_places se_types se_marks se_count se_embedding se_beginning se_end br_partners br_list fi_breaks fi_starts fi_extents fi_count fi_groups sh_levels sh_order tl_measure tl_stale) Post := by
  refine tw_of (own := twR_se) (L0 := [some (.inr 19), some (.inl v1), none]) (by decide) rfl rfl (Nat.le_of_ble_eq_true rfl) (fun Z hX => ?_)
  unfold two_se_strongAt at h
  refine tw_aload_n hX twd_se_strongAt_0 rfl rfl ?_
  refine tw_get (kf := 1) hX twd_se_strongAt_1 twin_se rfl (by decide) tww_206 rfl rfl rfl ?_
  refine tw_iload_n hX twd_se_strongAt_4 rfl rfl ?_
  have c1 := h
  refine tw_iaload hX twd_se_strongAt_5 rfl c1 ?_
  refine tw_istore_n (L' := [some (.inr 19), some (.inl v1), some (.inl (se_types (Int.toNat v1)))]) hX twd_se_strongAt_6 rfl (by decide) rfl ?_
  refine tw_iload_n hX twd_se_strongAt_7 rfl rfl ?_
  refine tw_if_ne hX twd_se_strongAt_8 rfl (fun q2 => ?_) (fun q2 => ?_)
  · have _tw := trivial
    refine tw_iload_n hX twd_se_strongAt_13 rfl rfl ?_
    refine tw_iconst hX twd_se_strongAt_14 ⟨by decide, by decide⟩ ?_
    refine tw_icmp_eq hX twd_se_strongAt_15 rfl (fun q3 => ?_) (fun q3 => ?_)
    · have _tw := trivial
      refine tw_iconst hX twd_se_strongAt_29 ⟨by decide, by decide⟩ ?_
      refine tw_goto hX twd_se_strongAt_30 rfl ?_
      exact tw_ret hX twd_se_strongAt_34 (hK _ (Eq.symm (Eq.trans (if_neg q2) (if_pos q3))))
    · have _tw := trivial
      refine tw_iload_n hX twd_se_strongAt_18 rfl rfl ?_
      refine tw_iconst hX twd_se_strongAt_19 ⟨by decide, by decide⟩ ?_
      refine tw_icmp_eq hX twd_se_strongAt_20 rfl (fun q4 => ?_) (fun q4 => ?_)
      · have _tw := trivial
        refine tw_iconst hX twd_se_strongAt_29 ⟨by decide, by decide⟩ ?_
        refine tw_goto hX twd_se_strongAt_30 rfl ?_
        exact tw_ret hX twd_se_strongAt_34 (hK _ (Eq.symm (Eq.trans (if_neg q2) (Eq.trans (if_neg q3) (if_pos q4)))))
      · have _tw := trivial
        refine tw_iload_n hX twd_se_strongAt_23 rfl rfl ?_
        refine tw_bipush hX twd_se_strongAt_24 (by decide +kernel) ⟨by decide, by decide⟩ ?_
        refine tw_icmp_ne hX twd_se_strongAt_26 rfl (fun q5 => ?_) (fun q5 => ?_)
        · have _tw := trivial
          refine tw_iconst hX twd_se_strongAt_33 ⟨by decide, by decide⟩ ?_
          exact tw_ret hX twd_se_strongAt_34 (hK _ (Eq.symm (Eq.trans (if_neg q2) (Eq.trans (if_neg q3) (Eq.trans (if_neg q4) (if_neg q5))))))
        · have _tw := trivial
          refine tw_iconst hX twd_se_strongAt_29 ⟨by decide, by decide⟩ ?_
          refine tw_goto hX twd_se_strongAt_30 rfl ?_
          exact tw_ret hX twd_se_strongAt_34 (hK _ (Eq.symm (Eq.trans (if_neg q2) (Eq.trans (if_neg q3) (Eq.trans (if_neg q4) (if_pos q5))))))
  · have _tw := trivial
    refine tw_iconst hX twd_se_strongAt_11 ⟨by decide, by decide⟩ ?_
    exact tw_ret hX twd_se_strongAt_12 (hK _ (Eq.symm (if_pos q2)))
def twl_br_strongBetween_8 (K : Int → Prop) (X50 : Int → Prop) (v3 : Int) (se_types : Nat → Int) (se_embedding : Int) : Nat → Int → Int → Prop
  | 0, _, _ => False
  | f + 1, v4, v5 =>
    ((v3 ≤ v5 →
    X50 v4) ∧
    (¬ v3 ≤ v5 →
    (two_se_strongAt v5 se_types) ∧ (((twr_se_strongAt v5 se_types) = se_embedding →
      K (twr_se_strongAt v5 se_types)) ∧
      (¬ (twr_se_strongAt v5 se_types) = se_embedding →
      (∀ x5 : Int, x5 = (if (twr_se_strongAt v5 se_types) = (-1) then v4 else (twr_se_strongAt v5 se_types)) →
        (tw_rg (v5 + 1)) ∧ twl_br_strongBetween_8 K X50 v3 se_types se_embedding f x5 (v5 + 1))))))
set_option maxRecDepth 100000 in
set_option maxHeartbeats 4000000 in
theorem twt_br_strongBetween_8 {l : Launch} {D : va_G} {ad : Nat → Nat} {cI cZ : ClassId} {Z : tw_Z} {Post : tw_P} {K : Int → Prop} {X50 : Int → Prop} {v3 : Int} {pa_size pa_base le_ofParagraph ex_last ex_lostIsolates ex_lostEmbeddings ex_openIsolates se_count se_embedding se_beginning se_end fi_count tl_measure tl_stale : Int} {pa_kinds pa_groups pa_widths pa_pairs ma_others ma_waiting le_types le_partners le_resolved ex_levels ex_types ex_entryLevels ex_entryOverrides ex_entryIsolates se_places se_types se_marks br_partners br_list fi_breaks fi_starts fi_extents fi_groups sh_levels sh_order : Nat → Int} (hX : tw_cx (tw_YC l D ad cI cZ) Z prog_2_method_6_code twR_br tw_Wg (some .int) 1 7) (hX50 : ∀ (v4 : Int), X50 v4 → tw_rn (tw_YC l D ad cI cZ) Z Post 50 [none, none, none, none, some (.inl v4), none, none] [] (tw_mC pa_kinds pa_groups pa_widths pa_pairs pa_size pa_base ma_others ma_waiting le_types le_partners le_resolved le_ofParagraph ex_levels ex_types ex_entryLevels ex_entryOverrides ex_entryIsolates ex_last ex_lostIsolates ex_lostEmbeddings ex_openIsolates se_places se_types se_marks se_count se_embedding se_beginning se_end br_partners br_list fi_breaks fi_starts fi_extents fi_count fi_groups sh_levels sh_order tl_measure tl_stale)) (hK : ∀ (z : Int), K z → Post (some z) (tw_mC pa_kinds pa_groups pa_widths pa_pairs pa_size pa_base ma_others ma_waiting le_types le_partners le_resolved le_ofParagraph ex_levels ex_types ex_entryLevels ex_entryOverrides ex_entryIsolates ex_last ex_lostIsolates ex_lostEmbeddings ex_openIsolates se_places se_types se_marks se_count se_embedding se_beginning se_end br_partners br_list fi_breaks fi_starts fi_extents fi_count fi_groups sh_levels sh_order tl_measure tl_stale)) : ∀ (f : Nat) (v4 : Int) (v5 : Int), twl_br_strongBetween_8 K X50 v3 se_types se_embedding f v4 v5 → tw_rn (tw_YC l D ad cI cZ) Z Post 8 [none, some (.inr 19), none, some (.inl v3), some (.inl v4), some (.inl v5), none] [] (tw_mC pa_kinds pa_groups pa_widths pa_pairs pa_size pa_base ma_others ma_waiting le_types le_partners le_resolved le_ofParagraph ex_levels ex_types ex_entryLevels ex_entryOverrides ex_entryIsolates ex_last ex_lostIsolates ex_lostEmbeddings ex_openIsolates se_places se_types se_marks se_count se_embedding se_beginning se_end br_partners br_list fi_breaks fi_starts fi_extents fi_count fi_groups sh_levels sh_order tl_measure tl_stale) := by
  intro f
  induction f with
  | zero => intro v4 v5 h; rw [twl_br_strongBetween_8] at h; exact h.elim
  | succ f ih =>
    intro v4 v5 h
    rw [twl_br_strongBetween_8] at h
    refine tw_iload hX twd_br_strongBetween_8 rfl ?_
    refine tw_iload_n hX twd_br_strongBetween_10 rfl rfl ?_
    refine tw_icmp_ge hX twd_br_strongBetween_11 rfl (fun q11 => ?_) (fun q11 => ?_)
    · have h := h.1 q11
      refine tw_wk (L' := [none, none, none, none, some (.inl v4), none, none]) (tw_le_n (tw_le_n (tw_le_n (tw_le_n (tw_le_s (tw_le_n (tw_le_n tw_le_0))))))) ?_
      exact hX50 _ h
    · have h := h.2 q11
      refine tw_aload_n hX twd_br_strongBetween_14 rfl rfl ?_
      refine tw_iload hX twd_br_strongBetween_15 rfl ?_
      obtain ⟨c2, h⟩ := h
      refine tw_callV (As := [.inl v5]) (n := 1) hX twd_br_strongBetween_17 tw_good tww_553 tww_550 tww_551 tww_552 tww_82 twk_se_strongAt rfl rfl ⟨by decide, by decide⟩ rfl (Nat.le_of_ble_eq_true rfl) (twc_se_strongAt c2 (fun z3 e4 => ?_))
      subst e4
      change tw_rn (tw_YC l D ad cI cZ) Z Post 20 [none, some (.inr 19), none, some (.inl v3), some (.inl v4), some (.inl v5), none] [.inl (twr_se_strongAt v5 se_types)] (tw_mC pa_kinds pa_groups pa_widths pa_pairs pa_size pa_base ma_others ma_waiting le_types le_partners le_resolved le_ofParagraph ex_levels ex_types ex_entryLevels ex_entryOverrides ex_entryIsolates ex_last ex_lostIsolates ex_lostEmbeddings ex_openIsolates se_places se_types se_marks se_count se_embedding se_beginning se_end br_partners br_list fi_breaks fi_starts fi_extents fi_count fi_groups sh_levels sh_order tl_measure tl_stale)
      refine tw_istore (L' := [none, some (.inr 19), none, some (.inl v3), some (.inl v4), some (.inl v5), some (.inl (twr_se_strongAt v5 se_types))]) hX twd_br_strongBetween_20 (by decide) rfl ?_
      refine tw_iload hX twd_br_strongBetween_22 rfl ?_
      refine tw_aload_n hX twd_br_strongBetween_24 rfl rfl ?_
      refine tw_get (kf := 4) hX twd_br_strongBetween_25 twin_se rfl (by decide) tww_215 rfl rfl rfl ?_
      refine tw_icmp_ne hX twd_br_strongBetween_28 rfl (fun q10 => ?_) (fun q10 => ?_)
      · have h := h.2 q10
        refine tw_iload hX twd_br_strongBetween_34 rfl ?_
        refine tw_iconst hX twd_br_strongBetween_36 ⟨by decide, by decide⟩ ?_
        have j7 : ∀ x5 : Int, x5 = (if (twr_se_strongAt v5 se_types) = (-1) then v4 else (twr_se_strongAt v5 se_types)) → tw_rn (tw_YC l D ad cI cZ) Z Post 44 [none, some (.inr 19), none, some (.inl v3), some (.inl x5), some (.inl v5), none] [] (tw_mC pa_kinds pa_groups pa_widths pa_pairs pa_size pa_base ma_others ma_waiting le_types le_partners le_resolved le_ofParagraph ex_levels ex_types ex_entryLevels ex_entryOverrides ex_entryIsolates ex_last ex_lostIsolates ex_lostEmbeddings ex_openIsolates se_places se_types se_marks se_count se_embedding se_beginning se_end br_partners br_list fi_breaks fi_starts fi_extents fi_count fi_groups sh_levels sh_order tl_measure tl_stale) := by
          intro x5 e8
          have h := h x5 e8
          obtain ⟨c6, h⟩ := h
          refine tw_iinc (L' := [none, some (.inr 19), none, some (.inl v3), some (.inl x5), some (.inl (v5 + 1)), none]) hX twd_br_strongBetween_44 rfl (by decide) c6 rfl ?_
          refine tw_goto hX twd_br_strongBetween_47 rfl ?_
          exact ih _ _ h
        refine tw_icmp_eq hX twd_br_strongBetween_37 rfl (fun q9 => ?_) (fun q9 => ?_)
        · have _tw := trivial
          refine tw_wk (L' := [none, some (.inr 19), none, some (.inl v3), some (.inl v4), some (.inl v5), none]) (tw_le_n (tw_le_s (tw_le_n (tw_le_s (tw_le_s (tw_le_s (tw_le_n tw_le_0))))))) ?_
          exact j7 _ (Eq.symm (if_pos q9))
        · have _tw := trivial
          refine tw_iload hX twd_br_strongBetween_40 rfl ?_
          refine tw_istore (L' := [none, some (.inr 19), none, some (.inl v3), some (.inl (twr_se_strongAt v5 se_types)), some (.inl v5), some (.inl (twr_se_strongAt v5 se_types))]) hX twd_br_strongBetween_42 (by decide) rfl ?_
          refine tw_wk (L' := [none, some (.inr 19), none, some (.inl v3), some (.inl (twr_se_strongAt v5 se_types)), some (.inl v5), none]) (tw_le_n (tw_le_s (tw_le_n (tw_le_s (tw_le_s (tw_le_s (tw_le_n tw_le_0))))))) ?_
          exact j7 _ (Eq.symm (if_neg q9))
      · have h := h.1 q10
        refine tw_iload hX twd_br_strongBetween_31 rfl ?_
        exact tw_ret hX twd_br_strongBetween_33 (hK _ h)
def tww_br_strongBetween (v2 v3 : Int) (se_types : Nat → Int) (se_embedding : Int) (K : Int → Prop) : Prop :=
  (tw_rg (v2 + 1)) ∧ (∃ f13 : Nat, twl_br_strongBetween_8 K (fun (y12 : Int) =>
  K y12) v3 se_types se_embedding f13 (-1) (v2 + 1))
set_option maxRecDepth 100000 in
set_option maxHeartbeats 4000000 in
theorem twc_br_strongBetween {l : Launch} {D : va_G} {ad : Nat → Nat} {cI cZ : ClassId} {Post : tw_P} {K : Int → Prop} {v2 v3 : Int} {pa_size pa_base le_ofParagraph ex_last ex_lostIsolates ex_lostEmbeddings ex_openIsolates se_count se_embedding se_beginning se_end fi_count tl_measure tl_stale : Int} {pa_kinds pa_groups pa_widths pa_pairs ma_others ma_waiting le_types le_partners le_resolved ex_levels ex_types ex_entryLevels ex_entryOverrides ex_entryIsolates se_places se_types se_marks br_partners br_list fi_breaks fi_starts fi_extents fi_groups sh_levels sh_order : Nat → Int} (h : tww_br_strongBetween v2 v3 se_types se_embedding K) (hK : ∀ (z : Int), K z → Post (some z) (tw_mC pa_kinds pa_groups pa_widths pa_pairs pa_size pa_base ma_others ma_waiting le_types le_partners le_resolved le_ofParagraph ex_levels ex_types ex_entryLevels ex_entryOverrides ex_entryIsolates ex_last ex_lostIsolates ex_lostEmbeddings ex_openIsolates se_places se_types se_marks se_count se_embedding se_beginning se_end br_partners br_list fi_breaks fi_starts fi_extents fi_count fi_groups sh_levels sh_order tl_measure tl_stale)) : tw_ct (tw_YC l D ad cI cZ) twy_br_strongBetween (Cond.code twy_br_strongBetween prog_2_method_6_code 7 (some .int) :: tw_Wg) 1 [.inr 23, .inr 19, .inl v2, .inl v3] (tw_mC pa_kinds pa_groups pa_widths pa_pairs pa_size pa_base ma_others ma_waiting le_types le_partners le_resolved le_ofParagraph ex_levels ex_types ex_entryLevels ex_entryOverrides ex_entryIsolates ex_last ex_lostIsolates ex_lostEmbeddings ex_openIsolates se_places se_types se_marks se_count se_embedding se_beginning se_end br_partners br_list fi_breaks fi_starts fi_extents fi_count fi_groups sh_levels sh_order tl_measure tl_stale) Post := by
  refine tw_of (own := twR_br) (L0 := [some (.inr 23), some (.inr 19), some (.inl v2), some (.inl v3), none, none, none]) (by decide) rfl rfl (Nat.le_of_ble_eq_true rfl) (fun Z hX => ?_)
  unfold tww_br_strongBetween at h
  refine tw_iconst hX twd_br_strongBetween_0 ⟨by decide, by decide⟩ ?_
  refine tw_istore (L' := [some (.inr 23), some (.inr 19), some (.inl v2), some (.inl v3), some (.inl (-1)), none, none]) hX twd_br_strongBetween_1 (by decide) rfl ?_
  refine tw_iload_n hX twd_br_strongBetween_3 rfl rfl ?_
  refine tw_iconst hX twd_br_strongBetween_4 ⟨by decide, by decide⟩ ?_
  obtain ⟨c1, h⟩ := h
  refine tw_iadd hX twd_br_strongBetween_5 c1 ?_
  refine tw_istore (L' := [some (.inr 23), some (.inr 19), some (.inl v2), some (.inl v3), some (.inl (-1)), some (.inl (v2 + 1)), none]) hX twd_br_strongBetween_6 (by decide) rfl ?_
  obtain ⟨f13, h⟩ := h
  refine tw_wk (L' := [none, some (.inr 19), none, some (.inl v3), some (.inl (-1)), some (.inl (v2 + 1)), none]) (tw_le_n (tw_le_s (tw_le_n (tw_le_s (tw_le_s (tw_le_s (tw_le_n tw_le_0))))))) ?_
  refine twt_br_strongBetween_8 hX (fun y12 h => ?_) hK f13 _ _ h
  refine tw_iload hX twd_br_strongBetween_50 rfl ?_
  exact tw_ret hX twd_br_strongBetween_52 (hK _ h)
def twl_br_strongBefore_4 (X17 : Int → Prop) (X29 : Prop) (se_types : Nat → Int) (se_beginning : Int) : Nat → Int → Prop
  | 0, _ => False
  | f + 1, v3 =>
    ((v3 < 0 →
    X29) ∧
    (¬ v3 < 0 →
    (two_se_strongAt v3 se_types) ∧ (((twr_se_strongAt v3 se_types) = (-1) →
      (tw_rg (v3 + -1)) ∧ twl_br_strongBefore_4 X17 X29 se_types se_beginning f (v3 + -1)) ∧
      (¬ (twr_se_strongAt v3 se_types) = (-1) →
      X17 v3))))
set_option maxRecDepth 100000 in
set_option maxHeartbeats 4000000 in
theorem twt_br_strongBefore_4 {l : Launch} {D : va_G} {ad : Nat → Nat} {cI cZ : ClassId} {Z : tw_Z} {Post : tw_P} {X17 : Int → Prop} {X29 : Prop} {pa_size pa_base le_ofParagraph ex_last ex_lostIsolates ex_lostEmbeddings ex_openIsolates se_count se_embedding se_beginning se_end fi_count tl_measure tl_stale : Int} {pa_kinds pa_groups pa_widths pa_pairs ma_others ma_waiting le_types le_partners le_resolved ex_levels ex_types ex_entryLevels ex_entryOverrides ex_entryIsolates se_places se_types se_marks br_partners br_list fi_breaks fi_starts fi_extents fi_groups sh_levels sh_order : Nat → Int} (hX : tw_cx (tw_YC l D ad cI cZ) Z prog_2_method_7_code twR_br tw_Wg (some .int) 1 4) (hX17 : ∀ (v3 : Int), X17 v3 → tw_rn (tw_YC l D ad cI cZ) Z Post 17 [none, some (.inr 19), none, some (.inl v3)] [] (tw_mC pa_kinds pa_groups pa_widths pa_pairs pa_size pa_base ma_others ma_waiting le_types le_partners le_resolved le_ofParagraph ex_levels ex_types ex_entryLevels ex_entryOverrides ex_entryIsolates ex_last ex_lostIsolates ex_lostEmbeddings ex_openIsolates se_places se_types se_marks se_count se_embedding se_beginning se_end br_partners br_list fi_breaks fi_starts fi_extents fi_count fi_groups sh_levels sh_order tl_measure tl_stale)) (hX29 : X29 → tw_rn (tw_YC l D ad cI cZ) Z Post 29 [none, some (.inr 19), none, none] [] (tw_mC pa_kinds pa_groups pa_widths pa_pairs pa_size pa_base ma_others ma_waiting le_types le_partners le_resolved le_ofParagraph ex_levels ex_types ex_entryLevels ex_entryOverrides ex_entryIsolates ex_last ex_lostIsolates ex_lostEmbeddings ex_openIsolates se_places se_types se_marks se_count se_embedding se_beginning se_end br_partners br_list fi_breaks fi_starts fi_extents fi_count fi_groups sh_levels sh_order tl_measure tl_stale)) : ∀ (f : Nat) (v3 : Int), twl_br_strongBefore_4 X17 X29 se_types se_beginning f v3 → tw_rn (tw_YC l D ad cI cZ) Z Post 4 [none, some (.inr 19), none, some (.inl v3)] [] (tw_mC pa_kinds pa_groups pa_widths pa_pairs pa_size pa_base ma_others ma_waiting le_types le_partners le_resolved le_ofParagraph ex_levels ex_types ex_entryLevels ex_entryOverrides ex_entryIsolates ex_last ex_lostIsolates ex_lostEmbeddings ex_openIsolates se_places se_types se_marks se_count se_embedding se_beginning se_end br_partners br_list fi_breaks fi_starts fi_extents fi_count fi_groups sh_levels sh_order tl_measure tl_stale) := by
  intro f
  induction f with
  | zero => intro v3 h; rw [twl_br_strongBefore_4] at h; exact h.elim
  | succ f ih =>
    intro v3 h
    rw [twl_br_strongBefore_4] at h
    refine tw_iload_n hX twd_br_strongBefore_4 rfl rfl ?_
    refine tw_if_lt hX twd_br_strongBefore_5 rfl (fun q7 => ?_) (fun q7 => ?_)
    · have h := h.1 q7
      refine tw_wk (L' := [none, some (.inr 19), none, none]) (tw_le_n (tw_le_s (tw_le_n (tw_le_n tw_le_0)))) ?_
      exact hX29 h
    · have h := h.2 q7
      refine tw_aload_n hX twd_br_strongBefore_8 rfl rfl ?_
      refine tw_iload_n hX twd_br_strongBefore_9 rfl rfl ?_
      obtain ⟨c2, h⟩ := h
      refine tw_callV (As := [.inl v3]) (n := 1) hX twd_br_strongBefore_10 tw_good tww_553 tww_550 tww_551 tww_552 tww_82 twk_se_strongAt rfl rfl ⟨by decide, by decide⟩ rfl (Nat.le_of_ble_eq_true rfl) (twc_se_strongAt c2 (fun z3 e4 => ?_))
      subst e4
      change tw_rn (tw_YC l D ad cI cZ) Z Post 13 [none, some (.inr 19), none, some (.inl v3)] [.inl (twr_se_strongAt v3 se_types)] (tw_mC pa_kinds pa_groups pa_widths pa_pairs pa_size pa_base ma_others ma_waiting le_types le_partners le_resolved le_ofParagraph ex_levels ex_types ex_entryLevels ex_entryOverrides ex_entryIsolates ex_last ex_lostIsolates ex_lostEmbeddings ex_openIsolates se_places se_types se_marks se_count se_embedding se_beginning se_end br_partners br_list fi_breaks fi_starts fi_extents fi_count fi_groups sh_levels sh_order tl_measure tl_stale)
      refine tw_iconst hX twd_br_strongBefore_13 ⟨by decide, by decide⟩ ?_
      refine tw_icmp_eq hX twd_br_strongBefore_14 rfl (fun q6 => ?_) (fun q6 => ?_)
      · have h := h.1 q6
        obtain ⟨c5, h⟩ := h
        refine tw_iinc (L' := [none, some (.inr 19), none, some (.inl (v3 + -1))]) hX twd_br_strongBefore_23 rfl (by decide) c5 rfl ?_
        refine tw_goto hX twd_br_strongBefore_26 rfl ?_
        exact ih _ h
      · have h := h.2 q6
        exact hX17 _ h
def tww_br_strongBefore (v2 : Int) (se_types : Nat → Int) (se_beginning : Int) (K : Int → Prop) : Prop :=
  (tw_rg (v2 - 1)) ∧ (∃ f12 : Nat, twl_br_strongBefore_4 (fun (y8 : Int) =>
  (two_se_strongAt y8 se_types) ∧ K (twr_se_strongAt y8 se_types)) (K se_beginning) se_types se_beginning f12 (v2 - 1))
set_option maxRecDepth 100000 in
set_option maxHeartbeats 4000000 in
theorem twc_br_strongBefore {l : Launch} {D : va_G} {ad : Nat → Nat} {cI cZ : ClassId} {Post : tw_P} {K : Int → Prop} {v2 : Int} {pa_size pa_base le_ofParagraph ex_last ex_lostIsolates ex_lostEmbeddings ex_openIsolates se_count se_embedding se_beginning se_end fi_count tl_measure tl_stale : Int} {pa_kinds pa_groups pa_widths pa_pairs ma_others ma_waiting le_types le_partners le_resolved ex_levels ex_types ex_entryLevels ex_entryOverrides ex_entryIsolates se_places se_types se_marks br_partners br_list fi_breaks fi_starts fi_extents fi_groups sh_levels sh_order : Nat → Int} (h : tww_br_strongBefore v2 se_types se_beginning K) (hK : ∀ (z : Int), K z → Post (some z) (tw_mC pa_kinds pa_groups pa_widths pa_pairs pa_size pa_base ma_others ma_waiting le_types le_partners le_resolved le_ofParagraph ex_levels ex_types ex_entryLevels ex_entryOverrides ex_entryIsolates ex_last ex_lostIsolates ex_lostEmbeddings ex_openIsolates se_places se_types se_marks se_count se_embedding se_beginning se_end br_partners br_list fi_breaks fi_starts fi_extents fi_count fi_groups sh_levels sh_order tl_measure tl_stale)) : tw_ct (tw_YC l D ad cI cZ) twy_br_strongBefore (Cond.code twy_br_strongBefore prog_2_method_7_code 4 (some .int) :: tw_Wg) 1 [.inr 23, .inr 19, .inl v2] (tw_mC pa_kinds pa_groups pa_widths pa_pairs pa_size pa_base ma_others ma_waiting le_types le_partners le_resolved le_ofParagraph ex_levels ex_types ex_entryLevels ex_entryOverrides ex_entryIsolates ex_last ex_lostIsolates ex_lostEmbeddings ex_openIsolates se_places se_types se_marks se_count se_embedding se_beginning se_end br_partners br_list fi_breaks fi_starts fi_extents fi_count fi_groups sh_levels sh_order tl_measure tl_stale) Post := by
  refine tw_of (own := twR_br) (L0 := [some (.inr 23), some (.inr 19), some (.inl v2), none]) (by decide) rfl rfl (Nat.le_of_ble_eq_true rfl) (fun Z hX => ?_)
  unfold tww_br_strongBefore at h
  refine tw_iload_n hX twd_br_strongBefore_0 rfl rfl ?_
  refine tw_iconst hX twd_br_strongBefore_1 ⟨by decide, by decide⟩ ?_
  obtain ⟨c1, h⟩ := h
  refine tw_isub hX twd_br_strongBefore_2 c1 ?_
  refine tw_istore_n (L' := [some (.inr 23), some (.inr 19), some (.inl v2), some (.inl (v2 - 1))]) hX twd_br_strongBefore_3 rfl (by decide) rfl ?_
  obtain ⟨f12, h⟩ := h
  refine tw_wk (L' := [none, some (.inr 19), none, some (.inl (v2 - 1))]) (tw_le_n (tw_le_s (tw_le_n (tw_le_s tw_le_0)))) ?_
  refine twt_br_strongBefore_4 hX (fun y8 h => ?_) (fun  h => ?_) f12 _ h
  · have _tw := trivial
    refine tw_aload_n hX twd_br_strongBefore_17 rfl rfl ?_
    refine tw_iload_n hX twd_br_strongBefore_18 rfl rfl ?_
    obtain ⟨c9, h⟩ := h
    refine tw_callV (As := [.inl y8]) (n := 1) hX twd_br_strongBefore_19 tw_good tww_553 tww_550 tww_551 tww_552 tww_82 twk_se_strongAt rfl rfl ⟨by decide, by decide⟩ rfl (Nat.le_of_ble_eq_true rfl) (twc_se_strongAt c9 (fun z10 e11 => ?_))
    subst e11
    change tw_rn (tw_YC l D ad cI cZ) Z Post 22 [none, some (.inr 19), none, some (.inl y8)] [.inl (twr_se_strongAt y8 se_types)] (tw_mC pa_kinds pa_groups pa_widths pa_pairs pa_size pa_base ma_others ma_waiting le_types le_partners le_resolved le_ofParagraph ex_levels ex_types ex_entryLevels ex_entryOverrides ex_entryIsolates ex_last ex_lostIsolates ex_lostEmbeddings ex_openIsolates se_places se_types se_marks se_count se_embedding se_beginning se_end br_partners br_list fi_breaks fi_starts fi_extents fi_count fi_groups sh_levels sh_order tl_measure tl_stale)
    exact tw_ret hX twd_br_strongBefore_22 (hK _ h)
  · have _tw := trivial
    refine tw_aload_n hX twd_br_strongBefore_29 rfl rfl ?_
    refine tw_get (kf := 5) hX twd_br_strongBefore_30 twin_se rfl (by decide) tww_218 rfl rfl rfl ?_
    exact tw_ret hX twd_br_strongBefore_33 (hK _ h)
def twl_br_give_12 (X45 : (Nat → Int) → Prop) (v3 : Int) (se_marks : Nat → Int) (se_count : Int) : Nat → Int → (Nat → Int) → Prop
  | 0, _, _ => False
  | f + 1, v4, se_types =>
    ((se_count ≤ v4 →
    X45 se_types) ∧
    (¬ se_count ≤ v4 →
    (0 ≤ v4 ∧ v4 < 64) ∧ (((se_marks (Int.toNat v4)) = 0 →
      X45 se_types) ∧
      (¬ (se_marks (Int.toNat v4)) = 0 →
      (0 ≤ v4 ∧ v4 < 64) ∧ (tw_rg (v4 + 1)) ∧ twl_br_give_12 X45 v3 se_marks se_count f (v4 + 1) (tw_up se_types (Int.toNat v4) v3)))))
set_option maxRecDepth 100000 in
set_option maxHeartbeats 4000000 in
theorem twt_br_give_12 {l : Launch} {D : va_G} {ad : Nat → Nat} {cI cZ : ClassId} {Z : tw_Z} {Post : tw_P} {X45 : (Nat → Int) → Prop} {v3 : Int} {pa_size pa_base le_ofParagraph ex_last ex_lostIsolates ex_lostEmbeddings ex_openIsolates se_count se_embedding se_beginning se_end fi_count tl_measure tl_stale : Int} {pa_kinds pa_groups pa_widths pa_pairs ma_others ma_waiting le_types le_partners le_resolved ex_levels ex_types ex_entryLevels ex_entryOverrides ex_entryIsolates se_places se_marks br_partners br_list fi_breaks fi_starts fi_extents fi_groups sh_levels sh_order : Nat → Int} (hX : tw_cx (tw_YC l D ad cI cZ) Z prog_2_method_8_code twR_br tw_Wg none 0 5) (hX45 : ∀ (se_types : Nat → Int), X45 se_types → tw_rn (tw_YC l D ad cI cZ) Z Post 45 [none, none, none, none, none] [] (tw_mC pa_kinds pa_groups pa_widths pa_pairs pa_size pa_base ma_others ma_waiting le_types le_partners le_resolved le_ofParagraph ex_levels ex_types ex_entryLevels ex_entryOverrides ex_entryIsolates ex_last ex_lostIsolates ex_lostEmbeddings ex_openIsolates se_places se_types se_marks se_count se_embedding se_beginning se_end br_partners br_list fi_breaks fi_starts fi_extents fi_count fi_groups sh_levels sh_order tl_measure tl_stale)) : ∀ (f : Nat) (v4 : Int) (se_types : Nat → Int), twl_br_give_12 X45 v3 se_marks se_count f v4 se_types → tw_rn (tw_YC l D ad cI cZ) Z Post 12 [none, some (.inr 19), none, some (.inl v3), some (.inl v4)] [] (tw_mC pa_kinds pa_groups pa_widths pa_pairs pa_size pa_base ma_others ma_waiting le_types le_partners le_resolved le_ofParagraph ex_levels ex_types ex_entryLevels ex_entryOverrides ex_entryIsolates ex_last ex_lostIsolates ex_lostEmbeddings ex_openIsolates se_places se_types se_marks se_count se_embedding se_beginning se_end br_partners br_list fi_breaks fi_starts fi_extents fi_count fi_groups sh_levels sh_order tl_measure tl_stale) := by
  intro f
  induction f with
  | zero => intro v4 se_types h; rw [twl_br_give_12] at h; exact h.elim
  | succ f ih =>
    intro v4 se_types h
    rw [twl_br_give_12] at h
    refine tw_iload hX twd_br_give_12 rfl ?_
    refine tw_aload_n hX twd_br_give_14 rfl rfl ?_
    refine tw_get (kf := 3) hX twd_br_give_15 twin_se rfl (by decide) tww_212 rfl rfl rfl ?_
    refine tw_icmp_ge hX twd_br_give_18 rfl (fun q7 => ?_) (fun q7 => ?_)
    · have h := h.1 q7
      refine tw_wk (L' := [none, none, none, none, none]) (tw_le_n (tw_le_n (tw_le_n (tw_le_n (tw_le_n tw_le_0))))) ?_
      exact hX45 _ h
    · have h := h.2 q7
      refine tw_aload_n hX twd_br_give_21 rfl rfl ?_
      refine tw_get (kf := 2) hX twd_br_give_22 twin_se rfl (by decide) tww_210 rfl rfl rfl ?_
      refine tw_iload hX twd_br_give_25 rfl ?_
      obtain ⟨c3, h⟩ := h
      refine tw_baload hX twd_br_give_27 rfl c3 ?_
      refine tw_if_eq hX twd_br_give_28 rfl (fun q6 => ?_) (fun q6 => ?_)
      · have h := h.1 q6
        refine tw_wk (L' := [none, none, none, none, none]) (tw_le_n (tw_le_n (tw_le_n (tw_le_n (tw_le_n tw_le_0))))) ?_
        exact hX45 _ h
      · have h := h.2 q6
        refine tw_aload_n hX twd_br_give_31 rfl rfl ?_
        refine tw_get (kf := 1) hX twd_br_give_32 twin_se rfl (by decide) tww_207 rfl rfl rfl ?_
        refine tw_iload hX twd_br_give_35 rfl ?_
        refine tw_iload_n hX twd_br_give_37 rfl rfl ?_
        obtain ⟨c4, h⟩ := h
        refine tw_iastore (mem' := (tw_mC pa_kinds pa_groups pa_widths pa_pairs pa_size pa_base ma_others ma_waiting le_types le_partners le_resolved le_ofParagraph ex_levels ex_types ex_entryLevels ex_entryOverrides ex_entryIsolates ex_last ex_lostIsolates ex_lostEmbeddings ex_openIsolates se_places (tw_up se_types (Int.toNat v4) v3) se_marks se_count se_embedding se_beginning se_end br_partners br_list fi_breaks fi_starts fi_extents fi_count fi_groups sh_levels sh_order tl_measure tl_stale)) hX twd_br_give_38 rfl c4 rfl ?_
        obtain ⟨c5, h⟩ := h
        refine tw_iinc (L' := [none, some (.inr 19), none, some (.inl v3), some (.inl (v4 + 1))]) hX twd_br_give_39 rfl (by decide) c5 rfl ?_
        refine tw_goto hX twd_br_give_42 rfl ?_
        exact ih _ _ h
def tww_br_give (v2 v3 : Int) (se_types : Nat → Int) (se_marks : Nat → Int) (se_count : Int) (K : (Nat → Int) → Prop) : Prop :=
  (0 ≤ v2 ∧ v2 < 64) ∧ (tw_rg (v2 + 1)) ∧ (∃ f9 : Nat, twl_br_give_12 (fun (y8_se_types : Nat → Int) =>
  K y8_se_types) v3 se_marks se_count f9 (v2 + 1) (tw_up se_types (Int.toNat v2) v3))
set_option maxRecDepth 100000 in
set_option maxHeartbeats 4000000 in
theorem twc_br_give {l : Launch} {D : va_G} {ad : Nat → Nat} {cI cZ : ClassId} {Post : tw_P} {K : (Nat → Int) → Prop} {v2 v3 : Int} {pa_size pa_base le_ofParagraph ex_last ex_lostIsolates ex_lostEmbeddings ex_openIsolates se_count se_embedding se_beginning se_end fi_count tl_measure tl_stale : Int} {pa_kinds pa_groups pa_widths pa_pairs ma_others ma_waiting le_types le_partners le_resolved ex_levels ex_types ex_entryLevels ex_entryOverrides ex_entryIsolates se_places se_types se_marks br_partners br_list fi_breaks fi_starts fi_extents fi_groups sh_levels sh_order : Nat → Int} (h : tww_br_give v2 v3 se_types se_marks se_count K) (hK : ∀ (n_se_types : Nat → Int), K n_se_types → Post none (tw_mC pa_kinds pa_groups pa_widths pa_pairs pa_size pa_base ma_others ma_waiting le_types le_partners le_resolved le_ofParagraph ex_levels ex_types ex_entryLevels ex_entryOverrides ex_entryIsolates ex_last ex_lostIsolates ex_lostEmbeddings ex_openIsolates se_places n_se_types se_marks se_count se_embedding se_beginning se_end br_partners br_list fi_breaks fi_starts fi_extents fi_count fi_groups sh_levels sh_order tl_measure tl_stale)) : tw_ct (tw_YC l D ad cI cZ) twy_br_give (Cond.code twy_br_give prog_2_method_8_code 5 none :: tw_Wg) 0 [.inr 23, .inr 19, .inl v2, .inl v3] (tw_mC pa_kinds pa_groups pa_widths pa_pairs pa_size pa_base ma_others ma_waiting le_types le_partners le_resolved le_ofParagraph ex_levels ex_types ex_entryLevels ex_entryOverrides ex_entryIsolates ex_last ex_lostIsolates ex_lostEmbeddings ex_openIsolates se_places se_types se_marks se_count se_embedding se_beginning se_end br_partners br_list fi_breaks fi_starts fi_extents fi_count fi_groups sh_levels sh_order tl_measure tl_stale) Post := by
  refine tw_of (own := twR_br) (L0 := [some (.inr 23), some (.inr 19), some (.inl v2), some (.inl v3), none]) (by decide) rfl rfl (Nat.le_of_ble_eq_true rfl) (fun Z hX => ?_)
  unfold tww_br_give at h
  refine tw_aload_n hX twd_br_give_0 rfl rfl ?_
  refine tw_get (kf := 1) hX twd_br_give_1 twin_se rfl (by decide) tww_207 rfl rfl rfl ?_
  refine tw_iload_n hX twd_br_give_4 rfl rfl ?_
  refine tw_iload_n hX twd_br_give_5 rfl rfl ?_
  obtain ⟨c1, h⟩ := h
  refine tw_iastore (mem' := (tw_mC pa_kinds pa_groups pa_widths pa_pairs pa_size pa_base ma_others ma_waiting le_types le_partners le_resolved le_ofParagraph ex_levels ex_types ex_entryLevels ex_entryOverrides ex_entryIsolates ex_last ex_lostIsolates ex_lostEmbeddings ex_openIsolates se_places (tw_up se_types (Int.toNat v2) v3) se_marks se_count se_embedding se_beginning se_end br_partners br_list fi_breaks fi_starts fi_extents fi_count fi_groups sh_levels sh_order tl_measure tl_stale)) hX twd_br_give_6 rfl c1 rfl ?_
  refine tw_iload_n hX twd_br_give_7 rfl rfl ?_
  refine tw_iconst hX twd_br_give_8 ⟨by decide, by decide⟩ ?_
  obtain ⟨c2, h⟩ := h
  refine tw_iadd hX twd_br_give_9 c2 ?_
  refine tw_istore (L' := [some (.inr 23), some (.inr 19), some (.inl v2), some (.inl v3), some (.inl (v2 + 1))]) hX twd_br_give_10 (by decide) rfl ?_
  obtain ⟨f9, h⟩ := h
  refine tw_wk (L' := [none, some (.inr 19), none, some (.inl v3), some (.inl (v2 + 1))]) (tw_le_n (tw_le_s (tw_le_n (tw_le_s (tw_le_s tw_le_0))))) ?_
  refine twt_br_give_12 hX (fun y8_se_types h => ?_) f9 _ _ h
  exact tw_vret hX twd_br_give_45 (hK _ h)
def tww_br_settle (v2 v3 : Int) (se_types : Nat → Int) (se_marks : Nat → Int) (se_count : Int) (se_embedding : Int) (se_beginning : Int) (K : (Nat → Int) → Prop) : Prop :=
  tww_br_strongBetween v2 v3 se_types se_embedding (fun z1 =>
  ((z1 = (-1) →
  K se_types) ∧
  (¬ z1 = (-1) →
  (∀ J3 : Int → Prop, (∀ (x2 : Int), (tww_br_give v2 x2 se_types se_marks se_count (fun m_4_se_types =>
      tww_br_give v3 x2 m_4_se_types se_marks se_count (fun m_5_se_types =>
      K m_5_se_types))) → J3 x2) →
    ((z1 = se_embedding →
    J3 z1) ∧
    (¬ z1 = se_embedding →
    tww_br_strongBefore v2 se_types se_beginning (fun z6 =>
      ((z6 = z1 →
      J3 z1) ∧
      (¬ z6 = z1 →
      J3 se_embedding)))))))))
set_option maxRecDepth 100000 in
set_option maxHeartbeats 4000000 in
theorem twc_br_settle {l : Launch} {D : va_G} {ad : Nat → Nat} {cI cZ : ClassId} {Post : tw_P} {K : (Nat → Int) → Prop} {v2 v3 : Int} {pa_size pa_base le_ofParagraph ex_last ex_lostIsolates ex_lostEmbeddings ex_openIsolates se_count se_embedding se_beginning se_end fi_count tl_measure tl_stale : Int} {pa_kinds pa_groups pa_widths pa_pairs ma_others ma_waiting le_types le_partners le_resolved ex_levels ex_types ex_entryLevels ex_entryOverrides ex_entryIsolates se_places se_types se_marks br_partners br_list fi_breaks fi_starts fi_extents fi_groups sh_levels sh_order : Nat → Int} (h : tww_br_settle v2 v3 se_types se_marks se_count se_embedding se_beginning K) (hK : ∀ (n_se_types : Nat → Int), K n_se_types → Post none (tw_mC pa_kinds pa_groups pa_widths pa_pairs pa_size pa_base ma_others ma_waiting le_types le_partners le_resolved le_ofParagraph ex_levels ex_types ex_entryLevels ex_entryOverrides ex_entryIsolates ex_last ex_lostIsolates ex_lostEmbeddings ex_openIsolates se_places n_se_types se_marks se_count se_embedding se_beginning se_end br_partners br_list fi_breaks fi_starts fi_extents fi_count fi_groups sh_levels sh_order tl_measure tl_stale)) : tw_ct (tw_YC l D ad cI cZ) twy_br_settle (Cond.code twy_br_settle prog_2_method_5_code 5 none :: tw_Wg) 2 [.inr 23, .inr 19, .inl v2, .inl v3] (tw_mC pa_kinds pa_groups pa_widths pa_pairs pa_size pa_base ma_others ma_waiting le_types le_partners le_resolved le_ofParagraph ex_levels ex_types ex_entryLevels ex_entryOverrides ex_entryIsolates ex_last ex_lostIsolates ex_lostEmbeddings ex_openIsolates se_places se_types se_marks se_count se_embedding se_beginning se_end br_partners br_list fi_breaks fi_starts fi_extents fi_count fi_groups sh_levels sh_order tl_measure tl_stale) Post := by
  refine tw_of (own := twR_br) (L0 := [some (.inr 23), some (.inr 19), some (.inl v2), some (.inl v3), none]) (by decide) rfl rfl (Nat.le_of_ble_eq_true rfl) (fun Z hX => ?_)
  unfold tww_br_settle at h
  refine tw_aload_n hX twd_br_settle_0 rfl rfl ?_
  refine tw_aload_n hX twd_br_settle_1 rfl rfl ?_
  refine tw_iload_n hX twd_br_settle_2 rfl rfl ?_
  refine tw_iload_n hX twd_br_settle_3 rfl rfl ?_
  refine tw_callV (As := [.inr 19, .inl v2, .inl v3]) (n := 3) hX twd_br_settle_4 tw_good tww_549 tww_546 tww_548 tww_27 tww_83 twk_br_strongBetween rfl rfl ⟨by decide, by decide⟩ rfl (Nat.le_of_ble_eq_true rfl) (twc_br_strongBetween h (fun z1 h => ?_))
  change tw_rn (tw_YC l D ad cI cZ) Z Post 7 [some (.inr 23), some (.inr 19), some (.inl v2), some (.inl v3), none] [.inl z1] (tw_mC pa_kinds pa_groups pa_widths pa_pairs pa_size pa_base ma_others ma_waiting le_types le_partners le_resolved le_ofParagraph ex_levels ex_types ex_entryLevels ex_entryOverrides ex_entryIsolates ex_last ex_lostIsolates ex_lostEmbeddings ex_openIsolates se_places se_types se_marks se_count se_embedding se_beginning se_end br_partners br_list fi_breaks fi_starts fi_extents fi_count fi_groups sh_levels sh_order tl_measure tl_stale)
  refine tw_istore (L' := [some (.inr 23), some (.inr 19), some (.inl v2), some (.inl v3), some (.inl z1)]) hX twd_br_settle_7 (by decide) rfl ?_
  refine tw_iload hX twd_br_settle_9 rfl ?_
  refine tw_iconst hX twd_br_settle_11 ⟨by decide, by decide⟩ ?_
  refine tw_icmp_ne hX twd_br_settle_12 rfl (fun q9 => ?_) (fun q9 => ?_)
  · have h := h.2 q9
    refine tw_iload hX twd_br_settle_16 rfl ?_
    refine tw_aload_n hX twd_br_settle_18 rfl rfl ?_
    refine tw_get (kf := 4) hX twd_br_settle_19 twin_se rfl (by decide) tww_215 rfl rfl rfl ?_
    have h := h (fun (x2 : Int) => tw_rn (tw_YC l D ad cI cZ) Z Post 42 [some (.inr 23), some (.inr 19), some (.inl v2), some (.inl v3), some (.inl x2)] [] (tw_mC pa_kinds pa_groups pa_widths pa_pairs pa_size pa_base ma_others ma_waiting le_types le_partners le_resolved le_ofParagraph ex_levels ex_types ex_entryLevels ex_entryOverrides ex_entryIsolates ex_last ex_lostIsolates ex_lostEmbeddings ex_openIsolates se_places se_types se_marks se_count se_embedding se_beginning se_end br_partners br_list fi_breaks fi_starts fi_extents fi_count fi_groups sh_levels sh_order tl_measure tl_stale)) (by
      intro x2 h
      refine tw_aload_n hX twd_br_settle_42 rfl rfl ?_
      refine tw_aload_n hX twd_br_settle_43 rfl rfl ?_
      refine tw_iload_n hX twd_br_settle_44 rfl rfl ?_
      refine tw_iload hX twd_br_settle_45 rfl ?_
      refine tw_callV (As := [.inr 19, .inl v2, .inl x2]) (n := 3) hX twd_br_settle_47 tw_good tww_561 tww_558 tww_560 tww_29 tww_83 twk_br_give rfl rfl ⟨by decide, by decide⟩ rfl (Nat.le_of_ble_eq_true rfl) (twc_br_give h (fun m_4_se_types h => ?_))
      change tw_rn (tw_YC l D ad cI cZ) Z Post 50 [some (.inr 23), some (.inr 19), some (.inl v2), some (.inl v3), some (.inl x2)] [] (tw_mC pa_kinds pa_groups pa_widths pa_pairs pa_size pa_base ma_others ma_waiting le_types le_partners le_resolved le_ofParagraph ex_levels ex_types ex_entryLevels ex_entryOverrides ex_entryIsolates ex_last ex_lostIsolates ex_lostEmbeddings ex_openIsolates se_places m_4_se_types se_marks se_count se_embedding se_beginning se_end br_partners br_list fi_breaks fi_starts fi_extents fi_count fi_groups sh_levels sh_order tl_measure tl_stale)
      refine tw_aload_n hX twd_br_settle_50 rfl rfl ?_
      refine tw_aload_n hX twd_br_settle_51 rfl rfl ?_
      refine tw_iload_n hX twd_br_settle_52 rfl rfl ?_
      refine tw_iload hX twd_br_settle_53 rfl ?_
      refine tw_callV (As := [.inr 19, .inl v3, .inl x2]) (n := 3) hX twd_br_settle_55 tw_good tww_561 tww_558 tww_560 tww_29 tww_83 twk_br_give rfl rfl ⟨by decide, by decide⟩ rfl (Nat.le_of_ble_eq_true rfl) (twc_br_give h (fun m_5_se_types h => ?_))
      change tw_rn (tw_YC l D ad cI cZ) Z Post 58 [some (.inr 23), some (.inr 19), some (.inl v2), some (.inl v3), some (.inl x2)] [] (tw_mC pa_kinds pa_groups pa_widths pa_pairs pa_size pa_base ma_others ma_waiting le_types le_partners le_resolved le_ofParagraph ex_levels ex_types ex_entryLevels ex_entryOverrides ex_entryIsolates ex_last ex_lostIsolates ex_lostEmbeddings ex_openIsolates se_places m_5_se_types se_marks se_count se_embedding se_beginning se_end br_partners br_list fi_breaks fi_starts fi_extents fi_count fi_groups sh_levels sh_order tl_measure tl_stale)
      exact tw_vret hX twd_br_settle_58 (hK _ h))
    refine tw_icmp_eq hX twd_br_settle_22 rfl (fun q8 => ?_) (fun q8 => ?_)
    · have h := h.1 q8
      exact h
    · have h := h.2 q8
      refine tw_aload_n hX twd_br_settle_25 rfl rfl ?_
      refine tw_aload_n hX twd_br_settle_26 rfl rfl ?_
      refine tw_iload_n hX twd_br_settle_27 rfl rfl ?_
      refine tw_callV (As := [.inr 19, .inl v2]) (n := 2) hX twd_br_settle_28 tw_good tww_557 tww_554 tww_556 tww_28 tww_83 twk_br_strongBefore rfl rfl ⟨by decide, by decide⟩ rfl (Nat.le_of_ble_eq_true rfl) (twc_br_strongBefore h (fun z6 h => ?_))
      change tw_rn (tw_YC l D ad cI cZ) Z Post 31 [some (.inr 23), some (.inr 19), some (.inl v2), some (.inl v3), some (.inl z1)] [.inl z6] (tw_mC pa_kinds pa_groups pa_widths pa_pairs pa_size pa_base ma_others ma_waiting le_types le_partners le_resolved le_ofParagraph ex_levels ex_types ex_entryLevels ex_entryOverrides ex_entryIsolates ex_last ex_lostIsolates ex_lostEmbeddings ex_openIsolates se_places se_types se_marks se_count se_embedding se_beginning se_end br_partners br_list fi_breaks fi_starts fi_extents fi_count fi_groups sh_levels sh_order tl_measure tl_stale)
      refine tw_iload hX twd_br_settle_31 rfl ?_
      refine tw_icmp_eq hX twd_br_settle_33 rfl (fun q7 => ?_) (fun q7 => ?_)
      · have h := h.1 q7
        exact h
      · have h := h.2 q7
        refine tw_aload_n hX twd_br_settle_36 rfl rfl ?_
        refine tw_get (kf := 4) hX twd_br_settle_37 twin_se rfl (by decide) tww_215 rfl rfl rfl ?_
        refine tw_istore (L' := [some (.inr 23), some (.inr 19), some (.inl v2), some (.inl v3), some (.inl se_embedding)]) hX twd_br_settle_40 (by decide) rfl ?_
        exact h
  · have h := h.1 q9
    exact tw_vret hX twd_br_settle_15 (hK _ h)
def twl_br_resolve_8 (X44 : (Nat → Int) → Prop) (pa_pairs : Nat → Int) (se_places : Nat → Int) (se_marks : Nat → Int) (se_count : Int) (se_embedding : Int) (se_beginning : Int) (br_partners : Nat → Int) (br_list : Nat → Int) : Nat → Int → (Nat → Int) → Prop
  | 0, _, _ => False
  | f + 1, v3, se_types =>
    ((se_count ≤ v3 →
    X44 se_types) ∧
    (¬ se_count ≤ v3 →
    (0 ≤ v3 ∧ v3 < 64) ∧ (∀ J5 : (Nat → Int) → Prop, (∀ (x_4_se_types : Nat → Int), ((tw_rg (v3 + 1)) ∧ twl_br_resolve_8 X44 pa_pairs se_places se_marks se_count se_embedding se_beginning br_partners br_list f (v3 + 1) x_4_se_types) → J5 x_4_se_types) →
      (((br_partners (Int.toNat v3)) ≤ v3 →
      J5 se_types) ∧
      (¬ (br_partners (Int.toNat v3)) ≤ v3 →
      (0 ≤ v3 ∧ v3 < 64) ∧ tww_br_settle v3 (br_partners (Int.toNat v3)) se_types se_marks se_count se_embedding se_beginning (fun m_8_se_types =>
        J5 m_8_se_types))))))
set_option maxRecDepth 100000 in
set_option maxHeartbeats 4000000 in
theorem twt_br_resolve_8 {l : Launch} {D : va_G} {ad : Nat → Nat} {cI cZ : ClassId} {Z : tw_Z} {Post : tw_P} {X44 : (Nat → Int) → Prop} {pa_size pa_base le_ofParagraph ex_last ex_lostIsolates ex_lostEmbeddings ex_openIsolates se_count se_embedding se_beginning se_end fi_count tl_measure tl_stale : Int} {pa_kinds pa_groups pa_widths pa_pairs ma_others ma_waiting le_types le_partners le_resolved ex_levels ex_types ex_entryLevels ex_entryOverrides ex_entryIsolates se_places se_marks br_partners br_list fi_breaks fi_starts fi_extents fi_groups sh_levels sh_order : Nat → Int} (hX : tw_cx (tw_YC l D ad cI cZ) Z prog_2_method_2_code twR_br tw_Wg none 3 4) (hX44 : ∀ (se_types : Nat → Int), X44 se_types → tw_rn (tw_YC l D ad cI cZ) Z Post 44 [none, none, none, none] [] (tw_mC pa_kinds pa_groups pa_widths pa_pairs pa_size pa_base ma_others ma_waiting le_types le_partners le_resolved le_ofParagraph ex_levels ex_types ex_entryLevels ex_entryOverrides ex_entryIsolates ex_last ex_lostIsolates ex_lostEmbeddings ex_openIsolates se_places se_types se_marks se_count se_embedding se_beginning se_end br_partners br_list fi_breaks fi_starts fi_extents fi_count fi_groups sh_levels sh_order tl_measure tl_stale)) : ∀ (f : Nat) (v3 : Int) (se_types : Nat → Int), twl_br_resolve_8 X44 pa_pairs se_places se_marks se_count se_embedding se_beginning br_partners br_list f v3 se_types → tw_rn (tw_YC l D ad cI cZ) Z Post 8 [some (.inr 23), none, some (.inr 19), some (.inl v3)] [] (tw_mC pa_kinds pa_groups pa_widths pa_pairs pa_size pa_base ma_others ma_waiting le_types le_partners le_resolved le_ofParagraph ex_levels ex_types ex_entryLevels ex_entryOverrides ex_entryIsolates ex_last ex_lostIsolates ex_lostEmbeddings ex_openIsolates se_places se_types se_marks se_count se_embedding se_beginning se_end br_partners br_list fi_breaks fi_starts fi_extents fi_count fi_groups sh_levels sh_order tl_measure tl_stale) := by
  intro f
  induction f with
  | zero => intro v3 se_types h; rw [twl_br_resolve_8] at h; exact h.elim
  | succ f ih =>
    intro v3 se_types h
    rw [twl_br_resolve_8] at h
    refine tw_iload_n hX twd_br_resolve_8 rfl rfl ?_
    refine tw_aload_n hX twd_br_resolve_9 rfl rfl ?_
    refine tw_get (kf := 3) hX twd_br_resolve_10 twin_se rfl (by decide) tww_212 rfl rfl rfl ?_
    refine tw_icmp_ge hX twd_br_resolve_13 rfl (fun q10 => ?_) (fun q10 => ?_)
    · have h := h.1 q10
      refine tw_wk (L' := [none, none, none, none]) (tw_le_n (tw_le_n (tw_le_n (tw_le_n tw_le_0)))) ?_
      exact hX44 _ h
    · have h := h.2 q10
      refine tw_aload_n hX twd_br_resolve_16 rfl rfl ?_
      refine tw_get (kf := 0) hX twd_br_resolve_17 twin_br rfl (by decide) tww_243 rfl rfl rfl ?_
      refine tw_iload_n hX twd_br_resolve_20 rfl rfl ?_
      obtain ⟨c3, h⟩ := h
      refine tw_iaload hX twd_br_resolve_21 rfl c3 ?_
      refine tw_iload_n hX twd_br_resolve_22 rfl rfl ?_
      have h := h (fun (x_4_se_types : Nat → Int) => tw_rn (tw_YC l D ad cI cZ) Z Post 38 [some (.inr 23), none, some (.inr 19), some (.inl v3)] [] (tw_mC pa_kinds pa_groups pa_widths pa_pairs pa_size pa_base ma_others ma_waiting le_types le_partners le_resolved le_ofParagraph ex_levels ex_types ex_entryLevels ex_entryOverrides ex_entryIsolates ex_last ex_lostIsolates ex_lostEmbeddings ex_openIsolates se_places x_4_se_types se_marks se_count se_embedding se_beginning se_end br_partners br_list fi_breaks fi_starts fi_extents fi_count fi_groups sh_levels sh_order tl_measure tl_stale)) (by
        intro x_4_se_types h
        obtain ⟨c6, h⟩ := h
        refine tw_iinc (L' := [some (.inr 23), none, some (.inr 19), some (.inl (v3 + 1))]) hX twd_br_resolve_38 rfl (by decide) c6 rfl ?_
        refine tw_goto hX twd_br_resolve_41 rfl ?_
        exact ih _ _ h)
      refine tw_icmp_le hX twd_br_resolve_23 rfl (fun q9 => ?_) (fun q9 => ?_)
      · have h := h.1 q9
        exact h
      · have h := h.2 q9
        refine tw_aload_n hX twd_br_resolve_26 rfl rfl ?_
        refine tw_aload_n hX twd_br_resolve_27 rfl rfl ?_
        refine tw_iload_n hX twd_br_resolve_28 rfl rfl ?_
        refine tw_aload_n hX twd_br_resolve_29 rfl rfl ?_
        refine tw_get (kf := 0) hX twd_br_resolve_30 twin_br rfl (by decide) tww_243 rfl rfl rfl ?_
        refine tw_iload_n hX twd_br_resolve_33 rfl rfl ?_
        obtain ⟨c7, h⟩ := h
        refine tw_iaload hX twd_br_resolve_34 rfl c7 ?_
        refine tw_callV (As := [.inr 19, .inl v3, .inl (br_partners (Int.toNat v3))]) (n := 3) hX twd_br_resolve_35 tw_good tww_545 tww_542 tww_544 tww_26 tww_83 twk_br_settle rfl rfl ⟨by decide, by decide⟩ rfl (Nat.le_of_ble_eq_true rfl) (twc_br_settle h (fun m_8_se_types h => ?_))
        change tw_rn (tw_YC l D ad cI cZ) Z Post 38 [some (.inr 23), none, some (.inr 19), some (.inl v3)] [] (tw_mC pa_kinds pa_groups pa_widths pa_pairs pa_size pa_base ma_others ma_waiting le_types le_partners le_resolved le_ofParagraph ex_levels ex_types ex_entryLevels ex_entryOverrides ex_entryIsolates ex_last ex_lostIsolates ex_lostEmbeddings ex_openIsolates se_places m_8_se_types se_marks se_count se_embedding se_beginning se_end br_partners br_list fi_breaks fi_starts fi_extents fi_count fi_groups sh_levels sh_order tl_measure tl_stale)
        exact h
def tww_br_resolve (pa_pairs : Nat → Int) (se_places : Nat → Int) (se_types : Nat → Int) (se_marks : Nat → Int) (se_count : Int) (se_embedding : Int) (se_beginning : Int) (br_partners : Nat → Int) (br_list : Nat → Int) (K : (Nat → Int) → (Nat → Int) → (Nat → Int) → Prop) : Prop :=
  tww_br_pairUp pa_pairs se_places se_types se_count br_partners br_list (fun m_1_br_partners m_2_br_list =>
  (∃ f12 : Nat, twl_br_resolve_8 (fun (y11_se_types : Nat → Int) =>
  K y11_se_types m_1_br_partners m_2_br_list) pa_pairs se_places se_marks se_count se_embedding se_beginning m_1_br_partners m_2_br_list f12 0 se_types))
set_option maxRecDepth 100000 in
set_option maxHeartbeats 4000000 in
theorem twc_br_resolve {l : Launch} {D : va_G} {ad : Nat → Nat} {cI cZ : ClassId} {Post : tw_P} {K : (Nat → Int) → (Nat → Int) → (Nat → Int) → Prop} {pa_size pa_base le_ofParagraph ex_last ex_lostIsolates ex_lostEmbeddings ex_openIsolates se_count se_embedding se_beginning se_end fi_count tl_measure tl_stale : Int} {pa_kinds pa_groups pa_widths pa_pairs ma_others ma_waiting le_types le_partners le_resolved ex_levels ex_types ex_entryLevels ex_entryOverrides ex_entryIsolates se_places se_types se_marks br_partners br_list fi_breaks fi_starts fi_extents fi_groups sh_levels sh_order : Nat → Int} (h : tww_br_resolve pa_pairs se_places se_types se_marks se_count se_embedding se_beginning br_partners br_list K) (hK : ∀ (n_se_types : Nat → Int) (n_br_partners : Nat → Int) (n_br_list : Nat → Int), K n_se_types n_br_partners n_br_list → Post none (tw_mC pa_kinds pa_groups pa_widths pa_pairs pa_size pa_base ma_others ma_waiting le_types le_partners le_resolved le_ofParagraph ex_levels ex_types ex_entryLevels ex_entryOverrides ex_entryIsolates ex_last ex_lostIsolates ex_lostEmbeddings ex_openIsolates se_places n_se_types se_marks se_count se_embedding se_beginning se_end n_br_partners n_br_list fi_breaks fi_starts fi_extents fi_count fi_groups sh_levels sh_order tl_measure tl_stale)) : tw_ct (tw_YC l D ad cI cZ) twy_br_resolve (Cond.code twy_br_resolve prog_2_method_2_code 4 none :: tw_Wg) 3 [.inr 23, .inr 1, .inr 19] (tw_mC pa_kinds pa_groups pa_widths pa_pairs pa_size pa_base ma_others ma_waiting le_types le_partners le_resolved le_ofParagraph ex_levels ex_types ex_entryLevels ex_entryOverrides ex_entryIsolates ex_last ex_lostIsolates ex_lostEmbeddings ex_openIsolates se_places se_types se_marks se_count se_embedding se_beginning se_end br_partners br_list fi_breaks fi_starts fi_extents fi_count fi_groups sh_levels sh_order tl_measure tl_stale) Post := by
  refine tw_of (own := twR_br) (L0 := [some (.inr 23), some (.inr 1), some (.inr 19), none]) (by decide) rfl rfl (Nat.le_of_ble_eq_true rfl) (fun Z hX => ?_)
  unfold tww_br_resolve at h
  refine tw_aload_n hX twd_br_resolve_0 rfl rfl ?_
  refine tw_aload_n hX twd_br_resolve_1 rfl rfl ?_
  refine tw_aload_n hX twd_br_resolve_2 rfl rfl ?_
  refine tw_callV (As := [.inr 1, .inr 19]) (n := 2) hX twd_br_resolve_3 tw_good tww_537 tww_534 tww_536 tww_24 tww_83 twk_br_pairUp rfl rfl ⟨by decide, by decide⟩ rfl (Nat.le_of_ble_eq_true rfl) (twc_br_pairUp h (fun m_1_br_partners m_2_br_list h => ?_))
  change tw_rn (tw_YC l D ad cI cZ) Z Post 6 [some (.inr 23), some (.inr 1), some (.inr 19), none] [] (tw_mC pa_kinds pa_groups pa_widths pa_pairs pa_size pa_base ma_others ma_waiting le_types le_partners le_resolved le_ofParagraph ex_levels ex_types ex_entryLevels ex_entryOverrides ex_entryIsolates ex_last ex_lostIsolates ex_lostEmbeddings ex_openIsolates se_places se_types se_marks se_count se_embedding se_beginning se_end m_1_br_partners m_2_br_list fi_breaks fi_starts fi_extents fi_count fi_groups sh_levels sh_order tl_measure tl_stale)
  refine tw_iconst hX twd_br_resolve_6 ⟨by decide, by decide⟩ ?_
  refine tw_istore_n (L' := [some (.inr 23), some (.inr 1), some (.inr 19), some (.inl 0)]) hX twd_br_resolve_7 rfl (by decide) rfl ?_
  obtain ⟨f12, h⟩ := h
  refine tw_wk (L' := [some (.inr 23), none, some (.inr 19), some (.inl 0)]) (tw_le_s (tw_le_n (tw_le_s (tw_le_s tw_le_0)))) ?_
  refine twt_br_resolve_8 hX (fun y11_se_types h => ?_) f12 _ _ h
  exact tw_vret hX twd_br_resolve_44 (hK _ _ _ h)
def twl_se_fillTypes_3 (X23 : (Nat → Int) → Prop) (v2 : Int) (v3 : Int) : Nat → Int → (Nat → Int) → Prop
  | 0, _, _ => False
  | f + 1, v4, se_types =>
    ((v2 ≤ v4 →
    X23 se_types) ∧
    (¬ v2 ≤ v4 →
    (0 ≤ v4 ∧ v4 < 64) ∧ (tw_rg (v4 + 1)) ∧ twl_se_fillTypes_3 X23 v2 v3 f (v4 + 1) (tw_up se_types (Int.toNat v4) v3)))
set_option maxRecDepth 100000 in
set_option maxHeartbeats 4000000 in
theorem twt_se_fillTypes_3 {l : Launch} {D : va_G} {ad : Nat → Nat} {cI cZ : ClassId} {Z : tw_Z} {Post : tw_P} {X23 : (Nat → Int) → Prop} {v2 : Int} {v3 : Int} {pa_size pa_base le_ofParagraph ex_last ex_lostIsolates ex_lostEmbeddings ex_openIsolates se_count se_embedding se_beginning se_end fi_count tl_measure tl_stale : Int} {pa_kinds pa_groups pa_widths pa_pairs ma_others ma_waiting le_types le_partners le_resolved ex_levels ex_types ex_entryLevels ex_entryOverrides ex_entryIsolates se_places se_marks br_partners br_list fi_breaks fi_starts fi_extents fi_groups sh_levels sh_order : Nat → Int} (hX : tw_cx (tw_YC l D ad cI cZ) Z prog_8_method_11_code twR_se tw_Wg none 0 5) (hX23 : ∀ (se_types : Nat → Int), X23 se_types → tw_rn (tw_YC l D ad cI cZ) Z Post 23 [none, none, none, none, none] [] (tw_mC pa_kinds pa_groups pa_widths pa_pairs pa_size pa_base ma_others ma_waiting le_types le_partners le_resolved le_ofParagraph ex_levels ex_types ex_entryLevels ex_entryOverrides ex_entryIsolates ex_last ex_lostIsolates ex_lostEmbeddings ex_openIsolates se_places se_types se_marks se_count se_embedding se_beginning se_end br_partners br_list fi_breaks fi_starts fi_extents fi_count fi_groups sh_levels sh_order tl_measure tl_stale)) : ∀ (f : Nat) (v4 : Int) (se_types : Nat → Int), twl_se_fillTypes_3 X23 v2 v3 f v4 se_types → tw_rn (tw_YC l D ad cI cZ) Z Post 3 [some (.inr 19), none, some (.inl v2), some (.inl v3), some (.inl v4)] [] (tw_mC pa_kinds pa_groups pa_widths pa_pairs pa_size pa_base ma_others ma_waiting le_types le_partners le_resolved le_ofParagraph ex_levels ex_types ex_entryLevels ex_entryOverrides ex_entryIsolates ex_last ex_lostIsolates ex_lostEmbeddings ex_openIsolates se_places se_types se_marks se_count se_embedding se_beginning se_end br_partners br_list fi_breaks fi_starts fi_extents fi_count fi_groups sh_levels sh_order tl_measure tl_stale) := by
  intro f
  induction f with
  | zero => intro v4 se_types h; rw [twl_se_fillTypes_3] at h; exact h.elim
  | succ f ih =>
    intro v4 se_types h
    rw [twl_se_fillTypes_3] at h
    refine tw_iload hX twd_se_fillTypes_3 rfl ?_
    refine tw_iload_n hX twd_se_fillTypes_5 rfl rfl ?_
    refine tw_icmp_ge hX twd_se_fillTypes_6 rfl (fun q3 => ?_) (fun q3 => ?_)
    · have h := h.1 q3
      refine tw_wk (L' := [none, none, none, none, none]) (tw_le_n (tw_le_n (tw_le_n (tw_le_n (tw_le_n tw_le_0))))) ?_
      exact hX23 _ h
    · have h := h.2 q3
      refine tw_aload_n hX twd_se_fillTypes_9 rfl rfl ?_
      refine tw_get (kf := 1) hX twd_se_fillTypes_10 twin_se rfl (by decide) tww_206 rfl rfl rfl ?_
      refine tw_iload hX twd_se_fillTypes_13 rfl ?_
      refine tw_iload_n hX twd_se_fillTypes_15 rfl rfl ?_
      obtain ⟨c1, h⟩ := h
      refine tw_iastore (mem' := (tw_mC pa_kinds pa_groups pa_widths pa_pairs pa_size pa_base ma_others ma_waiting le_types le_partners le_resolved le_ofParagraph ex_levels ex_types ex_entryLevels ex_entryOverrides ex_entryIsolates ex_last ex_lostIsolates ex_lostEmbeddings ex_openIsolates se_places (tw_up se_types (Int.toNat v4) v3) se_marks se_count se_embedding se_beginning se_end br_partners br_list fi_breaks fi_starts fi_extents fi_count fi_groups sh_levels sh_order tl_measure tl_stale)) hX twd_se_fillTypes_16 rfl c1 rfl ?_
      obtain ⟨c2, h⟩ := h
      refine tw_iinc (L' := [some (.inr 19), none, some (.inl v2), some (.inl v3), some (.inl (v4 + 1))]) hX twd_se_fillTypes_17 rfl (by decide) c2 rfl ?_
      refine tw_goto hX twd_se_fillTypes_20 rfl ?_
      exact ih _ _ h
def tww_se_fillTypes (v1 v2 v3 : Int) (se_types : Nat → Int) (K : (Nat → Int) → Prop) : Prop :=
  (∃ f5 : Nat, twl_se_fillTypes_3 (fun (y4_se_types : Nat → Int) =>
  K y4_se_types) v2 v3 f5 v1 se_types)
set_option maxRecDepth 100000 in
set_option maxHeartbeats 4000000 in
theorem twc_se_fillTypes {l : Launch} {D : va_G} {ad : Nat → Nat} {cI cZ : ClassId} {Post : tw_P} {K : (Nat → Int) → Prop} {v1 v2 v3 : Int} {pa_size pa_base le_ofParagraph ex_last ex_lostIsolates ex_lostEmbeddings ex_openIsolates se_count se_embedding se_beginning se_end fi_count tl_measure tl_stale : Int} {pa_kinds pa_groups pa_widths pa_pairs ma_others ma_waiting le_types le_partners le_resolved ex_levels ex_types ex_entryLevels ex_entryOverrides ex_entryIsolates se_places se_types se_marks br_partners br_list fi_breaks fi_starts fi_extents fi_groups sh_levels sh_order : Nat → Int} (h : tww_se_fillTypes v1 v2 v3 se_types K) (hK : ∀ (n_se_types : Nat → Int), K n_se_types → Post none (tw_mC pa_kinds pa_groups pa_widths pa_pairs pa_size pa_base ma_others ma_waiting le_types le_partners le_resolved le_ofParagraph ex_levels ex_types ex_entryLevels ex_entryOverrides ex_entryIsolates ex_last ex_lostIsolates ex_lostEmbeddings ex_openIsolates se_places n_se_types se_marks se_count se_embedding se_beginning se_end br_partners br_list fi_breaks fi_starts fi_extents fi_count fi_groups sh_levels sh_order tl_measure tl_stale)) : tw_ct (tw_YC l D ad cI cZ) twy_se_fillTypes (Cond.code twy_se_fillTypes prog_8_method_11_code 5 none :: tw_Wg) 0 [.inr 19, .inl v1, .inl v2, .inl v3] (tw_mC pa_kinds pa_groups pa_widths pa_pairs pa_size pa_base ma_others ma_waiting le_types le_partners le_resolved le_ofParagraph ex_levels ex_types ex_entryLevels ex_entryOverrides ex_entryIsolates ex_last ex_lostIsolates ex_lostEmbeddings ex_openIsolates se_places se_types se_marks se_count se_embedding se_beginning se_end br_partners br_list fi_breaks fi_starts fi_extents fi_count fi_groups sh_levels sh_order tl_measure tl_stale) Post := by
  refine tw_of (own := twR_se) (L0 := [some (.inr 19), some (.inl v1), some (.inl v2), some (.inl v3), none]) (by decide) rfl rfl (Nat.le_of_ble_eq_true rfl) (fun Z hX => ?_)
  unfold tww_se_fillTypes at h
  refine tw_iload_n hX twd_se_fillTypes_0 rfl rfl ?_
  refine tw_istore (L' := [some (.inr 19), some (.inl v1), some (.inl v2), some (.inl v3), some (.inl v1)]) hX twd_se_fillTypes_1 (by decide) rfl ?_
  obtain ⟨f5, h⟩ := h
  refine tw_wk (L' := [some (.inr 19), none, some (.inl v2), some (.inl v3), some (.inl v1)]) (tw_le_s (tw_le_n (tw_le_s (tw_le_s (tw_le_s tw_le_0))))) ?_
  refine twt_se_fillTypes_3 hX (fun y4_se_types h => ?_) f5 _ _ h
  exact tw_vret hX twd_se_fillTypes_23 (hK _ h)
def twl_se_resolveNeutral_4 (X103 : (Nat → Int) → Prop) (se_count : Int) (se_embedding : Int) (se_beginning : Int) (se_end : Int) : Nat → Int → Int → (Nat → Int) → Prop
  | 0, _, _, _ => False
  | f + 1, v1, v2, se_types =>
    ((se_count < v2 →
    X103 se_types) ∧
    (¬ se_count < v2 →
    (∀ J3 : Int → (Nat → Int) → Prop, (∀ (x1 : Int) (x_2_se_types : Nat → Int), ((tw_rg (v2 + 1)) ∧ twl_se_resolveNeutral_4 X103 se_count se_embedding se_beginning se_end f x1 (v2 + 1) x_2_se_types) → J3 x1 x_2_se_types) →
      ∀ J5 : Prop, (((((¬ v1 = 0 → ((tw_rg (v1 - 1)) ∧ (two_se_strongAt (v1 - 1) se_types)))) ∧
        (∀ x10 : Int, x10 = (if v1 = 0 then se_beginning else (twr_se_strongAt (v1 - 1) se_types)) →
        (((¬ v2 = se_count → ((two_se_strongAt v2 se_types)))) ∧
          (∀ x14 : Int, x14 = (if v2 = se_count then se_end else (twr_se_strongAt v2 se_types)) →
          (∀ x15 : Int, x15 = (if x10 = x14 then x10 else se_embedding) →
            tww_se_fillTypes v1 v2 x15 se_types (fun m_16_se_types =>
              (tw_rg (v2 + 1)) ∧ J3 (v2 + 1) m_16_se_types))))))) → J5) →
      ((se_count ≤ v2 →
      J5) ∧
      (¬ se_count ≤ v2 →
      (two_se_strongAt v2 se_types) ∧ (((twr_se_strongAt v2 se_types) = (-1) →
        J3 v1 se_types) ∧
        (¬ (twr_se_strongAt v2 se_types) = (-1) →
        J5)))))))
set_option maxRecDepth 100000 in
set_option maxHeartbeats 4000000 in
theorem twt_se_resolveNeutral_4 {l : Launch} {D : va_G} {ad : Nat → Nat} {cI cZ : ClassId} {Z : tw_Z} {Post : tw_P} {X103 : (Nat → Int) → Prop} {pa_size pa_base le_ofParagraph ex_last ex_lostIsolates ex_lostEmbeddings ex_openIsolates se_count se_embedding se_beginning se_end fi_count tl_measure tl_stale : Int} {pa_kinds pa_groups pa_widths pa_pairs ma_others ma_waiting le_types le_partners le_resolved ex_levels ex_types ex_entryLevels ex_entryOverrides ex_entryIsolates se_places se_marks br_partners br_list fi_breaks fi_starts fi_extents fi_groups sh_levels sh_order : Nat → Int} (hX : tw_cx (tw_YC l D ad cI cZ) Z prog_8_method_10_code twR_se tw_Wg none 1 5) (hX103 : ∀ (se_types : Nat → Int), X103 se_types → tw_rn (tw_YC l D ad cI cZ) Z Post 103 [none, none, none, none, none] [] (tw_mC pa_kinds pa_groups pa_widths pa_pairs pa_size pa_base ma_others ma_waiting le_types le_partners le_resolved le_ofParagraph ex_levels ex_types ex_entryLevels ex_entryOverrides ex_entryIsolates ex_last ex_lostIsolates ex_lostEmbeddings ex_openIsolates se_places se_types se_marks se_count se_embedding se_beginning se_end br_partners br_list fi_breaks fi_starts fi_extents fi_count fi_groups sh_levels sh_order tl_measure tl_stale)) : ∀ (f : Nat) (v1 : Int) (v2 : Int) (se_types : Nat → Int), twl_se_resolveNeutral_4 X103 se_count se_embedding se_beginning se_end f v1 v2 se_types → tw_rn (tw_YC l D ad cI cZ) Z Post 4 [some (.inr 19), some (.inl v1), some (.inl v2), none, none] [] (tw_mC pa_kinds pa_groups pa_widths pa_pairs pa_size pa_base ma_others ma_waiting le_types le_partners le_resolved le_ofParagraph ex_levels ex_types ex_entryLevels ex_entryOverrides ex_entryIsolates ex_last ex_lostIsolates ex_lostEmbeddings ex_openIsolates se_places se_types se_marks se_count se_embedding se_beginning se_end br_partners br_list fi_breaks fi_starts fi_extents fi_count fi_groups sh_levels sh_order tl_measure tl_stale) := by
  intro f
  induction f with
  | zero => intro v1 v2 se_types h; rw [twl_se_resolveNeutral_4] at h; exact h.elim
  | succ f ih =>
    intro v1 v2 se_types h
    rw [twl_se_resolveNeutral_4] at h
    refine tw_iload_n hX twd_se_resolveNeutral_4 rfl rfl ?_
    refine tw_aload_n hX twd_se_resolveNeutral_5 rfl rfl ?_
    refine tw_get (kf := 3) hX twd_se_resolveNeutral_6 twin_se rfl (by decide) tww_211 rfl rfl rfl ?_
    refine tw_icmp_gt hX twd_se_resolveNeutral_9 rfl (fun q34 => ?_) (fun q34 => ?_)
    · have h := h.1 q34
      refine tw_wk (L' := [none, none, none, none, none]) (tw_le_n (tw_le_n (tw_le_n (tw_le_n (tw_le_n tw_le_0))))) ?_
      exact hX103 _ h
    · have h := h.2 q34
      refine tw_iload_n hX twd_se_resolveNeutral_12 rfl rfl ?_
      refine tw_aload_n hX twd_se_resolveNeutral_13 rfl rfl ?_
      refine tw_get (kf := 3) hX twd_se_resolveNeutral_14 twin_se rfl (by decide) tww_211 rfl rfl rfl ?_
      have h := h (fun (x1 : Int) (x_2_se_types : Nat → Int) => tw_rn (tw_YC l D ad cI cZ) Z Post 97 [some (.inr 19), some (.inl x1), some (.inl v2), none, none] [] (tw_mC pa_kinds pa_groups pa_widths pa_pairs pa_size pa_base ma_others ma_waiting le_types le_partners le_resolved le_ofParagraph ex_levels ex_types ex_entryLevels ex_entryOverrides ex_entryIsolates ex_last ex_lostIsolates ex_lostEmbeddings ex_openIsolates se_places x_2_se_types se_marks se_count se_embedding se_beginning se_end br_partners br_list fi_breaks fi_starts fi_extents fi_count fi_groups sh_levels sh_order tl_measure tl_stale)) (by
        intro x1 x_2_se_types h
        obtain ⟨c4, h⟩ := h
        refine tw_iinc (L' := [some (.inr 19), some (.inl x1), some (.inl (v2 + 1)), none, none]) hX twd_se_resolveNeutral_97 rfl (by decide) c4 rfl ?_
        refine tw_goto hX twd_se_resolveNeutral_100 rfl ?_
        exact ih _ _ _ h)
      have h := h (tw_rn (tw_YC l D ad cI cZ) Z Post 32 [some (.inr 19), some (.inl v1), some (.inl v2), none, none] [] (tw_mC pa_kinds pa_groups pa_widths pa_pairs pa_size pa_base ma_others ma_waiting le_types le_partners le_resolved le_ofParagraph ex_levels ex_types ex_entryLevels ex_entryOverrides ex_entryIsolates ex_last ex_lostIsolates ex_lostEmbeddings ex_openIsolates se_places se_types se_marks se_count se_embedding se_beginning se_end br_partners br_list fi_breaks fi_starts fi_extents fi_count fi_groups sh_levels sh_order tl_measure tl_stale)) (by
        intro  h
        refine tw_iload_n hX twd_se_resolveNeutral_32 rfl rfl ?_
        obtain ⟨o25, h⟩ := h
        have j26 : ∀ x10 : Int, x10 = (if v1 = 0 then se_beginning else (twr_se_strongAt (v1 - 1) se_types)) → tw_rn (tw_YC l D ad cI cZ) Z Post 50 [some (.inr 19), some (.inl v1), some (.inl v2), none, none] [.inl x10] (tw_mC pa_kinds pa_groups pa_widths pa_pairs pa_size pa_base ma_others ma_waiting le_types le_partners le_resolved le_ofParagraph ex_levels ex_types ex_entryLevels ex_entryOverrides ex_entryIsolates ex_last ex_lostIsolates ex_lostEmbeddings ex_openIsolates se_places se_types se_marks se_count se_embedding se_beginning se_end br_partners br_list fi_breaks fi_starts fi_extents fi_count fi_groups sh_levels sh_order tl_measure tl_stale) := by
          intro x10 e27
          have h := h x10 e27
          refine tw_istore_n (L' := [some (.inr 19), some (.inl v1), some (.inl v2), some (.inl x10), none]) hX twd_se_resolveNeutral_50 rfl (by decide) rfl ?_
          refine tw_iload_n hX twd_se_resolveNeutral_51 rfl rfl ?_
          refine tw_aload_n hX twd_se_resolveNeutral_52 rfl rfl ?_
          refine tw_get (kf := 3) hX twd_se_resolveNeutral_53 twin_se rfl (by decide) tww_211 rfl rfl rfl ?_
          obtain ⟨o21, h⟩ := h
          have j22 : ∀ x14 : Int, x14 = (if v2 = se_count then se_end else (twr_se_strongAt v2 se_types)) → tw_rn (tw_YC l D ad cI cZ) Z Post 71 [some (.inr 19), some (.inl v1), some (.inl v2), some (.inl x10), none] [.inl x14] (tw_mC pa_kinds pa_groups pa_widths pa_pairs pa_size pa_base ma_others ma_waiting le_types le_partners le_resolved le_ofParagraph ex_levels ex_types ex_entryLevels ex_entryOverrides ex_entryIsolates ex_last ex_lostIsolates ex_lostEmbeddings ex_openIsolates se_places se_types se_marks se_count se_embedding se_beginning se_end br_partners br_list fi_breaks fi_starts fi_extents fi_count fi_groups sh_levels sh_order tl_measure tl_stale) := by
            intro x14 e23
            have h := h x14 e23
            refine tw_istore (L' := [some (.inr 19), some (.inl v1), some (.inl v2), some (.inl x10), some (.inl x14)]) hX twd_se_resolveNeutral_71 (by decide) rfl ?_
            refine tw_aload_n hX twd_se_resolveNeutral_73 rfl rfl ?_
            refine tw_iload_n hX twd_se_resolveNeutral_74 rfl rfl ?_
            refine tw_iload_n hX twd_se_resolveNeutral_75 rfl rfl ?_
            refine tw_iload_n hX twd_se_resolveNeutral_76 rfl rfl ?_
            refine tw_iload hX twd_se_resolveNeutral_77 rfl ?_
            have j18 : ∀ x15 : Int, x15 = (if x10 = x14 then x10 else se_embedding) → tw_rn (tw_YC l D ad cI cZ) Z Post 90 [some (.inr 19), none, some (.inl v2), none, none] [.inl x15, .inl v2, .inl v1, .inr 19] (tw_mC pa_kinds pa_groups pa_widths pa_pairs pa_size pa_base ma_others ma_waiting le_types le_partners le_resolved le_ofParagraph ex_levels ex_types ex_entryLevels ex_entryOverrides ex_entryIsolates ex_last ex_lostIsolates ex_lostEmbeddings ex_openIsolates se_places se_types se_marks se_count se_embedding se_beginning se_end br_partners br_list fi_breaks fi_starts fi_extents fi_count fi_groups sh_levels sh_order tl_measure tl_stale) := by
              intro x15 e19
              have h := h x15 e19
              refine tw_callV (As := [.inl v1, .inl v2, .inl x15]) (n := 3) hX twd_se_resolveNeutral_90 tw_good tww_570 tww_567 tww_569 tww_30 tww_82 twk_se_fillTypes rfl rfl ⟨by decide, by decide⟩ rfl (Nat.le_of_ble_eq_true rfl) (twc_se_fillTypes h (fun m_16_se_types h => ?_))
              change tw_rn (tw_YC l D ad cI cZ) Z Post 93 [some (.inr 19), none, some (.inl v2), none, none] [] (tw_mC pa_kinds pa_groups pa_widths pa_pairs pa_size pa_base ma_others ma_waiting le_types le_partners le_resolved le_ofParagraph ex_levels ex_types ex_entryLevels ex_entryOverrides ex_entryIsolates ex_last ex_lostIsolates ex_lostEmbeddings ex_openIsolates se_places m_16_se_types se_marks se_count se_embedding se_beginning se_end br_partners br_list fi_breaks fi_starts fi_extents fi_count fi_groups sh_levels sh_order tl_measure tl_stale)
              refine tw_iload_n hX twd_se_resolveNeutral_93 rfl rfl ?_
              refine tw_iconst hX twd_se_resolveNeutral_94 ⟨by decide, by decide⟩ ?_
              obtain ⟨c17, h⟩ := h
              refine tw_iadd hX twd_se_resolveNeutral_95 c17 ?_
              refine tw_istore_n (L' := [some (.inr 19), some (.inl (v2 + 1)), some (.inl v2), none, none]) hX twd_se_resolveNeutral_96 rfl (by decide) rfl ?_
              exact h
            refine tw_icmp_ne hX twd_se_resolveNeutral_79 rfl (fun q20 => ?_) (fun q20 => ?_)
            · have _tw := trivial
              refine tw_aload_n hX twd_se_resolveNeutral_86 rfl rfl ?_
              refine tw_get (kf := 4) hX twd_se_resolveNeutral_87 twin_se rfl (by decide) tww_214 rfl rfl rfl ?_
              refine tw_wk (L' := [some (.inr 19), none, some (.inl v2), none, none]) (tw_le_s (tw_le_n (tw_le_s (tw_le_n (tw_le_n tw_le_0))))) ?_
              exact j18 _ (Eq.symm (if_neg q20))
            · have _tw := trivial
              refine tw_iload_n hX twd_se_resolveNeutral_82 rfl rfl ?_
              refine tw_goto hX twd_se_resolveNeutral_83 rfl ?_
              refine tw_wk (L' := [some (.inr 19), none, some (.inl v2), none, none]) (tw_le_s (tw_le_n (tw_le_s (tw_le_n (tw_le_n tw_le_0))))) ?_
              exact j18 _ (Eq.symm (if_pos q20))
          refine tw_icmp_ne hX twd_se_resolveNeutral_56 rfl (fun q24 => ?_) (fun q24 => ?_)
          · have _tw := trivial
            have o21 := o21 q24
            refine tw_aload_n hX twd_se_resolveNeutral_66 rfl rfl ?_
            refine tw_iload_n hX twd_se_resolveNeutral_67 rfl rfl ?_
            have c11 := o21
            refine tw_callV (As := [.inl v2]) (n := 1) hX twd_se_resolveNeutral_68 tw_good tww_553 tww_566 tww_551 tww_552 tww_82 twk_se_strongAt rfl rfl ⟨by decide, by decide⟩ rfl (Nat.le_of_ble_eq_true rfl) (twc_se_strongAt c11 (fun z12 e13 => ?_))
            subst e13
            change tw_rn (tw_YC l D ad cI cZ) Z Post 71 [some (.inr 19), some (.inl v1), some (.inl v2), some (.inl x10), none] [.inl (twr_se_strongAt v2 se_types)] (tw_mC pa_kinds pa_groups pa_widths pa_pairs pa_size pa_base ma_others ma_waiting le_types le_partners le_resolved le_ofParagraph ex_levels ex_types ex_entryLevels ex_entryOverrides ex_entryIsolates ex_last ex_lostIsolates ex_lostEmbeddings ex_openIsolates se_places se_types se_marks se_count se_embedding se_beginning se_end br_partners br_list fi_breaks fi_starts fi_extents fi_count fi_groups sh_levels sh_order tl_measure tl_stale)
            exact j22 _ (Eq.symm (if_neg q24))
          · have _tw := trivial
            refine tw_aload_n hX twd_se_resolveNeutral_59 rfl rfl ?_
            refine tw_get (kf := 6) hX twd_se_resolveNeutral_60 twin_se rfl (by decide) tww_220 rfl rfl rfl ?_
            refine tw_goto hX twd_se_resolveNeutral_63 rfl ?_
            exact j22 _ (Eq.symm (if_pos q24))
        refine tw_if_ne hX twd_se_resolveNeutral_33 rfl (fun q28 => ?_) (fun q28 => ?_)
        · have _tw := trivial
          have o25 := o25 q28
          refine tw_aload_n hX twd_se_resolveNeutral_43 rfl rfl ?_
          refine tw_iload_n hX twd_se_resolveNeutral_44 rfl rfl ?_
          refine tw_iconst hX twd_se_resolveNeutral_45 ⟨by decide, by decide⟩ ?_
          obtain ⟨c6, o25⟩ := o25
          refine tw_isub hX twd_se_resolveNeutral_46 c6 ?_
          have c7 := o25
          refine tw_callV (As := [.inl (v1 - 1)]) (n := 1) hX twd_se_resolveNeutral_47 tw_good tww_553 tww_566 tww_551 tww_552 tww_82 twk_se_strongAt rfl rfl ⟨by decide, by decide⟩ rfl (Nat.le_of_ble_eq_true rfl) (twc_se_strongAt c7 (fun z8 e9 => ?_))
          subst e9
          change tw_rn (tw_YC l D ad cI cZ) Z Post 50 [some (.inr 19), some (.inl v1), some (.inl v2), none, none] [.inl (twr_se_strongAt (v1 - 1) se_types)] (tw_mC pa_kinds pa_groups pa_widths pa_pairs pa_size pa_base ma_others ma_waiting le_types le_partners le_resolved le_ofParagraph ex_levels ex_types ex_entryLevels ex_entryOverrides ex_entryIsolates ex_last ex_lostIsolates ex_lostEmbeddings ex_openIsolates se_places se_types se_marks se_count se_embedding se_beginning se_end br_partners br_list fi_breaks fi_starts fi_extents fi_count fi_groups sh_levels sh_order tl_measure tl_stale)
          exact j26 _ (Eq.symm (if_neg q28))
        · have _tw := trivial
          refine tw_aload_n hX twd_se_resolveNeutral_36 rfl rfl ?_
          refine tw_get (kf := 5) hX twd_se_resolveNeutral_37 twin_se rfl (by decide) tww_217 rfl rfl rfl ?_
          refine tw_goto hX twd_se_resolveNeutral_40 rfl ?_
          exact j26 _ (Eq.symm (if_pos q28)))
      refine tw_icmp_ge hX twd_se_resolveNeutral_17 rfl (fun q33 => ?_) (fun q33 => ?_)
      · have h := h.1 q33
        exact h
      · have h := h.2 q33
        refine tw_aload_n hX twd_se_resolveNeutral_20 rfl rfl ?_
        refine tw_iload_n hX twd_se_resolveNeutral_21 rfl rfl ?_
        obtain ⟨c29, h⟩ := h
        refine tw_callV (As := [.inl v2]) (n := 1) hX twd_se_resolveNeutral_22 tw_good tww_553 tww_566 tww_551 tww_552 tww_82 twk_se_strongAt rfl rfl ⟨by decide, by decide⟩ rfl (Nat.le_of_ble_eq_true rfl) (twc_se_strongAt c29 (fun z30 e31 => ?_))
        subst e31
        change tw_rn (tw_YC l D ad cI cZ) Z Post 25 [some (.inr 19), some (.inl v1), some (.inl v2), none, none] [.inl (twr_se_strongAt v2 se_types)] (tw_mC pa_kinds pa_groups pa_widths pa_pairs pa_size pa_base ma_others ma_waiting le_types le_partners le_resolved le_ofParagraph ex_levels ex_types ex_entryLevels ex_entryOverrides ex_entryIsolates ex_last ex_lostIsolates ex_lostEmbeddings ex_openIsolates se_places se_types se_marks se_count se_embedding se_beginning se_end br_partners br_list fi_breaks fi_starts fi_extents fi_count fi_groups sh_levels sh_order tl_measure tl_stale)
        refine tw_iconst hX twd_se_resolveNeutral_25 ⟨by decide, by decide⟩ ?_
        refine tw_icmp_ne hX twd_se_resolveNeutral_26 rfl (fun q32 => ?_) (fun q32 => ?_)
        · have h := h.2 q32
          exact h
        · have h := h.1 q32
          refine tw_goto hX twd_se_resolveNeutral_29 rfl ?_
          exact h
def tww_se_resolveNeutral (se_types : Nat → Int) (se_count : Int) (se_embedding : Int) (se_beginning : Int) (se_end : Int) (K : (Nat → Int) → Prop) : Prop :=
  (∃ f36 : Nat, twl_se_resolveNeutral_4 (fun (y35_se_types : Nat → Int) =>
  K y35_se_types) se_count se_embedding se_beginning se_end f36 0 0 se_types)
set_option maxRecDepth 100000 in
set_option maxHeartbeats 4000000 in
theorem twc_se_resolveNeutral {l : Launch} {D : va_G} {ad : Nat → Nat} {cI cZ : ClassId} {Post : tw_P} {K : (Nat → Int) → Prop} {pa_size pa_base le_ofParagraph ex_last ex_lostIsolates ex_lostEmbeddings ex_openIsolates se_count se_embedding se_beginning se_end fi_count tl_measure tl_stale : Int} {pa_kinds pa_groups pa_widths pa_pairs ma_others ma_waiting le_types le_partners le_resolved ex_levels ex_types ex_entryLevels ex_entryOverrides ex_entryIsolates se_places se_types se_marks br_partners br_list fi_breaks fi_starts fi_extents fi_groups sh_levels sh_order : Nat → Int} (h : tww_se_resolveNeutral se_types se_count se_embedding se_beginning se_end K) (hK : ∀ (n_se_types : Nat → Int), K n_se_types → Post none (tw_mC pa_kinds pa_groups pa_widths pa_pairs pa_size pa_base ma_others ma_waiting le_types le_partners le_resolved le_ofParagraph ex_levels ex_types ex_entryLevels ex_entryOverrides ex_entryIsolates ex_last ex_lostIsolates ex_lostEmbeddings ex_openIsolates se_places n_se_types se_marks se_count se_embedding se_beginning se_end br_partners br_list fi_breaks fi_starts fi_extents fi_count fi_groups sh_levels sh_order tl_measure tl_stale)) : tw_ct (tw_YC l D ad cI cZ) twy_se_resolveNeutral (Cond.code twy_se_resolveNeutral prog_8_method_10_code 5 none :: tw_Wg) 1 [.inr 19] (tw_mC pa_kinds pa_groups pa_widths pa_pairs pa_size pa_base ma_others ma_waiting le_types le_partners le_resolved le_ofParagraph ex_levels ex_types ex_entryLevels ex_entryOverrides ex_entryIsolates ex_last ex_lostIsolates ex_lostEmbeddings ex_openIsolates se_places se_types se_marks se_count se_embedding se_beginning se_end br_partners br_list fi_breaks fi_starts fi_extents fi_count fi_groups sh_levels sh_order tl_measure tl_stale) Post := by
  refine tw_of (own := twR_se) (L0 := [some (.inr 19), none, none, none, none]) (by decide) rfl rfl (Nat.le_of_ble_eq_true rfl) (fun Z hX => ?_)
  unfold tww_se_resolveNeutral at h
  refine tw_iconst hX twd_se_resolveNeutral_0 ⟨by decide, by decide⟩ ?_
  refine tw_istore_n (L' := [some (.inr 19), some (.inl 0), none, none, none]) hX twd_se_resolveNeutral_1 rfl (by decide) rfl ?_
  refine tw_iconst hX twd_se_resolveNeutral_2 ⟨by decide, by decide⟩ ?_
  refine tw_istore_n (L' := [some (.inr 19), some (.inl 0), some (.inl 0), none, none]) hX twd_se_resolveNeutral_3 rfl (by decide) rfl ?_
  obtain ⟨f36, h⟩ := h
  refine twt_se_resolveNeutral_4 hX (fun y35_se_types h => ?_) f36 _ _ _ h
  exact tw_vret hX twd_se_resolveNeutral_103 (hK _ h)
def twl_le_keep_2 (X80 : (Nat → Int) → (Nat → Int) → Prop) (se_places : Nat → Int) (se_types : Nat → Int) (se_count : Int) (br_partners : Nat → Int) : Nat → Int → (Nat → Int) → (Nat → Int) → Prop
  | 0, _, _, _ => False
  | f + 1, v1, le_types, le_partners =>
    ((se_count ≤ v1 →
    X80 le_types le_partners) ∧
    (¬ se_count ≤ v1 →
    (0 ≤ v1 ∧ v1 < 64) ∧ (0 ≤ v1 ∧ v1 < 64) ∧ (0 ≤ (se_places (Int.toNat v1)) ∧ (se_places (Int.toNat v1)) < 64) ∧ (0 ≤ v1 ∧ v1 < 64) ∧ (((¬ (br_partners (Int.toNat v1)) = (-1) → ((0 ≤ v1 ∧ v1 < 64) ∧ (0 ≤ (br_partners (Int.toNat v1)) ∧ (br_partners (Int.toNat v1)) < 64) ∧ (0 ≤ (se_places (Int.toNat v1)) ∧ (se_places (Int.toNat v1)) < 64)))) ∧
      (∀ x_8_le_partners : Nat → Int, x_8_le_partners = (if (br_partners (Int.toNat v1)) = (-1) then le_partners else (tw_up le_partners (Int.toNat (se_places (Int.toNat v1))) (se_places (Int.toNat (br_partners (Int.toNat v1)))))) →
      (tw_rg (v1 + 1)) ∧ twl_le_keep_2 X80 se_places se_types se_count br_partners f (v1 + 1) (tw_up le_types (Int.toNat (se_places (Int.toNat v1))) (se_types (Int.toNat v1))) x_8_le_partners))))
set_option maxRecDepth 100000 in
set_option maxHeartbeats 4000000 in
theorem twt_le_keep_2 {l : Launch} {D : va_G} {ad : Nat → Nat} {cI cZ : ClassId} {Z : tw_Z} {Post : tw_P} {X80 : (Nat → Int) → (Nat → Int) → Prop} {pa_size pa_base le_ofParagraph ex_last ex_lostIsolates ex_lostEmbeddings ex_openIsolates se_count se_embedding se_beginning se_end fi_count tl_measure tl_stale : Int} {pa_kinds pa_groups pa_widths pa_pairs ma_others ma_waiting le_resolved ex_levels ex_types ex_entryLevels ex_entryOverrides ex_entryIsolates se_places se_types se_marks br_partners br_list fi_breaks fi_starts fi_extents fi_groups sh_levels sh_order : Nat → Int} (hX : tw_cx (tw_YC l D ad cI cZ) Z prog_5_method_11_code twR_le tw_Wg none 0 3) (hX80 : ∀ (le_types : Nat → Int) (le_partners : Nat → Int), X80 le_types le_partners → tw_rn (tw_YC l D ad cI cZ) Z Post 80 [none, none, none] [] (tw_mC pa_kinds pa_groups pa_widths pa_pairs pa_size pa_base ma_others ma_waiting le_types le_partners le_resolved le_ofParagraph ex_levels ex_types ex_entryLevels ex_entryOverrides ex_entryIsolates ex_last ex_lostIsolates ex_lostEmbeddings ex_openIsolates se_places se_types se_marks se_count se_embedding se_beginning se_end br_partners br_list fi_breaks fi_starts fi_extents fi_count fi_groups sh_levels sh_order tl_measure tl_stale)) : ∀ (f : Nat) (v1 : Int) (le_types : Nat → Int) (le_partners : Nat → Int), twl_le_keep_2 X80 se_places se_types se_count br_partners f v1 le_types le_partners → tw_rn (tw_YC l D ad cI cZ) Z Post 2 [some (.inr 6), some (.inl v1), none] [] (tw_mC pa_kinds pa_groups pa_widths pa_pairs pa_size pa_base ma_others ma_waiting le_types le_partners le_resolved le_ofParagraph ex_levels ex_types ex_entryLevels ex_entryOverrides ex_entryIsolates ex_last ex_lostIsolates ex_lostEmbeddings ex_openIsolates se_places se_types se_marks se_count se_embedding se_beginning se_end br_partners br_list fi_breaks fi_starts fi_extents fi_count fi_groups sh_levels sh_order tl_measure tl_stale) := by
  intro f
  induction f with
  | zero => intro v1 le_types le_partners h; rw [twl_le_keep_2] at h; exact h.elim
  | succ f ih =>
    intro v1 le_types le_partners h
    rw [twl_le_keep_2] at h
    refine tw_iload_n hX twd_le_keep_2 rfl rfl ?_
    refine tw_aload_n hX twd_le_keep_3 rfl rfl ?_
    refine tw_get (kf := 6) hX twd_le_keep_4 twin_le rfl (by decide) tww_264 rfl rfl rfl ?_
    refine tw_get (kf := 3) hX twd_le_keep_7 twin_se rfl (by decide) tww_213 rfl rfl rfl ?_
    refine tw_icmp_ge hX twd_le_keep_10 rfl (fun q14 => ?_) (fun q14 => ?_)
    · have h := h.1 q14
      refine tw_wk (L' := [none, none, none]) (tw_le_n (tw_le_n (tw_le_n tw_le_0))) ?_
      exact hX80 _ _ h
    · have h := h.2 q14
      refine tw_aload_n hX twd_le_keep_13 rfl rfl ?_
      refine tw_get (kf := 6) hX twd_le_keep_14 twin_le rfl (by decide) tww_264 rfl rfl rfl ?_
      refine tw_get (kf := 0) hX twd_le_keep_17 twin_se rfl (by decide) tww_205 rfl rfl rfl ?_
      refine tw_iload_n hX twd_le_keep_20 rfl rfl ?_
      obtain ⟨c1, h⟩ := h
      refine tw_iaload hX twd_le_keep_21 rfl c1 ?_
      refine tw_istore_n (L' := [some (.inr 6), some (.inl v1), some (.inl (se_places (Int.toNat v1)))]) hX twd_le_keep_22 rfl (by decide) rfl ?_
      refine tw_aload_n hX twd_le_keep_23 rfl rfl ?_
      refine tw_get (kf := 1) hX twd_le_keep_24 twin_le rfl (by decide) tww_253 rfl rfl rfl ?_
      refine tw_iload_n hX twd_le_keep_27 rfl rfl ?_
      refine tw_aload_n hX twd_le_keep_28 rfl rfl ?_
      refine tw_get (kf := 6) hX twd_le_keep_29 twin_le rfl (by decide) tww_264 rfl rfl rfl ?_
      refine tw_get (kf := 1) hX twd_le_keep_32 twin_se rfl (by decide) tww_208 rfl rfl rfl ?_
      refine tw_iload_n hX twd_le_keep_35 rfl rfl ?_
      obtain ⟨c2, h⟩ := h
      refine tw_iaload hX twd_le_keep_36 rfl c2 ?_
      obtain ⟨c3, h⟩ := h
      refine tw_iastore (mem' := (tw_mC pa_kinds pa_groups pa_widths pa_pairs pa_size pa_base ma_others ma_waiting (tw_up le_types (Int.toNat (se_places (Int.toNat v1))) (se_types (Int.toNat v1))) le_partners le_resolved le_ofParagraph ex_levels ex_types ex_entryLevels ex_entryOverrides ex_entryIsolates ex_last ex_lostIsolates ex_lostEmbeddings ex_openIsolates se_places se_types se_marks se_count se_embedding se_beginning se_end br_partners br_list fi_breaks fi_starts fi_extents fi_count fi_groups sh_levels sh_order tl_measure tl_stale)) hX twd_le_keep_37 rfl c3 rfl ?_
      refine tw_aload_n hX twd_le_keep_38 rfl rfl ?_
      refine tw_get (kf := 7) hX twd_le_keep_39 twin_le rfl (by decide) tww_265 rfl rfl rfl ?_
      refine tw_get (kf := 0) hX twd_le_keep_42 twin_br rfl (by decide) tww_244 rfl rfl rfl ?_
      refine tw_iload_n hX twd_le_keep_45 rfl rfl ?_
      obtain ⟨c4, h⟩ := h
      refine tw_iaload hX twd_le_keep_46 rfl c4 ?_
      refine tw_iconst hX twd_le_keep_47 ⟨by decide, by decide⟩ ?_
      obtain ⟨o10, h⟩ := h
      have j11 : ∀ x_8_le_partners : Nat → Int, x_8_le_partners = (if (br_partners (Int.toNat v1)) = (-1) then le_partners else (tw_up le_partners (Int.toNat (se_places (Int.toNat v1))) (se_places (Int.toNat (br_partners (Int.toNat v1)))))) → tw_rn (tw_YC l D ad cI cZ) Z Post 74 [some (.inr 6), some (.inl v1), none] [] (tw_mC pa_kinds pa_groups pa_widths pa_pairs pa_size pa_base ma_others ma_waiting (tw_up le_types (Int.toNat (se_places (Int.toNat v1))) (se_types (Int.toNat v1))) x_8_le_partners le_resolved le_ofParagraph ex_levels ex_types ex_entryLevels ex_entryOverrides ex_entryIsolates ex_last ex_lostIsolates ex_lostEmbeddings ex_openIsolates se_places se_types se_marks se_count se_embedding se_beginning se_end br_partners br_list fi_breaks fi_starts fi_extents fi_count fi_groups sh_levels sh_order tl_measure tl_stale) := by
        intro x_8_le_partners e12
        have h := h x_8_le_partners e12
        obtain ⟨c9, h⟩ := h
        refine tw_iinc (L' := [some (.inr 6), some (.inl (v1 + 1)), none]) hX twd_le_keep_74 rfl (by decide) c9 rfl ?_
        refine tw_goto hX twd_le_keep_77 rfl ?_
        exact ih _ _ _ h
      refine tw_icmp_eq hX twd_le_keep_48 rfl (fun q13 => ?_) (fun q13 => ?_)
      · have _tw := trivial
        refine tw_wk (L' := [some (.inr 6), some (.inl v1), none]) (tw_le_s (tw_le_s (tw_le_n tw_le_0))) ?_
        exact j11 _ (Eq.symm (if_pos q13))
      · have _tw := trivial
        have o10 := o10 q13
        refine tw_aload_n hX twd_le_keep_51 rfl rfl ?_
        refine tw_get (kf := 2) hX twd_le_keep_52 twin_le rfl (by decide) tww_255 rfl rfl rfl ?_
        refine tw_iload_n hX twd_le_keep_55 rfl rfl ?_
        refine tw_aload_n hX twd_le_keep_56 rfl rfl ?_
        refine tw_get (kf := 6) hX twd_le_keep_57 twin_le rfl (by decide) tww_264 rfl rfl rfl ?_
        refine tw_get (kf := 0) hX twd_le_keep_60 twin_se rfl (by decide) tww_205 rfl rfl rfl ?_
        refine tw_aload_n hX twd_le_keep_63 rfl rfl ?_
        refine tw_get (kf := 7) hX twd_le_keep_64 twin_le rfl (by decide) tww_265 rfl rfl rfl ?_
        refine tw_get (kf := 0) hX twd_le_keep_67 twin_br rfl (by decide) tww_244 rfl rfl rfl ?_
        refine tw_iload_n hX twd_le_keep_70 rfl rfl ?_
        obtain ⟨c5, o10⟩ := o10
        refine tw_iaload hX twd_le_keep_71 rfl c5 ?_
        obtain ⟨c6, o10⟩ := o10
        refine tw_iaload hX twd_le_keep_72 rfl c6 ?_
        have c7 := o10
        refine tw_iastore (mem' := (tw_mC pa_kinds pa_groups pa_widths pa_pairs pa_size pa_base ma_others ma_waiting (tw_up le_types (Int.toNat (se_places (Int.toNat v1))) (se_types (Int.toNat v1))) (tw_up le_partners (Int.toNat (se_places (Int.toNat v1))) (se_places (Int.toNat (br_partners (Int.toNat v1))))) le_resolved le_ofParagraph ex_levels ex_types ex_entryLevels ex_entryOverrides ex_entryIsolates ex_last ex_lostIsolates ex_lostEmbeddings ex_openIsolates se_places se_types se_marks se_count se_embedding se_beginning se_end br_partners br_list fi_breaks fi_starts fi_extents fi_count fi_groups sh_levels sh_order tl_measure tl_stale)) hX twd_le_keep_73 rfl c7 rfl ?_
        refine tw_wk (L' := [some (.inr 6), some (.inl v1), none]) (tw_le_s (tw_le_s (tw_le_n tw_le_0))) ?_
        exact j11 _ (Eq.symm (if_neg q13))
def tww_le_keep (le_types : Nat → Int) (le_partners : Nat → Int) (se_places : Nat → Int) (se_types : Nat → Int) (se_count : Int) (br_partners : Nat → Int) (K : (Nat → Int) → (Nat → Int) → Prop) : Prop :=
  (∃ f17 : Nat, twl_le_keep_2 (fun (y15_le_types : Nat → Int) (y16_le_partners : Nat → Int) =>
  K y15_le_types y16_le_partners) se_places se_types se_count br_partners f17 0 le_types le_partners)
set_option maxRecDepth 100000 in
set_option maxHeartbeats 4000000 in
theorem twc_le_keep {l : Launch} {D : va_G} {ad : Nat → Nat} {cI cZ : ClassId} {Post : tw_P} {K : (Nat → Int) → (Nat → Int) → Prop} {pa_size pa_base le_ofParagraph ex_last ex_lostIsolates ex_lostEmbeddings ex_openIsolates se_count se_embedding se_beginning se_end fi_count tl_measure tl_stale : Int} {pa_kinds pa_groups pa_widths pa_pairs ma_others ma_waiting le_types le_partners le_resolved ex_levels ex_types ex_entryLevels ex_entryOverrides ex_entryIsolates se_places se_types se_marks br_partners br_list fi_breaks fi_starts fi_extents fi_groups sh_levels sh_order : Nat → Int} (h : tww_le_keep le_types le_partners se_places se_types se_count br_partners K) (hK : ∀ (n_le_types : Nat → Int) (n_le_partners : Nat → Int), K n_le_types n_le_partners → Post none (tw_mC pa_kinds pa_groups pa_widths pa_pairs pa_size pa_base ma_others ma_waiting n_le_types n_le_partners le_resolved le_ofParagraph ex_levels ex_types ex_entryLevels ex_entryOverrides ex_entryIsolates ex_last ex_lostIsolates ex_lostEmbeddings ex_openIsolates se_places se_types se_marks se_count se_embedding se_beginning se_end br_partners br_list fi_breaks fi_starts fi_extents fi_count fi_groups sh_levels sh_order tl_measure tl_stale)) : tw_ct (tw_YC l D ad cI cZ) twy_le_keep (Cond.code twy_le_keep prog_5_method_11_code 3 none :: tw_Wg) 0 [.inr 6] (tw_mC pa_kinds pa_groups pa_widths pa_pairs pa_size pa_base ma_others ma_waiting le_types le_partners le_resolved le_ofParagraph ex_levels ex_types ex_entryLevels ex_entryOverrides ex_entryIsolates ex_last ex_lostIsolates ex_lostEmbeddings ex_openIsolates se_places se_types se_marks se_count se_embedding se_beginning se_end br_partners br_list fi_breaks fi_starts fi_extents fi_count fi_groups sh_levels sh_order tl_measure tl_stale) Post := by
  refine tw_of (own := twR_le) (L0 := [some (.inr 6), none, none]) (by decide) rfl rfl (Nat.le_of_ble_eq_true rfl) (fun Z hX => ?_)
  unfold tww_le_keep at h
  refine tw_iconst hX twd_le_keep_0 ⟨by decide, by decide⟩ ?_
  refine tw_istore_n (L' := [some (.inr 6), some (.inl 0), none]) hX twd_le_keep_1 rfl (by decide) rfl ?_
  obtain ⟨f17, h⟩ := h
  refine twt_le_keep_2 hX (fun y15_le_types y16_le_partners h => ?_) f17 _ _ _ h
  exact tw_vret hX twd_le_keep_80 (hK _ _ h)
def twl_le_resolveSequences_2 (X30 : (Nat → Int) → (Nat → Int) → Prop) (pa_kinds : Nat → Int) (pa_pairs : Nat → Int) (pa_size : Int) (ma_others : Nat → Int) (le_ofParagraph : Int) (ex_levels : Nat → Int) (ex_types : Nat → Int) (se_places : Nat → Int) (se_types : Nat → Int) (se_marks : Nat → Int) (se_count : Int) (se_embedding : Int) (se_beginning : Int) (se_end : Int) (br_partners : Nat → Int) (br_list : Nat → Int) : Nat → Int → (Nat → Int) → (Nat → Int) → Prop
  | 0, _, _, _ => False
  | f + 1, v2, le_types, le_partners =>
    ((pa_size ≤ v2 →
    X30 le_types le_partners) ∧
    (¬ pa_size ≤ v2 →
    (0 ≤ v2 ∧ v2 < 64) ∧ (0 ≤ v2 ∧ v2 < 64) ∧ (tw_rg (v2 + 1)) ∧ twl_le_resolveSequences_2 X30 pa_kinds pa_pairs pa_size ma_others le_ofParagraph ex_levels ex_types se_places se_types se_marks se_count se_embedding se_beginning se_end br_partners br_list f (v2 + 1) (tw_up le_types (Int.toNat v2) (-1)) (tw_up le_partners (Int.toNat v2) (-1))))
set_option maxRecDepth 100000 in
set_option maxHeartbeats 4000000 in
theorem twt_le_resolveSequences_2 {l : Launch} {D : va_G} {ad : Nat → Nat} {cI cZ : ClassId} {Z : tw_Z} {Post : tw_P} {X30 : (Nat → Int) → (Nat → Int) → Prop} {pa_size pa_base le_ofParagraph ex_last ex_lostIsolates ex_lostEmbeddings ex_openIsolates se_count se_embedding se_beginning se_end fi_count tl_measure tl_stale : Int} {pa_kinds pa_groups pa_widths pa_pairs ma_others ma_waiting le_resolved ex_levels ex_types ex_entryLevels ex_entryOverrides ex_entryIsolates se_places se_types se_marks br_partners br_list fi_breaks fi_starts fi_extents fi_groups sh_levels sh_order : Nat → Int} (hX : tw_cx (tw_YC l D ad cI cZ) Z prog_5_method_3_code twR_le tw_Wg none 4 3) (hX30 : ∀ (le_types : Nat → Int) (le_partners : Nat → Int), X30 le_types le_partners → tw_rn (tw_YC l D ad cI cZ) Z Post 30 [some (.inr 6), some (.inr 1), none] [] (tw_mC pa_kinds pa_groups pa_widths pa_pairs pa_size pa_base ma_others ma_waiting le_types le_partners le_resolved le_ofParagraph ex_levels ex_types ex_entryLevels ex_entryOverrides ex_entryIsolates ex_last ex_lostIsolates ex_lostEmbeddings ex_openIsolates se_places se_types se_marks se_count se_embedding se_beginning se_end br_partners br_list fi_breaks fi_starts fi_extents fi_count fi_groups sh_levels sh_order tl_measure tl_stale)) : ∀ (f : Nat) (v2 : Int) (le_types : Nat → Int) (le_partners : Nat → Int), twl_le_resolveSequences_2 X30 pa_kinds pa_pairs pa_size ma_others le_ofParagraph ex_levels ex_types se_places se_types se_marks se_count se_embedding se_beginning se_end br_partners br_list f v2 le_types le_partners → tw_rn (tw_YC l D ad cI cZ) Z Post 2 [some (.inr 6), some (.inr 1), some (.inl v2)] [] (tw_mC pa_kinds pa_groups pa_widths pa_pairs pa_size pa_base ma_others ma_waiting le_types le_partners le_resolved le_ofParagraph ex_levels ex_types ex_entryLevels ex_entryOverrides ex_entryIsolates ex_last ex_lostIsolates ex_lostEmbeddings ex_openIsolates se_places se_types se_marks se_count se_embedding se_beginning se_end br_partners br_list fi_breaks fi_starts fi_extents fi_count fi_groups sh_levels sh_order tl_measure tl_stale) := by
  intro f
  induction f with
  | zero => intro v2 le_types le_partners h; rw [twl_le_resolveSequences_2] at h; exact h.elim
  | succ f ih =>
    intro v2 le_types le_partners h
    rw [twl_le_resolveSequences_2] at h
    refine tw_iload_n hX twd_le_resolveSequences_2 rfl rfl ?_
    refine tw_aload_n hX twd_le_resolveSequences_3 rfl rfl ?_
    refine tw_get (kf := 4) hX twd_le_resolveSequences_4 twin_pa rfl (by decide) tww_118 rfl rfl rfl ?_
    refine tw_icmp_ge hX twd_le_resolveSequences_7 rfl (fun q4 => ?_) (fun q4 => ?_)
    · have h := h.1 q4
      refine tw_wk (L' := [some (.inr 6), some (.inr 1), none]) (tw_le_s (tw_le_s (tw_le_n tw_le_0))) ?_
      exact hX30 _ _ h
    · have h := h.2 q4
      refine tw_aload_n hX twd_le_resolveSequences_10 rfl rfl ?_
      refine tw_get (kf := 1) hX twd_le_resolveSequences_11 twin_le rfl (by decide) tww_253 rfl rfl rfl ?_
      refine tw_iload_n hX twd_le_resolveSequences_14 rfl rfl ?_
      refine tw_iconst hX twd_le_resolveSequences_15 ⟨by decide, by decide⟩ ?_
      obtain ⟨c1, h⟩ := h
      refine tw_iastore (mem' := (tw_mC pa_kinds pa_groups pa_widths pa_pairs pa_size pa_base ma_others ma_waiting (tw_up le_types (Int.toNat v2) (-1)) le_partners le_resolved le_ofParagraph ex_levels ex_types ex_entryLevels ex_entryOverrides ex_entryIsolates ex_last ex_lostIsolates ex_lostEmbeddings ex_openIsolates se_places se_types se_marks se_count se_embedding se_beginning se_end br_partners br_list fi_breaks fi_starts fi_extents fi_count fi_groups sh_levels sh_order tl_measure tl_stale)) hX twd_le_resolveSequences_16 rfl c1 rfl ?_
      refine tw_aload_n hX twd_le_resolveSequences_17 rfl rfl ?_
      refine tw_get (kf := 2) hX twd_le_resolveSequences_18 twin_le rfl (by decide) tww_255 rfl rfl rfl ?_
      refine tw_iload_n hX twd_le_resolveSequences_21 rfl rfl ?_
      refine tw_iconst hX twd_le_resolveSequences_22 ⟨by decide, by decide⟩ ?_
      obtain ⟨c2, h⟩ := h
      refine tw_iastore (mem' := (tw_mC pa_kinds pa_groups pa_widths pa_pairs pa_size pa_base ma_others ma_waiting (tw_up le_types (Int.toNat v2) (-1)) (tw_up le_partners (Int.toNat v2) (-1)) le_resolved le_ofParagraph ex_levels ex_types ex_entryLevels ex_entryOverrides ex_entryIsolates ex_last ex_lostIsolates ex_lostEmbeddings ex_openIsolates se_places se_types se_marks se_count se_embedding se_beginning se_end br_partners br_list fi_breaks fi_starts fi_extents fi_count fi_groups sh_levels sh_order tl_measure tl_stale)) hX twd_le_resolveSequences_23 rfl c2 rfl ?_
      obtain ⟨c3, h⟩ := h
      refine tw_iinc (L' := [some (.inr 6), some (.inr 1), some (.inl (v2 + 1))]) hX twd_le_resolveSequences_24 rfl (by decide) c3 rfl ?_
      refine tw_goto hX twd_le_resolveSequences_27 rfl ?_
      exact ih _ _ _ h
def twl_le_resolveSequences_32 (X96 : (Nat → Int) → (Nat → Int) → (Nat → Int) → (Nat → Int) → (Nat → Int) → Int → Int → Int → Int → (Nat → Int) → (Nat → Int) → Prop) (pa_kinds : Nat → Int) (pa_pairs : Nat → Int) (pa_size : Int) (ma_others : Nat → Int) (le_ofParagraph : Int) (ex_levels : Nat → Int) (ex_types : Nat → Int) : Nat → Int → (Nat → Int) → (Nat → Int) → (Nat → Int) → (Nat → Int) → (Nat → Int) → Int → Int → Int → Int → (Nat → Int) → (Nat → Int) → Prop
  | 0, _, _, _, _, _, _, _, _, _, _, _, _ => False
  | f + 1, v2, le_types, le_partners, se_places, se_types, se_marks, se_count, se_embedding, se_beginning, se_end, br_partners, br_list =>
    ((pa_size ≤ v2 →
    X96 le_types le_partners se_places se_types se_marks se_count se_embedding se_beginning se_end br_partners br_list) ∧
    (¬ pa_size ≤ v2 →
    tww_le_beginsSequence v2 pa_kinds ma_others ex_levels (fun z7 =>
      (∀ J19 : (Nat → Int) → (Nat → Int) → (Nat → Int) → (Nat → Int) → (Nat → Int) → Int → Int → Int → Int → (Nat → Int) → (Nat → Int) → Prop, (∀ (x_8_le_types : Nat → Int) (x_9_le_partners : Nat → Int) (x_10_se_places : Nat → Int) (x_11_se_types : Nat → Int) (x_12_se_marks : Nat → Int) (x_13_se_count : Int) (x_14_se_embedding : Int) (x_15_se_beginning : Int) (x_16_se_end : Int) (x_17_br_partners : Nat → Int) (x_18_br_list : Nat → Int), ((tw_rg (v2 + 1)) ∧ twl_le_resolveSequences_32 X96 pa_kinds pa_pairs pa_size ma_others le_ofParagraph ex_levels ex_types f (v2 + 1) x_8_le_types x_9_le_partners x_10_se_places x_11_se_types x_12_se_marks x_13_se_count x_14_se_embedding x_15_se_beginning x_16_se_end x_17_br_partners x_18_br_list) → J19 x_8_le_types x_9_le_partners x_10_se_places x_11_se_types x_12_se_marks x_13_se_count x_14_se_embedding x_15_se_beginning x_16_se_end x_17_br_partners x_18_br_list) →
      ((z7 = 0 →
      J19 le_types le_partners se_places se_types se_marks se_count se_embedding se_beginning se_end br_partners br_list) ∧
      (¬ z7 = 0 →
      tww_le_gather v2 pa_kinds pa_size ma_others ex_levels ex_types se_places se_types se_count (fun m_21_se_places m_22_se_types m_23_se_count =>
        tww_le_setSides pa_kinds pa_size le_ofParagraph ex_levels m_21_se_places m_23_se_count se_embedding se_beginning se_end (fun m_24_se_embedding m_25_se_beginning m_26_se_end =>
        tww_se_resolveWeak m_22_se_types se_marks m_23_se_count m_25_se_beginning (fun m_27_se_types m_28_se_marks =>
        tww_br_resolve pa_pairs m_21_se_places m_27_se_types m_28_se_marks m_23_se_count m_24_se_embedding m_25_se_beginning br_partners br_list (fun m_29_se_types m_30_br_partners m_31_br_list =>
        tww_se_resolveNeutral m_29_se_types m_23_se_count m_24_se_embedding m_25_se_beginning m_26_se_end (fun m_32_se_types =>
        tww_le_keep le_types le_partners m_21_se_places m_32_se_types m_23_se_count m_30_br_partners (fun m_33_le_types m_34_le_partners =>
        J19 m_33_le_types m_34_le_partners m_21_se_places m_32_se_types m_28_se_marks m_23_se_count m_24_se_embedding m_25_se_beginning m_26_se_end m_30_br_partners m_31_br_list))))))))))))
set_option maxRecDepth 100000 in
set_option maxHeartbeats 4000000 in
theorem twt_le_resolveSequences_32 {l : Launch} {D : va_G} {ad : Nat → Nat} {cI cZ : ClassId} {Z : tw_Z} {Post : tw_P} {X96 : (Nat → Int) → (Nat → Int) → (Nat → Int) → (Nat → Int) → (Nat → Int) → Int → Int → Int → Int → (Nat → Int) → (Nat → Int) → Prop} {pa_size pa_base le_ofParagraph ex_last ex_lostIsolates ex_lostEmbeddings ex_openIsolates fi_count tl_measure tl_stale : Int} {pa_kinds pa_groups pa_widths pa_pairs ma_others ma_waiting le_resolved ex_levels ex_types ex_entryLevels ex_entryOverrides ex_entryIsolates fi_breaks fi_starts fi_extents fi_groups sh_levels sh_order : Nat → Int} (hX : tw_cx (tw_YC l D ad cI cZ) Z prog_5_method_3_code twR_le tw_Wg none 4 3) (hX96 : ∀ (le_types : Nat → Int) (le_partners : Nat → Int) (se_places : Nat → Int) (se_types : Nat → Int) (se_marks : Nat → Int) (se_count : Int) (se_embedding : Int) (se_beginning : Int) (se_end : Int) (br_partners : Nat → Int) (br_list : Nat → Int), X96 le_types le_partners se_places se_types se_marks se_count se_embedding se_beginning se_end br_partners br_list → tw_rn (tw_YC l D ad cI cZ) Z Post 96 [none, none, none] [] (tw_mC pa_kinds pa_groups pa_widths pa_pairs pa_size pa_base ma_others ma_waiting le_types le_partners le_resolved le_ofParagraph ex_levels ex_types ex_entryLevels ex_entryOverrides ex_entryIsolates ex_last ex_lostIsolates ex_lostEmbeddings ex_openIsolates se_places se_types se_marks se_count se_embedding se_beginning se_end br_partners br_list fi_breaks fi_starts fi_extents fi_count fi_groups sh_levels sh_order tl_measure tl_stale)) : ∀ (f : Nat) (v2 : Int) (le_types : Nat → Int) (le_partners : Nat → Int) (se_places : Nat → Int) (se_types : Nat → Int) (se_marks : Nat → Int) (se_count : Int) (se_embedding : Int) (se_beginning : Int) (se_end : Int) (br_partners : Nat → Int) (br_list : Nat → Int), twl_le_resolveSequences_32 X96 pa_kinds pa_pairs pa_size ma_others le_ofParagraph ex_levels ex_types f v2 le_types le_partners se_places se_types se_marks se_count se_embedding se_beginning se_end br_partners br_list → tw_rn (tw_YC l D ad cI cZ) Z Post 32 [some (.inr 6), some (.inr 1), some (.inl v2)] [] (tw_mC pa_kinds pa_groups pa_widths pa_pairs pa_size pa_base ma_others ma_waiting le_types le_partners le_resolved le_ofParagraph ex_levels ex_types ex_entryLevels ex_entryOverrides ex_entryIsolates ex_last ex_lostIsolates ex_lostEmbeddings ex_openIsolates se_places se_types se_marks se_count se_embedding se_beginning se_end br_partners br_list fi_breaks fi_starts fi_extents fi_count fi_groups sh_levels sh_order tl_measure tl_stale) := by
  intro f
  induction f with
  | zero => intro v2 le_types le_partners se_places se_types se_marks se_count se_embedding se_beginning se_end br_partners br_list h; rw [twl_le_resolveSequences_32] at h; exact h.elim
  | succ f ih =>
    intro v2 le_types le_partners se_places se_types se_marks se_count se_embedding se_beginning se_end br_partners br_list h
    rw [twl_le_resolveSequences_32] at h
    refine tw_iload_n hX twd_le_resolveSequences_32 rfl rfl ?_
    refine tw_aload_n hX twd_le_resolveSequences_33 rfl rfl ?_
    refine tw_get (kf := 4) hX twd_le_resolveSequences_34 twin_pa rfl (by decide) tww_118 rfl rfl rfl ?_
    refine tw_icmp_ge hX twd_le_resolveSequences_37 rfl (fun q36 => ?_) (fun q36 => ?_)
    · have h := h.1 q36
      refine tw_wk (L' := [none, none, none]) (tw_le_n (tw_le_n (tw_le_n tw_le_0))) ?_
      exact hX96 _ _ _ _ _ _ _ _ _ _ _ h
    · have h := h.2 q36
      refine tw_aload_n hX twd_le_resolveSequences_40 rfl rfl ?_
      refine tw_aload_n hX twd_le_resolveSequences_41 rfl rfl ?_
      refine tw_iload_n hX twd_le_resolveSequences_42 rfl rfl ?_
      refine tw_callV (As := [.inr 1, .inl v2]) (n := 2) hX twd_le_resolveSequences_43 tw_good tww_461 tww_458 tww_460 tww_11 tww_79 twk_le_beginsSequence rfl rfl ⟨by decide, by decide⟩ rfl (Nat.le_of_ble_eq_true rfl) (twc_le_beginsSequence h (fun z7 h => ?_))
      change tw_rn (tw_YC l D ad cI cZ) Z Post 46 [some (.inr 6), some (.inr 1), some (.inl v2)] [.inl z7] (tw_mC pa_kinds pa_groups pa_widths pa_pairs pa_size pa_base ma_others ma_waiting le_types le_partners le_resolved le_ofParagraph ex_levels ex_types ex_entryLevels ex_entryOverrides ex_entryIsolates ex_last ex_lostIsolates ex_lostEmbeddings ex_openIsolates se_places se_types se_marks se_count se_embedding se_beginning se_end br_partners br_list fi_breaks fi_starts fi_extents fi_count fi_groups sh_levels sh_order tl_measure tl_stale)
      have h := h (fun (x_8_le_types : Nat → Int) (x_9_le_partners : Nat → Int) (x_10_se_places : Nat → Int) (x_11_se_types : Nat → Int) (x_12_se_marks : Nat → Int) (x_13_se_count : Int) (x_14_se_embedding : Int) (x_15_se_beginning : Int) (x_16_se_end : Int) (x_17_br_partners : Nat → Int) (x_18_br_list : Nat → Int) => tw_rn (tw_YC l D ad cI cZ) Z Post 90 [some (.inr 6), some (.inr 1), some (.inl v2)] [] (tw_mC pa_kinds pa_groups pa_widths pa_pairs pa_size pa_base ma_others ma_waiting x_8_le_types x_9_le_partners le_resolved le_ofParagraph ex_levels ex_types ex_entryLevels ex_entryOverrides ex_entryIsolates ex_last ex_lostIsolates ex_lostEmbeddings ex_openIsolates x_10_se_places x_11_se_types x_12_se_marks x_13_se_count x_14_se_embedding x_15_se_beginning x_16_se_end x_17_br_partners x_18_br_list fi_breaks fi_starts fi_extents fi_count fi_groups sh_levels sh_order tl_measure tl_stale)) (by
        intro x_8_le_types x_9_le_partners x_10_se_places x_11_se_types x_12_se_marks x_13_se_count x_14_se_embedding x_15_se_beginning x_16_se_end x_17_br_partners x_18_br_list h
        obtain ⟨c20, h⟩ := h
        refine tw_iinc (L' := [some (.inr 6), some (.inr 1), some (.inl (v2 + 1))]) hX twd_le_resolveSequences_90 rfl (by decide) c20 rfl ?_
        refine tw_goto hX twd_le_resolveSequences_93 rfl ?_
        exact ih _ _ _ _ _ _ _ _ _ _ _ _ h)
      refine tw_if_eq hX twd_le_resolveSequences_46 rfl (fun q35 => ?_) (fun q35 => ?_)
      · have h := h.1 q35
        exact h
      · have h := h.2 q35
        refine tw_aload_n hX twd_le_resolveSequences_49 rfl rfl ?_
        refine tw_aload_n hX twd_le_resolveSequences_50 rfl rfl ?_
        refine tw_iload_n hX twd_le_resolveSequences_51 rfl rfl ?_
        refine tw_callV (As := [.inr 1, .inl v2]) (n := 2) hX twd_le_resolveSequences_52 tw_good tww_470 tww_467 tww_469 tww_13 tww_79 twk_le_gather rfl rfl ⟨by decide, by decide⟩ rfl (Nat.le_of_ble_eq_true rfl) (twc_le_gather h (fun m_21_se_places m_22_se_types m_23_se_count h => ?_))
        change tw_rn (tw_YC l D ad cI cZ) Z Post 55 [some (.inr 6), some (.inr 1), some (.inl v2)] [] (tw_mC pa_kinds pa_groups pa_widths pa_pairs pa_size pa_base ma_others ma_waiting le_types le_partners le_resolved le_ofParagraph ex_levels ex_types ex_entryLevels ex_entryOverrides ex_entryIsolates ex_last ex_lostIsolates ex_lostEmbeddings ex_openIsolates m_21_se_places m_22_se_types se_marks m_23_se_count se_embedding se_beginning se_end br_partners br_list fi_breaks fi_starts fi_extents fi_count fi_groups sh_levels sh_order tl_measure tl_stale)
        refine tw_aload_n hX twd_le_resolveSequences_55 rfl rfl ?_
        refine tw_aload_n hX twd_le_resolveSequences_56 rfl rfl ?_
        refine tw_callV (As := [.inr 1]) (n := 1) hX twd_le_resolveSequences_57 tw_good tww_483 tww_480 tww_482 tww_15 tww_79 twk_le_setSides rfl rfl ⟨by decide, by decide⟩ rfl (Nat.le_of_ble_eq_true rfl) (twc_le_setSides h (fun m_24_se_embedding m_25_se_beginning m_26_se_end h => ?_))
        change tw_rn (tw_YC l D ad cI cZ) Z Post 60 [some (.inr 6), some (.inr 1), some (.inl v2)] [] (tw_mC pa_kinds pa_groups pa_widths pa_pairs pa_size pa_base ma_others ma_waiting le_types le_partners le_resolved le_ofParagraph ex_levels ex_types ex_entryLevels ex_entryOverrides ex_entryIsolates ex_last ex_lostIsolates ex_lostEmbeddings ex_openIsolates m_21_se_places m_22_se_types se_marks m_23_se_count m_24_se_embedding m_25_se_beginning m_26_se_end br_partners br_list fi_breaks fi_starts fi_extents fi_count fi_groups sh_levels sh_order tl_measure tl_stale)
        refine tw_aload_n hX twd_le_resolveSequences_60 rfl rfl ?_
        refine tw_get (kf := 6) hX twd_le_resolveSequences_61 twin_le rfl (by decide) tww_264 rfl rfl rfl ?_
        refine tw_callV (As := []) (n := 0) hX twd_le_resolveSequences_64 tw_good tww_502 tww_499 tww_500 tww_501 tww_82 twk_se_resolveWeak rfl rfl ⟨by decide, by decide⟩ rfl (Nat.le_of_ble_eq_true rfl) (twc_se_resolveWeak h (fun m_27_se_types m_28_se_marks h => ?_))
        change tw_rn (tw_YC l D ad cI cZ) Z Post 67 [some (.inr 6), some (.inr 1), some (.inl v2)] [] (tw_mC pa_kinds pa_groups pa_widths pa_pairs pa_size pa_base ma_others ma_waiting le_types le_partners le_resolved le_ofParagraph ex_levels ex_types ex_entryLevels ex_entryOverrides ex_entryIsolates ex_last ex_lostIsolates ex_lostEmbeddings ex_openIsolates m_21_se_places m_27_se_types m_28_se_marks m_23_se_count m_24_se_embedding m_25_se_beginning m_26_se_end br_partners br_list fi_breaks fi_starts fi_extents fi_count fi_groups sh_levels sh_order tl_measure tl_stale)
        refine tw_aload_n hX twd_le_resolveSequences_67 rfl rfl ?_
        refine tw_get (kf := 7) hX twd_le_resolveSequences_68 twin_le rfl (by decide) tww_265 rfl rfl rfl ?_
        refine tw_aload_n hX twd_le_resolveSequences_71 rfl rfl ?_
        refine tw_aload_n hX twd_le_resolveSequences_72 rfl rfl ?_
        refine tw_get (kf := 6) hX twd_le_resolveSequences_73 twin_le rfl (by decide) tww_264 rfl rfl rfl ?_
        refine tw_callV (As := [.inr 1, .inr 19]) (n := 2) hX twd_le_resolveSequences_76 tw_good tww_533 tww_530 tww_531 tww_532 tww_83 twk_br_resolve rfl rfl ⟨by decide, by decide⟩ rfl (Nat.le_of_ble_eq_true rfl) (twc_br_resolve h (fun m_29_se_types m_30_br_partners m_31_br_list h => ?_))
        change tw_rn (tw_YC l D ad cI cZ) Z Post 79 [some (.inr 6), some (.inr 1), some (.inl v2)] [] (tw_mC pa_kinds pa_groups pa_widths pa_pairs pa_size pa_base ma_others ma_waiting le_types le_partners le_resolved le_ofParagraph ex_levels ex_types ex_entryLevels ex_entryOverrides ex_entryIsolates ex_last ex_lostIsolates ex_lostEmbeddings ex_openIsolates m_21_se_places m_29_se_types m_28_se_marks m_23_se_count m_24_se_embedding m_25_se_beginning m_26_se_end m_30_br_partners m_31_br_list fi_breaks fi_starts fi_extents fi_count fi_groups sh_levels sh_order tl_measure tl_stale)
        refine tw_aload_n hX twd_le_resolveSequences_79 rfl rfl ?_
        refine tw_get (kf := 6) hX twd_le_resolveSequences_80 twin_le rfl (by decide) tww_264 rfl rfl rfl ?_
        refine tw_callV (As := []) (n := 0) hX twd_le_resolveSequences_83 tw_good tww_565 tww_562 tww_563 tww_564 tww_82 twk_se_resolveNeutral rfl rfl ⟨by decide, by decide⟩ rfl (Nat.le_of_ble_eq_true rfl) (twc_se_resolveNeutral h (fun m_32_se_types h => ?_))
        change tw_rn (tw_YC l D ad cI cZ) Z Post 86 [some (.inr 6), some (.inr 1), some (.inl v2)] [] (tw_mC pa_kinds pa_groups pa_widths pa_pairs pa_size pa_base ma_others ma_waiting le_types le_partners le_resolved le_ofParagraph ex_levels ex_types ex_entryLevels ex_entryOverrides ex_entryIsolates ex_last ex_lostIsolates ex_lostEmbeddings ex_openIsolates m_21_se_places m_32_se_types m_28_se_marks m_23_se_count m_24_se_embedding m_25_se_beginning m_26_se_end m_30_br_partners m_31_br_list fi_breaks fi_starts fi_extents fi_count fi_groups sh_levels sh_order tl_measure tl_stale)
        refine tw_aload_n hX twd_le_resolveSequences_86 rfl rfl ?_
        refine tw_callV (As := []) (n := 0) hX twd_le_resolveSequences_87 tw_good tww_574 tww_571 tww_573 tww_31 tww_79 twk_le_keep rfl rfl ⟨by decide, by decide⟩ rfl (Nat.le_of_ble_eq_true rfl) (twc_le_keep h (fun m_33_le_types m_34_le_partners h => ?_))
        change tw_rn (tw_YC l D ad cI cZ) Z Post 90 [some (.inr 6), some (.inr 1), some (.inl v2)] [] (tw_mC pa_kinds pa_groups pa_widths pa_pairs pa_size pa_base ma_others ma_waiting m_33_le_types m_34_le_partners le_resolved le_ofParagraph ex_levels ex_types ex_entryLevels ex_entryOverrides ex_entryIsolates ex_last ex_lostIsolates ex_lostEmbeddings ex_openIsolates m_21_se_places m_32_se_types m_28_se_marks m_23_se_count m_24_se_embedding m_25_se_beginning m_26_se_end m_30_br_partners m_31_br_list fi_breaks fi_starts fi_extents fi_count fi_groups sh_levels sh_order tl_measure tl_stale)
        exact h
def tww_le_resolveSequences (pa_kinds : Nat → Int) (pa_pairs : Nat → Int) (pa_size : Int) (ma_others : Nat → Int) (le_types : Nat → Int) (le_partners : Nat → Int) (le_ofParagraph : Int) (ex_levels : Nat → Int) (ex_types : Nat → Int) (se_places : Nat → Int) (se_types : Nat → Int) (se_marks : Nat → Int) (se_count : Int) (se_embedding : Int) (se_beginning : Int) (se_end : Int) (br_partners : Nat → Int) (br_list : Nat → Int) (K : (Nat → Int) → (Nat → Int) → (Nat → Int) → (Nat → Int) → (Nat → Int) → Int → Int → Int → Int → (Nat → Int) → (Nat → Int) → Prop) : Prop :=
  (∃ f49 : Nat, twl_le_resolveSequences_2 (fun (y5_le_types : Nat → Int) (y6_le_partners : Nat → Int) =>
  (∃ f48 : Nat, twl_le_resolveSequences_32 (fun (y37_le_types : Nat → Int) (y38_le_partners : Nat → Int) (y39_se_places : Nat → Int) (y40_se_types : Nat → Int) (y41_se_marks : Nat → Int) (y42_se_count : Int) (y43_se_embedding : Int) (y44_se_beginning : Int) (y45_se_end : Int) (y46_br_partners : Nat → Int) (y47_br_list : Nat → Int) =>
    K y37_le_types y38_le_partners y39_se_places y40_se_types y41_se_marks y42_se_count y43_se_embedding y44_se_beginning y45_se_end y46_br_partners y47_br_list) pa_kinds pa_pairs pa_size ma_others le_ofParagraph ex_levels ex_types f48 0 y5_le_types y6_le_partners se_places se_types se_marks se_count se_embedding se_beginning se_end br_partners br_list)) pa_kinds pa_pairs pa_size ma_others le_ofParagraph ex_levels ex_types se_places se_types se_marks se_count se_embedding se_beginning se_end br_partners br_list f49 0 le_types le_partners)
set_option maxRecDepth 100000 in
set_option maxHeartbeats 4000000 in
theorem twc_le_resolveSequences {l : Launch} {D : va_G} {ad : Nat → Nat} {cI cZ : ClassId} {Post : tw_P} {K : (Nat → Int) → (Nat → Int) → (Nat → Int) → (Nat → Int) → (Nat → Int) → Int → Int → Int → Int → (Nat → Int) → (Nat → Int) → Prop} {pa_size pa_base le_ofParagraph ex_last ex_lostIsolates ex_lostEmbeddings ex_openIsolates se_count se_embedding se_beginning se_end fi_count tl_measure tl_stale : Int} {pa_kinds pa_groups pa_widths pa_pairs ma_others ma_waiting le_types le_partners le_resolved ex_levels ex_types ex_entryLevels ex_entryOverrides ex_entryIsolates se_places se_types se_marks br_partners br_list fi_breaks fi_starts fi_extents fi_groups sh_levels sh_order : Nat → Int} (h : tww_le_resolveSequences pa_kinds pa_pairs pa_size ma_others le_types le_partners le_ofParagraph ex_levels ex_types se_places se_types se_marks se_count se_embedding se_beginning se_end br_partners br_list K) (hK : ∀ (n_le_types : Nat → Int) (n_le_partners : Nat → Int) (n_se_places : Nat → Int) (n_se_types : Nat → Int) (n_se_marks : Nat → Int) (n_se_count : Int) (n_se_embedding : Int) (n_se_beginning : Int) (n_se_end : Int) (n_br_partners : Nat → Int) (n_br_list : Nat → Int), K n_le_types n_le_partners n_se_places n_se_types n_se_marks n_se_count n_se_embedding n_se_beginning n_se_end n_br_partners n_br_list → Post none (tw_mC pa_kinds pa_groups pa_widths pa_pairs pa_size pa_base ma_others ma_waiting n_le_types n_le_partners le_resolved le_ofParagraph ex_levels ex_types ex_entryLevels ex_entryOverrides ex_entryIsolates ex_last ex_lostIsolates ex_lostEmbeddings ex_openIsolates n_se_places n_se_types n_se_marks n_se_count n_se_embedding n_se_beginning n_se_end n_br_partners n_br_list fi_breaks fi_starts fi_extents fi_count fi_groups sh_levels sh_order tl_measure tl_stale)) : tw_ct (tw_YC l D ad cI cZ) twy_le_resolveSequences (Cond.code twy_le_resolveSequences prog_5_method_3_code 3 none :: tw_Wg) 4 [.inr 6, .inr 1] (tw_mC pa_kinds pa_groups pa_widths pa_pairs pa_size pa_base ma_others ma_waiting le_types le_partners le_resolved le_ofParagraph ex_levels ex_types ex_entryLevels ex_entryOverrides ex_entryIsolates ex_last ex_lostIsolates ex_lostEmbeddings ex_openIsolates se_places se_types se_marks se_count se_embedding se_beginning se_end br_partners br_list fi_breaks fi_starts fi_extents fi_count fi_groups sh_levels sh_order tl_measure tl_stale) Post := by
  refine tw_of (own := twR_le) (L0 := [some (.inr 6), some (.inr 1), none]) (by decide) rfl rfl (Nat.le_of_ble_eq_true rfl) (fun Z hX => ?_)
  unfold tww_le_resolveSequences at h
  refine tw_iconst hX twd_le_resolveSequences_0 ⟨by decide, by decide⟩ ?_
  refine tw_istore_n (L' := [some (.inr 6), some (.inr 1), some (.inl 0)]) hX twd_le_resolveSequences_1 rfl (by decide) rfl ?_
  obtain ⟨f49, h⟩ := h
  refine twt_le_resolveSequences_2 hX (fun y5_le_types y6_le_partners h => ?_) f49 _ _ _ h
  refine tw_iconst hX twd_le_resolveSequences_30 ⟨by decide, by decide⟩ ?_
  refine tw_istore_n (L' := [some (.inr 6), some (.inr 1), some (.inl 0)]) hX twd_le_resolveSequences_31 rfl (by decide) rfl ?_
  obtain ⟨f48, h⟩ := h
  refine twt_le_resolveSequences_32 hX (fun y37_le_types y38_le_partners y39_se_places y40_se_types y41_se_marks y42_se_count y43_se_embedding y44_se_beginning y45_se_end y46_br_partners y47_br_list h => ?_) f48 _ _ _ _ _ _ _ _ _ _ _ _ h
  exact tw_vret hX twd_le_resolveSequences_96 (hK _ _ _ _ _ _ _ _ _ _ _ h)
def two_le_raised (v0 v1 : Int) : Prop := ((two_tl_isOdd v0) ∧ (((twr_tl_isOdd v0) = 0 → ((¬ v1 = 0 → (((v1 = 1 → ((tw_rg (v0 + 1)))) ∧ (¬ v1 = 1 → ((tw_rg (v0 + 2))))))))) ∧ (¬ (twr_tl_isOdd v0) = 0 → ((¬ v1 = 1 → ((tw_rg (v0 + 1))))))))
def twr_le_raised (v0 v1 : Int) : Int := if (twr_tl_isOdd v0) = 0 then (if v1 = 0 then v0 else (if v1 = 1 then (v0 + 1) else (v0 + 2))) else (if v1 = 1 then v0 else (v0 + 1))
set_option maxRecDepth 100000 in
set_option maxHeartbeats 4000000 in
theorem twc_le_raised {l : Launch} {D : va_G} {ad : Nat → Nat} {cI cZ : ClassId} {Post : tw_P} {v0 v1 : Int} {pa_size pa_base le_ofParagraph ex_last ex_lostIsolates ex_lostEmbeddings ex_openIsolates se_count se_embedding se_beginning se_end fi_count tl_measure tl_stale : Int} {pa_kinds pa_groups pa_widths pa_pairs ma_others ma_waiting le_types le_partners le_resolved ex_levels ex_types ex_entryLevels ex_entryOverrides ex_entryIsolates se_places se_types se_marks br_partners br_list fi_breaks fi_starts fi_extents fi_groups sh_levels sh_order : Nat → Int} (h : two_le_raised v0 v1) (hK : ∀ (z : Int), z = twr_le_raised v0 v1 → Post (some z) (tw_mC pa_kinds pa_groups pa_widths pa_pairs pa_size pa_base ma_others ma_waiting le_types le_partners le_resolved le_ofParagraph ex_levels ex_types ex_entryLevels ex_entryOverrides ex_entryIsolates ex_last ex_lostIsolates ex_lostEmbeddings ex_openIsolates se_places se_types se_marks se_count se_embedding se_beginning se_end br_partners br_list fi_breaks fi_starts fi_extents fi_count fi_groups sh_levels sh_order tl_measure tl_stale)) : tw_ct (tw_YC l D ad cI cZ) twy_le_raised (Cond.code twy_le_raised prog_5_method_13_code 2 (some .int) :: tw_Wg) 1 [.inl v0, .inl v1] (tw_mC pa_kinds pa_groups pa_widths pa_pairs pa_size pa_base ma_others ma_waiting le_types le_partners le_resolved le_ofParagraph ex_levels ex_types ex_entryLevels ex_entryOverrides ex_entryIsolates ex_last ex_lostIsolates ex_lostEmbeddings ex_openIsolates se_places se_types se_marks se_count se_embedding se_beginning se_end br_partners br_list fi_breaks fi_starts fi_extents fi_count fi_groups sh_levels sh_order tl_measure tl_stale) Post := by
  refine tw_of (own := twR_le) (L0 := [some (.inl v0), some (.inl v1)]) (by decide) rfl rfl (Nat.le_of_ble_eq_true rfl) (fun Z hX => ?_)
  unfold two_le_raised at h
  refine tw_iload_n hX twd_le_raised_0 rfl rfl ?_
  obtain ⟨c1, h⟩ := h
  refine tw_callSN (As := [.inl v0]) (n := 1) hX twd_le_raised_1 tw_good tww_428 twn_8 tww_427 tww_77 twk_tl_isOdd ⟨by decide, by decide⟩ rfl (Nat.le_of_ble_eq_true rfl) (twc_tl_isOdd c1 (fun z2 e3 => ?_))
  subst e3
  change tw_rn (tw_YC l D ad cI cZ) Z Post 4 [some (.inl v0), some (.inl v1)] [.inl (twr_tl_isOdd v0)] (tw_mC pa_kinds pa_groups pa_widths pa_pairs pa_size pa_base ma_others ma_waiting le_types le_partners le_resolved le_ofParagraph ex_levels ex_types ex_entryLevels ex_entryOverrides ex_entryIsolates ex_last ex_lostIsolates ex_lostEmbeddings ex_openIsolates se_places se_types se_marks se_count se_embedding se_beginning se_end br_partners br_list fi_breaks fi_starts fi_extents fi_count fi_groups sh_levels sh_order tl_measure tl_stale)
  refine tw_if_eq hX twd_le_raised_4 rfl (fun q7 => ?_) (fun q7 => ?_)
  · have _tw := trivial
    have h := h.1 q7
    refine tw_iload_n hX twd_le_raised_20 rfl rfl ?_
    refine tw_if_ne hX twd_le_raised_21 rfl (fun q8 => ?_) (fun q8 => ?_)
    · have _tw := trivial
      have h := h q8
      refine tw_iload_n hX twd_le_raised_26 rfl rfl ?_
      refine tw_iconst hX twd_le_raised_27 ⟨by decide, by decide⟩ ?_
      refine tw_icmp_ne hX twd_le_raised_28 rfl (fun q9 => ?_) (fun q9 => ?_)
      · have _tw := trivial
        have h := h.2 q9
        refine tw_iload_n hX twd_le_raised_37 rfl rfl ?_
        refine tw_iconst hX twd_le_raised_38 ⟨by decide, by decide⟩ ?_
        have c4 := h
        refine tw_iadd hX twd_le_raised_39 c4 ?_
        exact tw_ret hX twd_le_raised_40 (hK _ (Eq.symm (Eq.trans (if_pos q7) (Eq.trans (if_neg q8) (if_neg q9)))))
      · have _tw := trivial
        have h := h.1 q9
        refine tw_iload_n hX twd_le_raised_31 rfl rfl ?_
        refine tw_iconst hX twd_le_raised_32 ⟨by decide, by decide⟩ ?_
        have c5 := h
        refine tw_iadd hX twd_le_raised_33 c5 ?_
        refine tw_goto hX twd_le_raised_34 rfl ?_
        exact tw_ret hX twd_le_raised_40 (hK _ (Eq.symm (Eq.trans (if_pos q7) (Eq.trans (if_neg q8) (if_pos q9)))))
    · have _tw := trivial
      refine tw_iload_n hX twd_le_raised_24 rfl rfl ?_
      exact tw_ret hX twd_le_raised_25 (hK _ (Eq.symm (Eq.trans (if_pos q7) (if_pos q8))))
  · have _tw := trivial
    have h := h.2 q7
    refine tw_iload_n hX twd_le_raised_7 rfl rfl ?_
    refine tw_iconst hX twd_le_raised_8 ⟨by decide, by decide⟩ ?_
    refine tw_icmp_ne hX twd_le_raised_9 rfl (fun q10 => ?_) (fun q10 => ?_)
    · have _tw := trivial
      have h := h q10
      refine tw_iload_n hX twd_le_raised_16 rfl rfl ?_
      refine tw_iconst hX twd_le_raised_17 ⟨by decide, by decide⟩ ?_
      have c6 := h
      refine tw_iadd hX twd_le_raised_18 c6 ?_
      exact tw_ret hX twd_le_raised_19 (hK _ (Eq.symm (Eq.trans (if_neg q7) (if_neg q10))))
    · have _tw := trivial
      refine tw_iload_n hX twd_le_raised_12 rfl rfl ?_
      refine tw_goto hX twd_le_raised_13 rfl ?_
      exact tw_ret hX twd_le_raised_19 (hK _ (Eq.symm (Eq.trans (if_neg q7) (if_pos q10))))
def twl_le_raise_7 (X59 : (Nat → Int) → Prop) (pa_kinds : Nat → Int) (pa_size : Int) (le_types : Nat → Int) (le_ofParagraph : Int) (ex_levels : Nat → Int) : Nat → Int → Int → (Nat → Int) → Prop
  | 0, _, _, _ => False
  | f + 1, v2, v3, le_resolved =>
    ((pa_size ≤ v3 →
    X59 le_resolved) ∧
    (¬ pa_size ≤ v3 →
    (0 ≤ v3 ∧ v3 < 64) ∧ ((((twr_tl_isHidden (pa_kinds (Int.toNat v3))) = 0 → ((0 ≤ v3 ∧ v3 < 64) ∧ (0 ≤ v3 ∧ v3 < 64) ∧ (two_le_raised (ex_levels (Int.toNat v3)) (le_types (Int.toNat v3)))))) ∧
      (∀ x9 : Int, x9 = (if (twr_tl_isHidden (pa_kinds (Int.toNat v3))) = 0 then (twr_le_raised (ex_levels (Int.toNat v3)) (le_types (Int.toNat v3))) else v2) →
      (0 ≤ v3 ∧ v3 < 64) ∧ (tw_rg (v3 + 1)) ∧ twl_le_raise_7 X59 pa_kinds pa_size le_types le_ofParagraph ex_levels f x9 (v3 + 1) (tw_up le_resolved (Int.toNat v3) x9)))))
set_option maxRecDepth 100000 in
set_option maxHeartbeats 4000000 in
theorem twt_le_raise_7 {l : Launch} {D : va_G} {ad : Nat → Nat} {cI cZ : ClassId} {Z : tw_Z} {Post : tw_P} {X59 : (Nat → Int) → Prop} {pa_size pa_base le_ofParagraph ex_last ex_lostIsolates ex_lostEmbeddings ex_openIsolates se_count se_embedding se_beginning se_end fi_count tl_measure tl_stale : Int} {pa_kinds pa_groups pa_widths pa_pairs ma_others ma_waiting le_types le_partners ex_levels ex_types ex_entryLevels ex_entryOverrides ex_entryIsolates se_places se_types se_marks br_partners br_list fi_breaks fi_starts fi_extents fi_groups sh_levels sh_order : Nat → Int} (hX : tw_cx (tw_YC l D ad cI cZ) Z prog_5_method_12_code twR_le tw_Wg none 2 4) (hX59 : ∀ (le_resolved : Nat → Int), X59 le_resolved → tw_rn (tw_YC l D ad cI cZ) Z Post 59 [none, none, none, none] [] (tw_mC pa_kinds pa_groups pa_widths pa_pairs pa_size pa_base ma_others ma_waiting le_types le_partners le_resolved le_ofParagraph ex_levels ex_types ex_entryLevels ex_entryOverrides ex_entryIsolates ex_last ex_lostIsolates ex_lostEmbeddings ex_openIsolates se_places se_types se_marks se_count se_embedding se_beginning se_end br_partners br_list fi_breaks fi_starts fi_extents fi_count fi_groups sh_levels sh_order tl_measure tl_stale)) : ∀ (f : Nat) (v2 : Int) (v3 : Int) (le_resolved : Nat → Int), twl_le_raise_7 X59 pa_kinds pa_size le_types le_ofParagraph ex_levels f v2 v3 le_resolved → tw_rn (tw_YC l D ad cI cZ) Z Post 7 [some (.inr 6), some (.inr 1), some (.inl v2), some (.inl v3)] [] (tw_mC pa_kinds pa_groups pa_widths pa_pairs pa_size pa_base ma_others ma_waiting le_types le_partners le_resolved le_ofParagraph ex_levels ex_types ex_entryLevels ex_entryOverrides ex_entryIsolates ex_last ex_lostIsolates ex_lostEmbeddings ex_openIsolates se_places se_types se_marks se_count se_embedding se_beginning se_end br_partners br_list fi_breaks fi_starts fi_extents fi_count fi_groups sh_levels sh_order tl_measure tl_stale) := by
  intro f
  induction f with
  | zero => intro v2 v3 le_resolved h; rw [twl_le_raise_7] at h; exact h.elim
  | succ f ih =>
    intro v2 v3 le_resolved h
    rw [twl_le_raise_7] at h
    refine tw_iload_n hX twd_le_raise_7 rfl rfl ?_
    refine tw_aload_n hX twd_le_raise_8 rfl rfl ?_
    refine tw_get (kf := 4) hX twd_le_raise_9 twin_pa rfl (by decide) tww_118 rfl rfl rfl ?_
    refine tw_icmp_ge hX twd_le_raise_12 rfl (fun q16 => ?_) (fun q16 => ?_)
    · have h := h.1 q16
      refine tw_wk (L' := [none, none, none, none]) (tw_le_n (tw_le_n (tw_le_n (tw_le_n tw_le_0)))) ?_
      exact hX59 _ h
    · have h := h.2 q16
      refine tw_aload_n hX twd_le_raise_15 rfl rfl ?_
      refine tw_get (kf := 0) hX twd_le_raise_16 twin_pa rfl (by decide) tww_106 rfl rfl rfl ?_
      refine tw_iload_n hX twd_le_raise_19 rfl rfl ?_
      obtain ⟨c1, h⟩ := h
      refine tw_iaload hX twd_le_raise_20 rfl c1 ?_
      refine tw_callSN (As := [.inl (pa_kinds (Int.toNat v3))]) (n := 1) hX twd_le_raise_21 tw_good tww_417 twn_4 tww_416 tww_77 twk_tl_isHidden ⟨by decide, by decide⟩ rfl (Nat.le_of_ble_eq_true rfl) (twc_tl_isHidden (fun z2 e3 => ?_))
      subst e3
      change tw_rn (tw_YC l D ad cI cZ) Z Post 24 [some (.inr 6), some (.inr 1), some (.inl v2), some (.inl v3)] [.inl (twr_tl_isHidden (pa_kinds (Int.toNat v3)))] (tw_mC pa_kinds pa_groups pa_widths pa_pairs pa_size pa_base ma_others ma_waiting le_types le_partners le_resolved le_ofParagraph ex_levels ex_types ex_entryLevels ex_entryOverrides ex_entryIsolates ex_last ex_lostIsolates ex_lostEmbeddings ex_openIsolates se_places se_types se_marks se_count se_embedding se_beginning se_end br_partners br_list fi_breaks fi_starts fi_extents fi_count fi_groups sh_levels sh_order tl_measure tl_stale)
      obtain ⟨o12, h⟩ := h
      have j13 : ∀ x9 : Int, x9 = (if (twr_tl_isHidden (pa_kinds (Int.toNat v3))) = 0 then (twr_le_raised (ex_levels (Int.toNat v3)) (le_types (Int.toNat v3))) else v2) → tw_rn (tw_YC l D ad cI cZ) Z Post 46 [some (.inr 6), some (.inr 1), some (.inl x9), some (.inl v3)] [] (tw_mC pa_kinds pa_groups pa_widths pa_pairs pa_size pa_base ma_others ma_waiting le_types le_partners le_resolved le_ofParagraph ex_levels ex_types ex_entryLevels ex_entryOverrides ex_entryIsolates ex_last ex_lostIsolates ex_lostEmbeddings ex_openIsolates se_places se_types se_marks se_count se_embedding se_beginning se_end br_partners br_list fi_breaks fi_starts fi_extents fi_count fi_groups sh_levels sh_order tl_measure tl_stale) := by
        intro x9 e14
        have h := h x9 e14
        refine tw_aload_n hX twd_le_raise_46 rfl rfl ?_
        refine tw_get (kf := 3) hX twd_le_raise_47 twin_le rfl (by decide) tww_257 rfl rfl rfl ?_
        refine tw_iload_n hX twd_le_raise_50 rfl rfl ?_
        refine tw_iload_n hX twd_le_raise_51 rfl rfl ?_
        obtain ⟨c10, h⟩ := h
        refine tw_iastore (mem' := (tw_mC pa_kinds pa_groups pa_widths pa_pairs pa_size pa_base ma_others ma_waiting le_types le_partners (tw_up le_resolved (Int.toNat v3) x9) le_ofParagraph ex_levels ex_types ex_entryLevels ex_entryOverrides ex_entryIsolates ex_last ex_lostIsolates ex_lostEmbeddings ex_openIsolates se_places se_types se_marks se_count se_embedding se_beginning se_end br_partners br_list fi_breaks fi_starts fi_extents fi_count fi_groups sh_levels sh_order tl_measure tl_stale)) hX twd_le_raise_52 rfl c10 rfl ?_
        obtain ⟨c11, h⟩ := h
        refine tw_iinc (L' := [some (.inr 6), some (.inr 1), some (.inl x9), some (.inl (v3 + 1))]) hX twd_le_raise_53 rfl (by decide) c11 rfl ?_
        refine tw_goto hX twd_le_raise_56 rfl ?_
        exact ih _ _ _ h
      refine tw_if_ne hX twd_le_raise_24 rfl (fun q15 => ?_) (fun q15 => ?_)
      · have _tw := trivial
        exact j13 _ (Eq.symm (if_neg q15))
      · have _tw := trivial
        have o12 := o12 q15
        refine tw_aload_n hX twd_le_raise_27 rfl rfl ?_
        refine tw_get (kf := 5) hX twd_le_raise_28 twin_le rfl (by decide) tww_263 rfl rfl rfl ?_
        refine tw_get (kf := 0) hX twd_le_raise_31 twin_ex rfl (by decide) tww_167 rfl rfl rfl ?_
        refine tw_iload_n hX twd_le_raise_34 rfl rfl ?_
        obtain ⟨c4, o12⟩ := o12
        refine tw_iaload hX twd_le_raise_35 rfl c4 ?_
        refine tw_aload_n hX twd_le_raise_36 rfl rfl ?_
        refine tw_get (kf := 1) hX twd_le_raise_37 twin_le rfl (by decide) tww_253 rfl rfl rfl ?_
        refine tw_iload_n hX twd_le_raise_40 rfl rfl ?_
        obtain ⟨c5, o12⟩ := o12
        refine tw_iaload hX twd_le_raise_41 rfl c5 ?_
        have c6 := o12
        refine tw_callS (As := [.inl (ex_levels (Int.toNat v3)), .inl (le_types (Int.toNat v3))]) (n := 2) hX twd_le_raise_42 tw_good tww_581 tww_579 tww_580 tww_79 twk_le_raised ⟨by decide, by decide⟩ rfl (Nat.le_of_ble_eq_true rfl) (twc_le_raised c6 (fun z7 e8 => ?_))
        subst e8
        change tw_rn (tw_YC l D ad cI cZ) Z Post 45 [some (.inr 6), some (.inr 1), some (.inl v2), some (.inl v3)] [.inl (twr_le_raised (ex_levels (Int.toNat v3)) (le_types (Int.toNat v3)))] (tw_mC pa_kinds pa_groups pa_widths pa_pairs pa_size pa_base ma_others ma_waiting le_types le_partners le_resolved le_ofParagraph ex_levels ex_types ex_entryLevels ex_entryOverrides ex_entryIsolates ex_last ex_lostIsolates ex_lostEmbeddings ex_openIsolates se_places se_types se_marks se_count se_embedding se_beginning se_end br_partners br_list fi_breaks fi_starts fi_extents fi_count fi_groups sh_levels sh_order tl_measure tl_stale)
        refine tw_istore_n (L' := [some (.inr 6), some (.inr 1), some (.inl (twr_le_raised (ex_levels (Int.toNat v3)) (le_types (Int.toNat v3)))), some (.inl v3)]) hX twd_le_raise_45 rfl (by decide) rfl ?_
        exact j13 _ (Eq.symm (if_pos q15))
def tww_le_raise (pa_kinds : Nat → Int) (pa_size : Int) (le_types : Nat → Int) (le_resolved : Nat → Int) (le_ofParagraph : Int) (ex_levels : Nat → Int) (K : (Nat → Int) → Prop) : Prop :=
  (∃ f18 : Nat, twl_le_raise_7 (fun (y17_le_resolved : Nat → Int) =>
  K y17_le_resolved) pa_kinds pa_size le_types le_ofParagraph ex_levels f18 le_ofParagraph 0 le_resolved)
set_option maxRecDepth 100000 in
set_option maxHeartbeats 4000000 in
theorem twc_le_raise {l : Launch} {D : va_G} {ad : Nat → Nat} {cI cZ : ClassId} {Post : tw_P} {K : (Nat → Int) → Prop} {pa_size pa_base le_ofParagraph ex_last ex_lostIsolates ex_lostEmbeddings ex_openIsolates se_count se_embedding se_beginning se_end fi_count tl_measure tl_stale : Int} {pa_kinds pa_groups pa_widths pa_pairs ma_others ma_waiting le_types le_partners le_resolved ex_levels ex_types ex_entryLevels ex_entryOverrides ex_entryIsolates se_places se_types se_marks br_partners br_list fi_breaks fi_starts fi_extents fi_groups sh_levels sh_order : Nat → Int} (h : tww_le_raise pa_kinds pa_size le_types le_resolved le_ofParagraph ex_levels K) (hK : ∀ (n_le_resolved : Nat → Int), K n_le_resolved → Post none (tw_mC pa_kinds pa_groups pa_widths pa_pairs pa_size pa_base ma_others ma_waiting le_types le_partners n_le_resolved le_ofParagraph ex_levels ex_types ex_entryLevels ex_entryOverrides ex_entryIsolates ex_last ex_lostIsolates ex_lostEmbeddings ex_openIsolates se_places se_types se_marks se_count se_embedding se_beginning se_end br_partners br_list fi_breaks fi_starts fi_extents fi_count fi_groups sh_levels sh_order tl_measure tl_stale)) : tw_ct (tw_YC l D ad cI cZ) twy_le_raise (Cond.code twy_le_raise prog_5_method_12_code 4 none :: tw_Wg) 2 [.inr 6, .inr 1] (tw_mC pa_kinds pa_groups pa_widths pa_pairs pa_size pa_base ma_others ma_waiting le_types le_partners le_resolved le_ofParagraph ex_levels ex_types ex_entryLevels ex_entryOverrides ex_entryIsolates ex_last ex_lostIsolates ex_lostEmbeddings ex_openIsolates se_places se_types se_marks se_count se_embedding se_beginning se_end br_partners br_list fi_breaks fi_starts fi_extents fi_count fi_groups sh_levels sh_order tl_measure tl_stale) Post := by
  refine tw_of (own := twR_le) (L0 := [some (.inr 6), some (.inr 1), none, none]) (by decide) rfl rfl (Nat.le_of_ble_eq_true rfl) (fun Z hX => ?_)
  unfold tww_le_raise at h
  refine tw_aload_n hX twd_le_raise_0 rfl rfl ?_
  refine tw_get (kf := 4) hX twd_le_raise_1 twin_le rfl (by decide) tww_260 rfl rfl rfl ?_
  refine tw_istore_n (L' := [some (.inr 6), some (.inr 1), some (.inl le_ofParagraph), none]) hX twd_le_raise_4 rfl (by decide) rfl ?_
  refine tw_iconst hX twd_le_raise_5 ⟨by decide, by decide⟩ ?_
  refine tw_istore_n (L' := [some (.inr 6), some (.inr 1), some (.inl le_ofParagraph), some (.inl 0)]) hX twd_le_raise_6 rfl (by decide) rfl ?_
  obtain ⟨f18, h⟩ := h
  refine twt_le_raise_7 hX (fun y17_le_resolved h => ?_) f18 _ _ _ h
  exact tw_vret hX twd_le_raise_59 (hK _ h)
def twl_fi_findGroups_4 (X43 : (Nat → Int) → Prop) (pa_kinds : Nat → Int) (pa_groups : Nat → Int) (pa_size : Int) : Nat → Int → Int → (Nat → Int) → Prop
  | 0, _, _, _ => False
  | f + 1, v2, v3, fi_groups =>
    ((pa_size ≤ v3 →
    X43 fi_groups) ∧
    (¬ pa_size ≤ v3 →
    (0 ≤ v3 ∧ v3 < 64) ∧ (((¬ (pa_kinds (Int.toNat v3)) = 8 → ((0 ≤ v3 ∧ v3 < 64)))) ∧
      (∀ x3 : Int, x3 = (if (pa_kinds (Int.toNat v3)) = 8 then v2 else (pa_groups (Int.toNat v3))) →
      (0 ≤ v3 ∧ v3 < 64) ∧ (tw_rg (v3 + 1)) ∧ twl_fi_findGroups_4 X43 pa_kinds pa_groups pa_size f x3 (v3 + 1) (tw_up fi_groups (Int.toNat v3) x3)))))
set_option maxRecDepth 100000 in
set_option maxHeartbeats 4000000 in
theorem twt_fi_findGroups_4 {l : Launch} {D : va_G} {ad : Nat → Nat} {cI cZ : ClassId} {Z : tw_Z} {Post : tw_P} {X43 : (Nat → Int) → Prop} {pa_size pa_base le_ofParagraph ex_last ex_lostIsolates ex_lostEmbeddings ex_openIsolates se_count se_embedding se_beginning se_end fi_count tl_measure tl_stale : Int} {pa_kinds pa_groups pa_widths pa_pairs ma_others ma_waiting le_types le_partners le_resolved ex_levels ex_types ex_entryLevels ex_entryOverrides ex_entryIsolates se_places se_types se_marks br_partners br_list fi_breaks fi_starts fi_extents sh_levels sh_order : Nat → Int} (hX : tw_cx (tw_YC l D ad cI cZ) Z prog_4_method_4_code twR_fi tw_Wg none 0 4) (hX43 : ∀ (fi_groups : Nat → Int), X43 fi_groups → tw_rn (tw_YC l D ad cI cZ) Z Post 43 [none, none, none, none] [] (tw_mC pa_kinds pa_groups pa_widths pa_pairs pa_size pa_base ma_others ma_waiting le_types le_partners le_resolved le_ofParagraph ex_levels ex_types ex_entryLevels ex_entryOverrides ex_entryIsolates ex_last ex_lostIsolates ex_lostEmbeddings ex_openIsolates se_places se_types se_marks se_count se_embedding se_beginning se_end br_partners br_list fi_breaks fi_starts fi_extents fi_count fi_groups sh_levels sh_order tl_measure tl_stale)) : ∀ (f : Nat) (v2 : Int) (v3 : Int) (fi_groups : Nat → Int), twl_fi_findGroups_4 X43 pa_kinds pa_groups pa_size f v2 v3 fi_groups → tw_rn (tw_YC l D ad cI cZ) Z Post 4 [some (.inr 26), some (.inr 1), some (.inl v2), some (.inl v3)] [] (tw_mC pa_kinds pa_groups pa_widths pa_pairs pa_size pa_base ma_others ma_waiting le_types le_partners le_resolved le_ofParagraph ex_levels ex_types ex_entryLevels ex_entryOverrides ex_entryIsolates ex_last ex_lostIsolates ex_lostEmbeddings ex_openIsolates se_places se_types se_marks se_count se_embedding se_beginning se_end br_partners br_list fi_breaks fi_starts fi_extents fi_count fi_groups sh_levels sh_order tl_measure tl_stale) := by
  intro f
  induction f with
  | zero => intro v2 v3 fi_groups h; rw [twl_fi_findGroups_4] at h; exact h.elim
  | succ f ih =>
    intro v2 v3 fi_groups h
    rw [twl_fi_findGroups_4] at h
    refine tw_iload_n hX twd_fi_findGroups_4 rfl rfl ?_
    refine tw_aload_n hX twd_fi_findGroups_5 rfl rfl ?_
    refine tw_get (kf := 4) hX twd_fi_findGroups_6 twin_pa rfl (by decide) tww_120 rfl rfl rfl ?_
    refine tw_icmp_ge hX twd_fi_findGroups_9 rfl (fun q10 => ?_) (fun q10 => ?_)
    · have h := h.1 q10
      refine tw_wk (L' := [none, none, none, none]) (tw_le_n (tw_le_n (tw_le_n (tw_le_n tw_le_0)))) ?_
      exact hX43 _ h
    · have h := h.2 q10
      refine tw_aload_n hX twd_fi_findGroups_12 rfl rfl ?_
      refine tw_get (kf := 0) hX twd_fi_findGroups_13 twin_pa rfl (by decide) tww_107 rfl rfl rfl ?_
      refine tw_iload_n hX twd_fi_findGroups_16 rfl rfl ?_
      obtain ⟨c1, h⟩ := h
      refine tw_iaload hX twd_fi_findGroups_17 rfl c1 ?_
      refine tw_bipush hX twd_fi_findGroups_18 (by decide +kernel) ⟨by decide, by decide⟩ ?_
      obtain ⟨o6, h⟩ := h
      have j7 : ∀ x3 : Int, x3 = (if (pa_kinds (Int.toNat v3)) = 8 then v2 else (pa_groups (Int.toNat v3))) → tw_rn (tw_YC l D ad cI cZ) Z Post 30 [some (.inr 26), some (.inr 1), some (.inl x3), some (.inl v3)] [] (tw_mC pa_kinds pa_groups pa_widths pa_pairs pa_size pa_base ma_others ma_waiting le_types le_partners le_resolved le_ofParagraph ex_levels ex_types ex_entryLevels ex_entryOverrides ex_entryIsolates ex_last ex_lostIsolates ex_lostEmbeddings ex_openIsolates se_places se_types se_marks se_count se_embedding se_beginning se_end br_partners br_list fi_breaks fi_starts fi_extents fi_count fi_groups sh_levels sh_order tl_measure tl_stale) := by
        intro x3 e8
        have h := h x3 e8
        refine tw_aload_n hX twd_fi_findGroups_30 rfl rfl ?_
        refine tw_get (kf := 4) hX twd_fi_findGroups_31 twin_fi rfl (by decide) tww_299 rfl rfl rfl ?_
        refine tw_iload_n hX twd_fi_findGroups_34 rfl rfl ?_
        refine tw_iload_n hX twd_fi_findGroups_35 rfl rfl ?_
        obtain ⟨c4, h⟩ := h
        refine tw_iastore (mem' := (tw_mC pa_kinds pa_groups pa_widths pa_pairs pa_size pa_base ma_others ma_waiting le_types le_partners le_resolved le_ofParagraph ex_levels ex_types ex_entryLevels ex_entryOverrides ex_entryIsolates ex_last ex_lostIsolates ex_lostEmbeddings ex_openIsolates se_places se_types se_marks se_count se_embedding se_beginning se_end br_partners br_list fi_breaks fi_starts fi_extents fi_count (tw_up fi_groups (Int.toNat v3) x3) sh_levels sh_order tl_measure tl_stale)) hX twd_fi_findGroups_36 rfl c4 rfl ?_
        obtain ⟨c5, h⟩ := h
        refine tw_iinc (L' := [some (.inr 26), some (.inr 1), some (.inl x3), some (.inl (v3 + 1))]) hX twd_fi_findGroups_37 rfl (by decide) c5 rfl ?_
        refine tw_goto hX twd_fi_findGroups_40 rfl ?_
        exact ih _ _ _ h
      refine tw_icmp_eq hX twd_fi_findGroups_20 rfl (fun q9 => ?_) (fun q9 => ?_)
      · have _tw := trivial
        exact j7 _ (Eq.symm (if_pos q9))
      · have _tw := trivial
        have o6 := o6 q9
        refine tw_aload_n hX twd_fi_findGroups_23 rfl rfl ?_
        refine tw_get (kf := 1) hX twd_fi_findGroups_24 twin_pa rfl (by decide) tww_109 rfl rfl rfl ?_
        refine tw_iload_n hX twd_fi_findGroups_27 rfl rfl ?_
        have c2 := o6
        refine tw_iaload hX twd_fi_findGroups_28 rfl c2 ?_
        refine tw_istore_n (L' := [some (.inr 26), some (.inr 1), some (.inl (pa_groups (Int.toNat v3))), some (.inl v3)]) hX twd_fi_findGroups_29 rfl (by decide) rfl ?_
        exact j7 _ (Eq.symm (if_neg q9))
def tww_fi_findGroups (pa_kinds : Nat → Int) (pa_groups : Nat → Int) (pa_size : Int) (fi_groups : Nat → Int) (K : (Nat → Int) → Prop) : Prop :=
  (∃ f12 : Nat, twl_fi_findGroups_4 (fun (y11_fi_groups : Nat → Int) =>
  K y11_fi_groups) pa_kinds pa_groups pa_size f12 0 0 fi_groups)
set_option maxRecDepth 100000 in
set_option maxHeartbeats 4000000 in
theorem twc_fi_findGroups {l : Launch} {D : va_G} {ad : Nat → Nat} {cI cZ : ClassId} {Post : tw_P} {K : (Nat → Int) → Prop} {pa_size pa_base le_ofParagraph ex_last ex_lostIsolates ex_lostEmbeddings ex_openIsolates se_count se_embedding se_beginning se_end fi_count tl_measure tl_stale : Int} {pa_kinds pa_groups pa_widths pa_pairs ma_others ma_waiting le_types le_partners le_resolved ex_levels ex_types ex_entryLevels ex_entryOverrides ex_entryIsolates se_places se_types se_marks br_partners br_list fi_breaks fi_starts fi_extents fi_groups sh_levels sh_order : Nat → Int} (h : tww_fi_findGroups pa_kinds pa_groups pa_size fi_groups K) (hK : ∀ (n_fi_groups : Nat → Int), K n_fi_groups → Post none (tw_mC pa_kinds pa_groups pa_widths pa_pairs pa_size pa_base ma_others ma_waiting le_types le_partners le_resolved le_ofParagraph ex_levels ex_types ex_entryLevels ex_entryOverrides ex_entryIsolates ex_last ex_lostIsolates ex_lostEmbeddings ex_openIsolates se_places se_types se_marks se_count se_embedding se_beginning se_end br_partners br_list fi_breaks fi_starts fi_extents fi_count n_fi_groups sh_levels sh_order tl_measure tl_stale)) : tw_ct (tw_YC l D ad cI cZ) twy_fi_findGroups (Cond.code twy_fi_findGroups prog_4_method_4_code 4 none :: tw_Wg) 0 [.inr 26, .inr 1] (tw_mC pa_kinds pa_groups pa_widths pa_pairs pa_size pa_base ma_others ma_waiting le_types le_partners le_resolved le_ofParagraph ex_levels ex_types ex_entryLevels ex_entryOverrides ex_entryIsolates ex_last ex_lostIsolates ex_lostEmbeddings ex_openIsolates se_places se_types se_marks se_count se_embedding se_beginning se_end br_partners br_list fi_breaks fi_starts fi_extents fi_count fi_groups sh_levels sh_order tl_measure tl_stale) Post := by
  refine tw_of (own := twR_fi) (L0 := [some (.inr 26), some (.inr 1), none, none]) (by decide) rfl rfl (Nat.le_of_ble_eq_true rfl) (fun Z hX => ?_)
  unfold tww_fi_findGroups at h
  refine tw_iconst hX twd_fi_findGroups_0 ⟨by decide, by decide⟩ ?_
  refine tw_istore_n (L' := [some (.inr 26), some (.inr 1), some (.inl 0), none]) hX twd_fi_findGroups_1 rfl (by decide) rfl ?_
  refine tw_iconst hX twd_fi_findGroups_2 ⟨by decide, by decide⟩ ?_
  refine tw_istore_n (L' := [some (.inr 26), some (.inr 1), some (.inl 0), some (.inl 0)]) hX twd_fi_findGroups_3 rfl (by decide) rfl ?_
  obtain ⟨f12, h⟩ := h
  refine twt_fi_findGroups_4 hX (fun y11_fi_groups h => ?_) f12 _ _ _ h
  exact tw_vret hX twd_fi_findGroups_43 (hK _ h)
def twr_fi_parts (v0 v1 v2 : Int) : Int := if v2 = 1 then 0 else (if v2 = 3 then 0 else (if v0 = 2 then 0 else (if v1 = 1 then 1 else (if v1 = 4 then 0 else (if v2 = 4 then 0 else (if v2 = 6 then 0 else (if v1 = 6 then 1 else (if v1 = 5 then 1 else (if v2 = 5 then 1 else 0)))))))))
set_option maxRecDepth 100000 in
set_option maxHeartbeats 4000000 in
theorem twc_fi_parts {l : Launch} {D : va_G} {ad : Nat → Nat} {cI cZ : ClassId} {Post : tw_P} {v0 v1 v2 : Int} {pa_size pa_base le_ofParagraph ex_last ex_lostIsolates ex_lostEmbeddings ex_openIsolates se_count se_embedding se_beginning se_end fi_count tl_measure tl_stale : Int} {pa_kinds pa_groups pa_widths pa_pairs ma_others ma_waiting le_types le_partners le_resolved ex_levels ex_types ex_entryLevels ex_entryOverrides ex_entryIsolates se_places se_types se_marks br_partners br_list fi_breaks fi_starts fi_extents fi_groups sh_levels sh_order : Nat → Int} (hK : ∀ (z : Int), z = twr_fi_parts v0 v1 v2 → Post (some z) (tw_mC pa_kinds pa_groups pa_widths pa_pairs pa_size pa_base ma_others ma_waiting le_types le_partners le_resolved le_ofParagraph ex_levels ex_types ex_entryLevels ex_entryOverrides ex_entryIsolates ex_last ex_lostIsolates ex_lostEmbeddings ex_openIsolates se_places se_types se_marks se_count se_embedding se_beginning se_end br_partners br_list fi_breaks fi_starts fi_extents fi_count fi_groups sh_levels sh_order tl_measure tl_stale)) : tw_ct (tw_YC l D ad cI cZ) twy_fi_parts (Cond.code twy_fi_parts prog_4_method_6_code 3 (some .boolean) :: tw_Wg) 0 [.inl v0, .inl v1, .inl v2] (tw_mC pa_kinds pa_groups pa_widths pa_pairs pa_size pa_base ma_others ma_waiting le_types le_partners le_resolved le_ofParagraph ex_levels ex_types ex_entryLevels ex_entryOverrides ex_entryIsolates ex_last ex_lostIsolates ex_lostEmbeddings ex_openIsolates se_places se_types se_marks se_count se_embedding se_beginning se_end br_partners br_list fi_breaks fi_starts fi_extents fi_count fi_groups sh_levels sh_order tl_measure tl_stale) Post := by
  refine tw_of (own := twR_fi) (L0 := [some (.inl v0), some (.inl v1), some (.inl v2)]) (by decide) rfl rfl (Nat.le_of_ble_eq_true rfl) (fun Z hX => ?_)
  refine tw_iload_n hX twd_fi_parts_0 rfl rfl ?_
  refine tw_iconst hX twd_fi_parts_1 ⟨by decide, by decide⟩ ?_
  refine tw_icmp_eq hX twd_fi_parts_2 rfl (fun q1 => ?_) (fun q1 => ?_)
  · have _tw := trivial
    refine tw_iconst hX twd_fi_parts_15 ⟨by decide, by decide⟩ ?_
    exact tw_zret hX twd_fi_parts_16 ⟨by decide, by decide⟩ (hK _ (Eq.symm (if_pos q1)))
  · have _tw := trivial
    refine tw_iload_n hX twd_fi_parts_5 rfl rfl ?_
    refine tw_iconst hX twd_fi_parts_6 ⟨by decide, by decide⟩ ?_
    refine tw_icmp_eq hX twd_fi_parts_7 rfl (fun q2 => ?_) (fun q2 => ?_)
    · have _tw := trivial
      refine tw_iconst hX twd_fi_parts_15 ⟨by decide, by decide⟩ ?_
      exact tw_zret hX twd_fi_parts_16 ⟨by decide, by decide⟩ (hK _ (Eq.symm (Eq.trans (if_neg q1) (if_pos q2))))
    · have _tw := trivial
      refine tw_iload_n hX twd_fi_parts_10 rfl rfl ?_
      refine tw_iconst hX twd_fi_parts_11 ⟨by decide, by decide⟩ ?_
      refine tw_icmp_ne hX twd_fi_parts_12 rfl (fun q3 => ?_) (fun q3 => ?_)
      · have _tw := trivial
        refine tw_iload_n hX twd_fi_parts_17 rfl rfl ?_
        refine tw_iconst hX twd_fi_parts_18 ⟨by decide, by decide⟩ ?_
        refine tw_icmp_ne hX twd_fi_parts_19 rfl (fun q4 => ?_) (fun q4 => ?_)
        · have _tw := trivial
          refine tw_iload_n hX twd_fi_parts_24 rfl rfl ?_
          refine tw_iconst hX twd_fi_parts_25 ⟨by decide, by decide⟩ ?_
          refine tw_icmp_eq hX twd_fi_parts_26 rfl (fun q5 => ?_) (fun q5 => ?_)
          · have _tw := trivial
            refine tw_iconst hX twd_fi_parts_40 ⟨by decide, by decide⟩ ?_
            exact tw_zret hX twd_fi_parts_41 ⟨by decide, by decide⟩ (hK _ (Eq.symm (Eq.trans (if_neg q1) (Eq.trans (if_neg q2) (Eq.trans (if_neg q3) (Eq.trans (if_neg q4) (if_pos q5)))))))
          · have _tw := trivial
            refine tw_iload_n hX twd_fi_parts_29 rfl rfl ?_
            refine tw_iconst hX twd_fi_parts_30 ⟨by decide, by decide⟩ ?_
            refine tw_icmp_eq hX twd_fi_parts_31 rfl (fun q6 => ?_) (fun q6 => ?_)
            · have _tw := trivial
              refine tw_iconst hX twd_fi_parts_40 ⟨by decide, by decide⟩ ?_
              exact tw_zret hX twd_fi_parts_41 ⟨by decide, by decide⟩ (hK _ (Eq.symm (Eq.trans (if_neg q1) (Eq.trans (if_neg q2) (Eq.trans (if_neg q3) (Eq.trans (if_neg q4) (Eq.trans (if_neg q5) (if_pos q6))))))))
            · have _tw := trivial
              refine tw_iload_n hX twd_fi_parts_34 rfl rfl ?_
              refine tw_bipush hX twd_fi_parts_35 (by decide +kernel) ⟨by decide, by decide⟩ ?_
              refine tw_icmp_ne hX twd_fi_parts_37 rfl (fun q7 => ?_) (fun q7 => ?_)
              · have _tw := trivial
                refine tw_iload_n hX twd_fi_parts_42 rfl rfl ?_
                refine tw_bipush hX twd_fi_parts_43 (by decide +kernel) ⟨by decide, by decide⟩ ?_
                refine tw_icmp_eq hX twd_fi_parts_45 rfl (fun q8 => ?_) (fun q8 => ?_)
                · have _tw := trivial
                  refine tw_iconst hX twd_fi_parts_58 ⟨by decide, by decide⟩ ?_
                  refine tw_goto hX twd_fi_parts_59 rfl ?_
                  exact tw_zret hX twd_fi_parts_63 ⟨by decide, by decide⟩ (hK _ (Eq.symm (Eq.trans (if_neg q1) (Eq.trans (if_neg q2) (Eq.trans (if_neg q3) (Eq.trans (if_neg q4) (Eq.trans (if_neg q5) (Eq.trans (if_neg q6) (Eq.trans (if_neg q7) (if_pos q8))))))))))
                · have _tw := trivial
                  refine tw_iload_n hX twd_fi_parts_48 rfl rfl ?_
                  refine tw_iconst hX twd_fi_parts_49 ⟨by decide, by decide⟩ ?_
                  refine tw_icmp_eq hX twd_fi_parts_50 rfl (fun q9 => ?_) (fun q9 => ?_)
                  · have _tw := trivial
                    refine tw_iconst hX twd_fi_parts_58 ⟨by decide, by decide⟩ ?_
                    refine tw_goto hX twd_fi_parts_59 rfl ?_
                    exact tw_zret hX twd_fi_parts_63 ⟨by decide, by decide⟩ (hK _ (Eq.symm (Eq.trans (if_neg q1) (Eq.trans (if_neg q2) (Eq.trans (if_neg q3) (Eq.trans (if_neg q4) (Eq.trans (if_neg q5) (Eq.trans (if_neg q6) (Eq.trans (if_neg q7) (Eq.trans (if_neg q8) (if_pos q9)))))))))))
                  · have _tw := trivial
                    refine tw_iload_n hX twd_fi_parts_53 rfl rfl ?_
                    refine tw_iconst hX twd_fi_parts_54 ⟨by decide, by decide⟩ ?_
                    refine tw_icmp_ne hX twd_fi_parts_55 rfl (fun q10 => ?_) (fun q10 => ?_)
                    · have _tw := trivial
                      refine tw_iconst hX twd_fi_parts_62 ⟨by decide, by decide⟩ ?_
                      exact tw_zret hX twd_fi_parts_63 ⟨by decide, by decide⟩ (hK _ (Eq.symm (Eq.trans (if_neg q1) (Eq.trans (if_neg q2) (Eq.trans (if_neg q3) (Eq.trans (if_neg q4) (Eq.trans (if_neg q5) (Eq.trans (if_neg q6) (Eq.trans (if_neg q7) (Eq.trans (if_neg q8) (Eq.trans (if_neg q9) (if_neg q10))))))))))))
                    · have _tw := trivial
                      refine tw_iconst hX twd_fi_parts_58 ⟨by decide, by decide⟩ ?_
                      refine tw_goto hX twd_fi_parts_59 rfl ?_
                      exact tw_zret hX twd_fi_parts_63 ⟨by decide, by decide⟩ (hK _ (Eq.symm (Eq.trans (if_neg q1) (Eq.trans (if_neg q2) (Eq.trans (if_neg q3) (Eq.trans (if_neg q4) (Eq.trans (if_neg q5) (Eq.trans (if_neg q6) (Eq.trans (if_neg q7) (Eq.trans (if_neg q8) (Eq.trans (if_neg q9) (if_pos q10))))))))))))
              · have _tw := trivial
                refine tw_iconst hX twd_fi_parts_40 ⟨by decide, by decide⟩ ?_
                exact tw_zret hX twd_fi_parts_41 ⟨by decide, by decide⟩ (hK _ (Eq.symm (Eq.trans (if_neg q1) (Eq.trans (if_neg q2) (Eq.trans (if_neg q3) (Eq.trans (if_neg q4) (Eq.trans (if_neg q5) (Eq.trans (if_neg q6) (if_pos q7)))))))))
        · have _tw := trivial
          refine tw_iconst hX twd_fi_parts_22 ⟨by decide, by decide⟩ ?_
          exact tw_zret hX twd_fi_parts_23 ⟨by decide, by decide⟩ (hK _ (Eq.symm (Eq.trans (if_neg q1) (Eq.trans (if_neg q2) (Eq.trans (if_neg q3) (if_pos q4))))))
      · have _tw := trivial
        refine tw_iconst hX twd_fi_parts_15 ⟨by decide, by decide⟩ ?_
        exact tw_zret hX twd_fi_parts_16 ⟨by decide, by decide⟩ (hK _ (Eq.symm (Eq.trans (if_neg q1) (Eq.trans (if_neg q2) (if_pos q3)))))
def twl_fi_findBreaks_4 (X94 : (Nat → Int) → Prop) (pa_kinds : Nat → Int) (pa_size : Int) (fi_groups : Nat → Int) : Nat → Int → Int → (Nat → Int) → Prop
  | 0, _, _, _ => False
  | f + 1, v2, v3, fi_breaks =>
    ((pa_size ≤ v3 →
    X94 fi_breaks) ∧
    (¬ pa_size ≤ v3 →
    (∀ J2 : Int → Prop, (∀ (x1 : Int), ((∀ J4 : Int → Prop, (∀ (x3 : Int), ((0 ≤ v3 ∧ v3 < 64) ∧ (0 ≤ x3 ∧ x3 ≤ 1) ∧ (0 ≤ v3 ∧ v3 < 64) ∧ (((¬ (fi_groups (Int.toNat v3)) = 1 → ((0 ≤ v3 ∧ v3 < 64)))) ∧
          (∀ x9 : Int, x9 = (if (fi_groups (Int.toNat v3)) = 1 then v2 else (fi_groups (Int.toNat v3))) →
          (tw_rg (v3 + 1)) ∧ twl_fi_findBreaks_4 X94 pa_kinds pa_size fi_groups f x9 (v3 + 1) (tw_up fi_breaks (Int.toNat v3) x3)))) → J4 x3) →
        ∀ J15 : Prop, ((J4 0) → J15) →
        ((x1 = 0 →
        J15) ∧
        (¬ x1 = 0 →
        (tw_rg (v3 - 1)) ∧ (0 ≤ (v3 - 1) ∧ (v3 - 1) < 64) ∧ (0 ≤ v3 ∧ v3 < 64) ∧ (((twr_fi_parts v2 (fi_groups (Int.toNat (v3 - 1))) (fi_groups (Int.toNat v3))) = 0 →
          J15) ∧
          (¬ (twr_fi_parts v2 (fi_groups (Int.toNat (v3 - 1))) (fi_groups (Int.toNat v3))) = 0 →
          J4 1)))))) → J2 x1) →
      ∀ J23 : Prop, ((J2 0) → J23) →
      ((v3 ≤ 0 →
      J23) ∧
      (¬ v3 ≤ 0 →
      (0 ≤ v3 ∧ v3 < 64) ∧ (((pa_kinds (Int.toNat v3)) = 8 →
        J23) ∧
        (¬ (pa_kinds (Int.toNat v3)) = 8 →
        J2 1)))))))
set_option maxRecDepth 100000 in
set_option maxHeartbeats 4000000 in
theorem twt_fi_findBreaks_4 {l : Launch} {D : va_G} {ad : Nat → Nat} {cI cZ : ClassId} {Z : tw_Z} {Post : tw_P} {X94 : (Nat → Int) → Prop} {pa_size pa_base le_ofParagraph ex_last ex_lostIsolates ex_lostEmbeddings ex_openIsolates se_count se_embedding se_beginning se_end fi_count tl_measure tl_stale : Int} {pa_kinds pa_groups pa_widths pa_pairs ma_others ma_waiting le_types le_partners le_resolved ex_levels ex_types ex_entryLevels ex_entryOverrides ex_entryIsolates se_places se_types se_marks br_partners br_list fi_starts fi_extents fi_groups sh_levels sh_order : Nat → Int} (hX : tw_cx (tw_YC l D ad cI cZ) Z prog_4_method_5_code twR_fi tw_Wg none 1 5) (hX94 : ∀ (fi_breaks : Nat → Int), X94 fi_breaks → tw_rn (tw_YC l D ad cI cZ) Z Post 94 [none, none, none, none, none] [] (tw_mC pa_kinds pa_groups pa_widths pa_pairs pa_size pa_base ma_others ma_waiting le_types le_partners le_resolved le_ofParagraph ex_levels ex_types ex_entryLevels ex_entryOverrides ex_entryIsolates ex_last ex_lostIsolates ex_lostEmbeddings ex_openIsolates se_places se_types se_marks se_count se_embedding se_beginning se_end br_partners br_list fi_breaks fi_starts fi_extents fi_count fi_groups sh_levels sh_order tl_measure tl_stale)) : ∀ (f : Nat) (v2 : Int) (v3 : Int) (fi_breaks : Nat → Int), twl_fi_findBreaks_4 X94 pa_kinds pa_size fi_groups f v2 v3 fi_breaks → tw_rn (tw_YC l D ad cI cZ) Z Post 4 [some (.inr 26), some (.inr 1), some (.inl v2), some (.inl v3), none] [] (tw_mC pa_kinds pa_groups pa_widths pa_pairs pa_size pa_base ma_others ma_waiting le_types le_partners le_resolved le_ofParagraph ex_levels ex_types ex_entryLevels ex_entryOverrides ex_entryIsolates ex_last ex_lostIsolates ex_lostEmbeddings ex_openIsolates se_places se_types se_marks se_count se_embedding se_beginning se_end br_partners br_list fi_breaks fi_starts fi_extents fi_count fi_groups sh_levels sh_order tl_measure tl_stale) := by
  intro f
  induction f with
  | zero => intro v2 v3 fi_breaks h; rw [twl_fi_findBreaks_4] at h; exact h.elim
  | succ f ih =>
    intro v2 v3 fi_breaks h
    rw [twl_fi_findBreaks_4] at h
    refine tw_iload_n hX twd_fi_findBreaks_4 rfl rfl ?_
    refine tw_aload_n hX twd_fi_findBreaks_5 rfl rfl ?_
    refine tw_get (kf := 4) hX twd_fi_findBreaks_6 twin_pa rfl (by decide) tww_120 rfl rfl rfl ?_
    refine tw_icmp_ge hX twd_fi_findBreaks_9 rfl (fun q27 => ?_) (fun q27 => ?_)
    · have h := h.1 q27
      refine tw_wk (L' := [none, none, none, none, none]) (tw_le_n (tw_le_n (tw_le_n (tw_le_n (tw_le_n tw_le_0))))) ?_
      exact hX94 _ h
    · have h := h.2 q27
      refine tw_iload_n hX twd_fi_findBreaks_12 rfl rfl ?_
      have h := h (fun (x1 : Int) => tw_rn (tw_YC l D ad cI cZ) Z Post 32 [some (.inr 26), some (.inr 1), some (.inl v2), some (.inl v3), none] [.inl x1] (tw_mC pa_kinds pa_groups pa_widths pa_pairs pa_size pa_base ma_others ma_waiting le_types le_partners le_resolved le_ofParagraph ex_levels ex_types ex_entryLevels ex_entryOverrides ex_entryIsolates ex_last ex_lostIsolates ex_lostEmbeddings ex_openIsolates se_places se_types se_marks se_count se_embedding se_beginning se_end br_partners br_list fi_breaks fi_starts fi_extents fi_count fi_groups sh_levels sh_order tl_measure tl_stale)) (by
        intro x1 h
        refine tw_istore (L' := [some (.inr 26), some (.inr 1), some (.inl v2), some (.inl v3), some (.inl x1)]) hX twd_fi_findBreaks_32 (by decide) rfl ?_
        refine tw_aload_n hX twd_fi_findBreaks_34 rfl rfl ?_
        refine tw_get (kf := 0) hX twd_fi_findBreaks_35 twin_fi rfl (by decide) tww_289 rfl rfl rfl ?_
        refine tw_iload_n hX twd_fi_findBreaks_38 rfl rfl ?_
        refine tw_iload hX twd_fi_findBreaks_39 rfl ?_
        have h := h (fun (x3 : Int) => tw_rn (tw_YC l D ad cI cZ) Z Post 70 [some (.inr 26), some (.inr 1), some (.inl v2), some (.inl v3), none] [.inl x3, .inl v3, .inr 27] (tw_mC pa_kinds pa_groups pa_widths pa_pairs pa_size pa_base ma_others ma_waiting le_types le_partners le_resolved le_ofParagraph ex_levels ex_types ex_entryLevels ex_entryOverrides ex_entryIsolates ex_last ex_lostIsolates ex_lostEmbeddings ex_openIsolates se_places se_types se_marks se_count se_embedding se_beginning se_end br_partners br_list fi_breaks fi_starts fi_extents fi_count fi_groups sh_levels sh_order tl_measure tl_stale)) (by
          intro x3 h
          obtain ⟨c5, h⟩ := h
          obtain ⟨c6, h⟩ := h
          refine tw_bastore (mem' := (tw_mC pa_kinds pa_groups pa_widths pa_pairs pa_size pa_base ma_others ma_waiting le_types le_partners le_resolved le_ofParagraph ex_levels ex_types ex_entryLevels ex_entryOverrides ex_entryIsolates ex_last ex_lostIsolates ex_lostEmbeddings ex_openIsolates se_places se_types se_marks se_count se_embedding se_beginning se_end br_partners br_list (tw_up fi_breaks (Int.toNat v3) x3) fi_starts fi_extents fi_count fi_groups sh_levels sh_order tl_measure tl_stale)) hX twd_fi_findBreaks_70 rfl c5 c6 rfl ?_
          refine tw_aload_n hX twd_fi_findBreaks_71 rfl rfl ?_
          refine tw_get (kf := 4) hX twd_fi_findBreaks_72 twin_fi rfl (by decide) tww_299 rfl rfl rfl ?_
          refine tw_iload_n hX twd_fi_findBreaks_75 rfl rfl ?_
          obtain ⟨c7, h⟩ := h
          refine tw_iaload hX twd_fi_findBreaks_76 rfl c7 ?_
          refine tw_iconst hX twd_fi_findBreaks_77 ⟨by decide, by decide⟩ ?_
          obtain ⟨o11, h⟩ := h
          have j12 : ∀ x9 : Int, x9 = (if (fi_groups (Int.toNat v3)) = 1 then v2 else (fi_groups (Int.toNat v3))) → tw_rn (tw_YC l D ad cI cZ) Z Post 88 [some (.inr 26), some (.inr 1), some (.inl x9), some (.inl v3), none] [] (tw_mC pa_kinds pa_groups pa_widths pa_pairs pa_size pa_base ma_others ma_waiting le_types le_partners le_resolved le_ofParagraph ex_levels ex_types ex_entryLevels ex_entryOverrides ex_entryIsolates ex_last ex_lostIsolates ex_lostEmbeddings ex_openIsolates se_places se_types se_marks se_count se_embedding se_beginning se_end br_partners br_list (tw_up fi_breaks (Int.toNat v3) x3) fi_starts fi_extents fi_count fi_groups sh_levels sh_order tl_measure tl_stale) := by
            intro x9 e13
            have h := h x9 e13
            obtain ⟨c10, h⟩ := h
            refine tw_iinc (L' := [some (.inr 26), some (.inr 1), some (.inl x9), some (.inl (v3 + 1)), none]) hX twd_fi_findBreaks_88 rfl (by decide) c10 rfl ?_
            refine tw_goto hX twd_fi_findBreaks_91 rfl ?_
            exact ih _ _ _ h
          refine tw_icmp_eq hX twd_fi_findBreaks_78 rfl (fun q14 => ?_) (fun q14 => ?_)
          · have _tw := trivial
            exact j12 _ (Eq.symm (if_pos q14))
          · have _tw := trivial
            have o11 := o11 q14
            refine tw_aload_n hX twd_fi_findBreaks_81 rfl rfl ?_
            refine tw_get (kf := 4) hX twd_fi_findBreaks_82 twin_fi rfl (by decide) tww_299 rfl rfl rfl ?_
            refine tw_iload_n hX twd_fi_findBreaks_85 rfl rfl ?_
            have c8 := o11
            refine tw_iaload hX twd_fi_findBreaks_86 rfl c8 ?_
            refine tw_istore_n (L' := [some (.inr 26), some (.inr 1), some (.inl (fi_groups (Int.toNat v3))), some (.inl v3), none]) hX twd_fi_findBreaks_87 rfl (by decide) rfl ?_
            exact j12 _ (Eq.symm (if_neg q14)))
        have h := h (tw_rn (tw_YC l D ad cI cZ) Z Post 69 [some (.inr 26), some (.inr 1), some (.inl v2), some (.inl v3), none] [.inl v3, .inr 27] (tw_mC pa_kinds pa_groups pa_widths pa_pairs pa_size pa_base ma_others ma_waiting le_types le_partners le_resolved le_ofParagraph ex_levels ex_types ex_entryLevels ex_entryOverrides ex_entryIsolates ex_last ex_lostIsolates ex_lostEmbeddings ex_openIsolates se_places se_types se_marks se_count se_embedding se_beginning se_end br_partners br_list fi_breaks fi_starts fi_extents fi_count fi_groups sh_levels sh_order tl_measure tl_stale)) (by
          intro  h
          refine tw_iconst hX twd_fi_findBreaks_69 ⟨by decide, by decide⟩ ?_
          exact h)
        refine tw_if_eq hX twd_fi_findBreaks_41 rfl (fun q22 => ?_) (fun q22 => ?_)
        · have h := h.1 q22
          refine tw_wk (L' := [some (.inr 26), some (.inr 1), some (.inl v2), some (.inl v3), none]) (tw_le_s (tw_le_s (tw_le_s (tw_le_s (tw_le_n tw_le_0))))) ?_
          exact h
        · have h := h.2 q22
          refine tw_iload_n hX twd_fi_findBreaks_44 rfl rfl ?_
          refine tw_aload_n hX twd_fi_findBreaks_45 rfl rfl ?_
          refine tw_get (kf := 4) hX twd_fi_findBreaks_46 twin_fi rfl (by decide) tww_299 rfl rfl rfl ?_
          refine tw_iload_n hX twd_fi_findBreaks_49 rfl rfl ?_
          refine tw_iconst hX twd_fi_findBreaks_50 ⟨by decide, by decide⟩ ?_
          obtain ⟨c16, h⟩ := h
          refine tw_isub hX twd_fi_findBreaks_51 c16 ?_
          obtain ⟨c17, h⟩ := h
          refine tw_iaload hX twd_fi_findBreaks_52 rfl c17 ?_
          refine tw_aload_n hX twd_fi_findBreaks_53 rfl rfl ?_
          refine tw_get (kf := 4) hX twd_fi_findBreaks_54 twin_fi rfl (by decide) tww_299 rfl rfl rfl ?_
          refine tw_iload_n hX twd_fi_findBreaks_57 rfl rfl ?_
          obtain ⟨c18, h⟩ := h
          refine tw_iaload hX twd_fi_findBreaks_58 rfl c18 ?_
          refine tw_callS (As := [.inl v2, .inl (fi_groups (Int.toNat (v3 - 1))), .inl (fi_groups (Int.toNat v3))]) (n := 3) hX twd_fi_findBreaks_59 tw_good tww_597 tww_595 tww_596 tww_84 twk_fi_parts ⟨by decide, by decide⟩ rfl (Nat.le_of_ble_eq_true rfl) (twc_fi_parts (fun z19 e20 => ?_))
          subst e20
          change tw_rn (tw_YC l D ad cI cZ) Z Post 62 [some (.inr 26), some (.inr 1), some (.inl v2), some (.inl v3), some (.inl x1)] [.inl (twr_fi_parts v2 (fi_groups (Int.toNat (v3 - 1))) (fi_groups (Int.toNat v3))), .inl v3, .inr 27] (tw_mC pa_kinds pa_groups pa_widths pa_pairs pa_size pa_base ma_others ma_waiting le_types le_partners le_resolved le_ofParagraph ex_levels ex_types ex_entryLevels ex_entryOverrides ex_entryIsolates ex_last ex_lostIsolates ex_lostEmbeddings ex_openIsolates se_places se_types se_marks se_count se_embedding se_beginning se_end br_partners br_list fi_breaks fi_starts fi_extents fi_count fi_groups sh_levels sh_order tl_measure tl_stale)
          refine tw_if_eq hX twd_fi_findBreaks_62 rfl (fun q21 => ?_) (fun q21 => ?_)
          · have h := h.1 q21
            refine tw_wk (L' := [some (.inr 26), some (.inr 1), some (.inl v2), some (.inl v3), none]) (tw_le_s (tw_le_s (tw_le_s (tw_le_s (tw_le_n tw_le_0))))) ?_
            exact h
          · have h := h.2 q21
            refine tw_iconst hX twd_fi_findBreaks_65 ⟨by decide, by decide⟩ ?_
            refine tw_goto hX twd_fi_findBreaks_66 rfl ?_
            refine tw_wk (L' := [some (.inr 26), some (.inr 1), some (.inl v2), some (.inl v3), none]) (tw_le_s (tw_le_s (tw_le_s (tw_le_s (tw_le_n tw_le_0))))) ?_
            exact h)
      have h := h (tw_rn (tw_YC l D ad cI cZ) Z Post 31 [some (.inr 26), some (.inr 1), some (.inl v2), some (.inl v3), none] [] (tw_mC pa_kinds pa_groups pa_widths pa_pairs pa_size pa_base ma_others ma_waiting le_types le_partners le_resolved le_ofParagraph ex_levels ex_types ex_entryLevels ex_entryOverrides ex_entryIsolates ex_last ex_lostIsolates ex_lostEmbeddings ex_openIsolates se_places se_types se_marks se_count se_embedding se_beginning se_end br_partners br_list fi_breaks fi_starts fi_extents fi_count fi_groups sh_levels sh_order tl_measure tl_stale)) (by
        intro  h
        refine tw_iconst hX twd_fi_findBreaks_31 ⟨by decide, by decide⟩ ?_
        exact h)
      refine tw_if_le hX twd_fi_findBreaks_13 rfl (fun q26 => ?_) (fun q26 => ?_)
      · have h := h.1 q26
        exact h
      · have h := h.2 q26
        refine tw_aload_n hX twd_fi_findBreaks_16 rfl rfl ?_
        refine tw_get (kf := 0) hX twd_fi_findBreaks_17 twin_pa rfl (by decide) tww_107 rfl rfl rfl ?_
        refine tw_iload_n hX twd_fi_findBreaks_20 rfl rfl ?_
        obtain ⟨c24, h⟩ := h
        refine tw_iaload hX twd_fi_findBreaks_21 rfl c24 ?_
        refine tw_bipush hX twd_fi_findBreaks_22 (by decide +kernel) ⟨by decide, by decide⟩ ?_
        refine tw_icmp_eq hX twd_fi_findBreaks_24 rfl (fun q25 => ?_) (fun q25 => ?_)
        · have h := h.1 q25
          exact h
        · have h := h.2 q25
          refine tw_iconst hX twd_fi_findBreaks_27 ⟨by decide, by decide⟩ ?_
          refine tw_goto hX twd_fi_findBreaks_28 rfl ?_
          exact h
def tww_fi_findBreaks (pa_kinds : Nat → Int) (pa_size : Int) (fi_breaks : Nat → Int) (fi_groups : Nat → Int) (K : (Nat → Int) → Prop) : Prop :=
  (∃ f29 : Nat, twl_fi_findBreaks_4 (fun (y28_fi_breaks : Nat → Int) =>
  K y28_fi_breaks) pa_kinds pa_size fi_groups f29 (-1) 0 fi_breaks)
set_option maxRecDepth 100000 in
set_option maxHeartbeats 4000000 in
theorem twc_fi_findBreaks {l : Launch} {D : va_G} {ad : Nat → Nat} {cI cZ : ClassId} {Post : tw_P} {K : (Nat → Int) → Prop} {pa_size pa_base le_ofParagraph ex_last ex_lostIsolates ex_lostEmbeddings ex_openIsolates se_count se_embedding se_beginning se_end fi_count tl_measure tl_stale : Int} {pa_kinds pa_groups pa_widths pa_pairs ma_others ma_waiting le_types le_partners le_resolved ex_levels ex_types ex_entryLevels ex_entryOverrides ex_entryIsolates se_places se_types se_marks br_partners br_list fi_breaks fi_starts fi_extents fi_groups sh_levels sh_order : Nat → Int} (h : tww_fi_findBreaks pa_kinds pa_size fi_breaks fi_groups K) (hK : ∀ (n_fi_breaks : Nat → Int), K n_fi_breaks → Post none (tw_mC pa_kinds pa_groups pa_widths pa_pairs pa_size pa_base ma_others ma_waiting le_types le_partners le_resolved le_ofParagraph ex_levels ex_types ex_entryLevels ex_entryOverrides ex_entryIsolates ex_last ex_lostIsolates ex_lostEmbeddings ex_openIsolates se_places se_types se_marks se_count se_embedding se_beginning se_end br_partners br_list n_fi_breaks fi_starts fi_extents fi_count fi_groups sh_levels sh_order tl_measure tl_stale)) : tw_ct (tw_YC l D ad cI cZ) twy_fi_findBreaks (Cond.code twy_fi_findBreaks prog_4_method_5_code 5 none :: tw_Wg) 1 [.inr 26, .inr 1] (tw_mC pa_kinds pa_groups pa_widths pa_pairs pa_size pa_base ma_others ma_waiting le_types le_partners le_resolved le_ofParagraph ex_levels ex_types ex_entryLevels ex_entryOverrides ex_entryIsolates ex_last ex_lostIsolates ex_lostEmbeddings ex_openIsolates se_places se_types se_marks se_count se_embedding se_beginning se_end br_partners br_list fi_breaks fi_starts fi_extents fi_count fi_groups sh_levels sh_order tl_measure tl_stale) Post := by
  refine tw_of (own := twR_fi) (L0 := [some (.inr 26), some (.inr 1), none, none, none]) (by decide) rfl rfl (Nat.le_of_ble_eq_true rfl) (fun Z hX => ?_)
  unfold tww_fi_findBreaks at h
  refine tw_iconst hX twd_fi_findBreaks_0 ⟨by decide, by decide⟩ ?_
  refine tw_istore_n (L' := [some (.inr 26), some (.inr 1), some (.inl (-1)), none, none]) hX twd_fi_findBreaks_1 rfl (by decide) rfl ?_
  refine tw_iconst hX twd_fi_findBreaks_2 ⟨by decide, by decide⟩ ?_
  refine tw_istore_n (L' := [some (.inr 26), some (.inr 1), some (.inl (-1)), some (.inl 0), none]) hX twd_fi_findBreaks_3 rfl (by decide) rfl ?_
  obtain ⟨f29, h⟩ := h
  refine twt_fi_findBreaks_4 hX (fun y28_fi_breaks h => ?_) f29 _ _ _ h
  exact tw_vret hX twd_fi_findBreaks_94 (hK _ h)
def twl_fi_endOfLine_17 (X165 : Int → Int → Prop) (v3 : Int) (pa_kinds : Nat → Int) (pa_widths : Nat → Int) (pa_size : Int) (fi_breaks : Nat → Int) (fi_groups : Nat → Int) : Nat → Int → Int → Int → Int → Int → Prop
  | 0, _, _, _, _, _ => False
  | f + 1, v4, v5, v6, v7, v8 =>
    ((pa_size < v8 →
    X165 v4 v5) ∧
    (¬ pa_size < v8 →
    (tw_rg (v8 - 1)) ∧ (0 ≤ (v8 - 1) ∧ (v8 - 1) < 64) ∧ (tw_rg (v6 + (pa_widths (Int.toNat (v8 - 1))))) ∧ (tw_rg (v8 - 1)) ∧ (0 ≤ (v8 - 1) ∧ (v8 - 1) < 64) ∧ (∀ x7 : Int, x7 = (if (fi_groups (Int.toNat (v8 - 1))) = 1 then v7 else (v6 + (pa_widths (Int.toNat (v8 - 1))))) →
      (∀ x8 : Int, x8 = (if v8 = pa_size then 1 else 0) →
        (∀ J11 : Int → Int → Prop, (∀ (x9 : Int) (x10 : Int), ((∀ x12 : Int, x12 = (if v3 < x7 then 0 else 1) →
            (∀ x13 : Int, x13 = (if x10 = 0 then v5 else (if x12 = 0 then (if v5 = (-1) then v8 else v5) else v8)) →
              (((¬ x12 = 0 → ((x9 = 0 → ((0 ≤ v8 ∧ v8 < 64)))))) ∧
                (∀ x15 : Int, x15 = (if x12 = 0 then v4 else (if x9 = 0 then (if (fi_breaks (Int.toNat v8)) = 0 then v4 else v8) else v8)) →
                (tw_rg (v8 + 1)) ∧ twl_fi_endOfLine_17 X165 v3 pa_kinds pa_widths pa_size fi_breaks fi_groups f x15 x13 (v6 + (pa_widths (Int.toNat (v8 - 1)))) x7 (v8 + 1)))))) → J11 x9 x10) →
          ∀ J32 : Int → Prop, (∀ (x31 : Int), (J11 x31 1) → J32 x31) →
          ((x8 = 0 →
          (0 ≤ v8 ∧ v8 < 64) ∧ (((pa_kinds (Int.toNat v8)) = 8 →
            J11 x8 0) ∧
            (¬ (pa_kinds (Int.toNat v8)) = 8 →
            J32 x8))) ∧
          (¬ x8 = 0 →
          J32 x8)))))))
set_option maxRecDepth 100000 in
set_option maxHeartbeats 4000000 in
theorem twt_fi_endOfLine_17 {l : Launch} {D : va_G} {ad : Nat → Nat} {cI cZ : ClassId} {Z : tw_Z} {Post : tw_P} {X165 : Int → Int → Prop} {v3 : Int} {pa_size pa_base le_ofParagraph ex_last ex_lostIsolates ex_lostEmbeddings ex_openIsolates se_count se_embedding se_beginning se_end fi_count tl_measure tl_stale : Int} {pa_kinds pa_groups pa_widths pa_pairs ma_others ma_waiting le_types le_partners le_resolved ex_levels ex_types ex_entryLevels ex_entryOverrides ex_entryIsolates se_places se_types se_marks br_partners br_list fi_breaks fi_starts fi_extents fi_groups sh_levels sh_order : Nat → Int} (hX : tw_cx (tw_YC l D ad cI cZ) Z prog_4_method_7_code twR_fi tw_Wg (some .int) 0 12) (hX165 : ∀ (v4 : Int) (v5 : Int), X165 v4 v5 → tw_rn (tw_YC l D ad cI cZ) Z Post 165 [none, none, none, none, some (.inl v4), some (.inl v5), none, none, none, none, none, none] [] (tw_mC pa_kinds pa_groups pa_widths pa_pairs pa_size pa_base ma_others ma_waiting le_types le_partners le_resolved le_ofParagraph ex_levels ex_types ex_entryLevels ex_entryOverrides ex_entryIsolates ex_last ex_lostIsolates ex_lostEmbeddings ex_openIsolates se_places se_types se_marks se_count se_embedding se_beginning se_end br_partners br_list fi_breaks fi_starts fi_extents fi_count fi_groups sh_levels sh_order tl_measure tl_stale)) : ∀ (f : Nat) (v4 : Int) (v5 : Int) (v6 : Int) (v7 : Int) (v8 : Int), twl_fi_endOfLine_17 X165 v3 pa_kinds pa_widths pa_size fi_breaks fi_groups f v4 v5 v6 v7 v8 → tw_rn (tw_YC l D ad cI cZ) Z Post 17 [some (.inr 26), some (.inr 1), none, some (.inl v3), some (.inl v4), some (.inl v5), some (.inl v6), some (.inl v7), some (.inl v8), none, none, none] [] (tw_mC pa_kinds pa_groups pa_widths pa_pairs pa_size pa_base ma_others ma_waiting le_types le_partners le_resolved le_ofParagraph ex_levels ex_types ex_entryLevels ex_entryOverrides ex_entryIsolates ex_last ex_lostIsolates ex_lostEmbeddings ex_openIsolates se_places se_types se_marks se_count se_embedding se_beginning se_end br_partners br_list fi_breaks fi_starts fi_extents fi_count fi_groups sh_levels sh_order tl_measure tl_stale) := by
  intro f
  induction f with
  | zero => intro v4 v5 v6 v7 v8 h; rw [twl_fi_endOfLine_17] at h; exact h.elim
  | succ f ih =>
    intro v4 v5 v6 v7 v8 h
    rw [twl_fi_endOfLine_17] at h
    refine tw_iload hX twd_fi_endOfLine_17 rfl ?_
    refine tw_aload_n hX twd_fi_endOfLine_19 rfl rfl ?_
    refine tw_get (kf := 4) hX twd_fi_endOfLine_20 twin_pa rfl (by decide) tww_120 rfl rfl rfl ?_
    refine tw_icmp_gt hX twd_fi_endOfLine_23 rfl (fun q42 => ?_) (fun q42 => ?_)
    · have h := h.1 q42
      refine tw_wk (L' := [none, none, none, none, some (.inl v4), some (.inl v5), none, none, none, none, none, none]) (tw_le_n (tw_le_n (tw_le_n (tw_le_n (tw_le_s (tw_le_s (tw_le_n (tw_le_n (tw_le_n (tw_le_n (tw_le_n (tw_le_n tw_le_0)))))))))))) ?_
      exact hX165 _ _ h
    · have h := h.2 q42
      refine tw_iload hX twd_fi_endOfLine_26 rfl ?_
      refine tw_aload_n hX twd_fi_endOfLine_28 rfl rfl ?_
      refine tw_get (kf := 2) hX twd_fi_endOfLine_29 twin_pa rfl (by decide) tww_111 rfl rfl rfl ?_
      refine tw_iload hX twd_fi_endOfLine_32 rfl ?_
      refine tw_iconst hX twd_fi_endOfLine_34 ⟨by decide, by decide⟩ ?_
      obtain ⟨c2, h⟩ := h
      refine tw_isub hX twd_fi_endOfLine_35 c2 ?_
      obtain ⟨c3, h⟩ := h
      refine tw_iaload hX twd_fi_endOfLine_36 rfl c3 ?_
      obtain ⟨c4, h⟩ := h
      refine tw_iadd hX twd_fi_endOfLine_37 c4 ?_
      refine tw_istore (L' := [some (.inr 26), some (.inr 1), none, some (.inl v3), some (.inl v4), some (.inl v5), some (.inl (v6 + (pa_widths (Int.toNat (v8 - 1))))), some (.inl v7), some (.inl v8), none, none, none]) hX twd_fi_endOfLine_38 (by decide) rfl ?_
      refine tw_aload_n hX twd_fi_endOfLine_40 rfl rfl ?_
      refine tw_get (kf := 4) hX twd_fi_endOfLine_41 twin_fi rfl (by decide) tww_299 rfl rfl rfl ?_
      refine tw_iload hX twd_fi_endOfLine_44 rfl ?_
      refine tw_iconst hX twd_fi_endOfLine_46 ⟨by decide, by decide⟩ ?_
      obtain ⟨c5, h⟩ := h
      refine tw_isub hX twd_fi_endOfLine_47 c5 ?_
      obtain ⟨c6, h⟩ := h
      refine tw_iaload hX twd_fi_endOfLine_48 rfl c6 ?_
      refine tw_iconst hX twd_fi_endOfLine_49 ⟨by decide, by decide⟩ ?_
      have j39 : ∀ x7 : Int, x7 = (if (fi_groups (Int.toNat (v8 - 1))) = 1 then v7 else (v6 + (pa_widths (Int.toNat (v8 - 1))))) → tw_rn (tw_YC l D ad cI cZ) Z Post 60 [some (.inr 26), some (.inr 1), none, some (.inl v3), some (.inl v4), some (.inl v5), some (.inl (v6 + (pa_widths (Int.toNat (v8 - 1))))), none, some (.inl v8), none, none, none] [.inl x7] (tw_mC pa_kinds pa_groups pa_widths pa_pairs pa_size pa_base ma_others ma_waiting le_types le_partners le_resolved le_ofParagraph ex_levels ex_types ex_entryLevels ex_entryOverrides ex_entryIsolates ex_last ex_lostIsolates ex_lostEmbeddings ex_openIsolates se_places se_types se_marks se_count se_embedding se_beginning se_end br_partners br_list fi_breaks fi_starts fi_extents fi_count fi_groups sh_levels sh_order tl_measure tl_stale) := by
        intro x7 e40
        have h := h x7 e40
        refine tw_istore (L' := [some (.inr 26), some (.inr 1), none, some (.inl v3), some (.inl v4), some (.inl v5), some (.inl (v6 + (pa_widths (Int.toNat (v8 - 1))))), some (.inl x7), some (.inl v8), none, none, none]) hX twd_fi_endOfLine_60 (by decide) rfl ?_
        refine tw_iload hX twd_fi_endOfLine_62 rfl ?_
        refine tw_aload_n hX twd_fi_endOfLine_64 rfl rfl ?_
        refine tw_get (kf := 4) hX twd_fi_endOfLine_65 twin_pa rfl (by decide) tww_120 rfl rfl rfl ?_
        have j36 : ∀ x8 : Int, x8 = (if v8 = pa_size then 1 else 0) → tw_rn (tw_YC l D ad cI cZ) Z Post 76 [some (.inr 26), some (.inr 1), none, some (.inl v3), some (.inl v4), some (.inl v5), some (.inl (v6 + (pa_widths (Int.toNat (v8 - 1))))), some (.inl x7), some (.inl v8), none, none, none] [.inl x8] (tw_mC pa_kinds pa_groups pa_widths pa_pairs pa_size pa_base ma_others ma_waiting le_types le_partners le_resolved le_ofParagraph ex_levels ex_types ex_entryLevels ex_entryOverrides ex_entryIsolates ex_last ex_lostIsolates ex_lostEmbeddings ex_openIsolates se_places se_types se_marks se_count se_embedding se_beginning se_end br_partners br_list fi_breaks fi_starts fi_extents fi_count fi_groups sh_levels sh_order tl_measure tl_stale) := by
          intro x8 e37
          have h := h x8 e37
          refine tw_istore (L' := [some (.inr 26), some (.inr 1), none, some (.inl v3), some (.inl v4), some (.inl v5), some (.inl (v6 + (pa_widths (Int.toNat (v8 - 1))))), some (.inl x7), some (.inl v8), some (.inl x8), none, none]) hX twd_fi_endOfLine_76 (by decide) rfl ?_
          refine tw_iload hX twd_fi_endOfLine_78 rfl ?_
          have h := h (fun (x9 : Int) (x10 : Int) => tw_rn (tw_YC l D ad cI cZ) Z Post 100 [some (.inr 26), some (.inr 1), none, some (.inl v3), some (.inl v4), some (.inl v5), some (.inl (v6 + (pa_widths (Int.toNat (v8 - 1))))), some (.inl x7), some (.inl v8), some (.inl x9), none, none] [.inl x10] (tw_mC pa_kinds pa_groups pa_widths pa_pairs pa_size pa_base ma_others ma_waiting le_types le_partners le_resolved le_ofParagraph ex_levels ex_types ex_entryLevels ex_entryOverrides ex_entryIsolates ex_last ex_lostIsolates ex_lostEmbeddings ex_openIsolates se_places se_types se_marks se_count se_embedding se_beginning se_end br_partners br_list fi_breaks fi_starts fi_extents fi_count fi_groups sh_levels sh_order tl_measure tl_stale)) (by
            intro x9 x10 h
            refine tw_istore (L' := [some (.inr 26), some (.inr 1), none, some (.inl v3), some (.inl v4), some (.inl v5), some (.inl (v6 + (pa_widths (Int.toNat (v8 - 1))))), some (.inl x7), some (.inl v8), some (.inl x9), some (.inl x10), none]) hX twd_fi_endOfLine_100 (by decide) rfl ?_
            refine tw_iload hX twd_fi_endOfLine_102 rfl ?_
            refine tw_iload_n hX twd_fi_endOfLine_104 rfl rfl ?_
            have j28 : ∀ x12 : Int, x12 = (if v3 < x7 then 0 else 1) → tw_rn (tw_YC l D ad cI cZ) Z Post 113 [some (.inr 26), some (.inr 1), none, some (.inl v3), some (.inl v4), some (.inl v5), some (.inl (v6 + (pa_widths (Int.toNat (v8 - 1))))), some (.inl x7), some (.inl v8), some (.inl x9), some (.inl x10), none] [.inl x12] (tw_mC pa_kinds pa_groups pa_widths pa_pairs pa_size pa_base ma_others ma_waiting le_types le_partners le_resolved le_ofParagraph ex_levels ex_types ex_entryLevels ex_entryOverrides ex_entryIsolates ex_last ex_lostIsolates ex_lostEmbeddings ex_openIsolates se_places se_types se_marks se_count se_embedding se_beginning se_end br_partners br_list fi_breaks fi_starts fi_extents fi_count fi_groups sh_levels sh_order tl_measure tl_stale) := by
              intro x12 e29
              have h := h x12 e29
              refine tw_istore (L' := [some (.inr 26), some (.inr 1), none, some (.inl v3), some (.inl v4), some (.inl v5), some (.inl (v6 + (pa_widths (Int.toNat (v8 - 1))))), some (.inl x7), some (.inl v8), some (.inl x9), some (.inl x10), some (.inl x12)]) hX twd_fi_endOfLine_113 (by decide) rfl ?_
              refine tw_iload hX twd_fi_endOfLine_115 rfl ?_
              have j23 : ∀ x13 : Int, x13 = (if x10 = 0 then v5 else (if x12 = 0 then (if v5 = (-1) then v8 else v5) else v8)) → tw_rn (tw_YC l D ad cI cZ) Z Post 135 [some (.inr 26), some (.inr 1), none, some (.inl v3), some (.inl v4), some (.inl x13), some (.inl (v6 + (pa_widths (Int.toNat (v8 - 1))))), some (.inl x7), some (.inl v8), some (.inl x9), none, some (.inl x12)] [] (tw_mC pa_kinds pa_groups pa_widths pa_pairs pa_size pa_base ma_others ma_waiting le_types le_partners le_resolved le_ofParagraph ex_levels ex_types ex_entryLevels ex_entryOverrides ex_entryIsolates ex_last ex_lostIsolates ex_lostEmbeddings ex_openIsolates se_places se_types se_marks se_count se_embedding se_beginning se_end br_partners br_list fi_breaks fi_starts fi_extents fi_count fi_groups sh_levels sh_order tl_measure tl_stale) := by
                intro x13 e24
                have h := h x13 e24
                refine tw_iload hX twd_fi_endOfLine_135 rfl ?_
                obtain ⟨o17, h⟩ := h
                have j18 : ∀ x15 : Int, x15 = (if x12 = 0 then v4 else (if x9 = 0 then (if (fi_breaks (Int.toNat v8)) = 0 then v4 else v8) else v8)) → tw_rn (tw_YC l D ad cI cZ) Z Post 159 [some (.inr 26), some (.inr 1), none, some (.inl v3), some (.inl x15), some (.inl x13), some (.inl (v6 + (pa_widths (Int.toNat (v8 - 1))))), some (.inl x7), some (.inl v8), none, none, none] [] (tw_mC pa_kinds pa_groups pa_widths pa_pairs pa_size pa_base ma_others ma_waiting le_types le_partners le_resolved le_ofParagraph ex_levels ex_types ex_entryLevels ex_entryOverrides ex_entryIsolates ex_last ex_lostIsolates ex_lostEmbeddings ex_openIsolates se_places se_types se_marks se_count se_embedding se_beginning se_end br_partners br_list fi_breaks fi_starts fi_extents fi_count fi_groups sh_levels sh_order tl_measure tl_stale) := by
                  intro x15 e19
                  have h := h x15 e19
                  obtain ⟨c16, h⟩ := h
                  refine tw_iinc (L' := [some (.inr 26), some (.inr 1), none, some (.inl v3), some (.inl x15), some (.inl x13), some (.inl (v6 + (pa_widths (Int.toNat (v8 - 1))))), some (.inl x7), some (.inl (v8 + 1)), none, none, none]) hX twd_fi_endOfLine_159 rfl (by decide) c16 rfl ?_
                  refine tw_goto hX twd_fi_endOfLine_162 rfl ?_
                  exact ih _ _ _ _ _ h
                refine tw_if_eq hX twd_fi_endOfLine_137 rfl (fun q20 => ?_) (fun q20 => ?_)
                · have _tw := trivial
                  refine tw_wk (L' := [some (.inr 26), some (.inr 1), none, some (.inl v3), some (.inl v4), some (.inl x13), some (.inl (v6 + (pa_widths (Int.toNat (v8 - 1))))), some (.inl x7), some (.inl v8), none, none, none]) (tw_le_s (tw_le_s (tw_le_n (tw_le_s (tw_le_s (tw_le_s (tw_le_s (tw_le_s (tw_le_s (tw_le_n (tw_le_n (tw_le_n tw_le_0)))))))))))) ?_
                  exact j18 _ (Eq.symm (if_pos q20))
                · have _tw := trivial
                  have o17 := o17 q20
                  refine tw_iload hX twd_fi_endOfLine_140 rfl ?_
                  refine tw_if_ne hX twd_fi_endOfLine_142 rfl (fun q21 => ?_) (fun q21 => ?_)
                  · have _tw := trivial
                    refine tw_iload hX twd_fi_endOfLine_155 rfl ?_
                    refine tw_istore (L' := [some (.inr 26), some (.inr 1), none, some (.inl v3), some (.inl v8), some (.inl x13), some (.inl (v6 + (pa_widths (Int.toNat (v8 - 1))))), some (.inl x7), some (.inl v8), some (.inl x9), none, some (.inl x12)]) hX twd_fi_endOfLine_157 (by decide) rfl ?_
                    refine tw_wk (L' := [some (.inr 26), some (.inr 1), none, some (.inl v3), some (.inl v8), some (.inl x13), some (.inl (v6 + (pa_widths (Int.toNat (v8 - 1))))), some (.inl x7), some (.inl v8), none, none, none]) (tw_le_s (tw_le_s (tw_le_n (tw_le_s (tw_le_s (tw_le_s (tw_le_s (tw_le_s (tw_le_s (tw_le_n (tw_le_n (tw_le_n tw_le_0)))))))))))) ?_
                    exact j18 _ (Eq.symm (Eq.trans (if_neg q20) (if_neg q21)))
                  · have _tw := trivial
                    have o17 := o17 q21
                    refine tw_aload_n hX twd_fi_endOfLine_145 rfl rfl ?_
                    refine tw_get (kf := 0) hX twd_fi_endOfLine_146 twin_fi rfl (by decide) tww_289 rfl rfl rfl ?_
                    refine tw_iload hX twd_fi_endOfLine_149 rfl ?_
                    have c14 := o17
                    refine tw_baload hX twd_fi_endOfLine_151 rfl c14 ?_
                    refine tw_if_eq hX twd_fi_endOfLine_152 rfl (fun q22 => ?_) (fun q22 => ?_)
                    · have _tw := trivial
                      refine tw_wk (L' := [some (.inr 26), some (.inr 1), none, some (.inl v3), some (.inl v4), some (.inl x13), some (.inl (v6 + (pa_widths (Int.toNat (v8 - 1))))), some (.inl x7), some (.inl v8), none, none, none]) (tw_le_s (tw_le_s (tw_le_n (tw_le_s (tw_le_s (tw_le_s (tw_le_s (tw_le_s (tw_le_s (tw_le_n (tw_le_n (tw_le_n tw_le_0)))))))))))) ?_
                      exact j18 _ (Eq.symm (Eq.trans (if_neg q20) (Eq.trans (if_pos q21) (if_pos q22))))
                    · have _tw := trivial
                      refine tw_iload hX twd_fi_endOfLine_155 rfl ?_
                      refine tw_istore (L' := [some (.inr 26), some (.inr 1), none, some (.inl v3), some (.inl v8), some (.inl x13), some (.inl (v6 + (pa_widths (Int.toNat (v8 - 1))))), some (.inl x7), some (.inl v8), some (.inl x9), none, some (.inl x12)]) hX twd_fi_endOfLine_157 (by decide) rfl ?_
                      refine tw_wk (L' := [some (.inr 26), some (.inr 1), none, some (.inl v3), some (.inl v8), some (.inl x13), some (.inl (v6 + (pa_widths (Int.toNat (v8 - 1))))), some (.inl x7), some (.inl v8), none, none, none]) (tw_le_s (tw_le_s (tw_le_n (tw_le_s (tw_le_s (tw_le_s (tw_le_s (tw_le_s (tw_le_s (tw_le_n (tw_le_n (tw_le_n tw_le_0)))))))))))) ?_
                      exact j18 _ (Eq.symm (Eq.trans (if_neg q20) (Eq.trans (if_pos q21) (if_neg q22))))
              refine tw_if_eq hX twd_fi_endOfLine_117 rfl (fun q25 => ?_) (fun q25 => ?_)
              · have _tw := trivial
                refine tw_wk (L' := [some (.inr 26), some (.inr 1), none, some (.inl v3), some (.inl v4), some (.inl v5), some (.inl (v6 + (pa_widths (Int.toNat (v8 - 1))))), some (.inl x7), some (.inl v8), some (.inl x9), none, some (.inl x12)]) (tw_le_s (tw_le_s (tw_le_n (tw_le_s (tw_le_s (tw_le_s (tw_le_s (tw_le_s (tw_le_s (tw_le_s (tw_le_n (tw_le_s tw_le_0)))))))))))) ?_
                exact j23 _ (Eq.symm (if_pos q25))
              · have _tw := trivial
                refine tw_iload hX twd_fi_endOfLine_120 rfl ?_
                refine tw_if_ne hX twd_fi_endOfLine_122 rfl (fun q26 => ?_) (fun q26 => ?_)
                · have _tw := trivial
                  refine tw_iload hX twd_fi_endOfLine_131 rfl ?_
                  refine tw_istore (L' := [some (.inr 26), some (.inr 1), none, some (.inl v3), some (.inl v4), some (.inl v8), some (.inl (v6 + (pa_widths (Int.toNat (v8 - 1))))), some (.inl x7), some (.inl v8), some (.inl x9), some (.inl x10), some (.inl x12)]) hX twd_fi_endOfLine_133 (by decide) rfl ?_
                  refine tw_wk (L' := [some (.inr 26), some (.inr 1), none, some (.inl v3), some (.inl v4), some (.inl v8), some (.inl (v6 + (pa_widths (Int.toNat (v8 - 1))))), some (.inl x7), some (.inl v8), some (.inl x9), none, some (.inl x12)]) (tw_le_s (tw_le_s (tw_le_n (tw_le_s (tw_le_s (tw_le_s (tw_le_s (tw_le_s (tw_le_s (tw_le_s (tw_le_n (tw_le_s tw_le_0)))))))))))) ?_
                  exact j23 _ (Eq.symm (Eq.trans (if_neg q25) (if_neg q26)))
                · have _tw := trivial
                  refine tw_iload hX twd_fi_endOfLine_125 rfl ?_
                  refine tw_iconst hX twd_fi_endOfLine_127 ⟨by decide, by decide⟩ ?_
                  refine tw_icmp_ne hX twd_fi_endOfLine_128 rfl (fun q27 => ?_) (fun q27 => ?_)
                  · have _tw := trivial
                    refine tw_wk (L' := [some (.inr 26), some (.inr 1), none, some (.inl v3), some (.inl v4), some (.inl v5), some (.inl (v6 + (pa_widths (Int.toNat (v8 - 1))))), some (.inl x7), some (.inl v8), some (.inl x9), none, some (.inl x12)]) (tw_le_s (tw_le_s (tw_le_n (tw_le_s (tw_le_s (tw_le_s (tw_le_s (tw_le_s (tw_le_s (tw_le_s (tw_le_n (tw_le_s tw_le_0)))))))))))) ?_
                    exact j23 _ (Eq.symm (Eq.trans (if_neg q25) (Eq.trans (if_pos q26) (if_neg q27))))
                  · have _tw := trivial
                    refine tw_iload hX twd_fi_endOfLine_131 rfl ?_
                    refine tw_istore (L' := [some (.inr 26), some (.inr 1), none, some (.inl v3), some (.inl v4), some (.inl v8), some (.inl (v6 + (pa_widths (Int.toNat (v8 - 1))))), some (.inl x7), some (.inl v8), some (.inl x9), some (.inl x10), some (.inl x12)]) hX twd_fi_endOfLine_133 (by decide) rfl ?_
                    refine tw_wk (L' := [some (.inr 26), some (.inr 1), none, some (.inl v3), some (.inl v4), some (.inl v8), some (.inl (v6 + (pa_widths (Int.toNat (v8 - 1))))), some (.inl x7), some (.inl v8), some (.inl x9), none, some (.inl x12)]) (tw_le_s (tw_le_s (tw_le_n (tw_le_s (tw_le_s (tw_le_s (tw_le_s (tw_le_s (tw_le_s (tw_le_s (tw_le_n (tw_le_s tw_le_0)))))))))))) ?_
                    exact j23 _ (Eq.symm (Eq.trans (if_neg q25) (Eq.trans (if_pos q26) (if_pos q27))))
            refine tw_icmp_gt hX twd_fi_endOfLine_105 rfl (fun q30 => ?_) (fun q30 => ?_)
            · have _tw := trivial
              refine tw_iconst hX twd_fi_endOfLine_112 ⟨by decide, by decide⟩ ?_
              exact j28 _ (Eq.symm (if_pos q30))
            · have _tw := trivial
              refine tw_iconst hX twd_fi_endOfLine_108 ⟨by decide, by decide⟩ ?_
              refine tw_goto hX twd_fi_endOfLine_109 rfl ?_
              exact j28 _ (Eq.symm (if_neg q30)))
          have h := h (fun (x31 : Int) => tw_rn (tw_YC l D ad cI cZ) Z Post 95 [some (.inr 26), some (.inr 1), none, some (.inl v3), some (.inl v4), some (.inl v5), some (.inl (v6 + (pa_widths (Int.toNat (v8 - 1))))), some (.inl x7), some (.inl v8), some (.inl x31), none, none] [] (tw_mC pa_kinds pa_groups pa_widths pa_pairs pa_size pa_base ma_others ma_waiting le_types le_partners le_resolved le_ofParagraph ex_levels ex_types ex_entryLevels ex_entryOverrides ex_entryIsolates ex_last ex_lostIsolates ex_lostEmbeddings ex_openIsolates se_places se_types se_marks se_count se_embedding se_beginning se_end br_partners br_list fi_breaks fi_starts fi_extents fi_count fi_groups sh_levels sh_order tl_measure tl_stale)) (by
            intro x31 h
            refine tw_iconst hX twd_fi_endOfLine_95 ⟨by decide, by decide⟩ ?_
            refine tw_goto hX twd_fi_endOfLine_96 rfl ?_
            exact h)
          refine tw_if_ne hX twd_fi_endOfLine_80 rfl (fun q35 => ?_) (fun q35 => ?_)
          · have h := h.2 q35
            exact h
          · have h := h.1 q35
            refine tw_aload_n hX twd_fi_endOfLine_83 rfl rfl ?_
            refine tw_get (kf := 0) hX twd_fi_endOfLine_84 twin_pa rfl (by decide) tww_107 rfl rfl rfl ?_
            refine tw_iload hX twd_fi_endOfLine_87 rfl ?_
            obtain ⟨c33, h⟩ := h
            refine tw_iaload hX twd_fi_endOfLine_89 rfl c33 ?_
            refine tw_bipush hX twd_fi_endOfLine_90 (by decide +kernel) ⟨by decide, by decide⟩ ?_
            refine tw_icmp_eq hX twd_fi_endOfLine_92 rfl (fun q34 => ?_) (fun q34 => ?_)
            · have h := h.1 q34
              refine tw_iconst hX twd_fi_endOfLine_99 ⟨by decide, by decide⟩ ?_
              exact h
            · have h := h.2 q34
              exact h
        refine tw_icmp_ne hX twd_fi_endOfLine_68 rfl (fun q38 => ?_) (fun q38 => ?_)
        · have _tw := trivial
          refine tw_iconst hX twd_fi_endOfLine_75 ⟨by decide, by decide⟩ ?_
          exact j36 _ (Eq.symm (if_neg q38))
        · have _tw := trivial
          refine tw_iconst hX twd_fi_endOfLine_71 ⟨by decide, by decide⟩ ?_
          refine tw_goto hX twd_fi_endOfLine_72 rfl ?_
          exact j36 _ (Eq.symm (if_pos q38))
      refine tw_icmp_ne hX twd_fi_endOfLine_50 rfl (fun q41 => ?_) (fun q41 => ?_)
      · have _tw := trivial
        refine tw_iload hX twd_fi_endOfLine_58 rfl ?_
        refine tw_wk (L' := [some (.inr 26), some (.inr 1), none, some (.inl v3), some (.inl v4), some (.inl v5), some (.inl (v6 + (pa_widths (Int.toNat (v8 - 1))))), none, some (.inl v8), none, none, none]) (tw_le_s (tw_le_s (tw_le_n (tw_le_s (tw_le_s (tw_le_s (tw_le_s (tw_le_n (tw_le_s (tw_le_n (tw_le_n (tw_le_n tw_le_0)))))))))))) ?_
        exact j39 _ (Eq.symm (if_neg q41))
      · have _tw := trivial
        refine tw_iload hX twd_fi_endOfLine_53 rfl ?_
        refine tw_goto hX twd_fi_endOfLine_55 rfl ?_
        refine tw_wk (L' := [some (.inr 26), some (.inr 1), none, some (.inl v3), some (.inl v4), some (.inl v5), some (.inl (v6 + (pa_widths (Int.toNat (v8 - 1))))), none, some (.inl v8), none, none, none]) (tw_le_s (tw_le_s (tw_le_n (tw_le_s (tw_le_s (tw_le_s (tw_le_s (tw_le_n (tw_le_s (tw_le_n (tw_le_n (tw_le_n tw_le_0)))))))))))) ?_
        exact j39 _ (Eq.symm (if_pos q41))
def tww_fi_endOfLine (v2 v3 : Int) (pa_kinds : Nat → Int) (pa_widths : Nat → Int) (pa_size : Int) (fi_breaks : Nat → Int) (fi_groups : Nat → Int) (K : Int → Prop) : Prop :=
  (tw_rg (v2 + 1)) ∧ (∃ f46 : Nat, twl_fi_endOfLine_17 (fun (y43 : Int) (y44 : Int) =>
  ((y43 = (-1) →
    K y44) ∧
    (¬ y43 = (-1) →
    K y43))) v3 pa_kinds pa_widths pa_size fi_breaks fi_groups f46 (-1) (-1) 0 0 (v2 + 1))
set_option maxRecDepth 100000 in
set_option maxHeartbeats 4000000 in
theorem twc_fi_endOfLine {l : Launch} {D : va_G} {ad : Nat → Nat} {cI cZ : ClassId} {Post : tw_P} {K : Int → Prop} {v2 v3 : Int} {pa_size pa_base le_ofParagraph ex_last ex_lostIsolates ex_lostEmbeddings ex_openIsolates se_count se_embedding se_beginning se_end fi_count tl_measure tl_stale : Int} {pa_kinds pa_groups pa_widths pa_pairs ma_others ma_waiting le_types le_partners le_resolved ex_levels ex_types ex_entryLevels ex_entryOverrides ex_entryIsolates se_places se_types se_marks br_partners br_list fi_breaks fi_starts fi_extents fi_groups sh_levels sh_order : Nat → Int} (h : tww_fi_endOfLine v2 v3 pa_kinds pa_widths pa_size fi_breaks fi_groups K) (hK : ∀ (z : Int), K z → Post (some z) (tw_mC pa_kinds pa_groups pa_widths pa_pairs pa_size pa_base ma_others ma_waiting le_types le_partners le_resolved le_ofParagraph ex_levels ex_types ex_entryLevels ex_entryOverrides ex_entryIsolates ex_last ex_lostIsolates ex_lostEmbeddings ex_openIsolates se_places se_types se_marks se_count se_embedding se_beginning se_end br_partners br_list fi_breaks fi_starts fi_extents fi_count fi_groups sh_levels sh_order tl_measure tl_stale)) : tw_ct (tw_YC l D ad cI cZ) twy_fi_endOfLine (Cond.code twy_fi_endOfLine prog_4_method_7_code 12 (some .int) :: tw_Wg) 0 [.inr 26, .inr 1, .inl v2, .inl v3] (tw_mC pa_kinds pa_groups pa_widths pa_pairs pa_size pa_base ma_others ma_waiting le_types le_partners le_resolved le_ofParagraph ex_levels ex_types ex_entryLevels ex_entryOverrides ex_entryIsolates ex_last ex_lostIsolates ex_lostEmbeddings ex_openIsolates se_places se_types se_marks se_count se_embedding se_beginning se_end br_partners br_list fi_breaks fi_starts fi_extents fi_count fi_groups sh_levels sh_order tl_measure tl_stale) Post := by
  refine tw_of (own := twR_fi) (L0 := [some (.inr 26), some (.inr 1), some (.inl v2), some (.inl v3), none, none, none, none, none, none, none, none]) (by decide) rfl rfl (Nat.le_of_ble_eq_true rfl) (fun Z hX => ?_)
  unfold tww_fi_endOfLine at h
  refine tw_iconst hX twd_fi_endOfLine_0 ⟨by decide, by decide⟩ ?_
  refine tw_istore (L' := [some (.inr 26), some (.inr 1), some (.inl v2), some (.inl v3), some (.inl (-1)), none, none, none, none, none, none, none]) hX twd_fi_endOfLine_1 (by decide) rfl ?_
  refine tw_iconst hX twd_fi_endOfLine_3 ⟨by decide, by decide⟩ ?_
  refine tw_istore (L' := [some (.inr 26), some (.inr 1), some (.inl v2), some (.inl v3), some (.inl (-1)), some (.inl (-1)), none, none, none, none, none, none]) hX twd_fi_endOfLine_4 (by decide) rfl ?_
  refine tw_iconst hX twd_fi_endOfLine_6 ⟨by decide, by decide⟩ ?_
  refine tw_istore (L' := [some (.inr 26), some (.inr 1), some (.inl v2), some (.inl v3), some (.inl (-1)), some (.inl (-1)), some (.inl 0), none, none, none, none, none]) hX twd_fi_endOfLine_7 (by decide) rfl ?_
  refine tw_iconst hX twd_fi_endOfLine_9 ⟨by decide, by decide⟩ ?_
  refine tw_istore (L' := [some (.inr 26), some (.inr 1), some (.inl v2), some (.inl v3), some (.inl (-1)), some (.inl (-1)), some (.inl 0), some (.inl 0), none, none, none, none]) hX twd_fi_endOfLine_10 (by decide) rfl ?_
  refine tw_iload_n hX twd_fi_endOfLine_12 rfl rfl ?_
  refine tw_iconst hX twd_fi_endOfLine_13 ⟨by decide, by decide⟩ ?_
  obtain ⟨c1, h⟩ := h
  refine tw_iadd hX twd_fi_endOfLine_14 c1 ?_
  refine tw_istore (L' := [some (.inr 26), some (.inr 1), some (.inl v2), some (.inl v3), some (.inl (-1)), some (.inl (-1)), some (.inl 0), some (.inl 0), some (.inl (v2 + 1)), none, none, none]) hX twd_fi_endOfLine_15 (by decide) rfl ?_
  obtain ⟨f46, h⟩ := h
  refine tw_wk (L' := [some (.inr 26), some (.inr 1), none, some (.inl v3), some (.inl (-1)), some (.inl (-1)), some (.inl 0), some (.inl 0), some (.inl (v2 + 1)), none, none, none]) (tw_le_s (tw_le_s (tw_le_n (tw_le_s (tw_le_s (tw_le_s (tw_le_s (tw_le_s (tw_le_s (tw_le_n (tw_le_n (tw_le_n tw_le_0)))))))))))) ?_
  refine twt_fi_endOfLine_17 hX (fun y43 y44 h => ?_) f46 _ _ _ _ _ h
  refine tw_iload hX twd_fi_endOfLine_165 rfl ?_
  refine tw_iconst hX twd_fi_endOfLine_167 ⟨by decide, by decide⟩ ?_
  refine tw_icmp_ne hX twd_fi_endOfLine_168 rfl (fun q45 => ?_) (fun q45 => ?_)
  · have h := h.2 q45
    refine tw_iload hX twd_fi_endOfLine_176 rfl ?_
    exact tw_ret hX twd_fi_endOfLine_178 (hK _ h)
  · have h := h.1 q45
    refine tw_iload hX twd_fi_endOfLine_171 rfl ?_
    refine tw_goto hX twd_fi_endOfLine_173 rfl ?_
    exact tw_ret hX twd_fi_endOfLine_178 (hK _ h)
