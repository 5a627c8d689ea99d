def twl_fi_extentOf_9 (X53 : Int → Prop) (v3 : Int) (pa_widths : Nat → Int) (fi_groups : Nat → Int) : Nat → Int → Int → Int → Prop
  | 0, _, _, _ => False
  | f + 1, v4, v5, v6 =>
    ((v3 ≤ v6 →
    X53 v5) ∧
    (¬ v3 ≤ v6 →
    (0 ≤ v6 ∧ v6 < 64) ∧ (tw_rg (v4 + (pa_widths (Int.toNat v6)))) ∧ (0 ≤ v6 ∧ v6 < 64) ∧ (∀ x4 : Int, x4 = (if (fi_groups (Int.toNat v6)) = 1 then v5 else (v4 + (pa_widths (Int.toNat v6)))) →
      (tw_rg (v6 + 1)) ∧ twl_fi_extentOf_9 X53 v3 pa_widths fi_groups f (v4 + (pa_widths (Int.toNat v6))) x4 (v6 + 1))))
set_option maxRecDepth 100000 in
set_option maxHeartbeats 4000000 in
theorem twt_fi_extentOf_9 {l : Launch} {D : va_G} {ad : Nat → Nat} {cI cZ : ClassId} {Z : tw_Z} {Post : tw_P} {X53 : Int → Prop} {v3 : Int} {pa_size pa_base le_ofParagraph ex_last ex_lostIsolates ex_lostEmbeddings ex_openIsolates se_count se_embedding se_beginning se_end fi_count tl_measure tl_stale : Int} {pa_kinds pa_groups pa_widths pa_pairs ma_others ma_waiting le_types le_partners le_resolved ex_levels ex_types ex_entryLevels ex_entryOverrides ex_entryIsolates se_places se_types se_marks br_partners br_list fi_breaks fi_starts fi_extents fi_groups sh_levels sh_order : Nat → Int} (hX : tw_cx (tw_YC l D ad cI cZ) Z prog_4_method_8_code twR_fi tw_Wg (some .int) 0 7) (hX53 : ∀ (v5 : Int), X53 v5 → tw_rn (tw_YC l D ad cI cZ) Z Post 53 [none, none, none, none, none, some (.inl v5), none] [] (tw_mC pa_kinds pa_groups pa_widths pa_pairs pa_size pa_base ma_others ma_waiting le_types le_partners le_resolved le_ofParagraph ex_levels ex_types ex_entryLevels ex_entryOverrides ex_entryIsolates ex_last ex_lostIsolates ex_lostEmbeddings ex_openIsolates se_places se_types se_marks se_count se_embedding se_beginning se_end br_partners br_list fi_breaks fi_starts fi_extents fi_count fi_groups sh_levels sh_order tl_measure tl_stale)) : ∀ (f : Nat) (v4 : Int) (v5 : Int) (v6 : Int), twl_fi_extentOf_9 X53 v3 pa_widths fi_groups f v4 v5 v6 → tw_rn (tw_YC l D ad cI cZ) Z Post 9 [some (.inr 26), some (.inr 1), none, some (.inl v3), some (.inl v4), some (.inl v5), some (.inl v6)] [] (tw_mC pa_kinds pa_groups pa_widths pa_pairs pa_size pa_base ma_others ma_waiting le_types le_partners le_resolved le_ofParagraph ex_levels ex_types ex_entryLevels ex_entryOverrides ex_entryIsolates ex_last ex_lostIsolates ex_lostEmbeddings ex_openIsolates se_places se_types se_marks se_count se_embedding se_beginning se_end br_partners br_list fi_breaks fi_starts fi_extents fi_count fi_groups sh_levels sh_order tl_measure tl_stale) := by
  intro f
  induction f with
  | zero => intro v4 v5 v6 h; rw [twl_fi_extentOf_9] at h; exact h.elim
  | succ f ih =>
    intro v4 v5 v6 h
    rw [twl_fi_extentOf_9] at h
    refine tw_iload hX twd_fi_extentOf_9 rfl ?_
    refine tw_iload_n hX twd_fi_extentOf_11 rfl rfl ?_
    refine tw_icmp_ge hX twd_fi_extentOf_12 rfl (fun q9 => ?_) (fun q9 => ?_)
    · have h := h.1 q9
      refine tw_wk (L' := [none, none, none, none, none, some (.inl v5), none]) (tw_le_n (tw_le_n (tw_le_n (tw_le_n (tw_le_n (tw_le_s (tw_le_n tw_le_0))))))) ?_
      exact hX53 _ h
    · have h := h.2 q9
      refine tw_iload hX twd_fi_extentOf_15 rfl ?_
      refine tw_aload_n hX twd_fi_extentOf_17 rfl rfl ?_
      refine tw_get (kf := 2) hX twd_fi_extentOf_18 twin_pa rfl (by decide) tww_111 rfl rfl rfl ?_
      refine tw_iload hX twd_fi_extentOf_21 rfl ?_
      obtain ⟨c1, h⟩ := h
      refine tw_iaload hX twd_fi_extentOf_23 rfl c1 ?_
      obtain ⟨c2, h⟩ := h
      refine tw_iadd hX twd_fi_extentOf_24 c2 ?_
      refine tw_istore (L' := [some (.inr 26), some (.inr 1), none, some (.inl v3), some (.inl (v4 + (pa_widths (Int.toNat v6)))), some (.inl v5), some (.inl v6)]) hX twd_fi_extentOf_25 (by decide) rfl ?_
      refine tw_aload_n hX twd_fi_extentOf_27 rfl rfl ?_
      refine tw_get (kf := 4) hX twd_fi_extentOf_28 twin_fi rfl (by decide) tww_299 rfl rfl rfl ?_
      refine tw_iload hX twd_fi_extentOf_31 rfl ?_
      obtain ⟨c3, h⟩ := h
      refine tw_iaload hX twd_fi_extentOf_33 rfl c3 ?_
      refine tw_iconst hX twd_fi_extentOf_34 ⟨by decide, by decide⟩ ?_
      have j6 : ∀ x4 : Int, x4 = (if (fi_groups (Int.toNat v6)) = 1 then v5 else (v4 + (pa_widths (Int.toNat v6)))) → tw_rn (tw_YC l D ad cI cZ) Z Post 45 [some (.inr 26), some (.inr 1), none, some (.inl v3), some (.inl (v4 + (pa_widths (Int.toNat v6)))), none, some (.inl v6)] [.inl x4] (tw_mC pa_kinds pa_groups pa_widths pa_pairs pa_size pa_base ma_others ma_waiting le_types le_partners le_resolved le_ofParagraph ex_levels ex_types ex_entryLevels ex_entryOverrides ex_entryIsolates ex_last ex_lostIsolates ex_lostEmbeddings ex_openIsolates se_places se_types se_marks se_count se_embedding se_beginning se_end br_partners br_list fi_breaks fi_starts fi_extents fi_count fi_groups sh_levels sh_order tl_measure tl_stale) := by
        intro x4 e7
        have h := h x4 e7
        refine tw_istore (L' := [some (.inr 26), some (.inr 1), none, some (.inl v3), some (.inl (v4 + (pa_widths (Int.toNat v6)))), some (.inl x4), some (.inl v6)]) hX twd_fi_extentOf_45 (by decide) rfl ?_
        obtain ⟨c5, h⟩ := h
        refine tw_iinc (L' := [some (.inr 26), some (.inr 1), none, some (.inl v3), some (.inl (v4 + (pa_widths (Int.toNat v6)))), some (.inl x4), some (.inl (v6 + 1))]) hX twd_fi_extentOf_47 rfl (by decide) c5 rfl ?_
        refine tw_goto hX twd_fi_extentOf_50 rfl ?_
        exact ih _ _ _ h
      refine tw_icmp_ne hX twd_fi_extentOf_35 rfl (fun q8 => ?_) (fun q8 => ?_)
      · have _tw := trivial
        refine tw_iload hX twd_fi_extentOf_43 rfl ?_
        refine tw_wk (L' := [some (.inr 26), some (.inr 1), none, some (.inl v3), some (.inl (v4 + (pa_widths (Int.toNat v6)))), none, some (.inl v6)]) (tw_le_s (tw_le_s (tw_le_n (tw_le_s (tw_le_s (tw_le_n (tw_le_s tw_le_0))))))) ?_
        exact j6 _ (Eq.symm (if_neg q8))
      · have _tw := trivial
        refine tw_iload hX twd_fi_extentOf_38 rfl ?_
        refine tw_goto hX twd_fi_extentOf_40 rfl ?_
        refine tw_wk (L' := [some (.inr 26), some (.inr 1), none, some (.inl v3), some (.inl (v4 + (pa_widths (Int.toNat v6)))), none, some (.inl v6)]) (tw_le_s (tw_le_s (tw_le_n (tw_le_s (tw_le_s (tw_le_n (tw_le_s tw_le_0))))))) ?_
        exact j6 _ (Eq.symm (if_pos q8))
def tww_fi_extentOf (v2 v3 : Int) (pa_widths : Nat → Int) (fi_groups : Nat → Int) (K : Int → Prop) : Prop :=
  (∃ f11 : Nat, twl_fi_extentOf_9 (fun (y10 : Int) =>
  K y10) v3 pa_widths fi_groups f11 0 0 v2)
set_option maxRecDepth 100000 in
set_option maxHeartbeats 4000000 in
theorem twc_fi_extentOf {l : Launch} {D : va_G} {ad : Nat → Nat} {cI cZ : ClassId} {Post : tw_P} {K : Int → Prop} {v2 v3 : Int} {pa_size pa_base le_ofParagraph ex_last ex_lostIsolates ex_lostEmbeddings ex_openIsolates se_count se_embedding se_beginning se_end fi_count tl_measure tl_stale : Int} {pa_kinds pa_groups pa_widths pa_pairs ma_others ma_waiting le_types le_partners le_resolved ex_levels ex_types ex_entryLevels ex_entryOverrides ex_entryIsolates se_places se_types se_marks br_partners br_list fi_breaks fi_starts fi_extents fi_groups sh_levels sh_order : Nat → Int} (h : tww_fi_extentOf v2 v3 pa_widths fi_groups K) (hK : ∀ (z : Int), K z → Post (some z) (tw_mC pa_kinds pa_groups pa_widths pa_pairs pa_size pa_base ma_others ma_waiting le_types le_partners le_resolved le_ofParagraph ex_levels ex_types ex_entryLevels ex_entryOverrides ex_entryIsolates ex_last ex_lostIsolates ex_lostEmbeddings ex_openIsolates se_places se_types se_marks se_count se_embedding se_beginning se_end br_partners br_list fi_breaks fi_starts fi_extents fi_count fi_groups sh_levels sh_order tl_measure tl_stale)) : tw_ct (tw_YC l D ad cI cZ) twy_fi_extentOf (Cond.code twy_fi_extentOf prog_4_method_8_code 7 (some .int) :: tw_Wg) 0 [.inr 26, .inr 1, .inl v2, .inl v3] (tw_mC pa_kinds pa_groups pa_widths pa_pairs pa_size pa_base ma_others ma_waiting le_types le_partners le_resolved le_ofParagraph ex_levels ex_types ex_entryLevels ex_entryOverrides ex_entryIsolates ex_last ex_lostIsolates ex_lostEmbeddings ex_openIsolates se_places se_types se_marks se_count se_embedding se_beginning se_end br_partners br_list fi_breaks fi_starts fi_extents fi_count fi_groups sh_levels sh_order tl_measure tl_stale) Post := by
  refine tw_of (own := twR_fi) (L0 := [some (.inr 26), some (.inr 1), some (.inl v2), some (.inl v3), none, none, none]) (by decide) rfl rfl (Nat.le_of_ble_eq_true rfl) (fun Z hX => ?_)
  unfold tww_fi_extentOf at h
  refine tw_iconst hX twd_fi_extentOf_0 ⟨by decide, by decide⟩ ?_
  refine tw_istore (L' := [some (.inr 26), some (.inr 1), some (.inl v2), some (.inl v3), some (.inl 0), none, none]) hX twd_fi_extentOf_1 (by decide) rfl ?_
  refine tw_iconst hX twd_fi_extentOf_3 ⟨by decide, by decide⟩ ?_
  refine tw_istore (L' := [some (.inr 26), some (.inr 1), some (.inl v2), some (.inl v3), some (.inl 0), some (.inl 0), none]) hX twd_fi_extentOf_4 (by decide) rfl ?_
  refine tw_iload_n hX twd_fi_extentOf_6 rfl rfl ?_
  refine tw_istore (L' := [some (.inr 26), some (.inr 1), some (.inl v2), some (.inl v3), some (.inl 0), some (.inl 0), some (.inl v2)]) hX twd_fi_extentOf_7 (by decide) rfl ?_
  obtain ⟨f11, h⟩ := h
  refine tw_wk (L' := [some (.inr 26), some (.inr 1), none, some (.inl v3), some (.inl 0), some (.inl 0), some (.inl v2)]) (tw_le_s (tw_le_s (tw_le_n (tw_le_s (tw_le_s (tw_le_s (tw_le_s tw_le_0))))))) ?_
  refine twt_fi_extentOf_9 hX (fun y10 h => ?_) f11 _ _ _ h
  refine tw_iload hX twd_fi_extentOf_53 rfl ?_
  exact tw_ret hX twd_fi_extentOf_55 (hK _ h)
def twl_fi_fill_24 (X99 : (Nat → Int) → (Nat → Int) → Int → Prop) (v2 : Int) (pa_kinds : Nat → Int) (pa_groups : Nat → Int) (pa_widths : Nat → Int) (pa_size : Int) (fi_breaks : Nat → Int) (fi_groups : Nat → Int) : Nat → Int → (Nat → Int) → (Nat → Int) → Int → Prop
  | 0, _, _, _, _ => False
  | f + 1, v3, fi_starts, fi_extents, fi_count =>
    ((64 ≤ v3 →
    X99 fi_starts fi_extents fi_count) ∧
    (¬ 64 ≤ v3 →
    (0 ≤ v3 ∧ v3 < 65) ∧ ((pa_size ≤ (fi_starts (Int.toNat v3)) →
      X99 fi_starts fi_extents fi_count) ∧
      (¬ pa_size ≤ (fi_starts (Int.toNat v3)) →
      (0 ≤ v3 ∧ v3 < 65) ∧ tww_fi_endOfLine (fi_starts (Int.toNat v3)) v2 pa_kinds pa_widths pa_size fi_breaks fi_groups (fun z5 =>
        (0 ≤ v3 ∧ v3 < 65) ∧ tww_fi_extentOf (fi_starts (Int.toNat v3)) z5 pa_widths fi_groups (fun z7 =>
        (0 ≤ v3 ∧ v3 < 64) ∧ (tw_rg (v3 + 1)) ∧ (0 ≤ (v3 + 1) ∧ (v3 + 1) < 65) ∧ (tw_rg (v3 + 1)) ∧ (tw_rg (v3 + 1)) ∧ twl_fi_fill_24 X99 v2 pa_kinds pa_groups pa_widths pa_size fi_breaks fi_groups f (v3 + 1) (tw_up fi_starts (Int.toNat (v3 + 1)) z5) (tw_up fi_extents (Int.toNat v3) z7) (v3 + 1)))))))
set_option maxRecDepth 100000 in
set_option maxHeartbeats 4000000 in
theorem twt_fi_fill_24 {l : Launch} {D : va_G} {ad : Nat → Nat} {cI cZ : ClassId} {Z : tw_Z} {Post : tw_P} {X99 : (Nat → Int) → (Nat → Int) → Int → Prop} {v2 : Int} {pa_size pa_base le_ofParagraph ex_last ex_lostIsolates ex_lostEmbeddings ex_openIsolates se_count se_embedding se_beginning se_end tl_measure tl_stale : Int} {pa_kinds pa_groups pa_widths pa_pairs ma_others ma_waiting le_types le_partners le_resolved ex_levels ex_types ex_entryLevels ex_entryOverrides ex_entryIsolates se_places se_types se_marks br_partners br_list fi_breaks fi_groups sh_levels sh_order : Nat → Int} (hX : tw_cx (tw_YC l D ad cI cZ) Z prog_4_method_3_code twR_fi tw_Wg none 2 5) (hX99 : ∀ (fi_starts : Nat → Int) (fi_extents : Nat → Int) (fi_count : Int), X99 fi_starts fi_extents fi_count → tw_rn (tw_YC l D ad cI cZ) Z Post 99 [none, none, none, none, none] [] (tw_mC pa_kinds pa_groups pa_widths pa_pairs pa_size pa_base ma_others ma_waiting le_types le_partners le_resolved le_ofParagraph ex_levels ex_types ex_entryLevels ex_entryOverrides ex_entryIsolates ex_last ex_lostIsolates ex_lostEmbeddings ex_openIsolates se_places se_types se_marks se_count se_embedding se_beginning se_end br_partners br_list fi_breaks fi_starts fi_extents fi_count fi_groups sh_levels sh_order tl_measure tl_stale)) : ∀ (f : Nat) (v3 : Int) (fi_starts : Nat → Int) (fi_extents : Nat → Int) (fi_count : Int), twl_fi_fill_24 X99 v2 pa_kinds pa_groups pa_widths pa_size fi_breaks fi_groups f v3 fi_starts fi_extents fi_count → tw_rn (tw_YC l D ad cI cZ) Z Post 24 [some (.inr 26), some (.inr 1), some (.inl v2), some (.inl v3), none] [] (tw_mC pa_kinds pa_groups pa_widths pa_pairs pa_size pa_base ma_others ma_waiting le_types le_partners le_resolved le_ofParagraph ex_levels ex_types ex_entryLevels ex_entryOverrides ex_entryIsolates ex_last ex_lostIsolates ex_lostEmbeddings ex_openIsolates se_places se_types se_marks se_count se_embedding se_beginning se_end br_partners br_list fi_breaks fi_starts fi_extents fi_count fi_groups sh_levels sh_order tl_measure tl_stale) := by
  intro f
  induction f with
  | zero => intro v3 fi_starts fi_extents fi_count h; rw [twl_fi_fill_24] at h; exact h.elim
  | succ f ih =>
    intro v3 fi_starts fi_extents fi_count h
    rw [twl_fi_fill_24] at h
    refine tw_iload_n hX twd_fi_fill_24 rfl rfl ?_
    refine tw_bipush hX twd_fi_fill_25 (by decide +kernel) ⟨by decide, by decide⟩ ?_
    refine tw_icmp_ge hX twd_fi_fill_27 rfl (fun q14 => ?_) (fun q14 => ?_)
    · have h := h.1 q14
      refine tw_wk (L' := [none, none, none, none, none]) (tw_le_n (tw_le_n (tw_le_n (tw_le_n (tw_le_n tw_le_0))))) ?_
      exact hX99 _ _ _ h
    · have h := h.2 q14
      refine tw_aload_n hX twd_fi_fill_30 rfl rfl ?_
      refine tw_get (kf := 1) hX twd_fi_fill_31 twin_fi rfl (by decide) tww_291 rfl rfl rfl ?_
      refine tw_iload_n hX twd_fi_fill_34 rfl rfl ?_
      obtain ⟨c3, h⟩ := h
      refine tw_iaload hX twd_fi_fill_35 rfl c3 ?_
      refine tw_aload_n hX twd_fi_fill_36 rfl rfl ?_
      refine tw_get (kf := 4) hX twd_fi_fill_37 twin_pa rfl (by decide) tww_120 rfl rfl rfl ?_
      refine tw_icmp_ge hX twd_fi_fill_40 rfl (fun q13 => ?_) (fun q13 => ?_)
      · have h := h.1 q13
        refine tw_wk (L' := [none, none, none, none, none]) (tw_le_n (tw_le_n (tw_le_n (tw_le_n (tw_le_n tw_le_0))))) ?_
        exact hX99 _ _ _ h
      · have h := h.2 q13
        refine tw_aload_n hX twd_fi_fill_43 rfl rfl ?_
        refine tw_aload_n hX twd_fi_fill_44 rfl rfl ?_
        refine tw_aload_n hX twd_fi_fill_45 rfl rfl ?_
        refine tw_get (kf := 1) hX twd_fi_fill_46 twin_fi rfl (by decide) tww_291 rfl rfl rfl ?_
        refine tw_iload_n hX twd_fi_fill_49 rfl rfl ?_
        obtain ⟨c4, h⟩ := h
        refine tw_iaload hX twd_fi_fill_50 rfl c4 ?_
        refine tw_iload_n hX twd_fi_fill_51 rfl rfl ?_
        refine tw_callV (As := [.inr 1, .inl (fi_starts (Int.toNat v3)), .inl v2]) (n := 3) hX twd_fi_fill_52 tw_good tww_601 tww_598 tww_600 tww_34 tww_84 twk_fi_endOfLine rfl rfl ⟨by decide, by decide⟩ rfl (Nat.le_of_ble_eq_true rfl) (twc_fi_endOfLine h (fun z5 h => ?_))
        change tw_rn (tw_YC l D ad cI cZ) Z Post 55 [some (.inr 26), some (.inr 1), some (.inl v2), some (.inl v3), none] [.inl z5] (tw_mC pa_kinds pa_groups pa_widths pa_pairs pa_size pa_base ma_others ma_waiting le_types le_partners le_resolved le_ofParagraph ex_levels ex_types ex_entryLevels ex_entryOverrides ex_entryIsolates ex_last ex_lostIsolates ex_lostEmbeddings ex_openIsolates se_places se_types se_marks se_count se_embedding se_beginning se_end br_partners br_list fi_breaks fi_starts fi_extents fi_count fi_groups sh_levels sh_order tl_measure tl_stale)
        refine tw_istore (L' := [some (.inr 26), some (.inr 1), some (.inl v2), some (.inl v3), some (.inl z5)]) hX twd_fi_fill_55 (by decide) rfl ?_
        refine tw_aload_n hX twd_fi_fill_57 rfl rfl ?_
        refine tw_get (kf := 2) hX twd_fi_fill_58 twin_fi rfl (by decide) tww_294 rfl rfl rfl ?_
        refine tw_iload_n hX twd_fi_fill_61 rfl rfl ?_
        refine tw_aload_n hX twd_fi_fill_62 rfl rfl ?_
        refine tw_aload_n hX twd_fi_fill_63 rfl rfl ?_
        refine tw_aload_n hX twd_fi_fill_64 rfl rfl ?_
        refine tw_get (kf := 1) hX twd_fi_fill_65 twin_fi rfl (by decide) tww_291 rfl rfl rfl ?_
        refine tw_iload_n hX twd_fi_fill_68 rfl rfl ?_
        obtain ⟨c6, h⟩ := h
        refine tw_iaload hX twd_fi_fill_69 rfl c6 ?_
        refine tw_iload hX twd_fi_fill_70 rfl ?_
        refine tw_callV (As := [.inr 1, .inl (fi_starts (Int.toNat v3)), .inl z5]) (n := 3) hX twd_fi_fill_72 tw_good tww_605 tww_602 tww_604 tww_35 tww_84 twk_fi_extentOf rfl rfl ⟨by decide, by decide⟩ rfl (Nat.le_of_ble_eq_true rfl) (twc_fi_extentOf h (fun z7 h => ?_))
        change tw_rn (tw_YC l D ad cI cZ) Z Post 75 [some (.inr 26), some (.inr 1), some (.inl v2), some (.inl v3), some (.inl z5)] [.inl z7, .inl v3, .inr 29] (tw_mC pa_kinds pa_groups pa_widths pa_pairs pa_size pa_base ma_others ma_waiting le_types le_partners le_resolved le_ofParagraph ex_levels ex_types ex_entryLevels ex_entryOverrides ex_entryIsolates ex_last ex_lostIsolates ex_lostEmbeddings ex_openIsolates se_places se_types se_marks se_count se_embedding se_beginning se_end br_partners br_list fi_breaks fi_starts fi_extents fi_count fi_groups sh_levels sh_order tl_measure tl_stale)
        obtain ⟨c8, h⟩ := h
        refine tw_iastore (mem' := (tw_mC pa_kinds pa_groups pa_widths pa_pairs pa_size pa_base ma_others ma_waiting le_types le_partners le_resolved le_ofParagraph ex_levels ex_types ex_entryLevels ex_entryOverrides ex_entryIsolates ex_last ex_lostIsolates ex_lostEmbeddings ex_openIsolates se_places se_types se_marks se_count se_embedding se_beginning se_end br_partners br_list fi_breaks fi_starts (tw_up fi_extents (Int.toNat v3) z7) fi_count fi_groups sh_levels sh_order tl_measure tl_stale)) hX twd_fi_fill_75 rfl c8 rfl ?_
        refine tw_aload_n hX twd_fi_fill_76 rfl rfl ?_
        refine tw_get (kf := 1) hX twd_fi_fill_77 twin_fi rfl (by decide) tww_291 rfl rfl rfl ?_
        refine tw_iload_n hX twd_fi_fill_80 rfl rfl ?_
        refine tw_iconst hX twd_fi_fill_81 ⟨by decide, by decide⟩ ?_
        obtain ⟨c9, h⟩ := h
        refine tw_iadd hX twd_fi_fill_82 c9 ?_
        refine tw_iload hX twd_fi_fill_83 rfl ?_
        obtain ⟨c10, h⟩ := h
        refine tw_iastore (mem' := (tw_mC pa_kinds pa_groups pa_widths pa_pairs pa_size pa_base ma_others ma_waiting le_types le_partners le_resolved le_ofParagraph ex_levels ex_types ex_entryLevels ex_entryOverrides ex_entryIsolates ex_last ex_lostIsolates ex_lostEmbeddings ex_openIsolates se_places se_types se_marks se_count se_embedding se_beginning se_end br_partners br_list fi_breaks (tw_up fi_starts (Int.toNat (v3 + 1)) z5) (tw_up fi_extents (Int.toNat v3) z7) fi_count fi_groups sh_levels sh_order tl_measure tl_stale)) hX twd_fi_fill_85 rfl c10 rfl ?_
        refine tw_aload_n hX twd_fi_fill_86 rfl rfl ?_
        refine tw_iload_n hX twd_fi_fill_87 rfl rfl ?_
        refine tw_iconst hX twd_fi_fill_88 ⟨by decide, by decide⟩ ?_
        obtain ⟨c11, h⟩ := h
        refine tw_iadd hX twd_fi_fill_89 c11 ?_
        refine tw_put (kf := 3) (mem' := (tw_mC pa_kinds pa_groups pa_widths pa_pairs pa_size pa_base ma_others ma_waiting le_types le_partners le_resolved le_ofParagraph ex_levels ex_types ex_entryLevels ex_entryOverrides ex_entryIsolates ex_last ex_lostIsolates ex_lostEmbeddings ex_openIsolates se_places se_types se_marks se_count se_embedding se_beginning se_end br_partners br_list fi_breaks (tw_up fi_starts (Int.toNat (v3 + 1)) z5) (tw_up fi_extents (Int.toNat v3) z7) (v3 + 1) fi_groups sh_levels sh_order tl_measure tl_stale)) twt_fi hX twd_fi_fill_90 twin_fi twtok_fi twnm_fi rfl (by decide) tww_296 rfl rfl rfl (Or.inl rfl) rfl (Nat.le_of_ble_eq_true rfl) rfl ?_
        obtain ⟨c12, h⟩ := h
        refine tw_iinc (L' := [some (.inr 26), some (.inr 1), some (.inl v2), some (.inl (v3 + 1)), some (.inl z5)]) hX twd_fi_fill_93 rfl (by decide) c12 rfl ?_
        refine tw_goto hX twd_fi_fill_96 rfl ?_
        refine tw_wk (L' := [some (.inr 26), some (.inr 1), some (.inl v2), some (.inl (v3 + 1)), none]) (tw_le_s (tw_le_s (tw_le_s (tw_le_s (tw_le_n tw_le_0))))) ?_
        exact ih _ _ _ _ h
def tww_fi_fill (v2 : Int) (pa_kinds : Nat → Int) (pa_groups : Nat → Int) (pa_widths : Nat → Int) (pa_size : Int) (fi_breaks : Nat → Int) (fi_starts : Nat → Int) (fi_extents : Nat → Int) (fi_count : Int) (fi_groups : Nat → Int) (K : (Nat → Int) → (Nat → Int) → (Nat → Int) → Int → (Nat → Int) → Prop) : Prop :=
  tww_fi_findGroups pa_kinds pa_groups pa_size fi_groups (fun m_1_fi_groups =>
  tww_fi_findBreaks pa_kinds pa_size fi_breaks m_1_fi_groups (fun m_2_fi_breaks =>
  (∃ f18 : Nat, twl_fi_fill_24 (fun (y15_fi_starts : Nat → Int) (y16_fi_extents : Nat → Int) (y17_fi_count : Int) =>
  K m_2_fi_breaks y15_fi_starts y16_fi_extents y17_fi_count m_1_fi_groups) v2 pa_kinds pa_groups pa_widths pa_size m_2_fi_breaks m_1_fi_groups f18 0 (tw_up fi_starts (Int.toNat 0) 0) fi_extents 0)))
set_option maxRecDepth 100000 in
set_option maxHeartbeats 4000000 in
theorem twc_fi_fill {l : Launch} {D : va_G} {ad : Nat → Nat} {cI cZ : ClassId} {Post : tw_P} {K : (Nat → Int) → (Nat → Int) → (Nat → Int) → Int → (Nat → Int) → Prop} {v2 : Int} {pa_size pa_base le_ofParagraph ex_last ex_lostIsolates ex_lostEmbeddings ex_openIsolates se_count se_embedding se_beginning se_end fi_count tl_measure tl_stale : Int} {pa_kinds pa_groups pa_widths pa_pairs ma_others ma_waiting le_types le_partners le_resolved ex_levels ex_types ex_entryLevels ex_entryOverrides ex_entryIsolates se_places se_types se_marks br_partners br_list fi_breaks fi_starts fi_extents fi_groups sh_levels sh_order : Nat → Int} (h : tww_fi_fill v2 pa_kinds pa_groups pa_widths pa_size fi_breaks fi_starts fi_extents fi_count fi_groups K) (hK : ∀ (n_fi_breaks : Nat → Int) (n_fi_starts : Nat → Int) (n_fi_extents : Nat → Int) (n_fi_count : Int) (n_fi_groups : Nat → Int), K n_fi_breaks n_fi_starts n_fi_extents n_fi_count n_fi_groups → Post none (tw_mC pa_kinds pa_groups pa_widths pa_pairs pa_size pa_base ma_others ma_waiting le_types le_partners le_resolved le_ofParagraph ex_levels ex_types ex_entryLevels ex_entryOverrides ex_entryIsolates ex_last ex_lostIsolates ex_lostEmbeddings ex_openIsolates se_places se_types se_marks se_count se_embedding se_beginning se_end br_partners br_list n_fi_breaks n_fi_starts n_fi_extents n_fi_count n_fi_groups sh_levels sh_order tl_measure tl_stale)) : tw_ct (tw_YC l D ad cI cZ) twy_fi_fill (Cond.code twy_fi_fill prog_4_method_3_code 5 none :: tw_Wg) 2 [.inr 26, .inr 1, .inl v2] (tw_mC pa_kinds pa_groups pa_widths pa_pairs pa_size pa_base ma_others ma_waiting le_types le_partners le_resolved le_ofParagraph ex_levels ex_types ex_entryLevels ex_entryOverrides ex_entryIsolates ex_last ex_lostIsolates ex_lostEmbeddings ex_openIsolates se_places se_types se_marks se_count se_embedding se_beginning se_end br_partners br_list fi_breaks fi_starts fi_extents fi_count fi_groups sh_levels sh_order tl_measure tl_stale) Post := by
  refine tw_of (own := twR_fi) (L0 := [some (.inr 26), some (.inr 1), some (.inl v2), none, none]) (by decide) rfl rfl (Nat.le_of_ble_eq_true rfl) (fun Z hX => ?_)
  unfold tww_fi_fill at h
  refine tw_aload_n hX twd_fi_fill_0 rfl rfl ?_
  refine tw_aload_n hX twd_fi_fill_1 rfl rfl ?_
  refine tw_callV (As := [.inr 1]) (n := 1) hX twd_fi_fill_2 tw_good tww_590 tww_587 tww_589 tww_32 tww_84 twk_fi_findGroups rfl rfl ⟨by decide, by decide⟩ rfl (Nat.le_of_ble_eq_true rfl) (twc_fi_findGroups h (fun m_1_fi_groups h => ?_))
  change tw_rn (tw_YC l D ad cI cZ) Z Post 5 [some (.inr 26), some (.inr 1), some (.inl v2), none, none] [] (tw_mC pa_kinds pa_groups pa_widths pa_pairs pa_size pa_base ma_others ma_waiting le_types le_partners le_resolved le_ofParagraph ex_levels ex_types ex_entryLevels ex_entryOverrides ex_entryIsolates ex_last ex_lostIsolates ex_lostEmbeddings ex_openIsolates se_places se_types se_marks se_count se_embedding se_beginning se_end br_partners br_list fi_breaks fi_starts fi_extents fi_count m_1_fi_groups sh_levels sh_order tl_measure tl_stale)
  refine tw_aload_n hX twd_fi_fill_5 rfl rfl ?_
  refine tw_aload_n hX twd_fi_fill_6 rfl rfl ?_
  refine tw_callV (As := [.inr 1]) (n := 1) hX twd_fi_fill_7 tw_good tww_594 tww_591 tww_593 tww_33 tww_84 twk_fi_findBreaks rfl rfl ⟨by decide, by decide⟩ rfl (Nat.le_of_ble_eq_true rfl) (twc_fi_findBreaks h (fun m_2_fi_breaks h => ?_))
  change tw_rn (tw_YC l D ad cI cZ) Z Post 10 [some (.inr 26), some (.inr 1), some (.inl v2), none, none] [] (tw_mC pa_kinds pa_groups pa_widths pa_pairs pa_size pa_base ma_others ma_waiting le_types le_partners le_resolved le_ofParagraph ex_levels ex_types ex_entryLevels ex_entryOverrides ex_entryIsolates ex_last ex_lostIsolates ex_lostEmbeddings ex_openIsolates se_places se_types se_marks se_count se_embedding se_beginning se_end br_partners br_list m_2_fi_breaks fi_starts fi_extents fi_count m_1_fi_groups sh_levels sh_order tl_measure tl_stale)
  refine tw_aload_n hX twd_fi_fill_10 rfl rfl ?_
  refine tw_iconst hX twd_fi_fill_11 ⟨by decide, by decide⟩ ?_
  refine tw_put (kf := 3) (mem' := (tw_mC pa_kinds pa_groups pa_widths pa_pairs pa_size pa_base ma_others ma_waiting le_types le_partners le_resolved le_ofParagraph ex_levels ex_types ex_entryLevels ex_entryOverrides ex_entryIsolates ex_last ex_lostIsolates ex_lostEmbeddings ex_openIsolates se_places se_types se_marks se_count se_embedding se_beginning se_end br_partners br_list m_2_fi_breaks fi_starts fi_extents 0 m_1_fi_groups sh_levels sh_order tl_measure tl_stale)) twt_fi hX twd_fi_fill_12 twin_fi twtok_fi twnm_fi rfl (by decide) tww_296 rfl rfl rfl (Or.inl rfl) rfl (Nat.le_of_ble_eq_true rfl) rfl ?_
  refine tw_aload_n hX twd_fi_fill_15 rfl rfl ?_
  refine tw_get (kf := 1) hX twd_fi_fill_16 twin_fi rfl (by decide) tww_291 rfl rfl rfl ?_
  refine tw_iconst hX twd_fi_fill_19 ⟨by decide, by decide⟩ ?_
  refine tw_iconst hX twd_fi_fill_20 ⟨by decide, by decide⟩ ?_
  refine tw_iastore (mem' := (tw_mC pa_kinds pa_groups pa_widths pa_pairs pa_size pa_base ma_others ma_waiting le_types le_partners le_resolved le_ofParagraph ex_levels ex_types ex_entryLevels ex_entryOverrides ex_entryIsolates ex_last ex_lostIsolates ex_lostEmbeddings ex_openIsolates se_places se_types se_marks se_count se_embedding se_beginning se_end br_partners br_list m_2_fi_breaks (tw_up fi_starts (Int.toNat 0) 0) fi_extents 0 m_1_fi_groups sh_levels sh_order tl_measure tl_stale)) hX twd_fi_fill_21 rfl ⟨by decide, by decide⟩ rfl ?_
  refine tw_iconst hX twd_fi_fill_22 ⟨by decide, by decide⟩ ?_
  refine tw_istore_n (L' := [some (.inr 26), some (.inr 1), some (.inl v2), some (.inl 0), none]) hX twd_fi_fill_23 rfl (by decide) rfl ?_
  obtain ⟨f18, h⟩ := h
  refine twt_fi_fill_24 hX (fun y15_fi_starts y16_fi_extents y17_fi_count h => ?_) f18 _ _ _ _ h
  exact tw_vret hX twd_fi_fill_99 (hK _ _ _ _ _ h)
def twl_sh_setLevels_9 (X110 : (Nat → Int) → Prop) (v3 : Int) (pa_kinds : Nat → Int) (le_resolved : Nat → Int) (le_ofParagraph : Int) : Nat → Int → Int → (Nat → Int) → Prop
  | 0, _, _, _ => False
  | f + 1, v5, v6, sh_levels =>
    ((v6 < v3 →
    X110 sh_levels) ∧
    (¬ v6 < v3 →
    (0 ≤ v6 ∧ v6 < 64) ∧ (∀ J5 : Int → Int → Prop, (∀ (x3 : Int) (x4 : Int), ((∀ J7 : Int → Prop, (∀ (x6 : Int), ((((x6 = 0 → ((0 ≤ v6 ∧ v6 < 64)))) ∧
          (∀ x9 : Int, x9 = (if x6 = 0 then (le_resolved (Int.toNat v6)) else le_ofParagraph) →
          (0 ≤ v6 ∧ v6 < 64) ∧ (tw_rg (v6 + -1)) ∧ twl_sh_setLevels_9 X110 v3 pa_kinds le_resolved le_ofParagraph f x6 (v6 + -1) (tw_up sh_levels (Int.toNat v6) x9)))) → J7 x6) →
        ∀ J16 : Prop, ((J7 1) → J16) →
        ((x3 = 10 →
        J16) ∧
        (¬ x3 = 10 →
        (∀ J17 : Prop, ((J7 0) → J17) →
          ((v5 = 0 →
          J17) ∧
          (¬ v5 = 0 →
          ((x4 = 0 →
            J17) ∧
            (¬ x4 = 0 →
            J16))))))))) → J5 x3 x4) →
      ∀ J22 : Int → Prop, (∀ (x21 : Int), (J5 x21 1) → J22 x21) →
      (((pa_kinds (Int.toNat v6)) = 9 →
      J22 (pa_kinds (Int.toNat v6))) ∧
      (¬ (pa_kinds (Int.toNat v6)) = 9 →
      (((twr_tl_isIsolateMark (pa_kinds (Int.toNat v6))) = 0 →
        (((twr_tl_isHidden (pa_kinds (Int.toNat v6))) = 0 →
          J5 (pa_kinds (Int.toNat v6)) 0) ∧
          (¬ (twr_tl_isHidden (pa_kinds (Int.toNat v6))) = 0 →
          J22 (pa_kinds (Int.toNat v6))))) ∧
        (¬ (twr_tl_isIsolateMark (pa_kinds (Int.toNat v6))) = 0 →
        J22 (pa_kinds (Int.toNat v6)))))))))
set_option maxRecDepth 100000 in
set_option maxHeartbeats 4000000 in
theorem twt_sh_setLevels_9 {l : Launch} {D : va_G} {ad : Nat → Nat} {cI cZ : ClassId} {Z : tw_Z} {Post : tw_P} {X110 : (Nat → Int) → Prop} {v3 : Int} {pa_size pa_base le_ofParagraph ex_last ex_lostIsolates ex_lostEmbeddings ex_openIsolates se_count se_embedding se_beginning se_end fi_count tl_measure tl_stale : Int} {pa_kinds pa_groups pa_widths pa_pairs ma_others ma_waiting le_types le_partners le_resolved ex_levels ex_types ex_entryLevels ex_entryOverrides ex_entryIsolates se_places se_types se_marks br_partners br_list fi_breaks fi_starts fi_extents fi_groups sh_order : Nat → Int} (hX : tw_cx (tw_YC l D ad cI cZ) Z prog_9_method_3_code twR_sh tw_Wg none 1 9) (hX110 : ∀ (sh_levels : Nat → Int), X110 sh_levels → tw_rn (tw_YC l D ad cI cZ) Z Post 110 [none, none, none, none, none, none, none, none, none] [] (tw_mC pa_kinds pa_groups pa_widths pa_pairs pa_size pa_base ma_others ma_waiting le_types le_partners le_resolved le_ofParagraph ex_levels ex_types ex_entryLevels ex_entryOverrides ex_entryIsolates ex_last ex_lostIsolates ex_lostEmbeddings ex_openIsolates se_places se_types se_marks se_count se_embedding se_beginning se_end br_partners br_list fi_breaks fi_starts fi_extents fi_count fi_groups sh_levels sh_order tl_measure tl_stale)) : ∀ (f : Nat) (v5 : Int) (v6 : Int) (sh_levels : Nat → Int), twl_sh_setLevels_9 X110 v3 pa_kinds le_resolved le_ofParagraph f v5 v6 sh_levels → tw_rn (tw_YC l D ad cI cZ) Z Post 9 [some (.inr 31), some (.inr 1), some (.inr 6), some (.inl v3), none, some (.inl v5), some (.inl v6), none, none] [] (tw_mC pa_kinds pa_groups pa_widths pa_pairs pa_size pa_base ma_others ma_waiting le_types le_partners le_resolved le_ofParagraph ex_levels ex_types ex_entryLevels ex_entryOverrides ex_entryIsolates ex_last ex_lostIsolates ex_lostEmbeddings ex_openIsolates se_places se_types se_marks se_count se_embedding se_beginning se_end br_partners br_list fi_breaks fi_starts fi_extents fi_count fi_groups sh_levels sh_order tl_measure tl_stale) := by
  intro f
  induction f with
  | zero => intro v5 v6 sh_levels h; rw [twl_sh_setLevels_9] at h; exact h.elim
  | succ f ih =>
    intro v5 v6 sh_levels h
    rw [twl_sh_setLevels_9] at h
    refine tw_iload hX twd_sh_setLevels_9 rfl ?_
    refine tw_iload_n hX twd_sh_setLevels_11 rfl rfl ?_
    refine tw_icmp_lt hX twd_sh_setLevels_12 rfl (fun q30 => ?_) (fun q30 => ?_)
    · have h := h.1 q30
      refine tw_wk (L' := [none, none, none, none, none, none, none, none, none]) (tw_le_n (tw_le_n (tw_le_n (tw_le_n (tw_le_n (tw_le_n (tw_le_n (tw_le_n (tw_le_n tw_le_0))))))))) ?_
      exact hX110 _ h
    · have h := h.2 q30
      refine tw_aload_n hX twd_sh_setLevels_15 rfl rfl ?_
      refine tw_get (kf := 0) hX twd_sh_setLevels_16 twin_pa rfl (by decide) tww_105 rfl rfl rfl ?_
      refine tw_iload hX twd_sh_setLevels_19 rfl ?_
      obtain ⟨c2, h⟩ := h
      refine tw_iaload hX twd_sh_setLevels_21 rfl c2 ?_
      refine tw_istore (L' := [some (.inr 31), some (.inr 1), some (.inr 6), some (.inl v3), none, some (.inl v5), some (.inl v6), some (.inl (pa_kinds (Int.toNat v6))), none]) hX twd_sh_setLevels_22 (by decide) rfl ?_
      refine tw_iload hX twd_sh_setLevels_24 rfl ?_
      refine tw_bipush hX twd_sh_setLevels_26 (by decide +kernel) ⟨by decide, by decide⟩ ?_
      have h := h (fun (x3 : Int) (x4 : Int) => tw_rn (tw_YC l D ad cI cZ) Z Post 52 [some (.inr 31), some (.inr 1), some (.inr 6), some (.inl v3), none, some (.inl v5), some (.inl v6), some (.inl x3), none] [.inl x4] (tw_mC pa_kinds pa_groups pa_widths pa_pairs pa_size pa_base ma_others ma_waiting le_types le_partners le_resolved le_ofParagraph ex_levels ex_types ex_entryLevels ex_entryOverrides ex_entryIsolates ex_last ex_lostIsolates ex_lostEmbeddings ex_openIsolates se_places se_types se_marks se_count se_embedding se_beginning se_end br_partners br_list fi_breaks fi_starts fi_extents fi_count fi_groups sh_levels sh_order tl_measure tl_stale)) (by
        intro x3 x4 h
        refine tw_istore (L' := [some (.inr 31), some (.inr 1), some (.inr 6), some (.inl v3), none, some (.inl v5), some (.inl v6), some (.inl x3), some (.inl x4)]) hX twd_sh_setLevels_52 (by decide) rfl ?_
        refine tw_iload hX twd_sh_setLevels_54 rfl ?_
        refine tw_bipush hX twd_sh_setLevels_56 (by decide +kernel) ⟨by decide, by decide⟩ ?_
        have h := h (fun (x6 : Int) => tw_rn (tw_YC l D ad cI cZ) Z Post 76 [some (.inr 31), some (.inr 1), some (.inr 6), some (.inl v3), none, none, some (.inl v6), none, none] [.inl x6] (tw_mC pa_kinds pa_groups pa_widths pa_pairs pa_size pa_base ma_others ma_waiting le_types le_partners le_resolved le_ofParagraph ex_levels ex_types ex_entryLevels ex_entryOverrides ex_entryIsolates ex_last ex_lostIsolates ex_lostEmbeddings ex_openIsolates se_places se_types se_marks se_count se_embedding se_beginning se_end br_partners br_list fi_breaks fi_starts fi_extents fi_count fi_groups sh_levels sh_order tl_measure tl_stale)) (by
          intro x6 h
          refine tw_istore (L' := [some (.inr 31), some (.inr 1), some (.inr 6), some (.inl v3), none, some (.inl x6), some (.inl v6), none, none]) hX twd_sh_setLevels_76 (by decide) rfl ?_
          refine tw_aload_n hX twd_sh_setLevels_78 rfl rfl ?_
          refine tw_get (kf := 0) hX twd_sh_setLevels_79 twin_sh rfl (by decide) tww_317 rfl rfl rfl ?_
          refine tw_iload hX twd_sh_setLevels_82 rfl ?_
          refine tw_iload hX twd_sh_setLevels_84 rfl ?_
          obtain ⟨o12, h⟩ := h
          have j13 : ∀ x9 : Int, x9 = (if x6 = 0 then (le_resolved (Int.toNat v6)) else le_ofParagraph) → tw_rn (tw_YC l D ad cI cZ) Z Post 103 [some (.inr 31), some (.inr 1), some (.inr 6), some (.inl v3), none, some (.inl x6), some (.inl v6), none, none] [.inl x9, .inl v6, .inr 32] (tw_mC pa_kinds pa_groups pa_widths pa_pairs pa_size pa_base ma_others ma_waiting le_types le_partners le_resolved le_ofParagraph ex_levels ex_types ex_entryLevels ex_entryOverrides ex_entryIsolates ex_last ex_lostIsolates ex_lostEmbeddings ex_openIsolates se_places se_types se_marks se_count se_embedding se_beginning se_end br_partners br_list fi_breaks fi_starts fi_extents fi_count fi_groups sh_levels sh_order tl_measure tl_stale) := by
            intro x9 e14
            have h := h x9 e14
            obtain ⟨c10, h⟩ := h
            refine tw_iastore (mem' := (tw_mC pa_kinds pa_groups pa_widths pa_pairs pa_size pa_base ma_others ma_waiting le_types le_partners le_resolved le_ofParagraph ex_levels ex_types ex_entryLevels ex_entryOverrides ex_entryIsolates ex_last ex_lostIsolates ex_lostEmbeddings ex_openIsolates se_places se_types se_marks se_count se_embedding se_beginning se_end br_partners br_list fi_breaks fi_starts fi_extents fi_count fi_groups (tw_up sh_levels (Int.toNat v6) x9) sh_order tl_measure tl_stale)) hX twd_sh_setLevels_103 rfl c10 rfl ?_
            obtain ⟨c11, h⟩ := h
            refine tw_iinc (L' := [some (.inr 31), some (.inr 1), some (.inr 6), some (.inl v3), none, some (.inl x6), some (.inl (v6 + -1)), none, none]) hX twd_sh_setLevels_104 rfl (by decide) c11 rfl ?_
            refine tw_goto hX twd_sh_setLevels_107 rfl ?_
            exact ih _ _ _ h
          refine tw_if_eq hX twd_sh_setLevels_86 rfl (fun q15 => ?_) (fun q15 => ?_)
          · have _tw := trivial
            have o12 := o12 q15
            refine tw_aload_n hX twd_sh_setLevels_96 rfl rfl ?_
            refine tw_get (kf := 3) hX twd_sh_setLevels_97 twin_le rfl (by decide) tww_258 rfl rfl rfl ?_
            refine tw_iload hX twd_sh_setLevels_100 rfl ?_
            have c8 := o12
            refine tw_iaload hX twd_sh_setLevels_102 rfl c8 ?_
            exact j13 _ (Eq.symm (if_pos q15))
          · have _tw := trivial
            refine tw_aload_n hX twd_sh_setLevels_89 rfl rfl ?_
            refine tw_get (kf := 4) hX twd_sh_setLevels_90 twin_le rfl (by decide) tww_261 rfl rfl rfl ?_
            refine tw_goto hX twd_sh_setLevels_93 rfl ?_
            exact j13 _ (Eq.symm (if_neg q15)))
        have h := h (tw_rn (tw_YC l D ad cI cZ) Z Post 71 [some (.inr 31), some (.inr 1), some (.inr 6), some (.inl v3), none, none, some (.inl v6), none, none] [] (tw_mC pa_kinds pa_groups pa_widths pa_pairs pa_size pa_base ma_others ma_waiting le_types le_partners le_resolved le_ofParagraph ex_levels ex_types ex_entryLevels ex_entryOverrides ex_entryIsolates ex_last ex_lostIsolates ex_lostEmbeddings ex_openIsolates se_places se_types se_marks se_count se_embedding se_beginning se_end br_partners br_list fi_breaks fi_starts fi_extents fi_count fi_groups sh_levels sh_order tl_measure tl_stale)) (by
          intro  h
          refine tw_iconst hX twd_sh_setLevels_71 ⟨by decide, by decide⟩ ?_
          refine tw_goto hX twd_sh_setLevels_72 rfl ?_
          exact h)
        refine tw_icmp_eq hX twd_sh_setLevels_58 rfl (fun q20 => ?_) (fun q20 => ?_)
        · have h := h.1 q20
          refine tw_wk (L' := [some (.inr 31), some (.inr 1), some (.inr 6), some (.inl v3), none, none, some (.inl v6), none, none]) (tw_le_s (tw_le_s (tw_le_s (tw_le_s (tw_le_n (tw_le_n (tw_le_s (tw_le_n (tw_le_n tw_le_0))))))))) ?_
          exact h
        · have h := h.2 q20
          refine tw_iload hX twd_sh_setLevels_61 rfl ?_
          have h := h (tw_rn (tw_YC l D ad cI cZ) Z Post 75 [some (.inr 31), some (.inr 1), some (.inr 6), some (.inl v3), none, none, some (.inl v6), none, none] [] (tw_mC pa_kinds pa_groups pa_widths pa_pairs pa_size pa_base ma_others ma_waiting le_types le_partners le_resolved le_ofParagraph ex_levels ex_types ex_entryLevels ex_entryOverrides ex_entryIsolates ex_last ex_lostIsolates ex_lostEmbeddings ex_openIsolates se_places se_types se_marks se_count se_embedding se_beginning se_end br_partners br_list fi_breaks fi_starts fi_extents fi_count fi_groups sh_levels sh_order tl_measure tl_stale)) (by
            intro  h
            refine tw_iconst hX twd_sh_setLevels_75 ⟨by decide, by decide⟩ ?_
            exact h)
          refine tw_if_eq hX twd_sh_setLevels_63 rfl (fun q19 => ?_) (fun q19 => ?_)
          · have h := h.1 q19
            refine tw_wk (L' := [some (.inr 31), some (.inr 1), some (.inr 6), some (.inl v3), none, none, some (.inl v6), none, none]) (tw_le_s (tw_le_s (tw_le_s (tw_le_s (tw_le_n (tw_le_n (tw_le_s (tw_le_n (tw_le_n tw_le_0))))))))) ?_
            exact h
          · have h := h.2 q19
            refine tw_iload hX twd_sh_setLevels_66 rfl ?_
            refine tw_if_eq hX twd_sh_setLevels_68 rfl (fun q18 => ?_) (fun q18 => ?_)
            · have h := h.1 q18
              refine tw_wk (L' := [some (.inr 31), some (.inr 1), some (.inr 6), some (.inl v3), none, none, some (.inl v6), none, none]) (tw_le_s (tw_le_s (tw_le_s (tw_le_s (tw_le_n (tw_le_n (tw_le_s (tw_le_n (tw_le_n tw_le_0))))))))) ?_
              exact h
            · have h := h.2 q18
              refine tw_wk (L' := [some (.inr 31), some (.inr 1), some (.inr 6), some (.inl v3), none, none, some (.inl v6), none, none]) (tw_le_s (tw_le_s (tw_le_s (tw_le_s (tw_le_n (tw_le_n (tw_le_s (tw_le_n (tw_le_n tw_le_0))))))))) ?_
              exact h)
      have h := h (fun (x21 : Int) => tw_rn (tw_YC l D ad cI cZ) Z Post 47 [some (.inr 31), some (.inr 1), some (.inr 6), some (.inl v3), none, some (.inl v5), some (.inl v6), some (.inl x21), none] [] (tw_mC pa_kinds pa_groups pa_widths pa_pairs pa_size pa_base ma_others ma_waiting le_types le_partners le_resolved le_ofParagraph ex_levels ex_types ex_entryLevels ex_entryOverrides ex_entryIsolates ex_last ex_lostIsolates ex_lostEmbeddings ex_openIsolates se_places se_types se_marks se_count se_embedding se_beginning se_end br_partners br_list fi_breaks fi_starts fi_extents fi_count fi_groups sh_levels sh_order tl_measure tl_stale)) (by
        intro x21 h
        refine tw_iconst hX twd_sh_setLevels_47 ⟨by decide, by decide⟩ ?_
        refine tw_goto hX twd_sh_setLevels_48 rfl ?_
        exact h)
      refine tw_icmp_eq hX twd_sh_setLevels_28 rfl (fun q29 => ?_) (fun q29 => ?_)
      · have h := h.1 q29
        exact h
      · have h := h.2 q29
        refine tw_iload hX twd_sh_setLevels_31 rfl ?_
        refine tw_callSN (As := [.inl (pa_kinds (Int.toNat v6))]) (n := 1) hX twd_sh_setLevels_33 tw_good tww_509 twn_9 tww_508 tww_77 twk_tl_isIsolateMark ⟨by decide, by decide⟩ rfl (Nat.le_of_ble_eq_true rfl) (twc_tl_isIsolateMark (fun z23 e24 => ?_))
        subst e24
        change tw_rn (tw_YC l D ad cI cZ) Z Post 36 [some (.inr 31), some (.inr 1), some (.inr 6), some (.inl v3), none, some (.inl v5), some (.inl v6), some (.inl (pa_kinds (Int.toNat v6))), none] [.inl (twr_tl_isIsolateMark (pa_kinds (Int.toNat v6)))] (tw_mC pa_kinds pa_groups pa_widths pa_pairs pa_size pa_base ma_others ma_waiting le_types le_partners le_resolved le_ofParagraph ex_levels ex_types ex_entryLevels ex_entryOverrides ex_entryIsolates ex_last ex_lostIsolates ex_lostEmbeddings ex_openIsolates se_places se_types se_marks se_count se_embedding se_beginning se_end br_partners br_list fi_breaks fi_starts fi_extents fi_count fi_groups sh_levels sh_order tl_measure tl_stale)
        refine tw_if_ne hX twd_sh_setLevels_36 rfl (fun q28 => ?_) (fun q28 => ?_)
        · have h := h.2 q28
          exact h
        · have h := h.1 q28
          refine tw_iload hX twd_sh_setLevels_39 rfl ?_
          refine tw_callSN (As := [.inl (pa_kinds (Int.toNat v6))]) (n := 1) hX twd_sh_setLevels_41 tw_good tww_417 twn_10 tww_416 tww_77 twk_tl_isHidden ⟨by decide, by decide⟩ rfl (Nat.le_of_ble_eq_true rfl) (twc_tl_isHidden (fun z25 e26 => ?_))
          subst e26
          change tw_rn (tw_YC l D ad cI cZ) Z Post 44 [some (.inr 31), some (.inr 1), some (.inr 6), some (.inl v3), none, some (.inl v5), some (.inl v6), some (.inl (pa_kinds (Int.toNat v6))), none] [.inl (twr_tl_isHidden (pa_kinds (Int.toNat v6)))] (tw_mC pa_kinds pa_groups pa_widths pa_pairs pa_size pa_base ma_others ma_waiting le_types le_partners le_resolved le_ofParagraph ex_levels ex_types ex_entryLevels ex_entryOverrides ex_entryIsolates ex_last ex_lostIsolates ex_lostEmbeddings ex_openIsolates se_places se_types se_marks se_count se_embedding se_beginning se_end br_partners br_list fi_breaks fi_starts fi_extents fi_count fi_groups sh_levels sh_order tl_measure tl_stale)
          refine tw_if_eq hX twd_sh_setLevels_44 rfl (fun q27 => ?_) (fun q27 => ?_)
          · have h := h.1 q27
            refine tw_iconst hX twd_sh_setLevels_51 ⟨by decide, by decide⟩ ?_
            exact h
          · have h := h.2 q27
            exact h
def tww_sh_setLevels (v3 v4 : Int) (pa_kinds : Nat → Int) (le_resolved : Nat → Int) (le_ofParagraph : Int) (sh_levels : Nat → Int) (K : (Nat → Int) → Prop) : Prop :=
  (tw_rg (v4 - 1)) ∧ (∃ f32 : Nat, twl_sh_setLevels_9 (fun (y31_sh_levels : Nat → Int) =>
  K y31_sh_levels) v3 pa_kinds le_resolved le_ofParagraph f32 1 (v4 - 1) sh_levels)
set_option maxRecDepth 100000 in
set_option maxHeartbeats 4000000 in
theorem twc_sh_setLevels {l : Launch} {D : va_G} {ad : Nat → Nat} {cI cZ : ClassId} {Post : tw_P} {K : (Nat → Int) → Prop} {v3 v4 : Int} {pa_size pa_base le_ofParagraph ex_last ex_lostIsolates ex_lostEmbeddings ex_openIsolates se_count se_embedding se_beginning se_end fi_count tl_measure tl_stale : Int} {pa_kinds pa_groups pa_widths pa_pairs ma_others ma_waiting le_types le_partners le_resolved ex_levels ex_types ex_entryLevels ex_entryOverrides ex_entryIsolates se_places se_types se_marks br_partners br_list fi_breaks fi_starts fi_extents fi_groups sh_levels sh_order : Nat → Int} (h : tww_sh_setLevels v3 v4 pa_kinds le_resolved le_ofParagraph sh_levels K) (hK : ∀ (n_sh_levels : Nat → Int), K n_sh_levels → Post none (tw_mC pa_kinds pa_groups pa_widths pa_pairs pa_size pa_base ma_others ma_waiting le_types le_partners le_resolved le_ofParagraph ex_levels ex_types ex_entryLevels ex_entryOverrides ex_entryIsolates ex_last ex_lostIsolates ex_lostEmbeddings ex_openIsolates se_places se_types se_marks se_count se_embedding se_beginning se_end br_partners br_list fi_breaks fi_starts fi_extents fi_count fi_groups n_sh_levels sh_order tl_measure tl_stale)) : tw_ct (tw_YC l D ad cI cZ) twy_sh_setLevels (Cond.code twy_sh_setLevels prog_9_method_3_code 9 none :: tw_Wg) 1 [.inr 31, .inr 1, .inr 6, .inl v3, .inl v4] (tw_mC pa_kinds pa_groups pa_widths pa_pairs pa_size pa_base ma_others ma_waiting le_types le_partners le_resolved le_ofParagraph ex_levels ex_types ex_entryLevels ex_entryOverrides ex_entryIsolates ex_last ex_lostIsolates ex_lostEmbeddings ex_openIsolates se_places se_types se_marks se_count se_embedding se_beginning se_end br_partners br_list fi_breaks fi_starts fi_extents fi_count fi_groups sh_levels sh_order tl_measure tl_stale) Post := by
  refine tw_of (own := twR_sh) (L0 := [some (.inr 31), some (.inr 1), some (.inr 6), some (.inl v3), some (.inl v4), none, none, none, none]) (by decide) rfl rfl (Nat.le_of_ble_eq_true rfl) (fun Z hX => ?_)
  unfold tww_sh_setLevels at h
  refine tw_iconst hX twd_sh_setLevels_0 ⟨by decide, by decide⟩ ?_
  refine tw_istore (L' := [some (.inr 31), some (.inr 1), some (.inr 6), some (.inl v3), some (.inl v4), some (.inl 1), none, none, none]) hX twd_sh_setLevels_1 (by decide) rfl ?_
  refine tw_iload hX twd_sh_setLevels_3 rfl ?_
  refine tw_iconst hX twd_sh_setLevels_5 ⟨by decide, by decide⟩ ?_
  obtain ⟨c1, h⟩ := h
  refine tw_isub hX twd_sh_setLevels_6 c1 ?_
  refine tw_istore (L' := [some (.inr 31), some (.inr 1), some (.inr 6), some (.inl v3), some (.inl v4), some (.inl 1), some (.inl (v4 - 1)), none, none]) hX twd_sh_setLevels_7 (by decide) rfl ?_
  obtain ⟨f32, h⟩ := h
  refine tw_wk (L' := [some (.inr 31), some (.inr 1), some (.inr 6), some (.inl v3), none, some (.inl 1), some (.inl (v4 - 1)), none, none]) (tw_le_s (tw_le_s (tw_le_s (tw_le_s (tw_le_n (tw_le_s (tw_le_s (tw_le_n (tw_le_n tw_le_0))))))))) ?_
  refine twt_sh_setLevels_9 hX (fun y31_sh_levels h => ?_) f32 _ _ _ h
  exact tw_vret hX twd_sh_setLevels_110 (hK _ h)
def twl_sh_turn_11 (X63 : (Nat → Int) → Prop) (v1 : Int) (v2 : Int) (v3 : Int) : Nat → Int → (Nat → Int) → Prop
  | 0, _, _ => False
  | f + 1, v4, sh_order =>
    ((v3 ≤ v4 →
    X63 sh_order) ∧
    (¬ v3 ≤ v4 →
    (tw_rg (v1 + v4)) ∧ (0 ≤ (v1 + v4) ∧ (v1 + v4) < 64) ∧ (tw_rg (v1 + v4)) ∧ (tw_rg (v2 - v4)) ∧ (0 ≤ (v2 - v4) ∧ (v2 - v4) < 64) ∧ (0 ≤ (v1 + v4) ∧ (v1 + v4) < 64) ∧ (tw_rg (v2 - v4)) ∧ (0 ≤ (v2 - v4) ∧ (v2 - v4) < 64) ∧ (tw_rg (v4 + 1)) ∧ twl_sh_turn_11 X63 v1 v2 v3 f (v4 + 1) (tw_up (tw_up sh_order (Int.toNat (v1 + v4)) (sh_order (Int.toNat (v2 - v4)))) (Int.toNat (v2 - v4)) (sh_order (Int.toNat (v1 + v4))))))
set_option maxRecDepth 100000 in
set_option maxHeartbeats 4000000 in
theorem twt_sh_turn_11 {l : Launch} {D : va_G} {ad : Nat → Nat} {cI cZ : ClassId} {Z : tw_Z} {Post : tw_P} {X63 : (Nat → Int) → Prop} {v1 : Int} {v2 : Int} {v3 : Int} {pa_size pa_base le_ofParagraph ex_last ex_lostIsolates ex_lostEmbeddings ex_openIsolates se_count se_embedding se_beginning se_end fi_count tl_measure tl_stale : Int} {pa_kinds pa_groups pa_widths pa_pairs ma_others ma_waiting le_types le_partners le_resolved ex_levels ex_types ex_entryLevels ex_entryOverrides ex_entryIsolates se_places se_types se_marks br_partners br_list fi_breaks fi_starts fi_extents fi_groups sh_levels : Nat → Int} (hX : tw_cx (tw_YC l D ad cI cZ) Z prog_9_method_6_code twR_sh tw_Wg none 0 6) (hX63 : ∀ (sh_order : Nat → Int), X63 sh_order → tw_rn (tw_YC l D ad cI cZ) Z Post 63 [none, none, none, none, none, none] [] (tw_mC pa_kinds pa_groups pa_widths pa_pairs pa_size pa_base ma_others ma_waiting le_types le_partners le_resolved le_ofParagraph ex_levels ex_types ex_entryLevels ex_entryOverrides ex_entryIsolates ex_last ex_lostIsolates ex_lostEmbeddings ex_openIsolates se_places se_types se_marks se_count se_embedding se_beginning se_end br_partners br_list fi_breaks fi_starts fi_extents fi_count fi_groups sh_levels sh_order tl_measure tl_stale)) : ∀ (f : Nat) (v4 : Int) (sh_order : Nat → Int), twl_sh_turn_11 X63 v1 v2 v3 f v4 sh_order → tw_rn (tw_YC l D ad cI cZ) Z Post 11 [some (.inr 31), some (.inl v1), some (.inl v2), some (.inl v3), some (.inl v4), none] [] (tw_mC pa_kinds pa_groups pa_widths pa_pairs pa_size pa_base ma_others ma_waiting le_types le_partners le_resolved le_ofParagraph ex_levels ex_types ex_entryLevels ex_entryOverrides ex_entryIsolates ex_last ex_lostIsolates ex_lostEmbeddings ex_openIsolates se_places se_types se_marks se_count se_embedding se_beginning se_end br_partners br_list fi_breaks fi_starts fi_extents fi_count fi_groups sh_levels sh_order tl_measure tl_stale) := by
  intro f
  induction f with
  | zero => intro v4 sh_order h; rw [twl_sh_turn_11] at h; exact h.elim
  | succ f ih =>
    intro v4 sh_order h
    rw [twl_sh_turn_11] at h
    refine tw_iload hX twd_sh_turn_11 rfl ?_
    refine tw_iload_n hX twd_sh_turn_13 rfl rfl ?_
    refine tw_icmp_ge hX twd_sh_turn_14 rfl (fun q13 => ?_) (fun q13 => ?_)
    · have h := h.1 q13
      refine tw_wk (L' := [none, none, none, none, none, none]) (tw_le_n (tw_le_n (tw_le_n (tw_le_n (tw_le_n (tw_le_n tw_le_0)))))) ?_
      exact hX63 _ h
    · have h := h.2 q13
      refine tw_aload_n hX twd_sh_turn_17 rfl rfl ?_
      refine tw_get (kf := 1) hX twd_sh_turn_18 twin_sh rfl (by decide) tww_319 rfl rfl rfl ?_
      refine tw_iload_n hX twd_sh_turn_21 rfl rfl ?_
      refine tw_iload hX twd_sh_turn_22 rfl ?_
      obtain ⟨c4, h⟩ := h
      refine tw_iadd hX twd_sh_turn_24 c4 ?_
      obtain ⟨c5, h⟩ := h
      refine tw_iaload hX twd_sh_turn_25 rfl c5 ?_
      refine tw_istore (L' := [some (.inr 31), some (.inl v1), some (.inl v2), some (.inl v3), some (.inl v4), some (.inl (sh_order (Int.toNat (v1 + v4))))]) hX twd_sh_turn_26 (by decide) rfl ?_
      refine tw_aload_n hX twd_sh_turn_28 rfl rfl ?_
      refine tw_get (kf := 1) hX twd_sh_turn_29 twin_sh rfl (by decide) tww_319 rfl rfl rfl ?_
      refine tw_iload_n hX twd_sh_turn_32 rfl rfl ?_
      refine tw_iload hX twd_sh_turn_33 rfl ?_
      obtain ⟨c6, h⟩ := h
      refine tw_iadd hX twd_sh_turn_35 c6 ?_
      refine tw_aload_n hX twd_sh_turn_36 rfl rfl ?_
      refine tw_get (kf := 1) hX twd_sh_turn_37 twin_sh rfl (by decide) tww_319 rfl rfl rfl ?_
      refine tw_iload_n hX twd_sh_turn_40 rfl rfl ?_
      refine tw_iload hX twd_sh_turn_41 rfl ?_
      obtain ⟨c7, h⟩ := h
      refine tw_isub hX twd_sh_turn_43 c7 ?_
      obtain ⟨c8, h⟩ := h
      refine tw_iaload hX twd_sh_turn_44 rfl c8 ?_
      obtain ⟨c9, h⟩ := h
      refine tw_iastore (mem' := (tw_mC pa_kinds pa_groups pa_widths pa_pairs pa_size pa_base ma_others ma_waiting le_types le_partners le_resolved le_ofParagraph ex_levels ex_types ex_entryLevels ex_entryOverrides ex_entryIsolates ex_last ex_lostIsolates ex_lostEmbeddings ex_openIsolates se_places se_types se_marks se_count se_embedding se_beginning se_end br_partners br_list fi_breaks fi_starts fi_extents fi_count fi_groups sh_levels (tw_up sh_order (Int.toNat (v1 + v4)) (sh_order (Int.toNat (v2 - v4)))) tl_measure tl_stale)) hX twd_sh_turn_45 rfl c9 rfl ?_
      refine tw_aload_n hX twd_sh_turn_46 rfl rfl ?_
      refine tw_get (kf := 1) hX twd_sh_turn_47 twin_sh rfl (by decide) tww_319 rfl rfl rfl ?_
      refine tw_iload_n hX twd_sh_turn_50 rfl rfl ?_
      refine tw_iload hX twd_sh_turn_51 rfl ?_
      obtain ⟨c10, h⟩ := h
      refine tw_isub hX twd_sh_turn_53 c10 ?_
      refine tw_iload hX twd_sh_turn_54 rfl ?_
      obtain ⟨c11, h⟩ := h
      refine tw_iastore (mem' := (tw_mC pa_kinds pa_groups pa_widths pa_pairs pa_size pa_base ma_others ma_waiting le_types le_partners le_resolved le_ofParagraph ex_levels ex_types ex_entryLevels ex_entryOverrides ex_entryIsolates ex_last ex_lostIsolates ex_lostEmbeddings ex_openIsolates se_places se_types se_marks se_count se_embedding se_beginning se_end br_partners br_list fi_breaks fi_starts fi_extents fi_count fi_groups sh_levels (tw_up (tw_up sh_order (Int.toNat (v1 + v4)) (sh_order (Int.toNat (v2 - v4)))) (Int.toNat (v2 - v4)) (sh_order (Int.toNat (v1 + v4)))) tl_measure tl_stale)) hX twd_sh_turn_56 rfl c11 rfl ?_
      obtain ⟨c12, h⟩ := h
      refine tw_iinc (L' := [some (.inr 31), some (.inl v1), some (.inl v2), some (.inl v3), some (.inl (v4 + 1)), some (.inl (sh_order (Int.toNat (v1 + v4))))]) hX twd_sh_turn_57 rfl (by decide) c12 rfl ?_
      refine tw_goto hX twd_sh_turn_60 rfl ?_
      refine tw_wk (L' := [some (.inr 31), some (.inl v1), some (.inl v2), some (.inl v3), some (.inl (v4 + 1)), none]) (tw_le_s (tw_le_s (tw_le_s (tw_le_s (tw_le_s (tw_le_n tw_le_0)))))) ?_
      exact ih _ _ h
def tww_sh_turn (v1 v2 : Int) (sh_order : Nat → Int) (K : (Nat → Int) → Prop) : Prop :=
  (tw_rg (v2 - v1)) ∧ (tw_rg ((v2 - v1) + 1)) ∧ (0 ≤ ((v2 - v1) + 1)) ∧ (∃ f15 : Nat, twl_sh_turn_11 (fun (y14_sh_order : Nat → Int) =>
  K y14_sh_order) v1 v2 (((v2 - v1) + 1) / 2) f15 0 sh_order)
set_option maxRecDepth 100000 in
set_option maxHeartbeats 4000000 in
theorem twc_sh_turn {l : Launch} {D : va_G} {ad : Nat → Nat} {cI cZ : ClassId} {Post : tw_P} {K : (Nat → Int) → Prop} {v1 v2 : Int} {pa_size pa_base le_ofParagraph ex_last ex_lostIsolates ex_lostEmbeddings ex_openIsolates se_count se_embedding se_beginning se_end fi_count tl_measure tl_stale : Int} {pa_kinds pa_groups pa_widths pa_pairs ma_others ma_waiting le_types le_partners le_resolved ex_levels ex_types ex_entryLevels ex_entryOverrides ex_entryIsolates se_places se_types se_marks br_partners br_list fi_breaks fi_starts fi_extents fi_groups sh_levels sh_order : Nat → Int} (h : tww_sh_turn v1 v2 sh_order K) (hK : ∀ (n_sh_order : Nat → Int), K n_sh_order → Post none (tw_mC pa_kinds pa_groups pa_widths pa_pairs pa_size pa_base ma_others ma_waiting le_types le_partners le_resolved le_ofParagraph ex_levels ex_types ex_entryLevels ex_entryOverrides ex_entryIsolates ex_last ex_lostIsolates ex_lostEmbeddings ex_openIsolates se_places se_types se_marks se_count se_embedding se_beginning se_end br_partners br_list fi_breaks fi_starts fi_extents fi_count fi_groups sh_levels n_sh_order tl_measure tl_stale)) : tw_ct (tw_YC l D ad cI cZ) twy_sh_turn (Cond.code twy_sh_turn prog_9_method_6_code 6 none :: tw_Wg) 0 [.inr 31, .inl v1, .inl v2] (tw_mC pa_kinds pa_groups pa_widths pa_pairs pa_size pa_base ma_others ma_waiting le_types le_partners le_resolved le_ofParagraph ex_levels ex_types ex_entryLevels ex_entryOverrides ex_entryIsolates ex_last ex_lostIsolates ex_lostEmbeddings ex_openIsolates se_places se_types se_marks se_count se_embedding se_beginning se_end br_partners br_list fi_breaks fi_starts fi_extents fi_count fi_groups sh_levels sh_order tl_measure tl_stale) Post := by
  refine tw_of (own := twR_sh) (L0 := [some (.inr 31), some (.inl v1), some (.inl v2), none, none, none]) (by decide) rfl rfl (Nat.le_of_ble_eq_true rfl) (fun Z hX => ?_)
  unfold tww_sh_turn at h
  refine tw_iload_n hX twd_sh_turn_0 rfl rfl ?_
  refine tw_iload_n hX twd_sh_turn_1 rfl rfl ?_
  obtain ⟨c1, h⟩ := h
  refine tw_isub hX twd_sh_turn_2 c1 ?_
  refine tw_iconst hX twd_sh_turn_3 ⟨by decide, by decide⟩ ?_
  obtain ⟨c2, h⟩ := h
  refine tw_iadd hX twd_sh_turn_4 c2 ?_
  refine tw_iconst hX twd_sh_turn_5 ⟨by decide, by decide⟩ ?_
  obtain ⟨c3, h⟩ := h
  refine tw_idiv hX twd_sh_turn_6 c3 (by decide) ?_
  refine tw_istore_n (L' := [some (.inr 31), some (.inl v1), some (.inl v2), some (.inl (((v2 - v1) + 1) / 2)), none, none]) hX twd_sh_turn_7 rfl (by decide) rfl ?_
  refine tw_iconst hX twd_sh_turn_8 ⟨by decide, by decide⟩ ?_
  refine tw_istore (L' := [some (.inr 31), some (.inl v1), some (.inl v2), some (.inl (((v2 - v1) + 1) / 2)), some (.inl 0), none]) hX twd_sh_turn_9 (by decide) rfl ?_
  obtain ⟨f15, h⟩ := h
  refine twt_sh_turn_11 hX (fun y14_sh_order h => ?_) f15 _ _ h
  exact tw_vret hX twd_sh_turn_63 (hK _ h)
def twl_sh_turnRows_6 (X56 : (Nat → Int) → Prop) (v2 : Int) (v3 : Int) (sh_levels : Nat → Int) : Nat → Int → Int → (Nat → Int) → Prop
  | 0, _, _, _ => False
  | f + 1, v4, v5, sh_order =>
    ((v2 < v5 →
    X56 sh_order) ∧
    (¬ v2 < v5 →
    (∀ J3 : Int → (Nat → Int) → Prop, (∀ (x1 : Int) (x_2_sh_order : Nat → Int), ((tw_rg (v5 + 1)) ∧ twl_sh_turnRows_6 X56 v2 v3 sh_levels f x1 (v5 + 1) x_2_sh_order) → J3 x1 x_2_sh_order) →
      ∀ J5 : Prop, (((tw_rg (v5 - 1)) ∧ tww_sh_turn v4 (v5 - 1) sh_order (fun m_7_sh_order =>
        (tw_rg (v5 + 1)) ∧ J3 (v5 + 1) m_7_sh_order)) → J5) →
      ((v5 = v2 →
      J5) ∧
      (¬ v5 = v2 →
      (0 ≤ v5 ∧ v5 < 64) ∧ (0 ≤ (sh_order (Int.toNat v5)) ∧ (sh_order (Int.toNat v5)) < 64) ∧ ((v3 ≤ (sh_levels (Int.toNat (sh_order (Int.toNat v5)))) →
        J3 v4 sh_order) ∧
        (¬ v3 ≤ (sh_levels (Int.toNat (sh_order (Int.toNat v5)))) →
        J5)))))))
set_option maxRecDepth 100000 in
set_option maxHeartbeats 4000000 in
theorem twt_sh_turnRows_6 {l : Launch} {D : va_G} {ad : Nat → Nat} {cI cZ : ClassId} {Z : tw_Z} {Post : tw_P} {X56 : (Nat → Int) → Prop} {v2 : Int} {v3 : Int} {pa_size pa_base le_ofParagraph ex_last ex_lostIsolates ex_lostEmbeddings ex_openIsolates se_count se_embedding se_beginning se_end fi_count tl_measure tl_stale : Int} {pa_kinds pa_groups pa_widths pa_pairs ma_others ma_waiting le_types le_partners le_resolved ex_levels ex_types ex_entryLevels ex_entryOverrides ex_entryIsolates se_places se_types se_marks br_partners br_list fi_breaks fi_starts fi_extents fi_groups sh_levels : Nat → Int} (hX : tw_cx (tw_YC l D ad cI cZ) Z prog_9_method_5_code twR_sh tw_Wg none 1 6) (hX56 : ∀ (sh_order : Nat → Int), X56 sh_order → tw_rn (tw_YC l D ad cI cZ) Z Post 56 [none, none, none, none, none, none] [] (tw_mC pa_kinds pa_groups pa_widths pa_pairs pa_size pa_base ma_others ma_waiting le_types le_partners le_resolved le_ofParagraph ex_levels ex_types ex_entryLevels ex_entryOverrides ex_entryIsolates ex_last ex_lostIsolates ex_lostEmbeddings ex_openIsolates se_places se_types se_marks se_count se_embedding se_beginning se_end br_partners br_list fi_breaks fi_starts fi_extents fi_count fi_groups sh_levels sh_order tl_measure tl_stale)) : ∀ (f : Nat) (v4 : Int) (v5 : Int) (sh_order : Nat → Int), twl_sh_turnRows_6 X56 v2 v3 sh_levels f v4 v5 sh_order → tw_rn (tw_YC l D ad cI cZ) Z Post 6 [some (.inr 31), none, some (.inl v2), some (.inl v3), some (.inl v4), some (.inl v5)] [] (tw_mC pa_kinds pa_groups pa_widths pa_pairs pa_size pa_base ma_others ma_waiting le_types le_partners le_resolved le_ofParagraph ex_levels ex_types ex_entryLevels ex_entryOverrides ex_entryIsolates ex_last ex_lostIsolates ex_lostEmbeddings ex_openIsolates se_places se_types se_marks se_count se_embedding se_beginning se_end br_partners br_list fi_breaks fi_starts fi_extents fi_count fi_groups sh_levels sh_order tl_measure tl_stale) := by
  intro f
  induction f with
  | zero => intro v4 v5 sh_order h; rw [twl_sh_turnRows_6] at h; exact h.elim
  | succ f ih =>
    intro v4 v5 sh_order h
    rw [twl_sh_turnRows_6] at h
    refine tw_iload hX twd_sh_turnRows_6 rfl ?_
    refine tw_iload_n hX twd_sh_turnRows_8 rfl rfl ?_
    refine tw_icmp_gt hX twd_sh_turnRows_9 rfl (fun q13 => ?_) (fun q13 => ?_)
    · have h := h.1 q13
      refine tw_wk (L' := [none, none, none, none, none, none]) (tw_le_n (tw_le_n (tw_le_n (tw_le_n (tw_le_n (tw_le_n tw_le_0)))))) ?_
      exact hX56 _ h
    · have h := h.2 q13
      refine tw_iload hX twd_sh_turnRows_12 rfl ?_
      refine tw_iload_n hX twd_sh_turnRows_14 rfl rfl ?_
      have h := h (fun (x1 : Int) (x_2_sh_order : Nat → Int) => tw_rn (tw_YC l D ad cI cZ) Z Post 50 [some (.inr 31), none, some (.inl v2), some (.inl v3), some (.inl x1), some (.inl v5)] [] (tw_mC pa_kinds pa_groups pa_widths pa_pairs pa_size pa_base ma_others ma_waiting le_types le_partners le_resolved le_ofParagraph ex_levels ex_types ex_entryLevels ex_entryOverrides ex_entryIsolates ex_last ex_lostIsolates ex_lostEmbeddings ex_openIsolates se_places se_types se_marks se_count se_embedding se_beginning se_end br_partners br_list fi_breaks fi_starts fi_extents fi_count fi_groups sh_levels x_2_sh_order tl_measure tl_stale)) (by
        intro x1 x_2_sh_order h
        obtain ⟨c4, h⟩ := h
        refine tw_iinc (L' := [some (.inr 31), none, some (.inl v2), some (.inl v3), some (.inl x1), some (.inl (v5 + 1))]) hX twd_sh_turnRows_50 rfl (by decide) c4 rfl ?_
        refine tw_goto hX twd_sh_turnRows_53 rfl ?_
        exact ih _ _ _ h)
      have h := h (tw_rn (tw_YC l D ad cI cZ) Z Post 34 [some (.inr 31), none, some (.inl v2), some (.inl v3), some (.inl v4), some (.inl v5)] [] (tw_mC pa_kinds pa_groups pa_widths pa_pairs pa_size pa_base ma_others ma_waiting le_types le_partners le_resolved le_ofParagraph ex_levels ex_types ex_entryLevels ex_entryOverrides ex_entryIsolates ex_last ex_lostIsolates ex_lostEmbeddings ex_openIsolates se_places se_types se_marks se_count se_embedding se_beginning se_end br_partners br_list fi_breaks fi_starts fi_extents fi_count fi_groups sh_levels sh_order tl_measure tl_stale)) (by
        intro  h
        refine tw_aload_n hX twd_sh_turnRows_34 rfl rfl ?_
        refine tw_iload hX twd_sh_turnRows_35 rfl ?_
        refine tw_iload hX twd_sh_turnRows_37 rfl ?_
        refine tw_iconst hX twd_sh_turnRows_39 ⟨by decide, by decide⟩ ?_
        obtain ⟨c6, h⟩ := h
        refine tw_isub hX twd_sh_turnRows_40 c6 ?_
        refine tw_callV (As := [.inl v4, .inl (v5 - 1)]) (n := 2) hX twd_sh_turnRows_41 tw_good tww_628 tww_625 tww_627 tww_39 tww_85 twk_sh_turn rfl rfl ⟨by decide, by decide⟩ rfl (Nat.le_of_ble_eq_true rfl) (twc_sh_turn h (fun m_7_sh_order h => ?_))
        change tw_rn (tw_YC l D ad cI cZ) Z Post 44 [some (.inr 31), none, some (.inl v2), some (.inl v3), some (.inl v4), some (.inl v5)] [] (tw_mC pa_kinds pa_groups pa_widths pa_pairs pa_size pa_base ma_others ma_waiting le_types le_partners le_resolved le_ofParagraph ex_levels ex_types ex_entryLevels ex_entryOverrides ex_entryIsolates ex_last ex_lostIsolates ex_lostEmbeddings ex_openIsolates se_places se_types se_marks se_count se_embedding se_beginning se_end br_partners br_list fi_breaks fi_starts fi_extents fi_count fi_groups sh_levels m_7_sh_order tl_measure tl_stale)
        refine tw_iload hX twd_sh_turnRows_44 rfl ?_
        refine tw_iconst hX twd_sh_turnRows_46 ⟨by decide, by decide⟩ ?_
        obtain ⟨c8, h⟩ := h
        refine tw_iadd hX twd_sh_turnRows_47 c8 ?_
        refine tw_istore (L' := [some (.inr 31), none, some (.inl v2), some (.inl v3), some (.inl (v5 + 1)), some (.inl v5)]) hX twd_sh_turnRows_48 (by decide) rfl ?_
        exact h)
      refine tw_icmp_eq hX twd_sh_turnRows_15 rfl (fun q12 => ?_) (fun q12 => ?_)
      · have h := h.1 q12
        exact h
      · have h := h.2 q12
        refine tw_aload_n hX twd_sh_turnRows_18 rfl rfl ?_
        refine tw_get (kf := 0) hX twd_sh_turnRows_19 twin_sh rfl (by decide) tww_317 rfl rfl rfl ?_
        refine tw_aload_n hX twd_sh_turnRows_22 rfl rfl ?_
        refine tw_get (kf := 1) hX twd_sh_turnRows_23 twin_sh rfl (by decide) tww_319 rfl rfl rfl ?_
        refine tw_iload hX twd_sh_turnRows_26 rfl ?_
        obtain ⟨c9, h⟩ := h
        refine tw_iaload hX twd_sh_turnRows_28 rfl c9 ?_
        obtain ⟨c10, h⟩ := h
        refine tw_iaload hX twd_sh_turnRows_29 rfl c10 ?_
        refine tw_iload_n hX twd_sh_turnRows_30 rfl rfl ?_
        refine tw_icmp_ge hX twd_sh_turnRows_31 rfl (fun q11 => ?_) (fun q11 => ?_)
        · have h := h.1 q11
          exact h
        · have h := h.2 q11
          exact h
def tww_sh_turnRows (v1 v2 v3 : Int) (sh_levels : Nat → Int) (sh_order : Nat → Int) (K : (Nat → Int) → Prop) : Prop :=
  (∃ f15 : Nat, twl_sh_turnRows_6 (fun (y14_sh_order : Nat → Int) =>
  K y14_sh_order) v2 v3 sh_levels f15 v1 v1 sh_order)
set_option maxRecDepth 100000 in
set_option maxHeartbeats 4000000 in
theorem twc_sh_turnRows {l : Launch} {D : va_G} {ad : Nat → Nat} {cI cZ : ClassId} {Post : tw_P} {K : (Nat → Int) → Prop} {v1 v2 v3 : Int} {pa_size pa_base le_ofParagraph ex_last ex_lostIsolates ex_lostEmbeddings ex_openIsolates se_count se_embedding se_beginning se_end fi_count tl_measure tl_stale : Int} {pa_kinds pa_groups pa_widths pa_pairs ma_others ma_waiting le_types le_partners le_resolved ex_levels ex_types ex_entryLevels ex_entryOverrides ex_entryIsolates se_places se_types se_marks br_partners br_list fi_breaks fi_starts fi_extents fi_groups sh_levels sh_order : Nat → Int} (h : tww_sh_turnRows v1 v2 v3 sh_levels sh_order K) (hK : ∀ (n_sh_order : Nat → Int), K n_sh_order → Post none (tw_mC pa_kinds pa_groups pa_widths pa_pairs pa_size pa_base ma_others ma_waiting le_types le_partners le_resolved le_ofParagraph ex_levels ex_types ex_entryLevels ex_entryOverrides ex_entryIsolates ex_last ex_lostIsolates ex_lostEmbeddings ex_openIsolates se_places se_types se_marks se_count se_embedding se_beginning se_end br_partners br_list fi_breaks fi_starts fi_extents fi_count fi_groups sh_levels n_sh_order tl_measure tl_stale)) : tw_ct (tw_YC l D ad cI cZ) twy_sh_turnRows (Cond.code twy_sh_turnRows prog_9_method_5_code 6 none :: tw_Wg) 1 [.inr 31, .inl v1, .inl v2, .inl v3] (tw_mC pa_kinds pa_groups pa_widths pa_pairs pa_size pa_base ma_others ma_waiting le_types le_partners le_resolved le_ofParagraph ex_levels ex_types ex_entryLevels ex_entryOverrides ex_entryIsolates ex_last ex_lostIsolates ex_lostEmbeddings ex_openIsolates se_places se_types se_marks se_count se_embedding se_beginning se_end br_partners br_list fi_breaks fi_starts fi_extents fi_count fi_groups sh_levels sh_order tl_measure tl_stale) Post := by
  refine tw_of (own := twR_sh) (L0 := [some (.inr 31), some (.inl v1), some (.inl v2), some (.inl v3), none, none]) (by decide) rfl rfl (Nat.le_of_ble_eq_true rfl) (fun Z hX => ?_)
  unfold tww_sh_turnRows at h
  refine tw_iload_n hX twd_sh_turnRows_0 rfl rfl ?_
  refine tw_istore (L' := [some (.inr 31), some (.inl v1), some (.inl v2), some (.inl v3), some (.inl v1), none]) hX twd_sh_turnRows_1 (by decide) rfl ?_
  refine tw_iload_n hX twd_sh_turnRows_3 rfl rfl ?_
  refine tw_istore (L' := [some (.inr 31), some (.inl v1), some (.inl v2), some (.inl v3), some (.inl v1), some (.inl v1)]) hX twd_sh_turnRows_4 (by decide) rfl ?_
  obtain ⟨f15, h⟩ := h
  refine tw_wk (L' := [some (.inr 31), none, some (.inl v2), some (.inl v3), some (.inl v1), some (.inl v1)]) (tw_le_s (tw_le_n (tw_le_s (tw_le_s (tw_le_s (tw_le_s tw_le_0)))))) ?_
  refine twt_sh_turnRows_6 hX (fun y14_sh_order h => ?_) f15 _ _ _ h
  exact tw_vret hX twd_sh_turnRows_56 (hK _ h)
def twl_sh_setOrder_5 (X38 : Int → (Nat → Int) → Prop) (v1 : Int) (v2 : Int) (sh_levels : Nat → Int) : Nat → Int → Int → (Nat → Int) → Prop
  | 0, _, _, _ => False
  | f + 1, v3, v4, sh_order =>
    ((v2 ≤ v4 →
    X38 v3 sh_order) ∧
    (¬ v2 ≤ v4 →
    (0 ≤ v4 ∧ v4 < 64) ∧ (0 ≤ v4 ∧ v4 < 64) ∧ (tw_rg (v4 + 1)) ∧ twl_sh_setOrder_5 X38 v1 v2 sh_levels f (if v3 < sh_levels (Int.toNat v4) then sh_levels (Int.toNat v4) else v3) (v4 + 1) (tw_up sh_order (Int.toNat v4) v4)))
set_option maxRecDepth 100000 in
set_option maxHeartbeats 4000000 in
theorem twt_sh_setOrder_5 {l : Launch} {D : va_G} {ad : Nat → Nat} {cI cZ : ClassId} {Z : tw_Z} {Post : tw_P} {X38 : Int → (Nat → Int) → Prop} {v1 : Int} {v2 : Int} {pa_size pa_base le_ofParagraph ex_last ex_lostIsolates ex_lostEmbeddings ex_openIsolates se_count se_embedding se_beginning se_end fi_count tl_measure tl_stale : Int} {pa_kinds pa_groups pa_widths pa_pairs ma_others ma_waiting le_types le_partners le_resolved ex_levels ex_types ex_entryLevels ex_entryOverrides ex_entryIsolates se_places se_types se_marks br_partners br_list fi_breaks fi_starts fi_extents fi_groups sh_levels : Nat → Int} (hX : tw_cx (tw_YC l D ad cI cZ) Z prog_9_method_4_code twR_sh tw_Wg none 2 5) (hX38 : ∀ (v3 : Int) (sh_order : Nat → Int), X38 v3 sh_order → tw_rn (tw_YC l D ad cI cZ) Z Post 38 [some (.inr 31), some (.inl v1), some (.inl v2), some (.inl v3), none] [] (tw_mC pa_kinds pa_groups pa_widths pa_pairs pa_size pa_base ma_others ma_waiting le_types le_partners le_resolved le_ofParagraph ex_levels ex_types ex_entryLevels ex_entryOverrides ex_entryIsolates ex_last ex_lostIsolates ex_lostEmbeddings ex_openIsolates se_places se_types se_marks se_count se_embedding se_beginning se_end br_partners br_list fi_breaks fi_starts fi_extents fi_count fi_groups sh_levels sh_order tl_measure tl_stale)) : ∀ (f : Nat) (v3 : Int) (v4 : Int) (sh_order : Nat → Int), twl_sh_setOrder_5 X38 v1 v2 sh_levels f v3 v4 sh_order → tw_rn (tw_YC l D ad cI cZ) Z Post 5 [some (.inr 31), some (.inl v1), some (.inl v2), some (.inl v3), some (.inl v4)] [] (tw_mC pa_kinds pa_groups pa_widths pa_pairs pa_size pa_base ma_others ma_waiting le_types le_partners le_resolved le_ofParagraph ex_levels ex_types ex_entryLevels ex_entryOverrides ex_entryIsolates ex_last ex_lostIsolates ex_lostEmbeddings ex_openIsolates se_places se_types se_marks se_count se_embedding se_beginning se_end br_partners br_list fi_breaks fi_starts fi_extents fi_count fi_groups sh_levels sh_order tl_measure tl_stale) := by
  intro f
  induction f with
  | zero => intro v3 v4 sh_order h; rw [twl_sh_setOrder_5] at h; exact h.elim
  | succ f ih =>
    intro v3 v4 sh_order h
    rw [twl_sh_setOrder_5] at h
    refine tw_iload hX twd_sh_setOrder_5 rfl ?_
    refine tw_iload_n hX twd_sh_setOrder_7 rfl rfl ?_
    refine tw_icmp_ge hX twd_sh_setOrder_8 rfl (fun q4 => ?_) (fun q4 => ?_)
    · have h := h.1 q4
      refine tw_wk (L' := [some (.inr 31), some (.inl v1), some (.inl v2), some (.inl v3), none]) (tw_le_s (tw_le_s (tw_le_s (tw_le_s (tw_le_n tw_le_0))))) ?_
      exact hX38 _ _ h
    · have h := h.2 q4
      refine tw_aload_n hX twd_sh_setOrder_11 rfl rfl ?_
      refine tw_get (kf := 1) hX twd_sh_setOrder_12 twin_sh rfl (by decide) tww_319 rfl rfl rfl ?_
      refine tw_iload hX twd_sh_setOrder_15 rfl ?_
      refine tw_iload hX twd_sh_setOrder_17 rfl ?_
      obtain ⟨c1, h⟩ := h
      refine tw_iastore (mem' := (tw_mC pa_kinds pa_groups pa_widths pa_pairs pa_size pa_base ma_others ma_waiting le_types le_partners le_resolved le_ofParagraph ex_levels ex_types ex_entryLevels ex_entryOverrides ex_entryIsolates ex_last ex_lostIsolates ex_lostEmbeddings ex_openIsolates se_places se_types se_marks se_count se_embedding se_beginning se_end br_partners br_list fi_breaks fi_starts fi_extents fi_count fi_groups sh_levels (tw_up sh_order (Int.toNat v4) v4) tl_measure tl_stale)) hX twd_sh_setOrder_19 rfl c1 rfl ?_
      refine tw_iload_n hX twd_sh_setOrder_20 rfl rfl ?_
      refine tw_aload_n hX twd_sh_setOrder_21 rfl rfl ?_
      refine tw_get (kf := 0) hX twd_sh_setOrder_22 twin_sh rfl (by decide) tww_317 rfl rfl rfl ?_
      refine tw_iload hX twd_sh_setOrder_25 rfl ?_
      obtain ⟨c2, h⟩ := h
      refine tw_iaload hX twd_sh_setOrder_27 rfl c2 ?_
      refine tw_max hX twd_sh_setOrder_28 tww_620 tww_497 tww_87 tww_498 (by decide) (by decide) ?_
      refine tw_istore_n (L' := [some (.inr 31), some (.inl v1), some (.inl v2), some (.inl (if v3 < sh_levels (Int.toNat v4) then sh_levels (Int.toNat v4) else v3)), some (.inl v4)]) hX twd_sh_setOrder_31 rfl (by decide) rfl ?_
      obtain ⟨c3, h⟩ := h
      refine tw_iinc (L' := [some (.inr 31), some (.inl v1), some (.inl v2), some (.inl (if v3 < sh_levels (Int.toNat v4) then sh_levels (Int.toNat v4) else v3)), some (.inl (v4 + 1))]) hX twd_sh_setOrder_32 rfl (by decide) c3 rfl ?_
      refine tw_goto hX twd_sh_setOrder_35 rfl ?_
      exact ih _ _ _ h
def twl_sh_setOrder_41 (X61 : (Nat → Int) → Prop) (v1 : Int) (v2 : Int) (sh_levels : Nat → Int) : Nat → Int → (Nat → Int) → Prop
  | 0, _, _ => False
  | f + 1, v4, sh_order =>
    ((v4 < 1 →
    X61 sh_order) ∧
    (¬ v4 < 1 →
    tww_sh_turnRows v1 v2 v4 sh_levels sh_order (fun m_7_sh_order =>
      (tw_rg (v4 + -1)) ∧ twl_sh_setOrder_41 X61 v1 v2 sh_levels f (v4 + -1) m_7_sh_order)))
set_option maxRecDepth 100000 in
set_option maxHeartbeats 4000000 in
theorem twt_sh_setOrder_41 {l : Launch} {D : va_G} {ad : Nat → Nat} {cI cZ : ClassId} {Z : tw_Z} {Post : tw_P} {X61 : (Nat → Int) → Prop} {v1 : Int} {v2 : Int} {pa_size pa_base le_ofParagraph ex_last ex_lostIsolates ex_lostEmbeddings ex_openIsolates se_count se_embedding se_beginning se_end fi_count tl_measure tl_stale : Int} {pa_kinds pa_groups pa_widths pa_pairs ma_others ma_waiting le_types le_partners le_resolved ex_levels ex_types ex_entryLevels ex_entryOverrides ex_entryIsolates se_places se_types se_marks br_partners br_list fi_breaks fi_starts fi_extents fi_groups sh_levels : Nat → Int} (hX : tw_cx (tw_YC l D ad cI cZ) Z prog_9_method_4_code twR_sh tw_Wg none 2 5) (hX61 : ∀ (sh_order : Nat → Int), X61 sh_order → tw_rn (tw_YC l D ad cI cZ) Z Post 61 [none, none, none, none, none] [] (tw_mC pa_kinds pa_groups pa_widths pa_pairs pa_size pa_base ma_others ma_waiting le_types le_partners le_resolved le_ofParagraph ex_levels ex_types ex_entryLevels ex_entryOverrides ex_entryIsolates ex_last ex_lostIsolates ex_lostEmbeddings ex_openIsolates se_places se_types se_marks se_count se_embedding se_beginning se_end br_partners br_list fi_breaks fi_starts fi_extents fi_count fi_groups sh_levels sh_order tl_measure tl_stale)) : ∀ (f : Nat) (v4 : Int) (sh_order : Nat → Int), twl_sh_setOrder_41 X61 v1 v2 sh_levels f v4 sh_order → tw_rn (tw_YC l D ad cI cZ) Z Post 41 [some (.inr 31), some (.inl v1), some (.inl v2), none, some (.inl v4)] [] (tw_mC pa_kinds pa_groups pa_widths pa_pairs pa_size pa_base ma_others ma_waiting le_types le_partners le_resolved le_ofParagraph ex_levels ex_types ex_entryLevels ex_entryOverrides ex_entryIsolates ex_last ex_lostIsolates ex_lostEmbeddings ex_openIsolates se_places se_types se_marks se_count se_embedding se_beginning se_end br_partners br_list fi_breaks fi_starts fi_extents fi_count fi_groups sh_levels sh_order tl_measure tl_stale) := by
  intro f
  induction f with
  | zero => intro v4 sh_order h; rw [twl_sh_setOrder_41] at h; exact h.elim
  | succ f ih =>
    intro v4 sh_order h
    rw [twl_sh_setOrder_41] at h
    refine tw_iload hX twd_sh_setOrder_41 rfl ?_
    refine tw_iconst hX twd_sh_setOrder_43 ⟨by decide, by decide⟩ ?_
    refine tw_icmp_lt hX twd_sh_setOrder_44 rfl (fun q9 => ?_) (fun q9 => ?_)
    · have h := h.1 q9
      refine tw_wk (L' := [none, none, none, none, none]) (tw_le_n (tw_le_n (tw_le_n (tw_le_n (tw_le_n tw_le_0))))) ?_
      exact hX61 _ h
    · have h := h.2 q9
      refine tw_aload_n hX twd_sh_setOrder_47 rfl rfl ?_
      refine tw_iload_n hX twd_sh_setOrder_48 rfl rfl ?_
      refine tw_iload_n hX twd_sh_setOrder_49 rfl rfl ?_
      refine tw_iload hX twd_sh_setOrder_50 rfl ?_
      refine tw_callV (As := [.inl v1, .inl v2, .inl v4]) (n := 3) hX twd_sh_setOrder_52 tw_good tww_624 tww_621 tww_623 tww_38 tww_85 twk_sh_turnRows rfl rfl ⟨by decide, by decide⟩ rfl (Nat.le_of_ble_eq_true rfl) (twc_sh_turnRows h (fun m_7_sh_order h => ?_))
      change tw_rn (tw_YC l D ad cI cZ) Z Post 55 [some (.inr 31), some (.inl v1), some (.inl v2), none, some (.inl v4)] [] (tw_mC pa_kinds pa_groups pa_widths pa_pairs pa_size pa_base ma_others ma_waiting le_types le_partners le_resolved le_ofParagraph ex_levels ex_types ex_entryLevels ex_entryOverrides ex_entryIsolates ex_last ex_lostIsolates ex_lostEmbeddings ex_openIsolates se_places se_types se_marks se_count se_embedding se_beginning se_end br_partners br_list fi_breaks fi_starts fi_extents fi_count fi_groups sh_levels m_7_sh_order tl_measure tl_stale)
      obtain ⟨c8, h⟩ := h
      refine tw_iinc (L' := [some (.inr 31), some (.inl v1), some (.inl v2), none, some (.inl (v4 + -1))]) hX twd_sh_setOrder_55 rfl (by decide) c8 rfl ?_
      refine tw_goto hX twd_sh_setOrder_58 rfl ?_
      exact ih _ _ h
def tww_sh_setOrder (v1 v2 : Int) (sh_levels : Nat → Int) (sh_order : Nat → Int) (K : (Nat → Int) → Prop) : Prop :=
  (∃ f12 : Nat, twl_sh_setOrder_5 (fun (y5 : Int) (y6_sh_order : Nat → Int) =>
  (∃ f11 : Nat, twl_sh_setOrder_41 (fun (y10_sh_order : Nat → Int) =>
    K y10_sh_order) v1 v2 sh_levels f11 y5 y6_sh_order)) v1 v2 sh_levels f12 0 v1 sh_order)
set_option maxRecDepth 100000 in
set_option maxHeartbeats 4000000 in
theorem twc_sh_setOrder {l : Launch} {D : va_G} {ad : Nat → Nat} {cI cZ : ClassId} {Post : tw_P} {K : (Nat → Int) → Prop} {v1 v2 : Int} {pa_size pa_base le_ofParagraph ex_last ex_lostIsolates ex_lostEmbeddings ex_openIsolates se_count se_embedding se_beginning se_end fi_count tl_measure tl_stale : Int} {pa_kinds pa_groups pa_widths pa_pairs ma_others ma_waiting le_types le_partners le_resolved ex_levels ex_types ex_entryLevels ex_entryOverrides ex_entryIsolates se_places se_types se_marks br_partners br_list fi_breaks fi_starts fi_extents fi_groups sh_levels sh_order : Nat → Int} (h : tww_sh_setOrder v1 v2 sh_levels sh_order K) (hK : ∀ (n_sh_order : Nat → Int), K n_sh_order → Post none (tw_mC pa_kinds pa_groups pa_widths pa_pairs pa_size pa_base ma_others ma_waiting le_types le_partners le_resolved le_ofParagraph ex_levels ex_types ex_entryLevels ex_entryOverrides ex_entryIsolates ex_last ex_lostIsolates ex_lostEmbeddings ex_openIsolates se_places se_types se_marks se_count se_embedding se_beginning se_end br_partners br_list fi_breaks fi_starts fi_extents fi_count fi_groups sh_levels n_sh_order tl_measure tl_stale)) : tw_ct (tw_YC l D ad cI cZ) twy_sh_setOrder (Cond.code twy_sh_setOrder prog_9_method_4_code 5 none :: tw_Wg) 2 [.inr 31, .inl v1, .inl v2] (tw_mC pa_kinds pa_groups pa_widths pa_pairs pa_size pa_base ma_others ma_waiting le_types le_partners le_resolved le_ofParagraph ex_levels ex_types ex_entryLevels ex_entryOverrides ex_entryIsolates ex_last ex_lostIsolates ex_lostEmbeddings ex_openIsolates se_places se_types se_marks se_count se_embedding se_beginning se_end br_partners br_list fi_breaks fi_starts fi_extents fi_count fi_groups sh_levels sh_order tl_measure tl_stale) Post := by
  refine tw_of (own := twR_sh) (L0 := [some (.inr 31), some (.inl v1), some (.inl v2), none, none]) (by decide) rfl rfl (Nat.le_of_ble_eq_true rfl) (fun Z hX => ?_)
  unfold tww_sh_setOrder at h
  refine tw_iconst hX twd_sh_setOrder_0 ⟨by decide, by decide⟩ ?_
  refine tw_istore_n (L' := [some (.inr 31), some (.inl v1), some (.inl v2), some (.inl 0), none]) hX twd_sh_setOrder_1 rfl (by decide) rfl ?_
  refine tw_iload_n hX twd_sh_setOrder_2 rfl rfl ?_
  refine tw_istore (L' := [some (.inr 31), some (.inl v1), some (.inl v2), some (.inl 0), some (.inl v1)]) hX twd_sh_setOrder_3 (by decide) rfl ?_
  obtain ⟨f12, h⟩ := h
  refine twt_sh_setOrder_5 hX (fun y5 y6_sh_order h => ?_) f12 _ _ _ h
  refine tw_iload_n hX twd_sh_setOrder_38 rfl rfl ?_
  refine tw_istore (L' := [some (.inr 31), some (.inl v1), some (.inl v2), some (.inl y5), some (.inl y5)]) hX twd_sh_setOrder_39 (by decide) rfl ?_
  obtain ⟨f11, h⟩ := h
  refine tw_wk (L' := [some (.inr 31), some (.inl v1), some (.inl v2), none, some (.inl y5)]) (tw_le_s (tw_le_s (tw_le_s (tw_le_n (tw_le_s tw_le_0))))) ?_
  refine twt_sh_setOrder_41 hX (fun y10_sh_order h => ?_) f11 _ _ h
  exact tw_vret hX twd_sh_setOrder_61 (hK _ h)
def twl_sh_arrange_3 (X56 : (Nat → Int) → (Nat → Int) → Prop) (pa_kinds : Nat → Int) (le_resolved : Nat → Int) (le_ofParagraph : Int) (fi_starts : Nat → Int) (fi_count : Int) : Nat → Int → (Nat → Int) → (Nat → Int) → Prop
  | 0, _, _, _ => False
  | f + 1, v4, sh_levels, sh_order =>
    ((fi_count ≤ v4 →
    X56 sh_levels sh_order) ∧
    (¬ fi_count ≤ v4 →
    (0 ≤ v4 ∧ v4 < 65) ∧ (tw_rg (v4 + 1)) ∧ (0 ≤ (v4 + 1) ∧ (v4 + 1) < 65) ∧ tww_sh_setLevels (fi_starts (Int.toNat v4)) (fi_starts (Int.toNat (v4 + 1))) pa_kinds le_resolved le_ofParagraph sh_levels (fun m_4_sh_levels =>
      tww_sh_setOrder (fi_starts (Int.toNat v4)) (fi_starts (Int.toNat (v4 + 1))) m_4_sh_levels sh_order (fun m_5_sh_order =>
      (tw_rg (v4 + 1)) ∧ twl_sh_arrange_3 X56 pa_kinds le_resolved le_ofParagraph fi_starts fi_count f (v4 + 1) m_4_sh_levels m_5_sh_order))))
set_option maxRecDepth 100000 in
set_option maxHeartbeats 4000000 in
theorem twt_sh_arrange_3 {l : Launch} {D : va_G} {ad : Nat → Nat} {cI cZ : ClassId} {Z : tw_Z} {Post : tw_P} {X56 : (Nat → Int) → (Nat → Int) → Prop} {pa_size pa_base le_ofParagraph ex_last ex_lostIsolates ex_lostEmbeddings ex_openIsolates se_count se_embedding se_beginning se_end fi_count tl_measure tl_stale : Int} {pa_kinds pa_groups pa_widths pa_pairs ma_others ma_waiting le_types le_partners le_resolved ex_levels ex_types ex_entryLevels ex_entryOverrides ex_entryIsolates se_places se_types se_marks br_partners br_list fi_breaks fi_starts fi_extents fi_groups : Nat → Int} (hX : tw_cx (tw_YC l D ad cI cZ) Z prog_9_method_2_code twR_sh tw_Wg none 3 7) (hX56 : ∀ (sh_levels : Nat → Int) (sh_order : Nat → Int), X56 sh_levels sh_order → tw_rn (tw_YC l D ad cI cZ) Z Post 56 [none, none, none, none, none, none, none] [] (tw_mC pa_kinds pa_groups pa_widths pa_pairs pa_size pa_base ma_others ma_waiting le_types le_partners le_resolved le_ofParagraph ex_levels ex_types ex_entryLevels ex_entryOverrides ex_entryIsolates ex_last ex_lostIsolates ex_lostEmbeddings ex_openIsolates se_places se_types se_marks se_count se_embedding se_beginning se_end br_partners br_list fi_breaks fi_starts fi_extents fi_count fi_groups sh_levels sh_order tl_measure tl_stale)) : ∀ (f : Nat) (v4 : Int) (sh_levels : Nat → Int) (sh_order : Nat → Int), twl_sh_arrange_3 X56 pa_kinds le_resolved le_ofParagraph fi_starts fi_count f v4 sh_levels sh_order → tw_rn (tw_YC l D ad cI cZ) Z Post 3 [some (.inr 31), some (.inr 1), some (.inr 6), some (.inr 26), some (.inl v4), none, none] [] (tw_mC pa_kinds pa_groups pa_widths pa_pairs pa_size pa_base ma_others ma_waiting le_types le_partners le_resolved le_ofParagraph ex_levels ex_types ex_entryLevels ex_entryOverrides ex_entryIsolates ex_last ex_lostIsolates ex_lostEmbeddings ex_openIsolates se_places se_types se_marks se_count se_embedding se_beginning se_end br_partners br_list fi_breaks fi_starts fi_extents fi_count fi_groups sh_levels sh_order tl_measure tl_stale) := by
  intro f
  induction f with
  | zero => intro v4 sh_levels sh_order h; rw [twl_sh_arrange_3] at h; exact h.elim
  | succ f ih =>
    intro v4 sh_levels sh_order h
    rw [twl_sh_arrange_3] at h
    refine tw_iload hX twd_sh_arrange_3 rfl ?_
    refine tw_aload_n hX twd_sh_arrange_5 rfl rfl ?_
    refine tw_get (kf := 3) hX twd_sh_arrange_6 twin_fi rfl (by decide) tww_297 rfl rfl rfl ?_
    refine tw_icmp_ge hX twd_sh_arrange_9 rfl (fun q7 => ?_) (fun q7 => ?_)
    · have h := h.1 q7
      refine tw_wk (L' := [none, none, none, none, none, none, none]) (tw_le_n (tw_le_n (tw_le_n (tw_le_n (tw_le_n (tw_le_n (tw_le_n tw_le_0))))))) ?_
      exact hX56 _ _ h
    · have h := h.2 q7
      refine tw_aload_n hX twd_sh_arrange_12 rfl rfl ?_
      refine tw_get (kf := 1) hX twd_sh_arrange_13 twin_fi rfl (by decide) tww_292 rfl rfl rfl ?_
      refine tw_iload hX twd_sh_arrange_16 rfl ?_
      obtain ⟨c1, h⟩ := h
      refine tw_iaload hX twd_sh_arrange_18 rfl c1 ?_
      refine tw_istore (L' := [some (.inr 31), some (.inr 1), some (.inr 6), some (.inr 26), some (.inl v4), some (.inl (fi_starts (Int.toNat v4))), none]) hX twd_sh_arrange_19 (by decide) rfl ?_
      refine tw_aload_n hX twd_sh_arrange_21 rfl rfl ?_
      refine tw_get (kf := 1) hX twd_sh_arrange_22 twin_fi rfl (by decide) tww_292 rfl rfl rfl ?_
      refine tw_iload hX twd_sh_arrange_25 rfl ?_
      refine tw_iconst hX twd_sh_arrange_27 ⟨by decide, by decide⟩ ?_
      obtain ⟨c2, h⟩ := h
      refine tw_iadd hX twd_sh_arrange_28 c2 ?_
      obtain ⟨c3, h⟩ := h
      refine tw_iaload hX twd_sh_arrange_29 rfl c3 ?_
      refine tw_istore (L' := [some (.inr 31), some (.inr 1), some (.inr 6), some (.inr 26), some (.inl v4), some (.inl (fi_starts (Int.toNat v4))), some (.inl (fi_starts (Int.toNat (v4 + 1))))]) hX twd_sh_arrange_30 (by decide) rfl ?_
      refine tw_aload_n hX twd_sh_arrange_32 rfl rfl ?_
      refine tw_aload_n hX twd_sh_arrange_33 rfl rfl ?_
      refine tw_aload_n hX twd_sh_arrange_34 rfl rfl ?_
      refine tw_iload hX twd_sh_arrange_35 rfl ?_
      refine tw_iload hX twd_sh_arrange_37 rfl ?_
      refine tw_callV (As := [.inr 1, .inr 6, .inl (fi_starts (Int.toNat v4)), .inl (fi_starts (Int.toNat (v4 + 1)))]) (n := 4) hX twd_sh_arrange_39 tw_good tww_613 tww_610 tww_612 tww_36 tww_85 twk_sh_setLevels rfl rfl ⟨by decide, by decide⟩ rfl (Nat.le_of_ble_eq_true rfl) (twc_sh_setLevels h (fun m_4_sh_levels h => ?_))
      change tw_rn (tw_YC l D ad cI cZ) Z Post 42 [some (.inr 31), some (.inr 1), some (.inr 6), some (.inr 26), some (.inl v4), some (.inl (fi_starts (Int.toNat v4))), some (.inl (fi_starts (Int.toNat (v4 + 1))))] [] (tw_mC pa_kinds pa_groups pa_widths pa_pairs pa_size pa_base ma_others ma_waiting le_types le_partners le_resolved le_ofParagraph ex_levels ex_types ex_entryLevels ex_entryOverrides ex_entryIsolates ex_last ex_lostIsolates ex_lostEmbeddings ex_openIsolates se_places se_types se_marks se_count se_embedding se_beginning se_end br_partners br_list fi_breaks fi_starts fi_extents fi_count fi_groups m_4_sh_levels sh_order tl_measure tl_stale)
      refine tw_aload_n hX twd_sh_arrange_42 rfl rfl ?_
      refine tw_iload hX twd_sh_arrange_43 rfl ?_
      refine tw_iload hX twd_sh_arrange_45 rfl ?_
      refine tw_callV (As := [.inl (fi_starts (Int.toNat v4)), .inl (fi_starts (Int.toNat (v4 + 1)))]) (n := 2) hX twd_sh_arrange_47 tw_good tww_619 tww_616 tww_618 tww_37 tww_85 twk_sh_setOrder rfl rfl ⟨by decide, by decide⟩ rfl (Nat.le_of_ble_eq_true rfl) (twc_sh_setOrder h (fun m_5_sh_order h => ?_))
      change tw_rn (tw_YC l D ad cI cZ) Z Post 50 [some (.inr 31), some (.inr 1), some (.inr 6), some (.inr 26), some (.inl v4), some (.inl (fi_starts (Int.toNat v4))), some (.inl (fi_starts (Int.toNat (v4 + 1))))] [] (tw_mC pa_kinds pa_groups pa_widths pa_pairs pa_size pa_base ma_others ma_waiting le_types le_partners le_resolved le_ofParagraph ex_levels ex_types ex_entryLevels ex_entryOverrides ex_entryIsolates ex_last ex_lostIsolates ex_lostEmbeddings ex_openIsolates se_places se_types se_marks se_count se_embedding se_beginning se_end br_partners br_list fi_breaks fi_starts fi_extents fi_count fi_groups m_4_sh_levels m_5_sh_order tl_measure tl_stale)
      obtain ⟨c6, h⟩ := h
      refine tw_iinc (L' := [some (.inr 31), some (.inr 1), some (.inr 6), some (.inr 26), some (.inl (v4 + 1)), some (.inl (fi_starts (Int.toNat v4))), some (.inl (fi_starts (Int.toNat (v4 + 1))))]) hX twd_sh_arrange_50 rfl (by decide) c6 rfl ?_
      refine tw_goto hX twd_sh_arrange_53 rfl ?_
      refine tw_wk (L' := [some (.inr 31), some (.inr 1), some (.inr 6), some (.inr 26), some (.inl (v4 + 1)), none, none]) (tw_le_s (tw_le_s (tw_le_s (tw_le_s (tw_le_s (tw_le_n (tw_le_n tw_le_0))))))) ?_
      exact ih _ _ _ h
def tww_sh_arrange (pa_kinds : Nat → Int) (le_resolved : Nat → Int) (le_ofParagraph : Int) (fi_starts : Nat → Int) (fi_count : Int) (sh_levels : Nat → Int) (sh_order : Nat → Int) (K : (Nat → Int) → (Nat → Int) → Prop) : Prop :=
  (∃ f10 : Nat, twl_sh_arrange_3 (fun (y8_sh_levels : Nat → Int) (y9_sh_order : Nat → Int) =>
  K y8_sh_levels y9_sh_order) pa_kinds le_resolved le_ofParagraph fi_starts fi_count f10 0 sh_levels sh_order)
set_option maxRecDepth 100000 in
set_option maxHeartbeats 4000000 in
theorem twc_sh_arrange {l : Launch} {D : va_G} {ad : Nat → Nat} {cI cZ : ClassId} {Post : tw_P} {K : (Nat → Int) → (Nat → Int) → Prop} {pa_size pa_base le_ofParagraph ex_last ex_lostIsolates ex_lostEmbeddings ex_openIsolates se_count se_embedding se_beginning se_end fi_count tl_measure tl_stale : Int} {pa_kinds pa_groups pa_widths pa_pairs ma_others ma_waiting le_types le_partners le_resolved ex_levels ex_types ex_entryLevels ex_entryOverrides ex_entryIsolates se_places se_types se_marks br_partners br_list fi_breaks fi_starts fi_extents fi_groups sh_levels sh_order : Nat → Int} (h : tww_sh_arrange pa_kinds le_resolved le_ofParagraph fi_starts fi_count sh_levels sh_order K) (hK : ∀ (n_sh_levels : Nat → Int) (n_sh_order : Nat → Int), K n_sh_levels n_sh_order → Post none (tw_mC pa_kinds pa_groups pa_widths pa_pairs pa_size pa_base ma_others ma_waiting le_types le_partners le_resolved le_ofParagraph ex_levels ex_types ex_entryLevels ex_entryOverrides ex_entryIsolates ex_last ex_lostIsolates ex_lostEmbeddings ex_openIsolates se_places se_types se_marks se_count se_embedding se_beginning se_end br_partners br_list fi_breaks fi_starts fi_extents fi_count fi_groups n_sh_levels n_sh_order tl_measure tl_stale)) : tw_ct (tw_YC l D ad cI cZ) twy_sh_arrange (Cond.code twy_sh_arrange prog_9_method_2_code 7 none :: tw_Wg) 3 [.inr 31, .inr 1, .inr 6, .inr 26] (tw_mC pa_kinds pa_groups pa_widths pa_pairs pa_size pa_base ma_others ma_waiting le_types le_partners le_resolved le_ofParagraph ex_levels ex_types ex_entryLevels ex_entryOverrides ex_entryIsolates ex_last ex_lostIsolates ex_lostEmbeddings ex_openIsolates se_places se_types se_marks se_count se_embedding se_beginning se_end br_partners br_list fi_breaks fi_starts fi_extents fi_count fi_groups sh_levels sh_order tl_measure tl_stale) Post := by
  refine tw_of (own := twR_sh) (L0 := [some (.inr 31), some (.inr 1), some (.inr 6), some (.inr 26), none, none, none]) (by decide) rfl rfl (Nat.le_of_ble_eq_true rfl) (fun Z hX => ?_)
  unfold tww_sh_arrange at h
  refine tw_iconst hX twd_sh_arrange_0 ⟨by decide, by decide⟩ ?_
  refine tw_istore (L' := [some (.inr 31), some (.inr 1), some (.inr 6), some (.inr 26), some (.inl 0), none, none]) hX twd_sh_arrange_1 (by decide) rfl ?_
  obtain ⟨f10, h⟩ := h
  refine twt_sh_arrange_3 hX (fun y8_sh_levels y9_sh_order h => ?_) f10 _ _ _ h
  exact tw_vret hX twd_sh_arrange_56 (hK _ _ h)
def tww_tl_layOut (pa_kinds : Nat → Int) (pa_groups : Nat → Int) (pa_widths : Nat → Int) (pa_pairs : Nat → Int) (pa_size : Int) (pa_base : Int) (ma_others : Nat → Int) (ma_waiting : Nat → Int) (le_types : Nat → Int) (le_partners : Nat → Int) (le_resolved : Nat → Int) (le_ofParagraph : Int) (ex_levels : Nat → Int) (ex_types : Nat → Int) (ex_entryLevels : Nat → Int) (ex_entryOverrides : Nat → Int) (ex_entryIsolates : Nat → Int) (ex_last : Int) (ex_lostIsolates : Int) (ex_lostEmbeddings : Int) (ex_openIsolates : Int) (se_places : Nat → Int) (se_types : Nat → Int) (se_marks : Nat → Int) (se_count : Int) (se_embedding : Int) (se_beginning : Int) (se_end : Int) (br_partners : Nat → Int) (br_list : Nat → Int) (fi_breaks : Nat → Int) (fi_starts : Nat → Int) (fi_extents : Nat → Int) (fi_count : Int) (fi_groups : Nat → Int) (sh_levels : Nat → Int) (sh_order : Nat → Int) (tl_measure : Int) (tl_stale : Int) (K : (Nat → Int) → (Nat → Int) → (Nat → Int) → (Nat → Int) → (Nat → Int) → Int → (Nat → Int) → (Nat → Int) → (Nat → Int) → (Nat → Int) → (Nat → Int) → Int → Int → Int → Int → (Nat → Int) → (Nat → Int) → (Nat → Int) → Int → Int → Int → Int → (Nat → Int) → (Nat → Int) → (Nat → Int) → (Nat → Int) → (Nat → Int) → Int → (Nat → Int) → (Nat → Int) → (Nat → Int) → Int → Prop) : Prop :=
  ((tl_stale = 0 →
  K ma_others ma_waiting le_types le_partners le_resolved le_ofParagraph ex_levels ex_types ex_entryLevels ex_entryOverrides ex_entryIsolates ex_last ex_lostIsolates ex_lostEmbeddings ex_openIsolates se_places se_types se_marks se_count se_embedding se_beginning se_end br_partners br_list fi_breaks fi_starts fi_extents fi_count fi_groups sh_levels sh_order tl_stale) ∧
  (¬ tl_stale = 0 →
  tww_le_readMarks pa_kinds pa_size pa_base ma_others ma_waiting le_ofParagraph ex_levels ex_types ex_entryLevels ex_entryOverrides ex_entryIsolates ex_last ex_lostIsolates ex_lostEmbeddings ex_openIsolates (fun m_1_ma_others m_2_ma_waiting m_3_le_ofParagraph m_4_ex_levels m_5_ex_types m_6_ex_entryLevels m_7_ex_entryOverrides m_8_ex_entryIsolates m_9_ex_last m_10_ex_lostIsolates m_11_ex_lostEmbeddings m_12_ex_openIsolates =>
    tww_le_resolveSequences pa_kinds pa_pairs pa_size m_1_ma_others le_types le_partners m_3_le_ofParagraph m_4_ex_levels m_5_ex_types se_places se_types se_marks se_count se_embedding se_beginning se_end br_partners br_list (fun m_13_le_types m_14_le_partners m_15_se_places m_16_se_types m_17_se_marks m_18_se_count m_19_se_embedding m_20_se_beginning m_21_se_end m_22_br_partners m_23_br_list =>
    tww_le_raise pa_kinds pa_size m_13_le_types le_resolved m_3_le_ofParagraph m_4_ex_levels (fun m_24_le_resolved =>
    tww_fi_fill tl_measure pa_kinds pa_groups pa_widths pa_size fi_breaks fi_starts fi_extents fi_count fi_groups (fun m_25_fi_breaks m_26_fi_starts m_27_fi_extents m_28_fi_count m_29_fi_groups =>
    tww_sh_arrange pa_kinds m_24_le_resolved m_3_le_ofParagraph m_26_fi_starts m_28_fi_count sh_levels sh_order (fun m_30_sh_levels m_31_sh_order =>
    K m_1_ma_others m_2_ma_waiting m_13_le_types m_14_le_partners m_24_le_resolved m_3_le_ofParagraph m_4_ex_levels m_5_ex_types m_6_ex_entryLevels m_7_ex_entryOverrides m_8_ex_entryIsolates m_9_ex_last m_10_ex_lostIsolates m_11_ex_lostEmbeddings m_12_ex_openIsolates m_15_se_places m_16_se_types m_17_se_marks m_18_se_count m_19_se_embedding m_20_se_beginning m_21_se_end m_22_br_partners m_23_br_list m_25_fi_breaks m_26_fi_starts m_27_fi_extents m_28_fi_count m_29_fi_groups m_30_sh_levels m_31_sh_order 0)))))))
set_option maxRecDepth 100000 in
set_option maxHeartbeats 4000000 in
theorem twc_tl_layOut {l : Launch} {D : va_G} {ad : Nat → Nat} {cI cZ : ClassId} {Post : tw_P} {K : (Nat → Int) → (Nat → Int) → (Nat → Int) → (Nat → Int) → (Nat → Int) → Int → (Nat → Int) → (Nat → Int) → (Nat → Int) → (Nat → Int) → (Nat → Int) → Int → Int → Int → Int → (Nat → Int) → (Nat → Int) → (Nat → Int) → Int → Int → Int → Int → (Nat → Int) → (Nat → Int) → (Nat → Int) → (Nat → Int) → (Nat → Int) → Int → (Nat → Int) → (Nat → Int) → (Nat → Int) → Int → Prop} {pa_size pa_base le_ofParagraph ex_last ex_lostIsolates ex_lostEmbeddings ex_openIsolates se_count se_embedding se_beginning se_end fi_count tl_measure tl_stale : Int} {pa_kinds pa_groups pa_widths pa_pairs ma_others ma_waiting le_types le_partners le_resolved ex_levels ex_types ex_entryLevels ex_entryOverrides ex_entryIsolates se_places se_types se_marks br_partners br_list fi_breaks fi_starts fi_extents fi_groups sh_levels sh_order : Nat → Int} (h : tww_tl_layOut pa_kinds pa_groups pa_widths pa_pairs pa_size pa_base ma_others ma_waiting le_types le_partners le_resolved le_ofParagraph ex_levels ex_types ex_entryLevels ex_entryOverrides ex_entryIsolates ex_last ex_lostIsolates ex_lostEmbeddings ex_openIsolates se_places se_types se_marks se_count se_embedding se_beginning se_end br_partners br_list fi_breaks fi_starts fi_extents fi_count fi_groups sh_levels sh_order tl_measure tl_stale K) (hK : ∀ (n_ma_others : Nat → Int) (n_ma_waiting : Nat → Int) (n_le_types : Nat → Int) (n_le_partners : Nat → Int) (n_le_resolved : Nat → Int) (n_le_ofParagraph : Int) (n_ex_levels : Nat → Int) (n_ex_types : Nat → Int) (n_ex_entryLevels : Nat → Int) (n_ex_entryOverrides : Nat → Int) (n_ex_entryIsolates : Nat → Int) (n_ex_last : Int) (n_ex_lostIsolates : Int) (n_ex_lostEmbeddings : Int) (n_ex_openIsolates : Int) (n_se_places : Nat → Int) (n_se_types : Nat → Int) (n_se_marks : Nat → Int) (n_se_count : Int) (n_se_embedding : Int) (n_se_beginning : Int) (n_se_end : Int) (n_br_partners : Nat → Int) (n_br_list : Nat → Int) (n_fi_breaks : Nat → Int) (n_fi_starts : Nat → Int) (n_fi_extents : Nat → Int) (n_fi_count : Int) (n_fi_groups : Nat → Int) (n_sh_levels : Nat → Int) (n_sh_order : Nat → Int) (n_tl_stale : Int), K n_ma_others n_ma_waiting n_le_types n_le_partners n_le_resolved n_le_ofParagraph n_ex_levels n_ex_types n_ex_entryLevels n_ex_entryOverrides n_ex_entryIsolates n_ex_last n_ex_lostIsolates n_ex_lostEmbeddings n_ex_openIsolates n_se_places n_se_types n_se_marks n_se_count n_se_embedding n_se_beginning n_se_end n_br_partners n_br_list n_fi_breaks n_fi_starts n_fi_extents n_fi_count n_fi_groups n_sh_levels n_sh_order n_tl_stale → Post none (tw_mC pa_kinds pa_groups pa_widths pa_pairs pa_size pa_base n_ma_others n_ma_waiting n_le_types n_le_partners n_le_resolved n_le_ofParagraph n_ex_levels n_ex_types n_ex_entryLevels n_ex_entryOverrides n_ex_entryIsolates n_ex_last n_ex_lostIsolates n_ex_lostEmbeddings n_ex_openIsolates n_se_places n_se_types n_se_marks n_se_count n_se_embedding n_se_beginning n_se_end n_br_partners n_br_list n_fi_breaks n_fi_starts n_fi_extents n_fi_count n_fi_groups n_sh_levels n_sh_order tl_measure n_tl_stale)) : tw_ct (tw_YC l D ad cI cZ) twy_tl_layOut (Cond.code twy_tl_layOut prog_1_method_20_code 1 none :: tw_Wg) 5 [.inr 0] (tw_mC pa_kinds pa_groups pa_widths pa_pairs pa_size pa_base ma_others ma_waiting le_types le_partners le_resolved le_ofParagraph ex_levels ex_types ex_entryLevels ex_entryOverrides ex_entryIsolates ex_last ex_lostIsolates ex_lostEmbeddings ex_openIsolates se_places se_types se_marks se_count se_embedding se_beginning se_end br_partners br_list fi_breaks fi_starts fi_extents fi_count fi_groups sh_levels sh_order tl_measure tl_stale) Post := by
  refine tw_of (own := twR_tl) (L0 := [some (.inr 0)]) (by decide) rfl rfl (Nat.le_of_ble_eq_true rfl) (fun Z hX => ?_)
  unfold tww_tl_layOut at h
  refine tw_aload_n hX twd_tl_layOut_0 rfl rfl ?_
  refine tw_get (kf := 5) hX twd_tl_layOut_1 twin_tl rfl (by decide) tww_331 rfl rfl rfl ?_
  refine tw_if_ne hX twd_tl_layOut_4 rfl (fun q32 => ?_) (fun q32 => ?_)
  · have h := h.2 q32
    refine tw_aload_n hX twd_tl_layOut_8 rfl rfl ?_
    refine tw_get (kf := 1) hX twd_tl_layOut_9 twin_tl rfl (by decide) tww_327 rfl rfl rfl ?_
    refine tw_aload_n hX twd_tl_layOut_12 rfl rfl ?_
    refine tw_get (kf := 0) hX twd_tl_layOut_13 twin_tl rfl (by decide) tww_326 rfl rfl rfl ?_
    refine tw_callV (As := [.inr 1]) (n := 1) hX twd_tl_layOut_16 tw_good tww_387 tww_384 tww_385 tww_386 tww_79 twk_le_readMarks rfl rfl ⟨by decide, by decide⟩ rfl (Nat.le_of_ble_eq_true rfl) (twc_le_readMarks h (fun m_1_ma_others m_2_ma_waiting m_3_le_ofParagraph m_4_ex_levels m_5_ex_types m_6_ex_entryLevels m_7_ex_entryOverrides m_8_ex_entryIsolates m_9_ex_last m_10_ex_lostIsolates m_11_ex_lostEmbeddings m_12_ex_openIsolates h => ?_))
    change tw_rn (tw_YC l D ad cI cZ) Z Post 19 [some (.inr 0)] [] (tw_mC pa_kinds pa_groups pa_widths pa_pairs pa_size pa_base m_1_ma_others m_2_ma_waiting le_types le_partners le_resolved m_3_le_ofParagraph m_4_ex_levels m_5_ex_types m_6_ex_entryLevels m_7_ex_entryOverrides m_8_ex_entryIsolates m_9_ex_last m_10_ex_lostIsolates m_11_ex_lostEmbeddings m_12_ex_openIsolates se_places se_types se_marks se_count se_embedding se_beginning se_end br_partners br_list fi_breaks fi_starts fi_extents fi_count fi_groups sh_levels sh_order tl_measure tl_stale)
    refine tw_aload_n hX twd_tl_layOut_19 rfl rfl ?_
    refine tw_get (kf := 1) hX twd_tl_layOut_20 twin_tl rfl (by decide) tww_327 rfl rfl rfl ?_
    refine tw_aload_n hX twd_tl_layOut_23 rfl rfl ?_
    refine tw_get (kf := 0) hX twd_tl_layOut_24 twin_tl rfl (by decide) tww_326 rfl rfl rfl ?_
    refine tw_callV (As := [.inr 1]) (n := 1) hX twd_tl_layOut_27 tw_good tww_457 tww_454 tww_455 tww_456 tww_79 twk_le_resolveSequences rfl rfl ⟨by decide, by decide⟩ rfl (Nat.le_of_ble_eq_true rfl) (twc_le_resolveSequences h (fun m_13_le_types m_14_le_partners m_15_se_places m_16_se_types m_17_se_marks m_18_se_count m_19_se_embedding m_20_se_beginning m_21_se_end m_22_br_partners m_23_br_list h => ?_))
    change tw_rn (tw_YC l D ad cI cZ) Z Post 30 [some (.inr 0)] [] (tw_mC pa_kinds pa_groups pa_widths pa_pairs pa_size pa_base m_1_ma_others m_2_ma_waiting m_13_le_types m_14_le_partners le_resolved m_3_le_ofParagraph m_4_ex_levels m_5_ex_types m_6_ex_entryLevels m_7_ex_entryOverrides m_8_ex_entryIsolates m_9_ex_last m_10_ex_lostIsolates m_11_ex_lostEmbeddings m_12_ex_openIsolates m_15_se_places m_16_se_types m_17_se_marks m_18_se_count m_19_se_embedding m_20_se_beginning m_21_se_end m_22_br_partners m_23_br_list fi_breaks fi_starts fi_extents fi_count fi_groups sh_levels sh_order tl_measure tl_stale)
    refine tw_aload_n hX twd_tl_layOut_30 rfl rfl ?_
    refine tw_get (kf := 1) hX twd_tl_layOut_31 twin_tl rfl (by decide) tww_327 rfl rfl rfl ?_
    refine tw_aload_n hX twd_tl_layOut_34 rfl rfl ?_
    refine tw_get (kf := 0) hX twd_tl_layOut_35 twin_tl rfl (by decide) tww_326 rfl rfl rfl ?_
    refine tw_callV (As := [.inr 1]) (n := 1) hX twd_tl_layOut_38 tw_good tww_578 tww_575 tww_576 tww_577 tww_79 twk_le_raise rfl rfl ⟨by decide, by decide⟩ rfl (Nat.le_of_ble_eq_true rfl) (twc_le_raise h (fun m_24_le_resolved h => ?_))
    change tw_rn (tw_YC l D ad cI cZ) Z Post 41 [some (.inr 0)] [] (tw_mC pa_kinds pa_groups pa_widths pa_pairs pa_size pa_base m_1_ma_others m_2_ma_waiting m_13_le_types m_14_le_partners m_24_le_resolved m_3_le_ofParagraph m_4_ex_levels m_5_ex_types m_6_ex_entryLevels m_7_ex_entryOverrides m_8_ex_entryIsolates m_9_ex_last m_10_ex_lostIsolates m_11_ex_lostEmbeddings m_12_ex_openIsolates m_15_se_places m_16_se_types m_17_se_marks m_18_se_count m_19_se_embedding m_20_se_beginning m_21_se_end m_22_br_partners m_23_br_list fi_breaks fi_starts fi_extents fi_count fi_groups sh_levels sh_order tl_measure tl_stale)
    refine tw_aload_n hX twd_tl_layOut_41 rfl rfl ?_
    refine tw_get (kf := 2) hX twd_tl_layOut_42 twin_tl rfl (by decide) tww_328 rfl rfl rfl ?_
    refine tw_aload_n hX twd_tl_layOut_45 rfl rfl ?_
    refine tw_get (kf := 0) hX twd_tl_layOut_46 twin_tl rfl (by decide) tww_326 rfl rfl rfl ?_
    refine tw_aload_n hX twd_tl_layOut_49 rfl rfl ?_
    refine tw_get (kf := 4) hX twd_tl_layOut_50 twin_tl rfl (by decide) tww_330 rfl rfl rfl ?_
    refine tw_callV (As := [.inr 1, .inl tl_measure]) (n := 2) hX twd_tl_layOut_53 tw_good tww_586 tww_583 tww_584 tww_585 tww_84 twk_fi_fill rfl rfl ⟨by decide, by decide⟩ rfl (Nat.le_of_ble_eq_true rfl) (twc_fi_fill h (fun m_25_fi_breaks m_26_fi_starts m_27_fi_extents m_28_fi_count m_29_fi_groups h => ?_))
    change tw_rn (tw_YC l D ad cI cZ) Z Post 56 [some (.inr 0)] [] (tw_mC pa_kinds pa_groups pa_widths pa_pairs pa_size pa_base m_1_ma_others m_2_ma_waiting m_13_le_types m_14_le_partners m_24_le_resolved m_3_le_ofParagraph m_4_ex_levels m_5_ex_types m_6_ex_entryLevels m_7_ex_entryOverrides m_8_ex_entryIsolates m_9_ex_last m_10_ex_lostIsolates m_11_ex_lostEmbeddings m_12_ex_openIsolates m_15_se_places m_16_se_types m_17_se_marks m_18_se_count m_19_se_embedding m_20_se_beginning m_21_se_end m_22_br_partners m_23_br_list m_25_fi_breaks m_26_fi_starts m_27_fi_extents m_28_fi_count m_29_fi_groups sh_levels sh_order tl_measure tl_stale)
    refine tw_aload_n hX twd_tl_layOut_56 rfl rfl ?_
    refine tw_get (kf := 3) hX twd_tl_layOut_57 twin_tl rfl (by decide) tww_329 rfl rfl rfl ?_
    refine tw_aload_n hX twd_tl_layOut_60 rfl rfl ?_
    refine tw_get (kf := 0) hX twd_tl_layOut_61 twin_tl rfl (by decide) tww_326 rfl rfl rfl ?_
    refine tw_aload_n hX twd_tl_layOut_64 rfl rfl ?_
    refine tw_get (kf := 1) hX twd_tl_layOut_65 twin_tl rfl (by decide) tww_327 rfl rfl rfl ?_
    refine tw_aload_n hX twd_tl_layOut_68 rfl rfl ?_
    refine tw_get (kf := 2) hX twd_tl_layOut_69 twin_tl rfl (by decide) tww_328 rfl rfl rfl ?_
    refine tw_callV (As := [.inr 1, .inr 6, .inr 26]) (n := 3) hX twd_tl_layOut_72 tw_good tww_609 tww_606 tww_607 tww_608 tww_85 twk_sh_arrange rfl rfl ⟨by decide, by decide⟩ rfl (Nat.le_of_ble_eq_true rfl) (twc_sh_arrange h (fun m_30_sh_levels m_31_sh_order h => ?_))
    change tw_rn (tw_YC l D ad cI cZ) Z Post 75 [some (.inr 0)] [] (tw_mC pa_kinds pa_groups pa_widths pa_pairs pa_size pa_base m_1_ma_others m_2_ma_waiting m_13_le_types m_14_le_partners m_24_le_resolved m_3_le_ofParagraph m_4_ex_levels m_5_ex_types m_6_ex_entryLevels m_7_ex_entryOverrides m_8_ex_entryIsolates m_9_ex_last m_10_ex_lostIsolates m_11_ex_lostEmbeddings m_12_ex_openIsolates m_15_se_places m_16_se_types m_17_se_marks m_18_se_count m_19_se_embedding m_20_se_beginning m_21_se_end m_22_br_partners m_23_br_list m_25_fi_breaks m_26_fi_starts m_27_fi_extents m_28_fi_count m_29_fi_groups m_30_sh_levels m_31_sh_order tl_measure tl_stale)
    refine tw_aload_n hX twd_tl_layOut_75 rfl rfl ?_
    refine tw_iconst hX twd_tl_layOut_76 ⟨by decide, by decide⟩ ?_
    refine tw_put (kf := 5) (mem' := (tw_mC pa_kinds pa_groups pa_widths pa_pairs pa_size pa_base m_1_ma_others m_2_ma_waiting m_13_le_types m_14_le_partners m_24_le_resolved m_3_le_ofParagraph m_4_ex_levels m_5_ex_types m_6_ex_entryLevels m_7_ex_entryOverrides m_8_ex_entryIsolates m_9_ex_last m_10_ex_lostIsolates m_11_ex_lostEmbeddings m_12_ex_openIsolates m_15_se_places m_16_se_types m_17_se_marks m_18_se_count m_19_se_embedding m_20_se_beginning m_21_se_end m_22_br_partners m_23_br_list m_25_fi_breaks m_26_fi_starts m_27_fi_extents m_28_fi_count m_29_fi_groups m_30_sh_levels m_31_sh_order tl_measure 0)) twt_tl hX twd_tl_layOut_77 twin_tl twtok_tl twnm_tl rfl (by decide) tww_331 rfl rfl rfl (Or.inr ⟨rfl, ⟨by decide, by decide⟩⟩) rfl (Nat.le_of_ble_eq_true rfl) rfl ?_
    exact tw_vret hX twd_tl_layOut_80 (hK _ _ _ _ _ _ _ _ _ _ _ _ _ _ _ _ _ _ _ _ _ _ _ _ _ _ _ _ _ _ _ _ h)
  · have h := h.1 q32
    exact tw_vret hX twd_tl_layOut_7 (hK _ _ _ _ _ _ _ _ _ _ _ _ _ _ _ _ _ _ _ _ _ _ _ _ _ _ _ _ _ _ _ _ h)
def tww_tl_paragraphLevel (pa_kinds : Nat → Int) (pa_groups : Nat → Int) (pa_widths : Nat → Int) (pa_pairs : Nat → Int) (pa_size : Int) (pa_base : Int) (ma_others : Nat → Int) (ma_waiting : Nat → Int) (le_types : Nat → Int) (le_partners : Nat → Int) (le_resolved : Nat → Int) (le_ofParagraph : Int) (ex_levels : Nat → Int) (ex_types : Nat → Int) (ex_entryLevels : Nat → Int) (ex_entryOverrides : Nat → Int) (ex_entryIsolates : Nat → Int) (ex_last : Int) (ex_lostIsolates : Int) (ex_lostEmbeddings : Int) (ex_openIsolates : Int) (se_places : Nat → Int) (se_types : Nat → Int) (se_marks : Nat → Int) (se_count : Int) (se_embedding : Int) (se_beginning : Int) (se_end : Int) (br_partners : Nat → Int) (br_list : Nat → Int) (fi_breaks : Nat → Int) (fi_starts : Nat → Int) (fi_extents : Nat → Int) (fi_count : Int) (fi_groups : Nat → Int) (sh_levels : Nat → Int) (sh_order : Nat → Int) (tl_measure : Int) (tl_stale : Int) (K : Int → (Nat → Int) → (Nat → Int) → (Nat → Int) → (Nat → Int) → (Nat → Int) → Int → (Nat → Int) → (Nat → Int) → (Nat → Int) → (Nat → Int) → (Nat → Int) → Int → Int → Int → Int → (Nat → Int) → (Nat → Int) → (Nat → Int) → Int → Int → Int → Int → (Nat → Int) → (Nat → Int) → (Nat → Int) → (Nat → Int) → (Nat → Int) → Int → (Nat → Int) → (Nat → Int) → (Nat → Int) → Int → Prop) : Prop :=
  tww_tl_layOut pa_kinds pa_groups pa_widths pa_pairs pa_size pa_base ma_others ma_waiting le_types le_partners le_resolved le_ofParagraph ex_levels ex_types ex_entryLevels ex_entryOverrides ex_entryIsolates ex_last ex_lostIsolates ex_lostEmbeddings ex_openIsolates se_places se_types se_marks se_count se_embedding se_beginning se_end br_partners br_list fi_breaks fi_starts fi_extents fi_count fi_groups sh_levels sh_order tl_measure tl_stale (fun m_1_ma_others m_2_ma_waiting m_3_le_types m_4_le_partners m_5_le_resolved m_6_le_ofParagraph m_7_ex_levels m_8_ex_types m_9_ex_entryLevels m_10_ex_entryOverrides m_11_ex_entryIsolates m_12_ex_last m_13_ex_lostIsolates m_14_ex_lostEmbeddings m_15_ex_openIsolates m_16_se_places m_17_se_types m_18_se_marks m_19_se_count m_20_se_embedding m_21_se_beginning m_22_se_end m_23_br_partners m_24_br_list m_25_fi_breaks m_26_fi_starts m_27_fi_extents m_28_fi_count m_29_fi_groups m_30_sh_levels m_31_sh_order m_32_tl_stale =>
  K m_6_le_ofParagraph m_1_ma_others m_2_ma_waiting m_3_le_types m_4_le_partners m_5_le_resolved m_6_le_ofParagraph m_7_ex_levels m_8_ex_types m_9_ex_entryLevels m_10_ex_entryOverrides m_11_ex_entryIsolates m_12_ex_last m_13_ex_lostIsolates m_14_ex_lostEmbeddings m_15_ex_openIsolates m_16_se_places m_17_se_types m_18_se_marks m_19_se_count m_20_se_embedding m_21_se_beginning m_22_se_end m_23_br_partners m_24_br_list m_25_fi_breaks m_26_fi_starts m_27_fi_extents m_28_fi_count m_29_fi_groups m_30_sh_levels m_31_sh_order m_32_tl_stale)
set_option maxRecDepth 100000 in
set_option maxHeartbeats 4000000 in
theorem twc_tl_paragraphLevel {l : Launch} {D : va_G} {ad : Nat → Nat} {cI cZ : ClassId} {Post : tw_P} {K : Int → (Nat → Int) → (Nat → Int) → (Nat → Int) → (Nat → Int) → (Nat → Int) → Int → (Nat → Int) → (Nat → Int) → (Nat → Int) → (Nat → Int) → (Nat → Int) → Int → Int → Int → Int → (Nat → Int) → (Nat → Int) → (Nat → Int) → Int → Int → Int → Int → (Nat → Int) → (Nat → Int) → (Nat → Int) → (Nat → Int) → (Nat → Int) → Int → (Nat → Int) → (Nat → Int) → (Nat → Int) → Int → Prop} {pa_size pa_base le_ofParagraph ex_last ex_lostIsolates ex_lostEmbeddings ex_openIsolates se_count se_embedding se_beginning se_end fi_count tl_measure tl_stale : Int} {pa_kinds pa_groups pa_widths pa_pairs ma_others ma_waiting le_types le_partners le_resolved ex_levels ex_types ex_entryLevels ex_entryOverrides ex_entryIsolates se_places se_types se_marks br_partners br_list fi_breaks fi_starts fi_extents fi_groups sh_levels sh_order : Nat → Int} (h : tww_tl_paragraphLevel pa_kinds pa_groups pa_widths pa_pairs pa_size pa_base ma_others ma_waiting le_types le_partners le_resolved le_ofParagraph ex_levels ex_types ex_entryLevels ex_entryOverrides ex_entryIsolates ex_last ex_lostIsolates ex_lostEmbeddings ex_openIsolates se_places se_types se_marks se_count se_embedding se_beginning se_end br_partners br_list fi_breaks fi_starts fi_extents fi_count fi_groups sh_levels sh_order tl_measure tl_stale K) (hK : ∀ (z : Int) (n_ma_others : Nat → Int) (n_ma_waiting : Nat → Int) (n_le_types : Nat → Int) (n_le_partners : Nat → Int) (n_le_resolved : Nat → Int) (n_le_ofParagraph : Int) (n_ex_levels : Nat → Int) (n_ex_types : Nat → Int) (n_ex_entryLevels : Nat → Int) (n_ex_entryOverrides : Nat → Int) (n_ex_entryIsolates : Nat → Int) (n_ex_last : Int) (n_ex_lostIsolates : Int) (n_ex_lostEmbeddings : Int) (n_ex_openIsolates : Int) (n_se_places : Nat → Int) (n_se_types : Nat → Int) (n_se_marks : Nat → Int) (n_se_count : Int) (n_se_embedding : Int) (n_se_beginning : Int) (n_se_end : Int) (n_br_partners : Nat → Int) (n_br_list : Nat → Int) (n_fi_breaks : Nat → Int) (n_fi_starts : Nat → Int) (n_fi_extents : Nat → Int) (n_fi_count : Int) (n_fi_groups : Nat → Int) (n_sh_levels : Nat → Int) (n_sh_order : Nat → Int) (n_tl_stale : Int), K z n_ma_others n_ma_waiting n_le_types n_le_partners n_le_resolved n_le_ofParagraph n_ex_levels n_ex_types n_ex_entryLevels n_ex_entryOverrides n_ex_entryIsolates n_ex_last n_ex_lostIsolates n_ex_lostEmbeddings n_ex_openIsolates n_se_places n_se_types n_se_marks n_se_count n_se_embedding n_se_beginning n_se_end n_br_partners n_br_list n_fi_breaks n_fi_starts n_fi_extents n_fi_count n_fi_groups n_sh_levels n_sh_order n_tl_stale → Post (some z) (tw_mC pa_kinds pa_groups pa_widths pa_pairs pa_size pa_base n_ma_others n_ma_waiting n_le_types n_le_partners n_le_resolved n_le_ofParagraph n_ex_levels n_ex_types n_ex_entryLevels n_ex_entryOverrides n_ex_entryIsolates n_ex_last n_ex_lostIsolates n_ex_lostEmbeddings n_ex_openIsolates n_se_places n_se_types n_se_marks n_se_count n_se_embedding n_se_beginning n_se_end n_br_partners n_br_list n_fi_breaks n_fi_starts n_fi_extents n_fi_count n_fi_groups n_sh_levels n_sh_order tl_measure n_tl_stale)) : tw_ct (tw_YC l D ad cI cZ) twy_tl_paragraphLevel (Cond.code twy_tl_paragraphLevel prog_1_method_8_code 1 (some .int) :: tw_Wg) 6 [.inr 0] (tw_mC pa_kinds pa_groups pa_widths pa_pairs pa_size pa_base ma_others ma_waiting le_types le_partners le_resolved le_ofParagraph ex_levels ex_types ex_entryLevels ex_entryOverrides ex_entryIsolates ex_last ex_lostIsolates ex_lostEmbeddings ex_openIsolates se_places se_types se_marks se_count se_embedding se_beginning se_end br_partners br_list fi_breaks fi_starts fi_extents fi_count fi_groups sh_levels sh_order tl_measure tl_stale) Post := by
  refine tw_of (own := twR_tl) (L0 := [some (.inr 0)]) (by decide) rfl rfl (Nat.le_of_ble_eq_true rfl) (fun Z hX => ?_)
  unfold tww_tl_paragraphLevel at h
  refine tw_aload_n hX twd_tl_paragraphLevel_0 rfl rfl ?_
  refine tw_callV (As := []) (n := 0) hX twd_tl_paragraphLevel_1 tw_good tww_383 tww_380 tww_382 tww_0 tww_77 twk_tl_layOut rfl rfl ⟨by decide, by decide⟩ rfl (Nat.le_of_ble_eq_true rfl) (twc_tl_layOut h (fun m_1_ma_others m_2_ma_waiting m_3_le_types m_4_le_partners m_5_le_resolved m_6_le_ofParagraph m_7_ex_levels m_8_ex_types m_9_ex_entryLevels m_10_ex_entryOverrides m_11_ex_entryIsolates m_12_ex_last m_13_ex_lostIsolates m_14_ex_lostEmbeddings m_15_ex_openIsolates m_16_se_places m_17_se_types m_18_se_marks m_19_se_count m_20_se_embedding m_21_se_beginning m_22_se_end m_23_br_partners m_24_br_list m_25_fi_breaks m_26_fi_starts m_27_fi_extents m_28_fi_count m_29_fi_groups m_30_sh_levels m_31_sh_order m_32_tl_stale h => ?_))
  change tw_rn (tw_YC l D ad cI cZ) Z Post 4 [some (.inr 0)] [] (tw_mC pa_kinds pa_groups pa_widths pa_pairs pa_size pa_base m_1_ma_others m_2_ma_waiting m_3_le_types m_4_le_partners m_5_le_resolved m_6_le_ofParagraph m_7_ex_levels m_8_ex_types m_9_ex_entryLevels m_10_ex_entryOverrides m_11_ex_entryIsolates m_12_ex_last m_13_ex_lostIsolates m_14_ex_lostEmbeddings m_15_ex_openIsolates m_16_se_places m_17_se_types m_18_se_marks m_19_se_count m_20_se_embedding m_21_se_beginning m_22_se_end m_23_br_partners m_24_br_list m_25_fi_breaks m_26_fi_starts m_27_fi_extents m_28_fi_count m_29_fi_groups m_30_sh_levels m_31_sh_order tl_measure m_32_tl_stale)
  refine tw_aload_n hX twd_tl_paragraphLevel_4 rfl rfl ?_
  refine tw_get (kf := 1) hX twd_tl_paragraphLevel_5 twin_tl rfl (by decide) tww_327 rfl rfl rfl ?_
  refine tw_get (kf := 4) hX twd_tl_paragraphLevel_8 twin_le rfl (by decide) tww_262 rfl rfl rfl ?_
  exact tw_ret hX twd_tl_paragraphLevel_11 (hK _ _ _ _ _ _ _ _ _ _ _ _ _ _ _ _ _ _ _ _ _ _ _ _ _ _ _ _ _ _ _ _ _ h)
def twr_pa_has (v1 : Int) (pa_size : Int) : Int := if v1 < 0 then 0 else (if pa_size ≤ v1 then 0 else 1)
set_option maxRecDepth 100000 in
set_option maxHeartbeats 4000000 in
theorem twc_pa_has {l : Launch} {D : va_G} {ad : Nat → Nat} {cI cZ : ClassId} {Post : tw_P} {v1 : Int} {pa_size pa_base le_ofParagraph ex_last ex_lostIsolates ex_lostEmbeddings ex_openIsolates se_count se_embedding se_beginning se_end fi_count tl_measure tl_stale : Int} {pa_kinds pa_groups pa_widths pa_pairs ma_others ma_waiting le_types le_partners le_resolved ex_levels ex_types ex_entryLevels ex_entryOverrides ex_entryIsolates se_places se_types se_marks br_partners br_list fi_breaks fi_starts fi_extents fi_groups sh_levels sh_order : Nat → Int} (hK : ∀ (z : Int), z = twr_pa_has v1 pa_size → Post (some z) (tw_mC pa_kinds pa_groups pa_widths pa_pairs pa_size pa_base ma_others ma_waiting le_types le_partners le_resolved le_ofParagraph ex_levels ex_types ex_entryLevels ex_entryOverrides ex_entryIsolates ex_last ex_lostIsolates ex_lostEmbeddings ex_openIsolates se_places se_types se_marks se_count se_embedding se_beginning se_end br_partners br_list fi_breaks fi_starts fi_extents fi_count fi_groups sh_levels sh_order tl_measure tl_stale)) : tw_ct (tw_YC l D ad cI cZ) twy_pa_has (Cond.code twy_pa_has prog_7_method_3_code 2 (some .boolean) :: tw_Wg) 0 [.inr 1, .inl v1] (tw_mC pa_kinds pa_groups pa_widths pa_pairs pa_size pa_base ma_others ma_waiting le_types le_partners le_resolved le_ofParagraph ex_levels ex_types ex_entryLevels ex_entryOverrides ex_entryIsolates ex_last ex_lostIsolates ex_lostEmbeddings ex_openIsolates se_places se_types se_marks se_count se_embedding se_beginning se_end br_partners br_list fi_breaks fi_starts fi_extents fi_count fi_groups sh_levels sh_order tl_measure tl_stale) Post := by
  refine tw_of (own := twR_pa) (L0 := [some (.inr 1), some (.inl v1)]) (by decide) rfl rfl (Nat.le_of_ble_eq_true rfl) (fun Z hX => ?_)
  refine tw_iload_n hX twd_pa_has_0 rfl rfl ?_
  refine tw_if_lt hX twd_pa_has_1 rfl (fun q1 => ?_) (fun q1 => ?_)
  · have _tw := trivial
    refine tw_iconst hX twd_pa_has_16 ⟨by decide, by decide⟩ ?_
    exact tw_zret hX twd_pa_has_17 ⟨by decide, by decide⟩ (hK _ (Eq.symm (if_pos q1)))
  · have _tw := trivial
    refine tw_iload_n hX twd_pa_has_4 rfl rfl ?_
    refine tw_aload_n hX twd_pa_has_5 rfl rfl ?_
    refine tw_get (kf := 4) hX twd_pa_has_6 twin_pa rfl (by decide) tww_115 rfl rfl rfl ?_
    refine tw_icmp_ge hX twd_pa_has_9 rfl (fun q2 => ?_) (fun q2 => ?_)
    · have _tw := trivial
      refine tw_iconst hX twd_pa_has_16 ⟨by decide, by decide⟩ ?_
      exact tw_zret hX twd_pa_has_17 ⟨by decide, by decide⟩ (hK _ (Eq.symm (Eq.trans (if_neg q1) (if_pos q2))))
    · have _tw := trivial
      refine tw_iconst hX twd_pa_has_12 ⟨by decide, by decide⟩ ?_
      refine tw_goto hX twd_pa_has_13 rfl ?_
      exact tw_zret hX twd_pa_has_17 ⟨by decide, by decide⟩ (hK _ (Eq.symm (Eq.trans (if_neg q1) (if_neg q2))))
def tww_tl_match (v1 : Int) (pa_kinds : Nat → Int) (pa_groups : Nat → Int) (pa_widths : Nat → Int) (pa_pairs : Nat → Int) (pa_size : Int) (pa_base : Int) (ma_others : Nat → Int) (ma_waiting : Nat → Int) (le_types : Nat → Int) (le_partners : Nat → Int) (le_resolved : Nat → Int) (le_ofParagraph : Int) (ex_levels : Nat → Int) (ex_types : Nat → Int) (ex_entryLevels : Nat → Int) (ex_entryOverrides : Nat → Int) (ex_entryIsolates : Nat → Int) (ex_last : Int) (ex_lostIsolates : Int) (ex_lostEmbeddings : Int) (ex_openIsolates : Int) (se_places : Nat → Int) (se_types : Nat → Int) (se_marks : Nat → Int) (se_count : Int) (se_embedding : Int) (se_beginning : Int) (se_end : Int) (br_partners : Nat → Int) (br_list : Nat → Int) (fi_breaks : Nat → Int) (fi_starts : Nat → Int) (fi_extents : Nat → Int) (fi_count : Int) (fi_groups : Nat → Int) (sh_levels : Nat → Int) (sh_order : Nat → Int) (tl_measure : Int) (tl_stale : Int) (K : Int → (Nat → Int) → (Nat → Int) → (Nat → Int) → (Nat → Int) → (Nat → Int) → Int → (Nat → Int) → (Nat → Int) → (Nat → Int) → (Nat → Int) → (Nat → Int) → Int → Int → Int → Int → (Nat → Int) → (Nat → Int) → (Nat → Int) → Int → Int → Int → Int → (Nat → Int) → (Nat → Int) → (Nat → Int) → (Nat → Int) → (Nat → Int) → Int → (Nat → Int) → (Nat → Int) → (Nat → Int) → Int → Prop) : Prop :=
  (((twr_pa_has v1 pa_size) = 0 →
  K (-1) ma_others ma_waiting le_types le_partners le_resolved le_ofParagraph ex_levels ex_types ex_entryLevels ex_entryOverrides ex_entryIsolates ex_last ex_lostIsolates ex_lostEmbeddings ex_openIsolates se_places se_types se_marks se_count se_embedding se_beginning se_end br_partners br_list fi_breaks fi_starts fi_extents fi_count fi_groups sh_levels sh_order tl_stale) ∧
  (¬ (twr_pa_has v1 pa_size) = 0 →
  tww_tl_layOut pa_kinds pa_groups pa_widths pa_pairs pa_size pa_base ma_others ma_waiting le_types le_partners le_resolved le_ofParagraph ex_levels ex_types ex_entryLevels ex_entryOverrides ex_entryIsolates ex_last ex_lostIsolates ex_lostEmbeddings ex_openIsolates se_places se_types se_marks se_count se_embedding se_beginning se_end br_partners br_list fi_breaks fi_starts fi_extents fi_count fi_groups sh_levels sh_order tl_measure tl_stale (fun m_3_ma_others m_4_ma_waiting m_5_le_types m_6_le_partners m_7_le_resolved m_8_le_ofParagraph m_9_ex_levels m_10_ex_types m_11_ex_entryLevels m_12_ex_entryOverrides m_13_ex_entryIsolates m_14_ex_last m_15_ex_lostIsolates m_16_ex_lostEmbeddings m_17_ex_openIsolates m_18_se_places m_19_se_types m_20_se_marks m_21_se_count m_22_se_embedding m_23_se_beginning m_24_se_end m_25_br_partners m_26_br_list m_27_fi_breaks m_28_fi_starts m_29_fi_extents m_30_fi_count m_31_fi_groups m_32_sh_levels m_33_sh_order m_34_tl_stale =>
    (0 ≤ v1 ∧ v1 < 64) ∧ K (m_3_ma_others (Int.toNat v1)) m_3_ma_others m_4_ma_waiting m_5_le_types m_6_le_partners m_7_le_resolved m_8_le_ofParagraph m_9_ex_levels m_10_ex_types m_11_ex_entryLevels m_12_ex_entryOverrides m_13_ex_entryIsolates m_14_ex_last m_15_ex_lostIsolates m_16_ex_lostEmbeddings m_17_ex_openIsolates m_18_se_places m_19_se_types m_20_se_marks m_21_se_count m_22_se_embedding m_23_se_beginning m_24_se_end m_25_br_partners m_26_br_list m_27_fi_breaks m_28_fi_starts m_29_fi_extents m_30_fi_count m_31_fi_groups m_32_sh_levels m_33_sh_order m_34_tl_stale)))
set_option maxRecDepth 100000 in
set_option maxHeartbeats 4000000 in
theorem twc_tl_match {l : Launch} {D : va_G} {ad : Nat → Nat} {cI cZ : ClassId} {Post : tw_P} {K : Int → (Nat → Int) → (Nat → Int) → (Nat → Int) → (Nat → Int) → (Nat → Int) → Int → (Nat → Int) → (Nat → Int) → (Nat → Int) → (Nat → Int) → (Nat → Int) → Int → Int → Int → Int → (Nat → Int) → (Nat → Int) → (Nat → Int) → Int → Int → Int → Int → (Nat → Int) → (Nat → Int) → (Nat → Int) → (Nat → Int) → (Nat → Int) → Int → (Nat → Int) → (Nat → Int) → (Nat → Int) → Int → Prop} {v1 : Int} {pa_size pa_base le_ofParagraph ex_last ex_lostIsolates ex_lostEmbeddings ex_openIsolates se_count se_embedding se_beginning se_end fi_count tl_measure tl_stale : Int} {pa_kinds pa_groups pa_widths pa_pairs ma_others ma_waiting le_types le_partners le_resolved ex_levels ex_types ex_entryLevels ex_entryOverrides ex_entryIsolates se_places se_types se_marks br_partners br_list fi_breaks fi_starts fi_extents fi_groups sh_levels sh_order : Nat → Int} (h : tww_tl_match v1 pa_kinds pa_groups pa_widths pa_pairs pa_size pa_base ma_others ma_waiting le_types le_partners le_resolved le_ofParagraph ex_levels ex_types ex_entryLevels ex_entryOverrides ex_entryIsolates ex_last ex_lostIsolates ex_lostEmbeddings ex_openIsolates se_places se_types se_marks se_count se_embedding se_beginning se_end br_partners br_list fi_breaks fi_starts fi_extents fi_count fi_groups sh_levels sh_order tl_measure tl_stale K) (hK : ∀ (z : Int) (n_ma_others : Nat → Int) (n_ma_waiting : Nat → Int) (n_le_types : Nat → Int) (n_le_partners : Nat → Int) (n_le_resolved : Nat → Int) (n_le_ofParagraph : Int) (n_ex_levels : Nat → Int) (n_ex_types : Nat → Int) (n_ex_entryLevels : Nat → Int) (n_ex_entryOverrides : Nat → Int) (n_ex_entryIsolates : Nat → Int) (n_ex_last : Int) (n_ex_lostIsolates : Int) (n_ex_lostEmbeddings : Int) (n_ex_openIsolates : Int) (n_se_places : Nat → Int) (n_se_types : Nat → Int) (n_se_marks : Nat → Int) (n_se_count : Int) (n_se_embedding : Int) (n_se_beginning : Int) (n_se_end : Int) (n_br_partners : Nat → Int) (n_br_list : Nat → Int) (n_fi_breaks : Nat → Int) (n_fi_starts : Nat → Int) (n_fi_extents : Nat → Int) (n_fi_count : Int) (n_fi_groups : Nat → Int) (n_sh_levels : Nat → Int) (n_sh_order : Nat → Int) (n_tl_stale : Int), K z n_ma_others n_ma_waiting n_le_types n_le_partners n_le_resolved n_le_ofParagraph n_ex_levels n_ex_types n_ex_entryLevels n_ex_entryOverrides n_ex_entryIsolates n_ex_last n_ex_lostIsolates n_ex_lostEmbeddings n_ex_openIsolates n_se_places n_se_types n_se_marks n_se_count n_se_embedding n_se_beginning n_se_end n_br_partners n_br_list n_fi_breaks n_fi_starts n_fi_extents n_fi_count n_fi_groups n_sh_levels n_sh_order n_tl_stale → Post (some z) (tw_mC pa_kinds pa_groups pa_widths pa_pairs pa_size pa_base n_ma_others n_ma_waiting n_le_types n_le_partners n_le_resolved n_le_ofParagraph n_ex_levels n_ex_types n_ex_entryLevels n_ex_entryOverrides n_ex_entryIsolates n_ex_last n_ex_lostIsolates n_ex_lostEmbeddings n_ex_openIsolates n_se_places n_se_types n_se_marks n_se_count n_se_embedding n_se_beginning n_se_end n_br_partners n_br_list n_fi_breaks n_fi_starts n_fi_extents n_fi_count n_fi_groups n_sh_levels n_sh_order tl_measure n_tl_stale)) : tw_ct (tw_YC l D ad cI cZ) twy_tl_match (Cond.code twy_tl_match prog_1_method_9_code 2 (some .int) :: tw_Wg) 6 [.inr 0, .inl v1] (tw_mC pa_kinds pa_groups pa_widths pa_pairs pa_size pa_base ma_others ma_waiting le_types le_partners le_resolved le_ofParagraph ex_levels ex_types ex_entryLevels ex_entryOverrides ex_entryIsolates ex_last ex_lostIsolates ex_lostEmbeddings ex_openIsolates se_places se_types se_marks se_count se_embedding se_beginning se_end br_partners br_list fi_breaks fi_starts fi_extents fi_count fi_groups sh_levels sh_order tl_measure tl_stale) Post := by
  refine tw_of (own := twR_tl) (L0 := [some (.inr 0), some (.inl v1)]) (by decide) rfl rfl (Nat.le_of_ble_eq_true rfl) (fun Z hX => ?_)
  unfold tww_tl_match at h
  refine tw_aload_n hX twd_tl_match_0 rfl rfl ?_
  refine tw_get (kf := 0) hX twd_tl_match_1 twin_tl rfl (by decide) tww_326 rfl rfl rfl ?_
  refine tw_iload_n hX twd_tl_match_4 rfl rfl ?_
  refine tw_callV (As := [.inl v1]) (n := 1) hX twd_tl_match_5 tw_good tww_636 tww_633 tww_634 tww_635 tww_78 twk_pa_has rfl rfl ⟨by decide, by decide⟩ rfl (Nat.le_of_ble_eq_true rfl) (twc_pa_has (fun z1 e2 => ?_))
  subst e2
  change tw_rn (tw_YC l D ad cI cZ) Z Post 8 [some (.inr 0), some (.inl v1)] [.inl (twr_pa_has v1 pa_size)] (tw_mC pa_kinds pa_groups pa_widths pa_pairs pa_size pa_base ma_others ma_waiting le_types le_partners le_resolved le_ofParagraph ex_levels ex_types ex_entryLevels ex_entryOverrides ex_entryIsolates ex_last ex_lostIsolates ex_lostEmbeddings ex_openIsolates se_places se_types se_marks se_count se_embedding se_beginning se_end br_partners br_list fi_breaks fi_starts fi_extents fi_count fi_groups sh_levels sh_order tl_measure tl_stale)
  refine tw_if_ne hX twd_tl_match_8 rfl (fun q36 => ?_) (fun q36 => ?_)
  · have h := h.2 q36
    refine tw_aload_n hX twd_tl_match_13 rfl rfl ?_
    refine tw_callV (As := []) (n := 0) hX twd_tl_match_14 tw_good tww_383 tww_380 tww_382 tww_0 tww_77 twk_tl_layOut rfl rfl ⟨by decide, by decide⟩ rfl (Nat.le_of_ble_eq_true rfl) (twc_tl_layOut h (fun m_3_ma_others m_4_ma_waiting m_5_le_types m_6_le_partners m_7_le_resolved m_8_le_ofParagraph m_9_ex_levels m_10_ex_types m_11_ex_entryLevels m_12_ex_entryOverrides m_13_ex_entryIsolates m_14_ex_last m_15_ex_lostIsolates m_16_ex_lostEmbeddings m_17_ex_openIsolates m_18_se_places m_19_se_types m_20_se_marks m_21_se_count m_22_se_embedding m_23_se_beginning m_24_se_end m_25_br_partners m_26_br_list m_27_fi_breaks m_28_fi_starts m_29_fi_extents m_30_fi_count m_31_fi_groups m_32_sh_levels m_33_sh_order m_34_tl_stale h => ?_))
    change tw_rn (tw_YC l D ad cI cZ) Z Post 17 [some (.inr 0), some (.inl v1)] [] (tw_mC pa_kinds pa_groups pa_widths pa_pairs pa_size pa_base m_3_ma_others m_4_ma_waiting m_5_le_types m_6_le_partners m_7_le_resolved m_8_le_ofParagraph m_9_ex_levels m_10_ex_types m_11_ex_entryLevels m_12_ex_entryOverrides m_13_ex_entryIsolates m_14_ex_last m_15_ex_lostIsolates m_16_ex_lostEmbeddings m_17_ex_openIsolates m_18_se_places m_19_se_types m_20_se_marks m_21_se_count m_22_se_embedding m_23_se_beginning m_24_se_end m_25_br_partners m_26_br_list m_27_fi_breaks m_28_fi_starts m_29_fi_extents m_30_fi_count m_31_fi_groups m_32_sh_levels m_33_sh_order tl_measure m_34_tl_stale)
    refine tw_aload_n hX twd_tl_match_17 rfl rfl ?_
    refine tw_get (kf := 1) hX twd_tl_match_18 twin_tl rfl (by decide) tww_327 rfl rfl rfl ?_
    refine tw_get (kf := 0) hX twd_tl_match_21 twin_le rfl (by decide) tww_252 rfl rfl rfl ?_
    refine tw_get (kf := 0) hX twd_tl_match_24 twin_ma rfl (by decide) tww_153 rfl rfl rfl ?_
    refine tw_iload_n hX twd_tl_match_27 rfl rfl ?_
    obtain ⟨c35, h⟩ := h
    refine tw_iaload hX twd_tl_match_28 rfl c35 ?_
    exact tw_ret hX twd_tl_match_29 (hK _ _ _ _ _ _ _ _ _ _ _ _ _ _ _ _ _ _ _ _ _ _ _ _ _ _ _ _ _ _ _ _ _ h)
  · have h := h.1 q36
    refine tw_iconst hX twd_tl_match_11 ⟨by decide, by decide⟩ ?_
    exact tw_ret hX twd_tl_match_12 (hK _ _ _ _ _ _ _ _ _ _ _ _ _ _ _ _ _ _ _ _ _ _ _ _ _ _ _ _ _ _ _ _ _ h)
def tww_tl_partner (v1 : Int) (pa_kinds : Nat → Int) (pa_groups : Nat → Int) (pa_widths : Nat → Int) (pa_pairs : Nat → Int) (pa_size : Int) (pa_base : Int) (ma_others : Nat → Int) (ma_waiting : Nat → Int) (le_types : Nat → Int) (le_partners : Nat → Int) (le_resolved : Nat → Int) (le_ofParagraph : Int) (ex_levels : Nat → Int) (ex_types : Nat → Int) (ex_entryLevels : Nat → Int) (ex_entryOverrides : Nat → Int) (ex_entryIsolates : Nat → Int) (ex_last : Int) (ex_lostIsolates : Int) (ex_lostEmbeddings : Int) (ex_openIsolates : Int) (se_places : Nat → Int) (se_types : Nat → Int) (se_marks : Nat → Int) (se_count : Int) (se_embedding : Int) (se_beginning : Int) (se_end : Int) (br_partners : Nat → Int) (br_list : Nat → Int) (fi_breaks : Nat → Int) (fi_starts : Nat → Int) (fi_extents : Nat → Int) (fi_count : Int) (fi_groups : Nat → Int) (sh_levels : Nat → Int) (sh_order : Nat → Int) (tl_measure : Int) (tl_stale : Int) (K : Int → (Nat → Int) → (Nat → Int) → (Nat → Int) → (Nat → Int) → (Nat → Int) → Int → (Nat → Int) → (Nat → Int) → (Nat → Int) → (Nat → Int) → (Nat → Int) → Int → Int → Int → Int → (Nat → Int) → (Nat → Int) → (Nat → Int) → Int → Int → Int → Int → (Nat → Int) → (Nat → Int) → (Nat → Int) → (Nat → Int) → (Nat → Int) → Int → (Nat → Int) → (Nat → Int) → (Nat → Int) → Int → Prop) : Prop :=
  (((twr_pa_has v1 pa_size) = 0 →
  K (-1) ma_others ma_waiting le_types le_partners le_resolved le_ofParagraph ex_levels ex_types ex_entryLevels ex_entryOverrides ex_entryIsolates ex_last ex_lostIsolates ex_lostEmbeddings ex_openIsolates se_places se_types se_marks se_count se_embedding se_beginning se_end br_partners br_list fi_breaks fi_starts fi_extents fi_count fi_groups sh_levels sh_order tl_stale) ∧
  (¬ (twr_pa_has v1 pa_size) = 0 →
  tww_tl_layOut pa_kinds pa_groups pa_widths pa_pairs pa_size pa_base ma_others ma_waiting le_types le_partners le_resolved le_ofParagraph ex_levels ex_types ex_entryLevels ex_entryOverrides ex_entryIsolates ex_last ex_lostIsolates ex_lostEmbeddings ex_openIsolates se_places se_types se_marks se_count se_embedding se_beginning se_end br_partners br_list fi_breaks fi_starts fi_extents fi_count fi_groups sh_levels sh_order tl_measure tl_stale (fun m_3_ma_others m_4_ma_waiting m_5_le_types m_6_le_partners m_7_le_resolved m_8_le_ofParagraph m_9_ex_levels m_10_ex_types m_11_ex_entryLevels m_12_ex_entryOverrides m_13_ex_entryIsolates m_14_ex_last m_15_ex_lostIsolates m_16_ex_lostEmbeddings m_17_ex_openIsolates m_18_se_places m_19_se_types m_20_se_marks m_21_se_count m_22_se_embedding m_23_se_beginning m_24_se_end m_25_br_partners m_26_br_list m_27_fi_breaks m_28_fi_starts m_29_fi_extents m_30_fi_count m_31_fi_groups m_32_sh_levels m_33_sh_order m_34_tl_stale =>
    (0 ≤ v1 ∧ v1 < 64) ∧ K (m_6_le_partners (Int.toNat v1)) m_3_ma_others m_4_ma_waiting m_5_le_types m_6_le_partners m_7_le_resolved m_8_le_ofParagraph m_9_ex_levels m_10_ex_types m_11_ex_entryLevels m_12_ex_entryOverrides m_13_ex_entryIsolates m_14_ex_last m_15_ex_lostIsolates m_16_ex_lostEmbeddings m_17_ex_openIsolates m_18_se_places m_19_se_types m_20_se_marks m_21_se_count m_22_se_embedding m_23_se_beginning m_24_se_end m_25_br_partners m_26_br_list m_27_fi_breaks m_28_fi_starts m_29_fi_extents m_30_fi_count m_31_fi_groups m_32_sh_levels m_33_sh_order m_34_tl_stale)))
set_option maxRecDepth 100000 in
set_option maxHeartbeats 4000000 in
theorem twc_tl_partner {l : Launch} {D : va_G} {ad : Nat → Nat} {cI cZ : ClassId} {Post : tw_P} {K : Int → (Nat → Int) → (Nat → Int) → (Nat → Int) → (Nat → Int) → (Nat → Int) → Int → (Nat → Int) → (Nat → Int) → (Nat → Int) → (Nat → Int) → (Nat → Int) → Int → Int → Int → Int → (Nat → Int) → (Nat → Int) → (Nat → Int) → Int → Int → Int → Int → (Nat → Int) → (Nat → Int) → (Nat → Int) → (Nat → Int) → (Nat → Int) → Int → (Nat → Int) → (Nat → Int) → (Nat → Int) → Int → Prop} {v1 : Int} {pa_size pa_base le_ofParagraph ex_last ex_lostIsolates ex_lostEmbeddings ex_openIsolates se_count se_embedding se_beginning se_end fi_count tl_measure tl_stale : Int} {pa_kinds pa_groups pa_widths pa_pairs ma_others ma_waiting le_types le_partners le_resolved ex_levels ex_types ex_entryLevels ex_entryOverrides ex_entryIsolates se_places se_types se_marks br_partners br_list fi_breaks fi_starts fi_extents fi_groups sh_levels sh_order : Nat → Int} (h : tww_tl_partner v1 pa_kinds pa_groups pa_widths pa_pairs pa_size pa_base ma_others ma_waiting le_types le_partners le_resolved le_ofParagraph ex_levels ex_types ex_entryLevels ex_entryOverrides ex_entryIsolates ex_last ex_lostIsolates ex_lostEmbeddings ex_openIsolates se_places se_types se_marks se_count se_embedding se_beginning se_end br_partners br_list fi_breaks fi_starts fi_extents fi_count fi_groups sh_levels sh_order tl_measure tl_stale K) (hK : ∀ (z : Int) (n_ma_others : Nat → Int) (n_ma_waiting : Nat → Int) (n_le_types : Nat → Int) (n_le_partners : Nat → Int) (n_le_resolved : Nat → Int) (n_le_ofParagraph : Int) (n_ex_levels : Nat → Int) (n_ex_types : Nat → Int) (n_ex_entryLevels : Nat → Int) (n_ex_entryOverrides : Nat → Int) (n_ex_entryIsolates : Nat → Int) (n_ex_last : Int) (n_ex_lostIsolates : Int) (n_ex_lostEmbeddings : Int) (n_ex_openIsolates : Int) (n_se_places : Nat → Int) (n_se_types : Nat → Int) (n_se_marks : Nat → Int) (n_se_count : Int) (n_se_embedding : Int) (n_se_beginning : Int) (n_se_end : Int) (n_br_partners : Nat → Int) (n_br_list : Nat → Int) (n_fi_breaks : Nat → Int) (n_fi_starts : Nat → Int) (n_fi_extents : Nat → Int) (n_fi_count : Int) (n_fi_groups : Nat → Int) (n_sh_levels : Nat → Int) (n_sh_order : Nat → Int) (n_tl_stale : Int), K z n_ma_others n_ma_waiting n_le_types n_le_partners n_le_resolved n_le_ofParagraph n_ex_levels n_ex_types n_ex_entryLevels n_ex_entryOverrides n_ex_entryIsolates n_ex_last n_ex_lostIsolates n_ex_lostEmbeddings n_ex_openIsolates n_se_places n_se_types n_se_marks n_se_count n_se_embedding n_se_beginning n_se_end n_br_partners n_br_list n_fi_breaks n_fi_starts n_fi_extents n_fi_count n_fi_groups n_sh_levels n_sh_order n_tl_stale → Post (some z) (tw_mC pa_kinds pa_groups pa_widths pa_pairs pa_size pa_base n_ma_others n_ma_waiting n_le_types n_le_partners n_le_resolved n_le_ofParagraph n_ex_levels n_ex_types n_ex_entryLevels n_ex_entryOverrides n_ex_entryIsolates n_ex_last n_ex_lostIsolates n_ex_lostEmbeddings n_ex_openIsolates n_se_places n_se_types n_se_marks n_se_count n_se_embedding n_se_beginning n_se_end n_br_partners n_br_list n_fi_breaks n_fi_starts n_fi_extents n_fi_count n_fi_groups n_sh_levels n_sh_order tl_measure n_tl_stale)) : tw_ct (tw_YC l D ad cI cZ) twy_tl_partner (Cond.code twy_tl_partner prog_1_method_10_code 2 (some .int) :: tw_Wg) 6 [.inr 0, .inl v1] (tw_mC pa_kinds pa_groups pa_widths pa_pairs pa_size pa_base ma_others ma_waiting le_types le_partners le_resolved le_ofParagraph ex_levels ex_types ex_entryLevels ex_entryOverrides ex_entryIsolates ex_last ex_lostIsolates ex_lostEmbeddings ex_openIsolates se_places se_types se_marks se_count se_embedding se_beginning se_end br_partners br_list fi_breaks fi_starts fi_extents fi_count fi_groups sh_levels sh_order tl_measure tl_stale) Post := by
  refine tw_of (own := twR_tl) (L0 := [some (.inr 0), some (.inl v1)]) (by decide) rfl rfl (Nat.le_of_ble_eq_true rfl) (fun Z hX => ?_)
  unfold tww_tl_partner at h
  refine tw_aload_n hX twd_tl_partner_0 rfl rfl ?_
  refine tw_get (kf := 0) hX twd_tl_partner_1 twin_tl rfl (by decide) tww_326 rfl rfl rfl ?_
  refine tw_iload_n hX twd_tl_partner_4 rfl rfl ?_
  refine tw_callV (As := [.inl v1]) (n := 1) hX twd_tl_partner_5 tw_good tww_636 tww_633 tww_634 tww_635 tww_78 twk_pa_has rfl rfl ⟨by decide, by decide⟩ rfl (Nat.le_of_ble_eq_true rfl) (twc_pa_has (fun z1 e2 => ?_))
  subst e2
  change tw_rn (tw_YC l D ad cI cZ) Z Post 8 [some (.inr 0), some (.inl v1)] [.inl (twr_pa_has v1 pa_size)] (tw_mC pa_kinds pa_groups pa_widths pa_pairs pa_size pa_base ma_others ma_waiting le_types le_partners le_resolved le_ofParagraph ex_levels ex_types ex_entryLevels ex_entryOverrides ex_entryIsolates ex_last ex_lostIsolates ex_lostEmbeddings ex_openIsolates se_places se_types se_marks se_count se_embedding se_beginning se_end br_partners br_list fi_breaks fi_starts fi_extents fi_count fi_groups sh_levels sh_order tl_measure tl_stale)
  refine tw_if_ne hX twd_tl_partner_8 rfl (fun q36 => ?_) (fun q36 => ?_)
  · have h := h.2 q36
    refine tw_aload_n hX twd_tl_partner_13 rfl rfl ?_
    refine tw_callV (As := []) (n := 0) hX twd_tl_partner_14 tw_good tww_383 tww_380 tww_382 tww_0 tww_77 twk_tl_layOut rfl rfl ⟨by decide, by decide⟩ rfl (Nat.le_of_ble_eq_true rfl) (twc_tl_layOut h (fun m_3_ma_others m_4_ma_waiting m_5_le_types m_6_le_partners m_7_le_resolved m_8_le_ofParagraph m_9_ex_levels m_10_ex_types m_11_ex_entryLevels m_12_ex_entryOverrides m_13_ex_entryIsolates m_14_ex_last m_15_ex_lostIsolates m_16_ex_lostEmbeddings m_17_ex_openIsolates m_18_se_places m_19_se_types m_20_se_marks m_21_se_count m_22_se_embedding m_23_se_beginning m_24_se_end m_25_br_partners m_26_br_list m_27_fi_breaks m_28_fi_starts m_29_fi_extents m_30_fi_count m_31_fi_groups m_32_sh_levels m_33_sh_order m_34_tl_stale h => ?_))
    change tw_rn (tw_YC l D ad cI cZ) Z Post 17 [some (.inr 0), some (.inl v1)] [] (tw_mC pa_kinds pa_groups pa_widths pa_pairs pa_size pa_base m_3_ma_others m_4_ma_waiting m_5_le_types m_6_le_partners m_7_le_resolved m_8_le_ofParagraph m_9_ex_levels m_10_ex_types m_11_ex_entryLevels m_12_ex_entryOverrides m_13_ex_entryIsolates m_14_ex_last m_15_ex_lostIsolates m_16_ex_lostEmbeddings m_17_ex_openIsolates m_18_se_places m_19_se_types m_20_se_marks m_21_se_count m_22_se_embedding m_23_se_beginning m_24_se_end m_25_br_partners m_26_br_list m_27_fi_breaks m_28_fi_starts m_29_fi_extents m_30_fi_count m_31_fi_groups m_32_sh_levels m_33_sh_order tl_measure m_34_tl_stale)
    refine tw_aload_n hX twd_tl_partner_17 rfl rfl ?_
    refine tw_get (kf := 1) hX twd_tl_partner_18 twin_tl rfl (by decide) tww_327 rfl rfl rfl ?_
    refine tw_get (kf := 2) hX twd_tl_partner_21 twin_le rfl (by decide) tww_256 rfl rfl rfl ?_
    refine tw_iload_n hX twd_tl_partner_24 rfl rfl ?_
    obtain ⟨c35, h⟩ := h
    refine tw_iaload hX twd_tl_partner_25 rfl c35 ?_
    exact tw_ret hX twd_tl_partner_26 (hK _ _ _ _ _ _ _ _ _ _ _ _ _ _ _ _ _ _ _ _ _ _ _ _ _ _ _ _ _ _ _ _ _ h)
  · have h := h.1 q36
    refine tw_iconst hX twd_tl_partner_11 ⟨by decide, by decide⟩ ?_
    exact tw_ret hX twd_tl_partner_12 (hK _ _ _ _ _ _ _ _ _ _ _ _ _ _ _ _ _ _ _ _ _ _ _ _ _ _ _ _ _ _ _ _ _ h)
def tww_tl_type (v1 : Int) (pa_kinds : Nat → Int) (pa_groups : Nat → Int) (pa_widths : Nat → Int) (pa_pairs : Nat → Int) (pa_size : Int) (pa_base : Int) (ma_others : Nat → Int) (ma_waiting : Nat → Int) (le_types : Nat → Int) (le_partners : Nat → Int) (le_resolved : Nat → Int) (le_ofParagraph : Int) (ex_levels : Nat → Int) (ex_types : Nat → Int) (ex_entryLevels : Nat → Int) (ex_entryOverrides : Nat → Int) (ex_entryIsolates : Nat → Int) (ex_last : Int) (ex_lostIsolates : Int) (ex_lostEmbeddings : Int) (ex_openIsolates : Int) (se_places : Nat → Int) (se_types : Nat → Int) (se_marks : Nat → Int) (se_count : Int) (se_embedding : Int) (se_beginning : Int) (se_end : Int) (br_partners : Nat → Int) (br_list : Nat → Int) (fi_breaks : Nat → Int) (fi_starts : Nat → Int) (fi_extents : Nat → Int) (fi_count : Int) (fi_groups : Nat → Int) (sh_levels : Nat → Int) (sh_order : Nat → Int) (tl_measure : Int) (tl_stale : Int) (K : Int → (Nat → Int) → (Nat → Int) → (Nat → Int) → (Nat → Int) → (Nat → Int) → Int → (Nat → Int) → (Nat → Int) → (Nat → Int) → (Nat → Int) → (Nat → Int) → Int → Int → Int → Int → (Nat → Int) → (Nat → Int) → (Nat → Int) → Int → Int → Int → Int → (Nat → Int) → (Nat → Int) → (Nat → Int) → (Nat → Int) → (Nat → Int) → Int → (Nat → Int) → (Nat → Int) → (Nat → Int) → Int → Prop) : Prop :=
  (((twr_pa_has v1 pa_size) = 0 →
  K (-1) ma_others ma_waiting le_types le_partners le_resolved le_ofParagraph ex_levels ex_types ex_entryLevels ex_entryOverrides ex_entryIsolates ex_last ex_lostIsolates ex_lostEmbeddings ex_openIsolates se_places se_types se_marks se_count se_embedding se_beginning se_end br_partners br_list fi_breaks fi_starts fi_extents fi_count fi_groups sh_levels sh_order tl_stale) ∧
  (¬ (twr_pa_has v1 pa_size) = 0 →
  tww_tl_layOut pa_kinds pa_groups pa_widths pa_pairs pa_size pa_base ma_others ma_waiting le_types le_partners le_resolved le_ofParagraph ex_levels ex_types ex_entryLevels ex_entryOverrides ex_entryIsolates ex_last ex_lostIsolates ex_lostEmbeddings ex_openIsolates se_places se_types se_marks se_count se_embedding se_beginning se_end br_partners br_list fi_breaks fi_starts fi_extents fi_count fi_groups sh_levels sh_order tl_measure tl_stale (fun m_3_ma_others m_4_ma_waiting m_5_le_types m_6_le_partners m_7_le_resolved m_8_le_ofParagraph m_9_ex_levels m_10_ex_types m_11_ex_entryLevels m_12_ex_entryOverrides m_13_ex_entryIsolates m_14_ex_last m_15_ex_lostIsolates m_16_ex_lostEmbeddings m_17_ex_openIsolates m_18_se_places m_19_se_types m_20_se_marks m_21_se_count m_22_se_embedding m_23_se_beginning m_24_se_end m_25_br_partners m_26_br_list m_27_fi_breaks m_28_fi_starts m_29_fi_extents m_30_fi_count m_31_fi_groups m_32_sh_levels m_33_sh_order m_34_tl_stale =>
    (0 ≤ v1 ∧ v1 < 64) ∧ K (m_5_le_types (Int.toNat v1)) m_3_ma_others m_4_ma_waiting m_5_le_types m_6_le_partners m_7_le_resolved m_8_le_ofParagraph m_9_ex_levels m_10_ex_types m_11_ex_entryLevels m_12_ex_entryOverrides m_13_ex_entryIsolates m_14_ex_last m_15_ex_lostIsolates m_16_ex_lostEmbeddings m_17_ex_openIsolates m_18_se_places m_19_se_types m_20_se_marks m_21_se_count m_22_se_embedding m_23_se_beginning m_24_se_end m_25_br_partners m_26_br_list m_27_fi_breaks m_28_fi_starts m_29_fi_extents m_30_fi_count m_31_fi_groups m_32_sh_levels m_33_sh_order m_34_tl_stale)))
set_option maxRecDepth 100000 in
set_option maxHeartbeats 4000000 in
theorem twc_tl_type {l : Launch} {D : va_G} {ad : Nat → Nat} {cI cZ : ClassId} {Post : tw_P} {K : Int → (Nat → Int) → (Nat → Int) → (Nat → Int) → (Nat → Int) → (Nat → Int) → Int → (Nat → Int) → (Nat → Int) → (Nat → Int) → (Nat → Int) → (Nat → Int) → Int → Int → Int → Int → (Nat → Int) → (Nat → Int) → (Nat → Int) → Int → Int → Int → Int → (Nat → Int) → (Nat → Int) → (Nat → Int) → (Nat → Int) → (Nat → Int) → Int → (Nat → Int) → (Nat → Int) → (Nat → Int) → Int → Prop} {v1 : Int} {pa_size pa_base le_ofParagraph ex_last ex_lostIsolates ex_lostEmbeddings ex_openIsolates se_count se_embedding se_beginning se_end fi_count tl_measure tl_stale : Int} {pa_kinds pa_groups pa_widths pa_pairs ma_others ma_waiting le_types le_partners le_resolved ex_levels ex_types ex_entryLevels ex_entryOverrides ex_entryIsolates se_places se_types se_marks br_partners br_list fi_breaks fi_starts fi_extents fi_groups sh_levels sh_order : Nat → Int} (h : tww_tl_type v1 pa_kinds pa_groups pa_widths pa_pairs pa_size pa_base ma_others ma_waiting le_types le_partners le_resolved le_ofParagraph ex_levels ex_types ex_entryLevels ex_entryOverrides ex_entryIsolates ex_last ex_lostIsolates ex_lostEmbeddings ex_openIsolates se_places se_types se_marks se_count se_embedding se_beginning se_end br_partners br_list fi_breaks fi_starts fi_extents fi_count fi_groups sh_levels sh_order tl_measure tl_stale K) (hK : ∀ (z : Int) (n_ma_others : Nat → Int) (n_ma_waiting : Nat → Int) (n_le_types : Nat → Int) (n_le_partners : Nat → Int) (n_le_resolved : Nat → Int) (n_le_ofParagraph : Int) (n_ex_levels : Nat → Int) (n_ex_types : Nat → Int) (n_ex_entryLevels : Nat → Int) (n_ex_entryOverrides : Nat → Int) (n_ex_entryIsolates : Nat → Int) (n_ex_last : Int) (n_ex_lostIsolates : Int) (n_ex_lostEmbeddings : Int) (n_ex_openIsolates : Int) (n_se_places : Nat → Int) (n_se_types : Nat → Int) (n_se_marks : Nat → Int) (n_se_count : Int) (n_se_embedding : Int) (n_se_beginning : Int) (n_se_end : Int) (n_br_partners : Nat → Int) (n_br_list : Nat → Int) (n_fi_breaks : Nat → Int) (n_fi_starts : Nat → Int) (n_fi_extents : Nat → Int) (n_fi_count : Int) (n_fi_groups : Nat → Int) (n_sh_levels : Nat → Int) (n_sh_order : Nat → Int) (n_tl_stale : Int), K z n_ma_others n_ma_waiting n_le_types n_le_partners n_le_resolved n_le_ofParagraph n_ex_levels n_ex_types n_ex_entryLevels n_ex_entryOverrides n_ex_entryIsolates n_ex_last n_ex_lostIsolates n_ex_lostEmbeddings n_ex_openIsolates n_se_places n_se_types n_se_marks n_se_count n_se_embedding n_se_beginning n_se_end n_br_partners n_br_list n_fi_breaks n_fi_starts n_fi_extents n_fi_count n_fi_groups n_sh_levels n_sh_order n_tl_stale → Post (some z) (tw_mC pa_kinds pa_groups pa_widths pa_pairs pa_size pa_base n_ma_others n_ma_waiting n_le_types n_le_partners n_le_resolved n_le_ofParagraph n_ex_levels n_ex_types n_ex_entryLevels n_ex_entryOverrides n_ex_entryIsolates n_ex_last n_ex_lostIsolates n_ex_lostEmbeddings n_ex_openIsolates n_se_places n_se_types n_se_marks n_se_count n_se_embedding n_se_beginning n_se_end n_br_partners n_br_list n_fi_breaks n_fi_starts n_fi_extents n_fi_count n_fi_groups n_sh_levels n_sh_order tl_measure n_tl_stale)) : tw_ct (tw_YC l D ad cI cZ) twy_tl_type (Cond.code twy_tl_type prog_1_method_11_code 2 (some .int) :: tw_Wg) 6 [.inr 0, .inl v1] (tw_mC pa_kinds pa_groups pa_widths pa_pairs pa_size pa_base ma_others ma_waiting le_types le_partners le_resolved le_ofParagraph ex_levels ex_types ex_entryLevels ex_entryOverrides ex_entryIsolates ex_last ex_lostIsolates ex_lostEmbeddings ex_openIsolates se_places se_types se_marks se_count se_embedding se_beginning se_end br_partners br_list fi_breaks fi_starts fi_extents fi_count fi_groups sh_levels sh_order tl_measure tl_stale) Post := by
  refine tw_of (own := twR_tl) (L0 := [some (.inr 0), some (.inl v1)]) (by decide) rfl rfl (Nat.le_of_ble_eq_true rfl) (fun Z hX => ?_)
  unfold tww_tl_type at h
  refine tw_aload_n hX twd_tl_type_0 rfl rfl ?_
  refine tw_get (kf := 0) hX twd_tl_type_1 twin_tl rfl (by decide) tww_326 rfl rfl rfl ?_
  refine tw_iload_n hX twd_tl_type_4 rfl rfl ?_
  refine tw_callV (As := [.inl v1]) (n := 1) hX twd_tl_type_5 tw_good tww_636 tww_633 tww_634 tww_635 tww_78 twk_pa_has rfl rfl ⟨by decide, by decide⟩ rfl (Nat.le_of_ble_eq_true rfl) (twc_pa_has (fun z1 e2 => ?_))
  subst e2
  change tw_rn (tw_YC l D ad cI cZ) Z Post 8 [some (.inr 0), some (.inl v1)] [.inl (twr_pa_has v1 pa_size)] (tw_mC pa_kinds pa_groups pa_widths pa_pairs pa_size pa_base ma_others ma_waiting le_types le_partners le_resolved le_ofParagraph ex_levels ex_types ex_entryLevels ex_entryOverrides ex_entryIsolates ex_last ex_lostIsolates ex_lostEmbeddings ex_openIsolates se_places se_types se_marks se_count se_embedding se_beginning se_end br_partners br_list fi_breaks fi_starts fi_extents fi_count fi_groups sh_levels sh_order tl_measure tl_stale)
  refine tw_if_ne hX twd_tl_type_8 rfl (fun q36 => ?_) (fun q36 => ?_)
  · have h := h.2 q36
    refine tw_aload_n hX twd_tl_type_13 rfl rfl ?_
    refine tw_callV (As := []) (n := 0) hX twd_tl_type_14 tw_good tww_383 tww_380 tww_382 tww_0 tww_77 twk_tl_layOut rfl rfl ⟨by decide, by decide⟩ rfl (Nat.le_of_ble_eq_true rfl) (twc_tl_layOut h (fun m_3_ma_others m_4_ma_waiting m_5_le_types m_6_le_partners m_7_le_resolved m_8_le_ofParagraph m_9_ex_levels m_10_ex_types m_11_ex_entryLevels m_12_ex_entryOverrides m_13_ex_entryIsolates m_14_ex_last m_15_ex_lostIsolates m_16_ex_lostEmbeddings m_17_ex_openIsolates m_18_se_places m_19_se_types m_20_se_marks m_21_se_count m_22_se_embedding m_23_se_beginning m_24_se_end m_25_br_partners m_26_br_list m_27_fi_breaks m_28_fi_starts m_29_fi_extents m_30_fi_count m_31_fi_groups m_32_sh_levels m_33_sh_order m_34_tl_stale h => ?_))
    change tw_rn (tw_YC l D ad cI cZ) Z Post 17 [some (.inr 0), some (.inl v1)] [] (tw_mC pa_kinds pa_groups pa_widths pa_pairs pa_size pa_base m_3_ma_others m_4_ma_waiting m_5_le_types m_6_le_partners m_7_le_resolved m_8_le_ofParagraph m_9_ex_levels m_10_ex_types m_11_ex_entryLevels m_12_ex_entryOverrides m_13_ex_entryIsolates m_14_ex_last m_15_ex_lostIsolates m_16_ex_lostEmbeddings m_17_ex_openIsolates m_18_se_places m_19_se_types m_20_se_marks m_21_se_count m_22_se_embedding m_23_se_beginning m_24_se_end m_25_br_partners m_26_br_list m_27_fi_breaks m_28_fi_starts m_29_fi_extents m_30_fi_count m_31_fi_groups m_32_sh_levels m_33_sh_order tl_measure m_34_tl_stale)
    refine tw_aload_n hX twd_tl_type_17 rfl rfl ?_
    refine tw_get (kf := 1) hX twd_tl_type_18 twin_tl rfl (by decide) tww_327 rfl rfl rfl ?_
    refine tw_get (kf := 1) hX twd_tl_type_21 twin_le rfl (by decide) tww_254 rfl rfl rfl ?_
    refine tw_iload_n hX twd_tl_type_24 rfl rfl ?_
    obtain ⟨c35, h⟩ := h
    refine tw_iaload hX twd_tl_type_25 rfl c35 ?_
    exact tw_ret hX twd_tl_type_26 (hK _ _ _ _ _ _ _ _ _ _ _ _ _ _ _ _ _ _ _ _ _ _ _ _ _ _ _ _ _ _ _ _ _ h)
  · have h := h.1 q36
    refine tw_iconst hX twd_tl_type_11 ⟨by decide, by decide⟩ ?_
    exact tw_ret hX twd_tl_type_12 (hK _ _ _ _ _ _ _ _ _ _ _ _ _ _ _ _ _ _ _ _ _ _ _ _ _ _ _ _ _ _ _ _ _ h)
def tww_tl_level (v1 : Int) (pa_kinds : Nat → Int) (pa_groups : Nat → Int) (pa_widths : Nat → Int) (pa_pairs : Nat → Int) (pa_size : Int) (pa_base : Int) (ma_others : Nat → Int) (ma_waiting : Nat → Int) (le_types : Nat → Int) (le_partners : Nat → Int) (le_resolved : Nat → Int) (le_ofParagraph : Int) (ex_levels : Nat → Int) (ex_types : Nat → Int) (ex_entryLevels : Nat → Int) (ex_entryOverrides : Nat → Int) (ex_entryIsolates : Nat → Int) (ex_last : Int) (ex_lostIsolates : Int) (ex_lostEmbeddings : Int) (ex_openIsolates : Int) (se_places : Nat → Int) (se_types : Nat → Int) (se_marks : Nat → Int) (se_count : Int) (se_embedding : Int) (se_beginning : Int) (se_end : Int) (br_partners : Nat → Int) (br_list : Nat → Int) (fi_breaks : Nat → Int) (fi_starts : Nat → Int) (fi_extents : Nat → Int) (fi_count : Int) (fi_groups : Nat → Int) (sh_levels : Nat → Int) (sh_order : Nat → Int) (tl_measure : Int) (tl_stale : Int) (K : Int → (Nat → Int) → (Nat → Int) → (Nat → Int) → (Nat → Int) → (Nat → Int) → Int → (Nat → Int) → (Nat → Int) → (Nat → Int) → (Nat → Int) → (Nat → Int) → Int → Int → Int → Int → (Nat → Int) → (Nat → Int) → (Nat → Int) → Int → Int → Int → Int → (Nat → Int) → (Nat → Int) → (Nat → Int) → (Nat → Int) → (Nat → Int) → Int → (Nat → Int) → (Nat → Int) → (Nat → Int) → Int → Prop) : Prop :=
  (((twr_pa_has v1 pa_size) = 0 →
  K (-1) ma_others ma_waiting le_types le_partners le_resolved le_ofParagraph ex_levels ex_types ex_entryLevels ex_entryOverrides ex_entryIsolates ex_last ex_lostIsolates ex_lostEmbeddings ex_openIsolates se_places se_types se_marks se_count se_embedding se_beginning se_end br_partners br_list fi_breaks fi_starts fi_extents fi_count fi_groups sh_levels sh_order tl_stale) ∧
  (¬ (twr_pa_has v1 pa_size) = 0 →
  tww_tl_layOut pa_kinds pa_groups pa_widths pa_pairs pa_size pa_base ma_others ma_waiting le_types le_partners le_resolved le_ofParagraph ex_levels ex_types ex_entryLevels ex_entryOverrides ex_entryIsolates ex_last ex_lostIsolates ex_lostEmbeddings ex_openIsolates se_places se_types se_marks se_count se_embedding se_beginning se_end br_partners br_list fi_breaks fi_starts fi_extents fi_count fi_groups sh_levels sh_order tl_measure tl_stale (fun m_3_ma_others m_4_ma_waiting m_5_le_types m_6_le_partners m_7_le_resolved m_8_le_ofParagraph m_9_ex_levels m_10_ex_types m_11_ex_entryLevels m_12_ex_entryOverrides m_13_ex_entryIsolates m_14_ex_last m_15_ex_lostIsolates m_16_ex_lostEmbeddings m_17_ex_openIsolates m_18_se_places m_19_se_types m_20_se_marks m_21_se_count m_22_se_embedding m_23_se_beginning m_24_se_end m_25_br_partners m_26_br_list m_27_fi_breaks m_28_fi_starts m_29_fi_extents m_30_fi_count m_31_fi_groups m_32_sh_levels m_33_sh_order m_34_tl_stale =>
    (0 ≤ v1 ∧ v1 < 64) ∧ K (m_7_le_resolved (Int.toNat v1)) m_3_ma_others m_4_ma_waiting m_5_le_types m_6_le_partners m_7_le_resolved m_8_le_ofParagraph m_9_ex_levels m_10_ex_types m_11_ex_entryLevels m_12_ex_entryOverrides m_13_ex_entryIsolates m_14_ex_last m_15_ex_lostIsolates m_16_ex_lostEmbeddings m_17_ex_openIsolates m_18_se_places m_19_se_types m_20_se_marks m_21_se_count m_22_se_embedding m_23_se_beginning m_24_se_end m_25_br_partners m_26_br_list m_27_fi_breaks m_28_fi_starts m_29_fi_extents m_30_fi_count m_31_fi_groups m_32_sh_levels m_33_sh_order m_34_tl_stale)))
set_option maxRecDepth 100000 in
set_option maxHeartbeats 4000000 in
theorem twc_tl_level {l : Launch} {D : va_G} {ad : Nat → Nat} {cI cZ : ClassId} {Post : tw_P} {K : Int → (Nat → Int) → (Nat → Int) → (Nat → Int) → (Nat → Int) → (Nat → Int) → Int → (Nat → Int) → (Nat → Int) → (Nat → Int) → (Nat → Int) → (Nat → Int) → Int → Int → Int → Int → (Nat → Int) → (Nat → Int) → (Nat → Int) → Int → Int → Int → Int → (Nat → Int) → (Nat → Int) → (Nat → Int) → (Nat → Int) → (Nat → Int) → Int → (Nat → Int) → (Nat → Int) → (Nat → Int) → Int → Prop} {v1 : Int} {pa_size pa_base le_ofParagraph ex_last ex_lostIsolates ex_lostEmbeddings ex_openIsolates se_count se_embedding se_beginning se_end fi_count tl_measure tl_stale : Int} {pa_kinds pa_groups pa_widths pa_pairs ma_others ma_waiting le_types le_partners le_resolved ex_levels ex_types ex_entryLevels ex_entryOverrides ex_entryIsolates se_places se_types se_marks br_partners br_list fi_breaks fi_starts fi_extents fi_groups sh_levels sh_order : Nat → Int} (h : tww_tl_level v1 pa_kinds pa_groups pa_widths pa_pairs pa_size pa_base ma_others ma_waiting le_types le_partners le_resolved le_ofParagraph ex_levels ex_types ex_entryLevels ex_entryOverrides ex_entryIsolates ex_last ex_lostIsolates ex_lostEmbeddings ex_openIsolates se_places se_types se_marks se_count se_embedding se_beginning se_end br_partners br_list fi_breaks fi_starts fi_extents fi_count fi_groups sh_levels sh_order tl_measure tl_stale K) (hK : ∀ (z : Int) (n_ma_others : Nat → Int) (n_ma_waiting : Nat → Int) (n_le_types : Nat → Int) (n_le_partners : Nat → Int) (n_le_resolved : Nat → Int) (n_le_ofParagraph : Int) (n_ex_levels : Nat → Int) (n_ex_types : Nat → Int) (n_ex_entryLevels : Nat → Int) (n_ex_entryOverrides : Nat → Int) (n_ex_entryIsolates : Nat → Int) (n_ex_last : Int) (n_ex_lostIsolates : Int) (n_ex_lostEmbeddings : Int) (n_ex_openIsolates : Int) (n_se_places : Nat → Int) (n_se_types : Nat → Int) (n_se_marks : Nat → Int) (n_se_count : Int) (n_se_embedding : Int) (n_se_beginning : Int) (n_se_end : Int) (n_br_partners : Nat → Int) (n_br_list : Nat → Int) (n_fi_breaks : Nat → Int) (n_fi_starts : Nat → Int) (n_fi_extents : Nat → Int) (n_fi_count : Int) (n_fi_groups : Nat → Int) (n_sh_levels : Nat → Int) (n_sh_order : Nat → Int) (n_tl_stale : Int), K z n_ma_others n_ma_waiting n_le_types n_le_partners n_le_resolved n_le_ofParagraph n_ex_levels n_ex_types n_ex_entryLevels n_ex_entryOverrides n_ex_entryIsolates n_ex_last n_ex_lostIsolates n_ex_lostEmbeddings n_ex_openIsolates n_se_places n_se_types n_se_marks n_se_count n_se_embedding n_se_beginning n_se_end n_br_partners n_br_list n_fi_breaks n_fi_starts n_fi_extents n_fi_count n_fi_groups n_sh_levels n_sh_order n_tl_stale → Post (some z) (tw_mC pa_kinds pa_groups pa_widths pa_pairs pa_size pa_base n_ma_others n_ma_waiting n_le_types n_le_partners n_le_resolved n_le_ofParagraph n_ex_levels n_ex_types n_ex_entryLevels n_ex_entryOverrides n_ex_entryIsolates n_ex_last n_ex_lostIsolates n_ex_lostEmbeddings n_ex_openIsolates n_se_places n_se_types n_se_marks n_se_count n_se_embedding n_se_beginning n_se_end n_br_partners n_br_list n_fi_breaks n_fi_starts n_fi_extents n_fi_count n_fi_groups n_sh_levels n_sh_order tl_measure n_tl_stale)) : tw_ct (tw_YC l D ad cI cZ) twy_tl_level (Cond.code twy_tl_level prog_1_method_12_code 2 (some .int) :: tw_Wg) 6 [.inr 0, .inl v1] (tw_mC pa_kinds pa_groups pa_widths pa_pairs pa_size pa_base ma_others ma_waiting le_types le_partners le_resolved le_ofParagraph ex_levels ex_types ex_entryLevels ex_entryOverrides ex_entryIsolates ex_last ex_lostIsolates ex_lostEmbeddings ex_openIsolates se_places se_types se_marks se_count se_embedding se_beginning se_end br_partners br_list fi_breaks fi_starts fi_extents fi_count fi_groups sh_levels sh_order tl_measure tl_stale) Post := by
  refine tw_of (own := twR_tl) (L0 := [some (.inr 0), some (.inl v1)]) (by decide) rfl rfl (Nat.le_of_ble_eq_true rfl) (fun Z hX => ?_)
  unfold tww_tl_level at h
  refine tw_aload_n hX twd_tl_level_0 rfl rfl ?_
  refine tw_get (kf := 0) hX twd_tl_level_1 twin_tl rfl (by decide) tww_326 rfl rfl rfl ?_
  refine tw_iload_n hX twd_tl_level_4 rfl rfl ?_
  refine tw_callV (As := [.inl v1]) (n := 1) hX twd_tl_level_5 tw_good tww_636 tww_633 tww_634 tww_635 tww_78 twk_pa_has rfl rfl ⟨by decide, by decide⟩ rfl (Nat.le_of_ble_eq_true rfl) (twc_pa_has (fun z1 e2 => ?_))
  subst e2
  change tw_rn (tw_YC l D ad cI cZ) Z Post 8 [some (.inr 0), some (.inl v1)] [.inl (twr_pa_has v1 pa_size)] (tw_mC pa_kinds pa_groups pa_widths pa_pairs pa_size pa_base ma_others ma_waiting le_types le_partners le_resolved le_ofParagraph ex_levels ex_types ex_entryLevels ex_entryOverrides ex_entryIsolates ex_last ex_lostIsolates ex_lostEmbeddings ex_openIsolates se_places se_types se_marks se_count se_embedding se_beginning se_end br_partners br_list fi_breaks fi_starts fi_extents fi_count fi_groups sh_levels sh_order tl_measure tl_stale)
  refine tw_if_ne hX twd_tl_level_8 rfl (fun q36 => ?_) (fun q36 => ?_)
  · have h := h.2 q36
    refine tw_aload_n hX twd_tl_level_13 rfl rfl ?_
    refine tw_callV (As := []) (n := 0) hX twd_tl_level_14 tw_good tww_383 tww_380 tww_382 tww_0 tww_77 twk_tl_layOut rfl rfl ⟨by decide, by decide⟩ rfl (Nat.le_of_ble_eq_true rfl) (twc_tl_layOut h (fun m_3_ma_others m_4_ma_waiting m_5_le_types m_6_le_partners m_7_le_resolved m_8_le_ofParagraph m_9_ex_levels m_10_ex_types m_11_ex_entryLevels m_12_ex_entryOverrides m_13_ex_entryIsolates m_14_ex_last m_15_ex_lostIsolates m_16_ex_lostEmbeddings m_17_ex_openIsolates m_18_se_places m_19_se_types m_20_se_marks m_21_se_count m_22_se_embedding m_23_se_beginning m_24_se_end m_25_br_partners m_26_br_list m_27_fi_breaks m_28_fi_starts m_29_fi_extents m_30_fi_count m_31_fi_groups m_32_sh_levels m_33_sh_order m_34_tl_stale h => ?_))
    change tw_rn (tw_YC l D ad cI cZ) Z Post 17 [some (.inr 0), some (.inl v1)] [] (tw_mC pa_kinds pa_groups pa_widths pa_pairs pa_size pa_base m_3_ma_others m_4_ma_waiting m_5_le_types m_6_le_partners m_7_le_resolved m_8_le_ofParagraph m_9_ex_levels m_10_ex_types m_11_ex_entryLevels m_12_ex_entryOverrides m_13_ex_entryIsolates m_14_ex_last m_15_ex_lostIsolates m_16_ex_lostEmbeddings m_17_ex_openIsolates m_18_se_places m_19_se_types m_20_se_marks m_21_se_count m_22_se_embedding m_23_se_beginning m_24_se_end m_25_br_partners m_26_br_list m_27_fi_breaks m_28_fi_starts m_29_fi_extents m_30_fi_count m_31_fi_groups m_32_sh_levels m_33_sh_order tl_measure m_34_tl_stale)
    refine tw_aload_n hX twd_tl_level_17 rfl rfl ?_
    refine tw_get (kf := 1) hX twd_tl_level_18 twin_tl rfl (by decide) tww_327 rfl rfl rfl ?_
    refine tw_get (kf := 3) hX twd_tl_level_21 twin_le rfl (by decide) tww_259 rfl rfl rfl ?_
    refine tw_iload_n hX twd_tl_level_24 rfl rfl ?_
    obtain ⟨c35, h⟩ := h
    refine tw_iaload hX twd_tl_level_25 rfl c35 ?_
    exact tw_ret hX twd_tl_level_26 (hK _ _ _ _ _ _ _ _ _ _ _ _ _ _ _ _ _ _ _ _ _ _ _ _ _ _ _ _ _ _ _ _ _ h)
  · have h := h.1 q36
    refine tw_iconst hX twd_tl_level_11 ⟨by decide, by decide⟩ ?_
    exact tw_ret hX twd_tl_level_12 (hK _ _ _ _ _ _ _ _ _ _ _ _ _ _ _ _ _ _ _ _ _ _ _ _ _ _ _ _ _ _ _ _ _ h)
def tww_tl_mayBreak (v1 : Int) (pa_kinds : Nat → Int) (pa_groups : Nat → Int) (pa_widths : Nat → Int) (pa_pairs : Nat → Int) (pa_size : Int) (pa_base : Int) (ma_others : Nat → Int) (ma_waiting : Nat → Int) (le_types : Nat → Int) (le_partners : Nat → Int) (le_resolved : Nat → Int) (le_ofParagraph : Int) (ex_levels : Nat → Int) (ex_types : Nat → Int) (ex_entryLevels : Nat → Int) (ex_entryOverrides : Nat → Int) (ex_entryIsolates : Nat → Int) (ex_last : Int) (ex_lostIsolates : Int) (ex_lostEmbeddings : Int) (ex_openIsolates : Int) (se_places : Nat → Int) (se_types : Nat → Int) (se_marks : Nat → Int) (se_count : Int) (se_embedding : Int) (se_beginning : Int) (se_end : Int) (br_partners : Nat → Int) (br_list : Nat → Int) (fi_breaks : Nat → Int) (fi_starts : Nat → Int) (fi_extents : Nat → Int) (fi_count : Int) (fi_groups : Nat → Int) (sh_levels : Nat → Int) (sh_order : Nat → Int) (tl_measure : Int) (tl_stale : Int) (K : Int → (Nat → Int) → (Nat → Int) → (Nat → Int) → (Nat → Int) → (Nat → Int) → Int → (Nat → Int) → (Nat → Int) → (Nat → Int) → (Nat → Int) → (Nat → Int) → Int → Int → Int → Int → (Nat → Int) → (Nat → Int) → (Nat → Int) → Int → Int → Int → Int → (Nat → Int) → (Nat → Int) → (Nat → Int) → (Nat → Int) → (Nat → Int) → Int → (Nat → Int) → (Nat → Int) → (Nat → Int) → Int → Prop) : Prop :=
  (((twr_pa_has v1 pa_size) = 0 →
  K 0 ma_others ma_waiting le_types le_partners le_resolved le_ofParagraph ex_levels ex_types ex_entryLevels ex_entryOverrides ex_entryIsolates ex_last ex_lostIsolates ex_lostEmbeddings ex_openIsolates se_places se_types se_marks se_count se_embedding se_beginning se_end br_partners br_list fi_breaks fi_starts fi_extents fi_count fi_groups sh_levels sh_order tl_stale) ∧
  (¬ (twr_pa_has v1 pa_size) = 0 →
  tww_tl_layOut pa_kinds pa_groups pa_widths pa_pairs pa_size pa_base ma_others ma_waiting le_types le_partners le_resolved le_ofParagraph ex_levels ex_types ex_entryLevels ex_entryOverrides ex_entryIsolates ex_last ex_lostIsolates ex_lostEmbeddings ex_openIsolates se_places se_types se_marks se_count se_embedding se_beginning se_end br_partners br_list fi_breaks fi_starts fi_extents fi_count fi_groups sh_levels sh_order tl_measure tl_stale (fun m_3_ma_others m_4_ma_waiting m_5_le_types m_6_le_partners m_7_le_resolved m_8_le_ofParagraph m_9_ex_levels m_10_ex_types m_11_ex_entryLevels m_12_ex_entryOverrides m_13_ex_entryIsolates m_14_ex_last m_15_ex_lostIsolates m_16_ex_lostEmbeddings m_17_ex_openIsolates m_18_se_places m_19_se_types m_20_se_marks m_21_se_count m_22_se_embedding m_23_se_beginning m_24_se_end m_25_br_partners m_26_br_list m_27_fi_breaks m_28_fi_starts m_29_fi_extents m_30_fi_count m_31_fi_groups m_32_sh_levels m_33_sh_order m_34_tl_stale =>
    (0 ≤ v1 ∧ v1 < 64) ∧ (0 ≤ (m_27_fi_breaks (Int.toNat v1)) ∧ (m_27_fi_breaks (Int.toNat v1)) ≤ 1) ∧ K (m_27_fi_breaks (Int.toNat v1)) m_3_ma_others m_4_ma_waiting m_5_le_types m_6_le_partners m_7_le_resolved m_8_le_ofParagraph m_9_ex_levels m_10_ex_types m_11_ex_entryLevels m_12_ex_entryOverrides m_13_ex_entryIsolates m_14_ex_last m_15_ex_lostIsolates m_16_ex_lostEmbeddings m_17_ex_openIsolates m_18_se_places m_19_se_types m_20_se_marks m_21_se_count m_22_se_embedding m_23_se_beginning m_24_se_end m_25_br_partners m_26_br_list m_27_fi_breaks m_28_fi_starts m_29_fi_extents m_30_fi_count m_31_fi_groups m_32_sh_levels m_33_sh_order m_34_tl_stale)))
set_option maxRecDepth 100000 in
set_option maxHeartbeats 4000000 in
theorem twc_tl_mayBreak {l : Launch} {D : va_G} {ad : Nat → Nat} {cI cZ : ClassId} {Post : tw_P} {K : Int → (Nat → Int) → (Nat → Int) → (Nat → Int) → (Nat → Int) → (Nat → Int) → Int → (Nat → Int) → (Nat → Int) → (Nat → Int) → (Nat → Int) → (Nat → Int) → Int → Int → Int → Int → (Nat → Int) → (Nat → Int) → (Nat → Int) → Int → Int → Int → Int → (Nat → Int) → (Nat → Int) → (Nat → Int) → (Nat → Int) → (Nat → Int) → Int → (Nat → Int) → (Nat → Int) → (Nat → Int) → Int → Prop} {v1 : Int} {pa_size pa_base le_ofParagraph ex_last ex_lostIsolates ex_lostEmbeddings ex_openIsolates se_count se_embedding se_beginning se_end fi_count tl_measure tl_stale : Int} {pa_kinds pa_groups pa_widths pa_pairs ma_others ma_waiting le_types le_partners le_resolved ex_levels ex_types ex_entryLevels ex_entryOverrides ex_entryIsolates se_places se_types se_marks br_partners br_list fi_breaks fi_starts fi_extents fi_groups sh_levels sh_order : Nat → Int} (h : tww_tl_mayBreak v1 pa_kinds pa_groups pa_widths pa_pairs pa_size pa_base ma_others ma_waiting le_types le_partners le_resolved le_ofParagraph ex_levels ex_types ex_entryLevels ex_entryOverrides ex_entryIsolates ex_last ex_lostIsolates ex_lostEmbeddings ex_openIsolates se_places se_types se_marks se_count se_embedding se_beginning se_end br_partners br_list fi_breaks fi_starts fi_extents fi_count fi_groups sh_levels sh_order tl_measure tl_stale K) (hK : ∀ (z : Int) (n_ma_others : Nat → Int) (n_ma_waiting : Nat → Int) (n_le_types : Nat → Int) (n_le_partners : Nat → Int) (n_le_resolved : Nat → Int) (n_le_ofParagraph : Int) (n_ex_levels : Nat → Int) (n_ex_types : Nat → Int) (n_ex_entryLevels : Nat → Int) (n_ex_entryOverrides : Nat → Int) (n_ex_entryIsolates : Nat → Int) (n_ex_last : Int) (n_ex_lostIsolates : Int) (n_ex_lostEmbeddings : Int) (n_ex_openIsolates : Int) (n_se_places : Nat → Int) (n_se_types : Nat → Int) (n_se_marks : Nat → Int) (n_se_count : Int) (n_se_embedding : Int) (n_se_beginning : Int) (n_se_end : Int) (n_br_partners : Nat → Int) (n_br_list : Nat → Int) (n_fi_breaks : Nat → Int) (n_fi_starts : Nat → Int) (n_fi_extents : Nat → Int) (n_fi_count : Int) (n_fi_groups : Nat → Int) (n_sh_levels : Nat → Int) (n_sh_order : Nat → Int) (n_tl_stale : Int), K z n_ma_others n_ma_waiting n_le_types n_le_partners n_le_resolved n_le_ofParagraph n_ex_levels n_ex_types n_ex_entryLevels n_ex_entryOverrides n_ex_entryIsolates n_ex_last n_ex_lostIsolates n_ex_lostEmbeddings n_ex_openIsolates n_se_places n_se_types n_se_marks n_se_count n_se_embedding n_se_beginning n_se_end n_br_partners n_br_list n_fi_breaks n_fi_starts n_fi_extents n_fi_count n_fi_groups n_sh_levels n_sh_order n_tl_stale → Post (some z) (tw_mC pa_kinds pa_groups pa_widths pa_pairs pa_size pa_base n_ma_others n_ma_waiting n_le_types n_le_partners n_le_resolved n_le_ofParagraph n_ex_levels n_ex_types n_ex_entryLevels n_ex_entryOverrides n_ex_entryIsolates n_ex_last n_ex_lostIsolates n_ex_lostEmbeddings n_ex_openIsolates n_se_places n_se_types n_se_marks n_se_count n_se_embedding n_se_beginning n_se_end n_br_partners n_br_list n_fi_breaks n_fi_starts n_fi_extents n_fi_count n_fi_groups n_sh_levels n_sh_order tl_measure n_tl_stale)) : tw_ct (tw_YC l D ad cI cZ) twy_tl_mayBreak (Cond.code twy_tl_mayBreak prog_1_method_13_code 2 (some .boolean) :: tw_Wg) 6 [.inr 0, .inl v1] (tw_mC pa_kinds pa_groups pa_widths pa_pairs pa_size pa_base ma_others ma_waiting le_types le_partners le_resolved le_ofParagraph ex_levels ex_types ex_entryLevels ex_entryOverrides ex_entryIsolates ex_last ex_lostIsolates ex_lostEmbeddings ex_openIsolates se_places se_types se_marks se_count se_embedding se_beginning se_end br_partners br_list fi_breaks fi_starts fi_extents fi_count fi_groups sh_levels sh_order tl_measure tl_stale) Post := by
  refine tw_of (own := twR_tl) (L0 := [some (.inr 0), some (.inl v1)]) (by decide) rfl rfl (Nat.le_of_ble_eq_true rfl) (fun Z hX => ?_)
  unfold tww_tl_mayBreak at h
  refine tw_aload_n hX twd_tl_mayBreak_0 rfl rfl ?_
  refine tw_get (kf := 0) hX twd_tl_mayBreak_1 twin_tl rfl (by decide) tww_326 rfl rfl rfl ?_
  refine tw_iload_n hX twd_tl_mayBreak_4 rfl rfl ?_
  refine tw_callV (As := [.inl v1]) (n := 1) hX twd_tl_mayBreak_5 tw_good tww_636 tww_633 tww_634 tww_635 tww_78 twk_pa_has rfl rfl ⟨by decide, by decide⟩ rfl (Nat.le_of_ble_eq_true rfl) (twc_pa_has (fun z1 e2 => ?_))
  subst e2
  change tw_rn (tw_YC l D ad cI cZ) Z Post 8 [some (.inr 0), some (.inl v1)] [.inl (twr_pa_has v1 pa_size)] (tw_mC pa_kinds pa_groups pa_widths pa_pairs pa_size pa_base ma_others ma_waiting le_types le_partners le_resolved le_ofParagraph ex_levels ex_types ex_entryLevels ex_entryOverrides ex_entryIsolates ex_last ex_lostIsolates ex_lostEmbeddings ex_openIsolates se_places se_types se_marks se_count se_embedding se_beginning se_end br_partners br_list fi_breaks fi_starts fi_extents fi_count fi_groups sh_levels sh_order tl_measure tl_stale)
  refine tw_if_ne hX twd_tl_mayBreak_8 rfl (fun q37 => ?_) (fun q37 => ?_)
  · have h := h.2 q37
    refine tw_aload_n hX twd_tl_mayBreak_13 rfl rfl ?_
    refine tw_callV (As := []) (n := 0) hX twd_tl_mayBreak_14 tw_good tww_383 tww_380 tww_382 tww_0 tww_77 twk_tl_layOut rfl rfl ⟨by decide, by decide⟩ rfl (Nat.le_of_ble_eq_true rfl) (twc_tl_layOut h (fun m_3_ma_others m_4_ma_waiting m_5_le_types m_6_le_partners m_7_le_resolved m_8_le_ofParagraph m_9_ex_levels m_10_ex_types m_11_ex_entryLevels m_12_ex_entryOverrides m_13_ex_entryIsolates m_14_ex_last m_15_ex_lostIsolates m_16_ex_lostEmbeddings m_17_ex_openIsolates m_18_se_places m_19_se_types m_20_se_marks m_21_se_count m_22_se_embedding m_23_se_beginning m_24_se_end m_25_br_partners m_26_br_list m_27_fi_breaks m_28_fi_starts m_29_fi_extents m_30_fi_count m_31_fi_groups m_32_sh_levels m_33_sh_order m_34_tl_stale h => ?_))
    change tw_rn (tw_YC l D ad cI cZ) Z Post 17 [some (.inr 0), some (.inl v1)] [] (tw_mC pa_kinds pa_groups pa_widths pa_pairs pa_size pa_base m_3_ma_others m_4_ma_waiting m_5_le_types m_6_le_partners m_7_le_resolved m_8_le_ofParagraph m_9_ex_levels m_10_ex_types m_11_ex_entryLevels m_12_ex_entryOverrides m_13_ex_entryIsolates m_14_ex_last m_15_ex_lostIsolates m_16_ex_lostEmbeddings m_17_ex_openIsolates m_18_se_places m_19_se_types m_20_se_marks m_21_se_count m_22_se_embedding m_23_se_beginning m_24_se_end m_25_br_partners m_26_br_list m_27_fi_breaks m_28_fi_starts m_29_fi_extents m_30_fi_count m_31_fi_groups m_32_sh_levels m_33_sh_order tl_measure m_34_tl_stale)
    refine tw_aload_n hX twd_tl_mayBreak_17 rfl rfl ?_
    refine tw_get (kf := 2) hX twd_tl_mayBreak_18 twin_tl rfl (by decide) tww_328 rfl rfl rfl ?_
    refine tw_get (kf := 0) hX twd_tl_mayBreak_21 twin_fi rfl (by decide) tww_290 rfl rfl rfl ?_
    refine tw_iload_n hX twd_tl_mayBreak_24 rfl rfl ?_
    obtain ⟨c35, h⟩ := h
    refine tw_baload hX twd_tl_mayBreak_25 rfl c35 ?_
    obtain ⟨c36, h⟩ := h
    exact tw_zret hX twd_tl_mayBreak_26 c36 (hK _ _ _ _ _ _ _ _ _ _ _ _ _ _ _ _ _ _ _ _ _ _ _ _ _ _ _ _ _ _ _ _ _ h)
  · have h := h.1 q37
    refine tw_iconst hX twd_tl_mayBreak_11 ⟨by decide, by decide⟩ ?_
    exact tw_zret hX twd_tl_mayBreak_12 ⟨by decide, by decide⟩ (hK _ _ _ _ _ _ _ _ _ _ _ _ _ _ _ _ _ _ _ _ _ _ _ _ _ _ _ _ _ _ _ _ _ h)
def tww_tl_lines (pa_kinds : Nat → Int) (pa_groups : Nat → Int) (pa_widths : Nat → Int) (pa_pairs : Nat → Int) (pa_size : Int) (pa_base : Int) (ma_others : Nat → Int) (ma_waiting : Nat → Int) (le_types : Nat → Int) (le_partners : Nat → Int) (le_resolved : Nat → Int) (le_ofParagraph : Int) (ex_levels : Nat → Int) (ex_types : Nat → Int) (ex_entryLevels : Nat → Int) (ex_entryOverrides : Nat → Int) (ex_entryIsolates : Nat → Int) (ex_last : Int) (ex_lostIsolates : Int) (ex_lostEmbeddings : Int) (ex_openIsolates : Int) (se_places : Nat → Int) (se_types : Nat → Int) (se_marks : Nat → Int) (se_count : Int) (se_embedding : Int) (se_beginning : Int) (se_end : Int) (br_partners : Nat → Int) (br_list : Nat → Int) (fi_breaks : Nat → Int) (fi_starts : Nat → Int) (fi_extents : Nat → Int) (fi_count : Int) (fi_groups : Nat → Int) (sh_levels : Nat → Int) (sh_order : Nat → Int) (tl_measure : Int) (tl_stale : Int) (K : Int → (Nat → Int) → (Nat → Int) → (Nat → Int) → (Nat → Int) → (Nat → Int) → Int → (Nat → Int) → (Nat → Int) → (Nat → Int) → (Nat → Int) → (Nat → Int) → Int → Int → Int → Int → (Nat → Int) → (Nat → Int) → (Nat → Int) → Int → Int → Int → Int → (Nat → Int) → (Nat → Int) → (Nat → Int) → (Nat → Int) → (Nat → Int) → Int → (Nat → Int) → (Nat → Int) → (Nat → Int) → Int → Prop) : Prop :=
  tww_tl_layOut pa_kinds pa_groups pa_widths pa_pairs pa_size pa_base ma_others ma_waiting le_types le_partners le_resolved le_ofParagraph ex_levels ex_types ex_entryLevels ex_entryOverrides ex_entryIsolates ex_last ex_lostIsolates ex_lostEmbeddings ex_openIsolates se_places se_types se_marks se_count se_embedding se_beginning se_end br_partners br_list fi_breaks fi_starts fi_extents fi_count fi_groups sh_levels sh_order tl_measure tl_stale (fun m_1_ma_others m_2_ma_waiting m_3_le_types m_4_le_partners m_5_le_resolved m_6_le_ofParagraph m_7_ex_levels m_8_ex_types m_9_ex_entryLevels m_10_ex_entryOverrides m_11_ex_entryIsolates m_12_ex_last m_13_ex_lostIsolates m_14_ex_lostEmbeddings m_15_ex_openIsolates m_16_se_places m_17_se_types m_18_se_marks m_19_se_count m_20_se_embedding m_21_se_beginning m_22_se_end m_23_br_partners m_24_br_list m_25_fi_breaks m_26_fi_starts m_27_fi_extents m_28_fi_count m_29_fi_groups m_30_sh_levels m_31_sh_order m_32_tl_stale =>
  K m_28_fi_count m_1_ma_others m_2_ma_waiting m_3_le_types m_4_le_partners m_5_le_resolved m_6_le_ofParagraph m_7_ex_levels m_8_ex_types m_9_ex_entryLevels m_10_ex_entryOverrides m_11_ex_entryIsolates m_12_ex_last m_13_ex_lostIsolates m_14_ex_lostEmbeddings m_15_ex_openIsolates m_16_se_places m_17_se_types m_18_se_marks m_19_se_count m_20_se_embedding m_21_se_beginning m_22_se_end m_23_br_partners m_24_br_list m_25_fi_breaks m_26_fi_starts m_27_fi_extents m_28_fi_count m_29_fi_groups m_30_sh_levels m_31_sh_order m_32_tl_stale)
set_option maxRecDepth 100000 in
set_option maxHeartbeats 4000000 in
theorem twc_tl_lines {l : Launch} {D : va_G} {ad : Nat → Nat} {cI cZ : ClassId} {Post : tw_P} {K : Int → (Nat → Int) → (Nat → Int) → (Nat → Int) → (Nat → Int) → (Nat → Int) → Int → (Nat → Int) → (Nat → Int) → (Nat → Int) → (Nat → Int) → (Nat → Int) → Int → Int → Int → Int → (Nat → Int) → (Nat → Int) → (Nat → Int) → Int → Int → Int → Int → (Nat → Int) → (Nat → Int) → (Nat → Int) → (Nat → Int) → (Nat → Int) → Int → (Nat → Int) → (Nat → Int) → (Nat → Int) → Int → Prop} {pa_size pa_base le_ofParagraph ex_last ex_lostIsolates ex_lostEmbeddings ex_openIsolates se_count se_embedding se_beginning se_end fi_count tl_measure tl_stale : Int} {pa_kinds pa_groups pa_widths pa_pairs ma_others ma_waiting le_types le_partners le_resolved ex_levels ex_types ex_entryLevels ex_entryOverrides ex_entryIsolates se_places se_types se_marks br_partners br_list fi_breaks fi_starts fi_extents fi_groups sh_levels sh_order : Nat → Int} (h : tww_tl_lines pa_kinds pa_groups pa_widths pa_pairs pa_size pa_base ma_others ma_waiting le_types le_partners le_resolved le_ofParagraph ex_levels ex_types ex_entryLevels ex_entryOverrides ex_entryIsolates ex_last ex_lostIsolates ex_lostEmbeddings ex_openIsolates se_places se_types se_marks se_count se_embedding se_beginning se_end br_partners br_list fi_breaks fi_starts fi_extents fi_count fi_groups sh_levels sh_order tl_measure tl_stale K) (hK : ∀ (z : Int) (n_ma_others : Nat → Int) (n_ma_waiting : Nat → Int) (n_le_types : Nat → Int) (n_le_partners : Nat → Int) (n_le_resolved : Nat → Int) (n_le_ofParagraph : Int) (n_ex_levels : Nat → Int) (n_ex_types : Nat → Int) (n_ex_entryLevels : Nat → Int) (n_ex_entryOverrides : Nat → Int) (n_ex_entryIsolates : Nat → Int) (n_ex_last : Int) (n_ex_lostIsolates : Int) (n_ex_lostEmbeddings : Int) (n_ex_openIsolates : Int) (n_se_places : Nat → Int) (n_se_types : Nat → Int) (n_se_marks : Nat → Int) (n_se_count : Int) (n_se_embedding : Int) (n_se_beginning : Int) (n_se_end : Int) (n_br_partners : Nat → Int) (n_br_list : Nat → Int) (n_fi_breaks : Nat → Int) (n_fi_starts : Nat → Int) (n_fi_extents : Nat → Int) (n_fi_count : Int) (n_fi_groups : Nat → Int) (n_sh_levels : Nat → Int) (n_sh_order : Nat → Int) (n_tl_stale : Int), K z n_ma_others n_ma_waiting n_le_types n_le_partners n_le_resolved n_le_ofParagraph n_ex_levels n_ex_types n_ex_entryLevels n_ex_entryOverrides n_ex_entryIsolates n_ex_last n_ex_lostIsolates n_ex_lostEmbeddings n_ex_openIsolates n_se_places n_se_types n_se_marks n_se_count n_se_embedding n_se_beginning n_se_end n_br_partners n_br_list n_fi_breaks n_fi_starts n_fi_extents n_fi_count n_fi_groups n_sh_levels n_sh_order n_tl_stale → Post (some z) (tw_mC pa_kinds pa_groups pa_widths pa_pairs pa_size pa_base n_ma_others n_ma_waiting n_le_types n_le_partners n_le_resolved n_le_ofParagraph n_ex_levels n_ex_types n_ex_entryLevels n_ex_entryOverrides n_ex_entryIsolates n_ex_last n_ex_lostIsolates n_ex_lostEmbeddings n_ex_openIsolates n_se_places n_se_types n_se_marks n_se_count n_se_embedding n_se_beginning n_se_end n_br_partners n_br_list n_fi_breaks n_fi_starts n_fi_extents n_fi_count n_fi_groups n_sh_levels n_sh_order tl_measure n_tl_stale)) : tw_ct (tw_YC l D ad cI cZ) twy_tl_lines (Cond.code twy_tl_lines prog_1_method_14_code 1 (some .int) :: tw_Wg) 6 [.inr 0] (tw_mC pa_kinds pa_groups pa_widths pa_pairs pa_size pa_base ma_others ma_waiting le_types le_partners le_resolved le_ofParagraph ex_levels ex_types ex_entryLevels ex_entryOverrides ex_entryIsolates ex_last ex_lostIsolates ex_lostEmbeddings ex_openIsolates se_places se_types se_marks se_count se_embedding se_beginning se_end br_partners br_list fi_breaks fi_starts fi_extents fi_count fi_groups sh_levels sh_order tl_measure tl_stale) Post := by
  refine tw_of (own := twR_tl) (L0 := [some (.inr 0)]) (by decide) rfl rfl (Nat.le_of_ble_eq_true rfl) (fun Z hX => ?_)
  unfold tww_tl_lines at h
  refine tw_aload_n hX twd_tl_lines_0 rfl rfl ?_
  refine tw_callV (As := []) (n := 0) hX twd_tl_lines_1 tw_good tww_383 tww_380 tww_382 tww_0 tww_77 twk_tl_layOut rfl rfl ⟨by decide, by decide⟩ rfl (Nat.le_of_ble_eq_true rfl) (twc_tl_layOut h (fun m_1_ma_others m_2_ma_waiting m_3_le_types m_4_le_partners m_5_le_resolved m_6_le_ofParagraph m_7_ex_levels m_8_ex_types m_9_ex_entryLevels m_10_ex_entryOverrides m_11_ex_entryIsolates m_12_ex_last m_13_ex_lostIsolates m_14_ex_lostEmbeddings m_15_ex_openIsolates m_16_se_places m_17_se_types m_18_se_marks m_19_se_count m_20_se_embedding m_21_se_beginning m_22_se_end m_23_br_partners m_24_br_list m_25_fi_breaks m_26_fi_starts m_27_fi_extents m_28_fi_count m_29_fi_groups m_30_sh_levels m_31_sh_order m_32_tl_stale h => ?_))
  change tw_rn (tw_YC l D ad cI cZ) Z Post 4 [some (.inr 0)] [] (tw_mC pa_kinds pa_groups pa_widths pa_pairs pa_size pa_base m_1_ma_others m_2_ma_waiting m_3_le_types m_4_le_partners m_5_le_resolved m_6_le_ofParagraph m_7_ex_levels m_8_ex_types m_9_ex_entryLevels m_10_ex_entryOverrides m_11_ex_entryIsolates m_12_ex_last m_13_ex_lostIsolates m_14_ex_lostEmbeddings m_15_ex_openIsolates m_16_se_places m_17_se_types m_18_se_marks m_19_se_count m_20_se_embedding m_21_se_beginning m_22_se_end m_23_br_partners m_24_br_list m_25_fi_breaks m_26_fi_starts m_27_fi_extents m_28_fi_count m_29_fi_groups m_30_sh_levels m_31_sh_order tl_measure m_32_tl_stale)
  refine tw_aload_n hX twd_tl_lines_4 rfl rfl ?_
  refine tw_get (kf := 2) hX twd_tl_lines_5 twin_tl rfl (by decide) tww_328 rfl rfl rfl ?_
  refine tw_get (kf := 3) hX twd_tl_lines_8 twin_fi rfl (by decide) tww_298 rfl rfl rfl ?_
  exact tw_ret hX twd_tl_lines_11 (hK _ _ _ _ _ _ _ _ _ _ _ _ _ _ _ _ _ _ _ _ _ _ _ _ _ _ _ _ _ _ _ _ _ h)
def tww_tl_start (v1 : Int) (pa_kinds : Nat → Int) (pa_groups : Nat → Int) (pa_widths : Nat → Int) (pa_pairs : Nat → Int) (pa_size : Int) (pa_base : Int) (ma_others : Nat → Int) (ma_waiting : Nat → Int) (le_types : Nat → Int) (le_partners : Nat → Int) (le_resolved : Nat → Int) (le_ofParagraph : Int) (ex_levels : Nat → Int) (ex_types : Nat → Int) (ex_entryLevels : Nat → Int) (ex_entryOverrides : Nat → Int) (ex_entryIsolates : Nat → Int) (ex_last : Int) (ex_lostIsolates : Int) (ex_lostEmbeddings : Int) (ex_openIsolates : Int) (se_places : Nat → Int) (se_types : Nat → Int) (se_marks : Nat → Int) (se_count : Int) (se_embedding : Int) (se_beginning : Int) (se_end : Int) (br_partners : Nat → Int) (br_list : Nat → Int) (fi_breaks : Nat → Int) (fi_starts : Nat → Int) (fi_extents : Nat → Int) (fi_count : Int) (fi_groups : Nat → Int) (sh_levels : Nat → Int) (sh_order : Nat → Int) (tl_measure : Int) (tl_stale : Int) (K : Int → (Nat → Int) → (Nat → Int) → (Nat → Int) → (Nat → Int) → (Nat → Int) → Int → (Nat → Int) → (Nat → Int) → (Nat → Int) → (Nat → Int) → (Nat → Int) → Int → Int → Int → Int → (Nat → Int) → (Nat → Int) → (Nat → Int) → Int → Int → Int → Int → (Nat → Int) → (Nat → Int) → (Nat → Int) → (Nat → Int) → (Nat → Int) → Int → (Nat → Int) → (Nat → Int) → (Nat → Int) → Int → Prop) : Prop :=
  tww_tl_layOut pa_kinds pa_groups pa_widths pa_pairs pa_size pa_base ma_others ma_waiting le_types le_partners le_resolved le_ofParagraph ex_levels ex_types ex_entryLevels ex_entryOverrides ex_entryIsolates ex_last ex_lostIsolates ex_lostEmbeddings ex_openIsolates se_places se_types se_marks se_count se_embedding se_beginning se_end br_partners br_list fi_breaks fi_starts fi_extents fi_count fi_groups sh_levels sh_order tl_measure tl_stale (fun m_1_ma_others m_2_ma_waiting m_3_le_types m_4_le_partners m_5_le_resolved m_6_le_ofParagraph m_7_ex_levels m_8_ex_types m_9_ex_entryLevels m_10_ex_entryOverrides m_11_ex_entryIsolates m_12_ex_last m_13_ex_lostIsolates m_14_ex_lostEmbeddings m_15_ex_openIsolates m_16_se_places m_17_se_types m_18_se_marks m_19_se_count m_20_se_embedding m_21_se_beginning m_22_se_end m_23_br_partners m_24_br_list m_25_fi_breaks m_26_fi_starts m_27_fi_extents m_28_fi_count m_29_fi_groups m_30_sh_levels m_31_sh_order m_32_tl_stale =>
  (((twr_tl_within v1 0 m_28_fi_count) = 0 →
  K (-1) m_1_ma_others m_2_ma_waiting m_3_le_types m_4_le_partners m_5_le_resolved m_6_le_ofParagraph m_7_ex_levels m_8_ex_types m_9_ex_entryLevels m_10_ex_entryOverrides m_11_ex_entryIsolates m_12_ex_last m_13_ex_lostIsolates m_14_ex_lostEmbeddings m_15_ex_openIsolates m_16_se_places m_17_se_types m_18_se_marks m_19_se_count m_20_se_embedding m_21_se_beginning m_22_se_end m_23_br_partners m_24_br_list m_25_fi_breaks m_26_fi_starts m_27_fi_extents m_28_fi_count m_29_fi_groups m_30_sh_levels m_31_sh_order m_32_tl_stale) ∧
  (¬ (twr_tl_within v1 0 m_28_fi_count) = 0 →
  (0 ≤ v1 ∧ v1 < 65) ∧ K (m_26_fi_starts (Int.toNat v1)) m_1_ma_others m_2_ma_waiting m_3_le_types m_4_le_partners m_5_le_resolved m_6_le_ofParagraph m_7_ex_levels m_8_ex_types m_9_ex_entryLevels m_10_ex_entryOverrides m_11_ex_entryIsolates m_12_ex_last m_13_ex_lostIsolates m_14_ex_lostEmbeddings m_15_ex_openIsolates m_16_se_places m_17_se_types m_18_se_marks m_19_se_count m_20_se_embedding m_21_se_beginning m_22_se_end m_23_br_partners m_24_br_list m_25_fi_breaks m_26_fi_starts m_27_fi_extents m_28_fi_count m_29_fi_groups m_30_sh_levels m_31_sh_order m_32_tl_stale)))
set_option maxRecDepth 100000 in
set_option maxHeartbeats 4000000 in
theorem twc_tl_start {l : Launch} {D : va_G} {ad : Nat → Nat} {cI cZ : ClassId} {Post : tw_P} {K : Int → (Nat → Int) → (Nat → Int) → (Nat → Int) → (Nat → Int) → (Nat → Int) → Int → (Nat → Int) → (Nat → Int) → (Nat → Int) → (Nat → Int) → (Nat → Int) → Int → Int → Int → Int → (Nat → Int) → (Nat → Int) → (Nat → Int) → Int → Int → Int → Int → (Nat → Int) → (Nat → Int) → (Nat → Int) → (Nat → Int) → (Nat → Int) → Int → (Nat → Int) → (Nat → Int) → (Nat → Int) → Int → Prop} {v1 : Int} {pa_size pa_base le_ofParagraph ex_last ex_lostIsolates ex_lostEmbeddings ex_openIsolates se_count se_embedding se_beginning se_end fi_count tl_measure tl_stale : Int} {pa_kinds pa_groups pa_widths pa_pairs ma_others ma_waiting le_types le_partners le_resolved ex_levels ex_types ex_entryLevels ex_entryOverrides ex_entryIsolates se_places se_types se_marks br_partners br_list fi_breaks fi_starts fi_extents fi_groups sh_levels sh_order : Nat → Int} (h : tww_tl_start v1 pa_kinds pa_groups pa_widths pa_pairs pa_size pa_base ma_others ma_waiting le_types le_partners le_resolved le_ofParagraph ex_levels ex_types ex_entryLevels ex_entryOverrides ex_entryIsolates ex_last ex_lostIsolates ex_lostEmbeddings ex_openIsolates se_places se_types se_marks se_count se_embedding se_beginning se_end br_partners br_list fi_breaks fi_starts fi_extents fi_count fi_groups sh_levels sh_order tl_measure tl_stale K) (hK : ∀ (z : Int) (n_ma_others : Nat → Int) (n_ma_waiting : Nat → Int) (n_le_types : Nat → Int) (n_le_partners : Nat → Int) (n_le_resolved : Nat → Int) (n_le_ofParagraph : Int) (n_ex_levels : Nat → Int) (n_ex_types : Nat → Int) (n_ex_entryLevels : Nat → Int) (n_ex_entryOverrides : Nat → Int) (n_ex_entryIsolates : Nat → Int) (n_ex_last : Int) (n_ex_lostIsolates : Int) (n_ex_lostEmbeddings : Int) (n_ex_openIsolates : Int) (n_se_places : Nat → Int) (n_se_types : Nat → Int) (n_se_marks : Nat → Int) (n_se_count : Int) (n_se_embedding : Int) (n_se_beginning : Int) (n_se_end : Int) (n_br_partners : Nat → Int) (n_br_list : Nat → Int) (n_fi_breaks : Nat → Int) (n_fi_starts : Nat → Int) (n_fi_extents : Nat → Int) (n_fi_count : Int) (n_fi_groups : Nat → Int) (n_sh_levels : Nat → Int) (n_sh_order : Nat → Int) (n_tl_stale : Int), K z n_ma_others n_ma_waiting n_le_types n_le_partners n_le_resolved n_le_ofParagraph n_ex_levels n_ex_types n_ex_entryLevels n_ex_entryOverrides n_ex_entryIsolates n_ex_last n_ex_lostIsolates n_ex_lostEmbeddings n_ex_openIsolates n_se_places n_se_types n_se_marks n_se_count n_se_embedding n_se_beginning n_se_end n_br_partners n_br_list n_fi_breaks n_fi_starts n_fi_extents n_fi_count n_fi_groups n_sh_levels n_sh_order n_tl_stale → Post (some z) (tw_mC pa_kinds pa_groups pa_widths pa_pairs pa_size pa_base n_ma_others n_ma_waiting n_le_types n_le_partners n_le_resolved n_le_ofParagraph n_ex_levels n_ex_types n_ex_entryLevels n_ex_entryOverrides n_ex_entryIsolates n_ex_last n_ex_lostIsolates n_ex_lostEmbeddings n_ex_openIsolates n_se_places n_se_types n_se_marks n_se_count n_se_embedding n_se_beginning n_se_end n_br_partners n_br_list n_fi_breaks n_fi_starts n_fi_extents n_fi_count n_fi_groups n_sh_levels n_sh_order tl_measure n_tl_stale)) : tw_ct (tw_YC l D ad cI cZ) twy_tl_start (Cond.code twy_tl_start prog_1_method_15_code 2 (some .int) :: tw_Wg) 6 [.inr 0, .inl v1] (tw_mC pa_kinds pa_groups pa_widths pa_pairs pa_size pa_base ma_others ma_waiting le_types le_partners le_resolved le_ofParagraph ex_levels ex_types ex_entryLevels ex_entryOverrides ex_entryIsolates ex_last ex_lostIsolates ex_lostEmbeddings ex_openIsolates se_places se_types se_marks se_count se_embedding se_beginning se_end br_partners br_list fi_breaks fi_starts fi_extents fi_count fi_groups sh_levels sh_order tl_measure tl_stale) Post := by
  refine tw_of (own := twR_tl) (L0 := [some (.inr 0), some (.inl v1)]) (by decide) rfl rfl (Nat.le_of_ble_eq_true rfl) (fun Z hX => ?_)
  unfold tww_tl_start at h
  refine tw_aload_n hX twd_tl_start_0 rfl rfl ?_
  refine tw_callV (As := []) (n := 0) hX twd_tl_start_1 tw_good tww_383 tww_380 tww_382 tww_0 tww_77 twk_tl_layOut rfl rfl ⟨by decide, by decide⟩ rfl (Nat.le_of_ble_eq_true rfl) (twc_tl_layOut h (fun m_1_ma_others m_2_ma_waiting m_3_le_types m_4_le_partners m_5_le_resolved m_6_le_ofParagraph m_7_ex_levels m_8_ex_types m_9_ex_entryLevels m_10_ex_entryOverrides m_11_ex_entryIsolates m_12_ex_last m_13_ex_lostIsolates m_14_ex_lostEmbeddings m_15_ex_openIsolates m_16_se_places m_17_se_types m_18_se_marks m_19_se_count m_20_se_embedding m_21_se_beginning m_22_se_end m_23_br_partners m_24_br_list m_25_fi_breaks m_26_fi_starts m_27_fi_extents m_28_fi_count m_29_fi_groups m_30_sh_levels m_31_sh_order m_32_tl_stale h => ?_))
  change tw_rn (tw_YC l D ad cI cZ) Z Post 4 [some (.inr 0), some (.inl v1)] [] (tw_mC pa_kinds pa_groups pa_widths pa_pairs pa_size pa_base m_1_ma_others m_2_ma_waiting m_3_le_types m_4_le_partners m_5_le_resolved m_6_le_ofParagraph m_7_ex_levels m_8_ex_types m_9_ex_entryLevels m_10_ex_entryOverrides m_11_ex_entryIsolates m_12_ex_last m_13_ex_lostIsolates m_14_ex_lostEmbeddings m_15_ex_openIsolates m_16_se_places m_17_se_types m_18_se_marks m_19_se_count m_20_se_embedding m_21_se_beginning m_22_se_end m_23_br_partners m_24_br_list m_25_fi_breaks m_26_fi_starts m_27_fi_extents m_28_fi_count m_29_fi_groups m_30_sh_levels m_31_sh_order tl_measure m_32_tl_stale)
  refine tw_iload_n hX twd_tl_start_4 rfl rfl ?_
  refine tw_iconst hX twd_tl_start_5 ⟨by decide, by decide⟩ ?_
  refine tw_aload_n hX twd_tl_start_6 rfl rfl ?_
  refine tw_get (kf := 2) hX twd_tl_start_7 twin_tl rfl (by decide) tww_328 rfl rfl rfl ?_
  refine tw_get (kf := 3) hX twd_tl_start_10 twin_fi rfl (by decide) tww_298 rfl rfl rfl ?_
  refine tw_callS (As := [.inl v1, .inl 0, .inl m_28_fi_count]) (n := 3) hX twd_tl_start_13 tw_good tww_351 tww_349 tww_350 tww_77 twk_tl_within ⟨by decide, by decide⟩ rfl (Nat.le_of_ble_eq_true rfl) (twc_tl_within (fun z33 e34 => ?_))
  subst e34
  change tw_rn (tw_YC l D ad cI cZ) Z Post 16 [some (.inr 0), some (.inl v1)] [.inl (twr_tl_within v1 0 m_28_fi_count)] (tw_mC pa_kinds pa_groups pa_widths pa_pairs pa_size pa_base m_1_ma_others m_2_ma_waiting m_3_le_types m_4_le_partners m_5_le_resolved m_6_le_ofParagraph m_7_ex_levels m_8_ex_types m_9_ex_entryLevels m_10_ex_entryOverrides m_11_ex_entryIsolates m_12_ex_last m_13_ex_lostIsolates m_14_ex_lostEmbeddings m_15_ex_openIsolates m_16_se_places m_17_se_types m_18_se_marks m_19_se_count m_20_se_embedding m_21_se_beginning m_22_se_end m_23_br_partners m_24_br_list m_25_fi_breaks m_26_fi_starts m_27_fi_extents m_28_fi_count m_29_fi_groups m_30_sh_levels m_31_sh_order tl_measure m_32_tl_stale)
  refine tw_if_eq hX twd_tl_start_16 rfl (fun q36 => ?_) (fun q36 => ?_)
  · have h := h.1 q36
    refine tw_iconst hX twd_tl_start_31 ⟨by decide, by decide⟩ ?_
    exact tw_ret hX twd_tl_start_32 (hK _ _ _ _ _ _ _ _ _ _ _ _ _ _ _ _ _ _ _ _ _ _ _ _ _ _ _ _ _ _ _ _ _ h)
  · have h := h.2 q36
    refine tw_aload_n hX twd_tl_start_19 rfl rfl ?_
    refine tw_get (kf := 2) hX twd_tl_start_20 twin_tl rfl (by decide) tww_328 rfl rfl rfl ?_
    refine tw_get (kf := 1) hX twd_tl_start_23 twin_fi rfl (by decide) tww_293 rfl rfl rfl ?_
    refine tw_iload_n hX twd_tl_start_26 rfl rfl ?_
    obtain ⟨c35, h⟩ := h
    refine tw_iaload hX twd_tl_start_27 rfl c35 ?_
    refine tw_goto hX twd_tl_start_28 rfl ?_
    exact tw_ret hX twd_tl_start_32 (hK _ _ _ _ _ _ _ _ _ _ _ _ _ _ _ _ _ _ _ _ _ _ _ _ _ _ _ _ _ _ _ _ _ h)
def twr_fi_has (v1 : Int) (fi_count : Int) : Int := if v1 < 0 then 0 else (if fi_count ≤ v1 then 0 else 1)
set_option maxRecDepth 100000 in
set_option maxHeartbeats 4000000 in
theorem twc_fi_has {l : Launch} {D : va_G} {ad : Nat → Nat} {cI cZ : ClassId} {Post : tw_P} {v1 : Int} {pa_size pa_base le_ofParagraph ex_last ex_lostIsolates ex_lostEmbeddings ex_openIsolates se_count se_embedding se_beginning se_end fi_count tl_measure tl_stale : Int} {pa_kinds pa_groups pa_widths pa_pairs ma_others ma_waiting le_types le_partners le_resolved ex_levels ex_types ex_entryLevels ex_entryOverrides ex_entryIsolates se_places se_types se_marks br_partners br_list fi_breaks fi_starts fi_extents fi_groups sh_levels sh_order : Nat → Int} (hK : ∀ (z : Int), z = twr_fi_has v1 fi_count → Post (some z) (tw_mC pa_kinds pa_groups pa_widths pa_pairs pa_size pa_base ma_others ma_waiting le_types le_partners le_resolved le_ofParagraph ex_levels ex_types ex_entryLevels ex_entryOverrides ex_entryIsolates ex_last ex_lostIsolates ex_lostEmbeddings ex_openIsolates se_places se_types se_marks se_count se_embedding se_beginning se_end br_partners br_list fi_breaks fi_starts fi_extents fi_count fi_groups sh_levels sh_order tl_measure tl_stale)) : tw_ct (tw_YC l D ad cI cZ) twy_fi_has (Cond.code twy_fi_has prog_4_method_2_code 2 (some .boolean) :: tw_Wg) 0 [.inr 26, .inl v1] (tw_mC pa_kinds pa_groups pa_widths pa_pairs pa_size pa_base ma_others ma_waiting le_types le_partners le_resolved le_ofParagraph ex_levels ex_types ex_entryLevels ex_entryOverrides ex_entryIsolates ex_last ex_lostIsolates ex_lostEmbeddings ex_openIsolates se_places se_types se_marks se_count se_embedding se_beginning se_end br_partners br_list fi_breaks fi_starts fi_extents fi_count fi_groups sh_levels sh_order tl_measure tl_stale) Post := by
  refine tw_of (own := twR_fi) (L0 := [some (.inr 26), some (.inl v1)]) (by decide) rfl rfl (Nat.le_of_ble_eq_true rfl) (fun Z hX => ?_)
  refine tw_iload_n hX twd_fi_has_0 rfl rfl ?_
  refine tw_if_lt hX twd_fi_has_1 rfl (fun q1 => ?_) (fun q1 => ?_)
  · have _tw := trivial
    refine tw_iconst hX twd_fi_has_16 ⟨by decide, by decide⟩ ?_
    exact tw_zret hX twd_fi_has_17 ⟨by decide, by decide⟩ (hK _ (Eq.symm (if_pos q1)))
  · have _tw := trivial
    refine tw_iload_n hX twd_fi_has_4 rfl rfl ?_
    refine tw_aload_n hX twd_fi_has_5 rfl rfl ?_
    refine tw_get (kf := 3) hX twd_fi_has_6 twin_fi rfl (by decide) tww_296 rfl rfl rfl ?_
    refine tw_icmp_ge hX twd_fi_has_9 rfl (fun q2 => ?_) (fun q2 => ?_)
    · have _tw := trivial
      refine tw_iconst hX twd_fi_has_16 ⟨by decide, by decide⟩ ?_
      exact tw_zret hX twd_fi_has_17 ⟨by decide, by decide⟩ (hK _ (Eq.symm (Eq.trans (if_neg q1) (if_pos q2))))
    · have _tw := trivial
      refine tw_iconst hX twd_fi_has_12 ⟨by decide, by decide⟩ ?_
      refine tw_goto hX twd_fi_has_13 rfl ?_
      exact tw_zret hX twd_fi_has_17 ⟨by decide, by decide⟩ (hK _ (Eq.symm (Eq.trans (if_neg q1) (if_neg q2))))
def tww_tl_extent (v1 : Int) (pa_kinds : Nat → Int) (pa_groups : Nat → Int) (pa_widths : Nat → Int) (pa_pairs : Nat → Int) (pa_size : Int) (pa_base : Int) (ma_others : Nat → Int) (ma_waiting : Nat → Int) (le_types : Nat → Int) (le_partners : Nat → Int) (le_resolved : Nat → Int) (le_ofParagraph : Int) (ex_levels : Nat → Int) (ex_types : Nat → Int) (ex_entryLevels : Nat → Int) (ex_entryOverrides : Nat → Int) (ex_entryIsolates : Nat → Int) (ex_last : Int) (ex_lostIsolates : Int) (ex_lostEmbeddings : Int) (ex_openIsolates : Int) (se_places : Nat → Int) (se_types : Nat → Int) (se_marks : Nat → Int) (se_count : Int) (se_embedding : Int) (se_beginning : Int) (se_end : Int) (br_partners : Nat → Int) (br_list : Nat → Int) (fi_breaks : Nat → Int) (fi_starts : Nat → Int) (fi_extents : Nat → Int) (fi_count : Int) (fi_groups : Nat → Int) (sh_levels : Nat → Int) (sh_order : Nat → Int) (tl_measure : Int) (tl_stale : Int) (K : Int → (Nat → Int) → (Nat → Int) → (Nat → Int) → (Nat → Int) → (Nat → Int) → Int → (Nat → Int) → (Nat → Int) → (Nat → Int) → (Nat → Int) → (Nat → Int) → Int → Int → Int → Int → (Nat → Int) → (Nat → Int) → (Nat → Int) → Int → Int → Int → Int → (Nat → Int) → (Nat → Int) → (Nat → Int) → (Nat → Int) → (Nat → Int) → Int → (Nat → Int) → (Nat → Int) → (Nat → Int) → Int → Prop) : Prop :=
  tww_tl_layOut pa_kinds pa_groups pa_widths pa_pairs pa_size pa_base ma_others ma_waiting le_types le_partners le_resolved le_ofParagraph ex_levels ex_types ex_entryLevels ex_entryOverrides ex_entryIsolates ex_last ex_lostIsolates ex_lostEmbeddings ex_openIsolates se_places se_types se_marks se_count se_embedding se_beginning se_end br_partners br_list fi_breaks fi_starts fi_extents fi_count fi_groups sh_levels sh_order tl_measure tl_stale (fun m_1_ma_others m_2_ma_waiting m_3_le_types m_4_le_partners m_5_le_resolved m_6_le_ofParagraph m_7_ex_levels m_8_ex_types m_9_ex_entryLevels m_10_ex_entryOverrides m_11_ex_entryIsolates m_12_ex_last m_13_ex_lostIsolates m_14_ex_lostEmbeddings m_15_ex_openIsolates m_16_se_places m_17_se_types m_18_se_marks m_19_se_count m_20_se_embedding m_21_se_beginning m_22_se_end m_23_br_partners m_24_br_list m_25_fi_breaks m_26_fi_starts m_27_fi_extents m_28_fi_count m_29_fi_groups m_30_sh_levels m_31_sh_order m_32_tl_stale =>
  (((twr_fi_has v1 m_28_fi_count) = 0 →
  K (-1) m_1_ma_others m_2_ma_waiting m_3_le_types m_4_le_partners m_5_le_resolved m_6_le_ofParagraph m_7_ex_levels m_8_ex_types m_9_ex_entryLevels m_10_ex_entryOverrides m_11_ex_entryIsolates m_12_ex_last m_13_ex_lostIsolates m_14_ex_lostEmbeddings m_15_ex_openIsolates m_16_se_places m_17_se_types m_18_se_marks m_19_se_count m_20_se_embedding m_21_se_beginning m_22_se_end m_23_br_partners m_24_br_list m_25_fi_breaks m_26_fi_starts m_27_fi_extents m_28_fi_count m_29_fi_groups m_30_sh_levels m_31_sh_order m_32_tl_stale) ∧
  (¬ (twr_fi_has v1 m_28_fi_count) = 0 →
  (0 ≤ v1 ∧ v1 < 64) ∧ K (m_27_fi_extents (Int.toNat v1)) m_1_ma_others m_2_ma_waiting m_3_le_types m_4_le_partners m_5_le_resolved m_6_le_ofParagraph m_7_ex_levels m_8_ex_types m_9_ex_entryLevels m_10_ex_entryOverrides m_11_ex_entryIsolates m_12_ex_last m_13_ex_lostIsolates m_14_ex_lostEmbeddings m_15_ex_openIsolates m_16_se_places m_17_se_types m_18_se_marks m_19_se_count m_20_se_embedding m_21_se_beginning m_22_se_end m_23_br_partners m_24_br_list m_25_fi_breaks m_26_fi_starts m_27_fi_extents m_28_fi_count m_29_fi_groups m_30_sh_levels m_31_sh_order m_32_tl_stale)))
set_option maxRecDepth 100000 in
set_option maxHeartbeats 4000000 in
theorem twc_tl_extent {l : Launch} {D : va_G} {ad : Nat → Nat} {cI cZ : ClassId} {Post : tw_P} {K : Int → (Nat → Int) → (Nat → Int) → (Nat → Int) → (Nat → Int) → (Nat → Int) → Int → (Nat → Int) → (Nat → Int) → (Nat → Int) → (Nat → Int) → (Nat → Int) → Int → Int → Int → Int → (Nat → Int) → (Nat → Int) → (Nat → Int) → Int → Int → Int → Int → (Nat → Int) → (Nat → Int) → (Nat → Int) → (Nat → Int) → (Nat → Int) → Int → (Nat → Int) → (Nat → Int) → (Nat → Int) → Int → Prop} {v1 : Int} {pa_size pa_base le_ofParagraph ex_last ex_lostIsolates ex_lostEmbeddings ex_openIsolates se_count se_embedding se_beginning se_end fi_count tl_measure tl_stale : Int} {pa_kinds pa_groups pa_widths pa_pairs ma_others ma_waiting le_types le_partners le_resolved ex_levels ex_types ex_entryLevels ex_entryOverrides ex_entryIsolates se_places se_types se_marks br_partners br_list fi_breaks fi_starts fi_extents fi_groups sh_levels sh_order : Nat → Int} (h : tww_tl_extent v1 pa_kinds pa_groups pa_widths pa_pairs pa_size pa_base ma_others ma_waiting le_types le_partners le_resolved le_ofParagraph ex_levels ex_types ex_entryLevels ex_entryOverrides ex_entryIsolates ex_last ex_lostIsolates ex_lostEmbeddings ex_openIsolates se_places se_types se_marks se_count se_embedding se_beginning se_end br_partners br_list fi_breaks fi_starts fi_extents fi_count fi_groups sh_levels sh_order tl_measure tl_stale K) (hK : ∀ (z : Int) (n_ma_others : Nat → Int) (n_ma_waiting : Nat → Int) (n_le_types : Nat → Int) (n_le_partners : Nat → Int) (n_le_resolved : Nat → Int) (n_le_ofParagraph : Int) (n_ex_levels : Nat → Int) (n_ex_types : Nat → Int) (n_ex_entryLevels : Nat → Int) (n_ex_entryOverrides : Nat → Int) (n_ex_entryIsolates : Nat → Int) (n_ex_last : Int) (n_ex_lostIsolates : Int) (n_ex_lostEmbeddings : Int) (n_ex_openIsolates : Int) (n_se_places : Nat → Int) (n_se_types : Nat → Int) (n_se_marks : Nat → Int) (n_se_count : Int) (n_se_embedding : Int) (n_se_beginning : Int) (n_se_end : Int) (n_br_partners : Nat → Int) (n_br_list : Nat → Int) (n_fi_breaks : Nat → Int) (n_fi_starts : Nat → Int) (n_fi_extents : Nat → Int) (n_fi_count : Int) (n_fi_groups : Nat → Int) (n_sh_levels : Nat → Int) (n_sh_order : Nat → Int) (n_tl_stale : Int), K z n_ma_others n_ma_waiting n_le_types n_le_partners n_le_resolved n_le_ofParagraph n_ex_levels n_ex_types n_ex_entryLevels n_ex_entryOverrides n_ex_entryIsolates n_ex_last n_ex_lostIsolates n_ex_lostEmbeddings n_ex_openIsolates n_se_places n_se_types n_se_marks n_se_count n_se_embedding n_se_beginning n_se_end n_br_partners n_br_list n_fi_breaks n_fi_starts n_fi_extents n_fi_count n_fi_groups n_sh_levels n_sh_order n_tl_stale → Post (some z) (tw_mC pa_kinds pa_groups pa_widths pa_pairs pa_size pa_base n_ma_others n_ma_waiting n_le_types n_le_partners n_le_resolved n_le_ofParagraph n_ex_levels n_ex_types n_ex_entryLevels n_ex_entryOverrides n_ex_entryIsolates n_ex_last n_ex_lostIsolates n_ex_lostEmbeddings n_ex_openIsolates n_se_places n_se_types n_se_marks n_se_count n_se_embedding n_se_beginning n_se_end n_br_partners n_br_list n_fi_breaks n_fi_starts n_fi_extents n_fi_count n_fi_groups n_sh_levels n_sh_order tl_measure n_tl_stale)) : tw_ct (tw_YC l D ad cI cZ) twy_tl_extent (Cond.code twy_tl_extent prog_1_method_16_code 2 (some .int) :: tw_Wg) 6 [.inr 0, .inl v1] (tw_mC pa_kinds pa_groups pa_widths pa_pairs pa_size pa_base ma_others ma_waiting le_types le_partners le_resolved le_ofParagraph ex_levels ex_types ex_entryLevels ex_entryOverrides ex_entryIsolates ex_last ex_lostIsolates ex_lostEmbeddings ex_openIsolates se_places se_types se_marks se_count se_embedding se_beginning se_end br_partners br_list fi_breaks fi_starts fi_extents fi_count fi_groups sh_levels sh_order tl_measure tl_stale) Post := by
  refine tw_of (own := twR_tl) (L0 := [some (.inr 0), some (.inl v1)]) (by decide) rfl rfl (Nat.le_of_ble_eq_true rfl) (fun Z hX => ?_)
  unfold tww_tl_extent at h
  refine tw_aload_n hX twd_tl_extent_0 rfl rfl ?_
  refine tw_callV (As := []) (n := 0) hX twd_tl_extent_1 tw_good tww_383 tww_380 tww_382 tww_0 tww_77 twk_tl_layOut rfl rfl ⟨by decide, by decide⟩ rfl (Nat.le_of_ble_eq_true rfl) (twc_tl_layOut h (fun m_1_ma_others m_2_ma_waiting m_3_le_types m_4_le_partners m_5_le_resolved m_6_le_ofParagraph m_7_ex_levels m_8_ex_types m_9_ex_entryLevels m_10_ex_entryOverrides m_11_ex_entryIsolates m_12_ex_last m_13_ex_lostIsolates m_14_ex_lostEmbeddings m_15_ex_openIsolates m_16_se_places m_17_se_types m_18_se_marks m_19_se_count m_20_se_embedding m_21_se_beginning m_22_se_end m_23_br_partners m_24_br_list m_25_fi_breaks m_26_fi_starts m_27_fi_extents m_28_fi_count m_29_fi_groups m_30_sh_levels m_31_sh_order m_32_tl_stale h => ?_))
  change tw_rn (tw_YC l D ad cI cZ) Z Post 4 [some (.inr 0), some (.inl v1)] [] (tw_mC pa_kinds pa_groups pa_widths pa_pairs pa_size pa_base m_1_ma_others m_2_ma_waiting m_3_le_types m_4_le_partners m_5_le_resolved m_6_le_ofParagraph m_7_ex_levels m_8_ex_types m_9_ex_entryLevels m_10_ex_entryOverrides m_11_ex_entryIsolates m_12_ex_last m_13_ex_lostIsolates m_14_ex_lostEmbeddings m_15_ex_openIsolates m_16_se_places m_17_se_types m_18_se_marks m_19_se_count m_20_se_embedding m_21_se_beginning m_22_se_end m_23_br_partners m_24_br_list m_25_fi_breaks m_26_fi_starts m_27_fi_extents m_28_fi_count m_29_fi_groups m_30_sh_levels m_31_sh_order tl_measure m_32_tl_stale)
  refine tw_aload_n hX twd_tl_extent_4 rfl rfl ?_
  refine tw_get (kf := 2) hX twd_tl_extent_5 twin_tl rfl (by decide) tww_328 rfl rfl rfl ?_
  refine tw_iload_n hX twd_tl_extent_8 rfl rfl ?_
  refine tw_callV (As := [.inl v1]) (n := 1) hX twd_tl_extent_9 tw_good tww_668 tww_665 tww_666 tww_667 tww_84 twk_fi_has rfl rfl ⟨by decide, by decide⟩ rfl (Nat.le_of_ble_eq_true rfl) (twc_fi_has (fun z33 e34 => ?_))
  subst e34
  change tw_rn (tw_YC l D ad cI cZ) Z Post 12 [some (.inr 0), some (.inl v1)] [.inl (twr_fi_has v1 m_28_fi_count)] (tw_mC pa_kinds pa_groups pa_widths pa_pairs pa_size pa_base m_1_ma_others m_2_ma_waiting m_3_le_types m_4_le_partners m_5_le_resolved m_6_le_ofParagraph m_7_ex_levels m_8_ex_types m_9_ex_entryLevels m_10_ex_entryOverrides m_11_ex_entryIsolates m_12_ex_last m_13_ex_lostIsolates m_14_ex_lostEmbeddings m_15_ex_openIsolates m_16_se_places m_17_se_types m_18_se_marks m_19_se_count m_20_se_embedding m_21_se_beginning m_22_se_end m_23_br_partners m_24_br_list m_25_fi_breaks m_26_fi_starts m_27_fi_extents m_28_fi_count m_29_fi_groups m_30_sh_levels m_31_sh_order tl_measure m_32_tl_stale)
  refine tw_if_eq hX twd_tl_extent_12 rfl (fun q36 => ?_) (fun q36 => ?_)
  · have h := h.1 q36
    refine tw_iconst hX twd_tl_extent_27 ⟨by decide, by decide⟩ ?_
    exact tw_ret hX twd_tl_extent_28 (hK _ _ _ _ _ _ _ _ _ _ _ _ _ _ _ _ _ _ _ _ _ _ _ _ _ _ _ _ _ _ _ _ _ h)
  · have h := h.2 q36
    refine tw_aload_n hX twd_tl_extent_15 rfl rfl ?_
    refine tw_get (kf := 2) hX twd_tl_extent_16 twin_tl rfl (by decide) tww_328 rfl rfl rfl ?_
    refine tw_get (kf := 2) hX twd_tl_extent_19 twin_fi rfl (by decide) tww_295 rfl rfl rfl ?_
    refine tw_iload_n hX twd_tl_extent_22 rfl rfl ?_
    obtain ⟨c35, h⟩ := h
    refine tw_iaload hX twd_tl_extent_23 rfl c35 ?_
    refine tw_goto hX twd_tl_extent_24 rfl ?_
    exact tw_ret hX twd_tl_extent_28 (hK _ _ _ _ _ _ _ _ _ _ _ _ _ _ _ _ _ _ _ _ _ _ _ _ _ _ _ _ _ _ _ _ _ h)
def tww_tl_shownLevel (v1 : Int) (pa_kinds : Nat → Int) (pa_groups : Nat → Int) (pa_widths : Nat → Int) (pa_pairs : Nat → Int) (pa_size : Int) (pa_base : Int) (ma_others : Nat → Int) (ma_waiting : Nat → Int) (le_types : Nat → Int) (le_partners : Nat → Int) (le_resolved : Nat → Int) (le_ofParagraph : Int) (ex_levels : Nat → Int) (ex_types : Nat → Int) (ex_entryLevels : Nat → Int) (ex_entryOverrides : Nat → Int) (ex_entryIsolates : Nat → Int) (ex_last : Int) (ex_lostIsolates : Int) (ex_lostEmbeddings : Int) (ex_openIsolates : Int) (se_places : Nat → Int) (se_types : Nat → Int) (se_marks : Nat → Int) (se_count : Int) (se_embedding : Int) (se_beginning : Int) (se_end : Int) (br_partners : Nat → Int) (br_list : Nat → Int) (fi_breaks : Nat → Int) (fi_starts : Nat → Int) (fi_extents : Nat → Int) (fi_count : Int) (fi_groups : Nat → Int) (sh_levels : Nat → Int) (sh_order : Nat → Int) (tl_measure : Int) (tl_stale : Int) (K : Int → (Nat → Int) → (Nat → Int) → (Nat → Int) → (Nat → Int) → (Nat → Int) → Int → (Nat → Int) → (Nat → Int) → (Nat → Int) → (Nat → Int) → (Nat → Int) → Int → Int → Int → Int → (Nat → Int) → (Nat → Int) → (Nat → Int) → Int → Int → Int → Int → (Nat → Int) → (Nat → Int) → (Nat → Int) → (Nat → Int) → (Nat → Int) → Int → (Nat → Int) → (Nat → Int) → (Nat → Int) → Int → Prop) : Prop :=
  (((twr_pa_has v1 pa_size) = 0 →
  K (-1) ma_others ma_waiting le_types le_partners le_resolved le_ofParagraph ex_levels ex_types ex_entryLevels ex_entryOverrides ex_entryIsolates ex_last ex_lostIsolates ex_lostEmbeddings ex_openIsolates se_places se_types se_marks se_count se_embedding se_beginning se_end br_partners br_list fi_breaks fi_starts fi_extents fi_count fi_groups sh_levels sh_order tl_stale) ∧
  (¬ (twr_pa_has v1 pa_size) = 0 →
  tww_tl_layOut pa_kinds pa_groups pa_widths pa_pairs pa_size pa_base ma_others ma_waiting le_types le_partners le_resolved le_ofParagraph ex_levels ex_types ex_entryLevels ex_entryOverrides ex_entryIsolates ex_last ex_lostIsolates ex_lostEmbeddings ex_openIsolates se_places se_types se_marks se_count se_embedding se_beginning se_end br_partners br_list fi_breaks fi_starts fi_extents fi_count fi_groups sh_levels sh_order tl_measure tl_stale (fun m_3_ma_others m_4_ma_waiting m_5_le_types m_6_le_partners m_7_le_resolved m_8_le_ofParagraph m_9_ex_levels m_10_ex_types m_11_ex_entryLevels m_12_ex_entryOverrides m_13_ex_entryIsolates m_14_ex_last m_15_ex_lostIsolates m_16_ex_lostEmbeddings m_17_ex_openIsolates m_18_se_places m_19_se_types m_20_se_marks m_21_se_count m_22_se_embedding m_23_se_beginning m_24_se_end m_25_br_partners m_26_br_list m_27_fi_breaks m_28_fi_starts m_29_fi_extents m_30_fi_count m_31_fi_groups m_32_sh_levels m_33_sh_order m_34_tl_stale =>
    (0 ≤ v1 ∧ v1 < 64) ∧ K (m_32_sh_levels (Int.toNat v1)) m_3_ma_others m_4_ma_waiting m_5_le_types m_6_le_partners m_7_le_resolved m_8_le_ofParagraph m_9_ex_levels m_10_ex_types m_11_ex_entryLevels m_12_ex_entryOverrides m_13_ex_entryIsolates m_14_ex_last m_15_ex_lostIsolates m_16_ex_lostEmbeddings m_17_ex_openIsolates m_18_se_places m_19_se_types m_20_se_marks m_21_se_count m_22_se_embedding m_23_se_beginning m_24_se_end m_25_br_partners m_26_br_list m_27_fi_breaks m_28_fi_starts m_29_fi_extents m_30_fi_count m_31_fi_groups m_32_sh_levels m_33_sh_order m_34_tl_stale)))
set_option maxRecDepth 100000 in
set_option maxHeartbeats 4000000 in
theorem twc_tl_shownLevel {l : Launch} {D : va_G} {ad : Nat → Nat} {cI cZ : ClassId} {Post : tw_P} {K : Int → (Nat → Int) → (Nat → Int) → (Nat → Int) → (Nat → Int) → (Nat → Int) → Int → (Nat → Int) → (Nat → Int) → (Nat → Int) → (Nat → Int) → (Nat → Int) → Int → Int → Int → Int → (Nat → Int) → (Nat → Int) → (Nat → Int) → Int → Int → Int → Int → (Nat → Int) → (Nat → Int) → (Nat → Int) → (Nat → Int) → (Nat → Int) → Int → (Nat → Int) → (Nat → Int) → (Nat → Int) → Int → Prop} {v1 : Int} {pa_size pa_base le_ofParagraph ex_last ex_lostIsolates ex_lostEmbeddings ex_openIsolates se_count se_embedding se_beginning se_end fi_count tl_measure tl_stale : Int} {pa_kinds pa_groups pa_widths pa_pairs ma_others ma_waiting le_types le_partners le_resolved ex_levels ex_types ex_entryLevels ex_entryOverrides ex_entryIsolates se_places se_types se_marks br_partners br_list fi_breaks fi_starts fi_extents fi_groups sh_levels sh_order : Nat → Int} (h : tww_tl_shownLevel v1 pa_kinds pa_groups pa_widths pa_pairs pa_size pa_base ma_others ma_waiting le_types le_partners le_resolved le_ofParagraph ex_levels ex_types ex_entryLevels ex_entryOverrides ex_entryIsolates ex_last ex_lostIsolates ex_lostEmbeddings ex_openIsolates se_places se_types se_marks se_count se_embedding se_beginning se_end br_partners br_list fi_breaks fi_starts fi_extents fi_count fi_groups sh_levels sh_order tl_measure tl_stale K) (hK : ∀ (z : Int) (n_ma_others : Nat → Int) (n_ma_waiting : Nat → Int) (n_le_types : Nat → Int) (n_le_partners : Nat → Int) (n_le_resolved : Nat → Int) (n_le_ofParagraph : Int) (n_ex_levels : Nat → Int) (n_ex_types : Nat → Int) (n_ex_entryLevels : Nat → Int) (n_ex_entryOverrides : Nat → Int) (n_ex_entryIsolates : Nat → Int) (n_ex_last : Int) (n_ex_lostIsolates : Int) (n_ex_lostEmbeddings : Int) (n_ex_openIsolates : Int) (n_se_places : Nat → Int) (n_se_types : Nat → Int) (n_se_marks : Nat → Int) (n_se_count : Int) (n_se_embedding : Int) (n_se_beginning : Int) (n_se_end : Int) (n_br_partners : Nat → Int) (n_br_list : Nat → Int) (n_fi_breaks : Nat → Int) (n_fi_starts : Nat → Int) (n_fi_extents : Nat → Int) (n_fi_count : Int) (n_fi_groups : Nat → Int) (n_sh_levels : Nat → Int) (n_sh_order : Nat → Int) (n_tl_stale : Int), K z n_ma_others n_ma_waiting n_le_types n_le_partners n_le_resolved n_le_ofParagraph n_ex_levels n_ex_types n_ex_entryLevels n_ex_entryOverrides n_ex_entryIsolates n_ex_last n_ex_lostIsolates n_ex_lostEmbeddings n_ex_openIsolates n_se_places n_se_types n_se_marks n_se_count n_se_embedding n_se_beginning n_se_end n_br_partners n_br_list n_fi_breaks n_fi_starts n_fi_extents n_fi_count n_fi_groups n_sh_levels n_sh_order n_tl_stale → Post (some z) (tw_mC pa_kinds pa_groups pa_widths pa_pairs pa_size pa_base n_ma_others n_ma_waiting n_le_types n_le_partners n_le_resolved n_le_ofParagraph n_ex_levels n_ex_types n_ex_entryLevels n_ex_entryOverrides n_ex_entryIsolates n_ex_last n_ex_lostIsolates n_ex_lostEmbeddings n_ex_openIsolates n_se_places n_se_types n_se_marks n_se_count n_se_embedding n_se_beginning n_se_end n_br_partners n_br_list n_fi_breaks n_fi_starts n_fi_extents n_fi_count n_fi_groups n_sh_levels n_sh_order tl_measure n_tl_stale)) : tw_ct (tw_YC l D ad cI cZ) twy_tl_shownLevel (Cond.code twy_tl_shownLevel prog_1_method_17_code 2 (some .int) :: tw_Wg) 6 [.inr 0, .inl v1] (tw_mC pa_kinds pa_groups pa_widths pa_pairs pa_size pa_base ma_others ma_waiting le_types le_partners le_resolved le_ofParagraph ex_levels ex_types ex_entryLevels ex_entryOverrides ex_entryIsolates ex_last ex_lostIsolates ex_lostEmbeddings ex_openIsolates se_places se_types se_marks se_count se_embedding se_beginning se_end br_partners br_list fi_breaks fi_starts fi_extents fi_count fi_groups sh_levels sh_order tl_measure tl_stale) Post := by
  refine tw_of (own := twR_tl) (L0 := [some (.inr 0), some (.inl v1)]) (by decide) rfl rfl (Nat.le_of_ble_eq_true rfl) (fun Z hX => ?_)
  unfold tww_tl_shownLevel at h
  refine tw_aload_n hX twd_tl_shownLevel_0 rfl rfl ?_
  refine tw_get (kf := 0) hX twd_tl_shownLevel_1 twin_tl rfl (by decide) tww_326 rfl rfl rfl ?_
  refine tw_iload_n hX twd_tl_shownLevel_4 rfl rfl ?_
  refine tw_callV (As := [.inl v1]) (n := 1) hX twd_tl_shownLevel_5 tw_good tww_636 tww_633 tww_634 tww_635 tww_78 twk_pa_has rfl rfl ⟨by decide, by decide⟩ rfl (Nat.le_of_ble_eq_true rfl) (twc_pa_has (fun z1 e2 => ?_))
  subst e2
  change tw_rn (tw_YC l D ad cI cZ) Z Post 8 [some (.inr 0), some (.inl v1)] [.inl (twr_pa_has v1 pa_size)] (tw_mC pa_kinds pa_groups pa_widths pa_pairs pa_size pa_base ma_others ma_waiting le_types le_partners le_resolved le_ofParagraph ex_levels ex_types ex_entryLevels ex_entryOverrides ex_entryIsolates ex_last ex_lostIsolates ex_lostEmbeddings ex_openIsolates se_places se_types se_marks se_count se_embedding se_beginning se_end br_partners br_list fi_breaks fi_starts fi_extents fi_count fi_groups sh_levels sh_order tl_measure tl_stale)
  refine tw_if_ne hX twd_tl_shownLevel_8 rfl (fun q36 => ?_) (fun q36 => ?_)
  · have h := h.2 q36
    refine tw_aload_n hX twd_tl_shownLevel_13 rfl rfl ?_
    refine tw_callV (As := []) (n := 0) hX twd_tl_shownLevel_14 tw_good tww_383 tww_380 tww_382 tww_0 tww_77 twk_tl_layOut rfl rfl ⟨by decide, by decide⟩ rfl (Nat.le_of_ble_eq_true rfl) (twc_tl_layOut h (fun m_3_ma_others m_4_ma_waiting m_5_le_types m_6_le_partners m_7_le_resolved m_8_le_ofParagraph m_9_ex_levels m_10_ex_types m_11_ex_entryLevels m_12_ex_entryOverrides m_13_ex_entryIsolates m_14_ex_last m_15_ex_lostIsolates m_16_ex_lostEmbeddings m_17_ex_openIsolates m_18_se_places m_19_se_types m_20_se_marks m_21_se_count m_22_se_embedding m_23_se_beginning m_24_se_end m_25_br_partners m_26_br_list m_27_fi_breaks m_28_fi_starts m_29_fi_extents m_30_fi_count m_31_fi_groups m_32_sh_levels m_33_sh_order m_34_tl_stale h => ?_))
    change tw_rn (tw_YC l D ad cI cZ) Z Post 17 [some (.inr 0), some (.inl v1)] [] (tw_mC pa_kinds pa_groups pa_widths pa_pairs pa_size pa_base m_3_ma_others m_4_ma_waiting m_5_le_types m_6_le_partners m_7_le_resolved m_8_le_ofParagraph m_9_ex_levels m_10_ex_types m_11_ex_entryLevels m_12_ex_entryOverrides m_13_ex_entryIsolates m_14_ex_last m_15_ex_lostIsolates m_16_ex_lostEmbeddings m_17_ex_openIsolates m_18_se_places m_19_se_types m_20_se_marks m_21_se_count m_22_se_embedding m_23_se_beginning m_24_se_end m_25_br_partners m_26_br_list m_27_fi_breaks m_28_fi_starts m_29_fi_extents m_30_fi_count m_31_fi_groups m_32_sh_levels m_33_sh_order tl_measure m_34_tl_stale)
    refine tw_aload_n hX twd_tl_shownLevel_17 rfl rfl ?_
    refine tw_get (kf := 3) hX twd_tl_shownLevel_18 twin_tl rfl (by decide) tww_329 rfl rfl rfl ?_
    refine tw_get (kf := 0) hX twd_tl_shownLevel_21 twin_sh rfl (by decide) tww_318 rfl rfl rfl ?_
    refine tw_iload_n hX twd_tl_shownLevel_24 rfl rfl ?_
    obtain ⟨c35, h⟩ := h
    refine tw_iaload hX twd_tl_shownLevel_25 rfl c35 ?_
    exact tw_ret hX twd_tl_shownLevel_26 (hK _ _ _ _ _ _ _ _ _ _ _ _ _ _ _ _ _ _ _ _ _ _ _ _ _ _ _ _ _ _ _ _ _ h)
  · have h := h.1 q36
    refine tw_iconst hX twd_tl_shownLevel_11 ⟨by decide, by decide⟩ ?_
    exact tw_ret hX twd_tl_shownLevel_12 (hK _ _ _ _ _ _ _ _ _ _ _ _ _ _ _ _ _ _ _ _ _ _ _ _ _ _ _ _ _ _ _ _ _ h)
def tww_tl_shown (v1 v2 : Int) (pa_kinds : Nat → Int) (pa_groups : Nat → Int) (pa_widths : Nat → Int) (pa_pairs : Nat → Int) (pa_size : Int) (pa_base : Int) (ma_others : Nat → Int) (ma_waiting : Nat → Int) (le_types : Nat → Int) (le_partners : Nat → Int) (le_resolved : Nat → Int) (le_ofParagraph : Int) (ex_levels : Nat → Int) (ex_types : Nat → Int) (ex_entryLevels : Nat → Int) (ex_entryOverrides : Nat → Int) (ex_entryIsolates : Nat → Int) (ex_last : Int) (ex_lostIsolates : Int) (ex_lostEmbeddings : Int) (ex_openIsolates : Int) (se_places : Nat → Int) (se_types : Nat → Int) (se_marks : Nat → Int) (se_count : Int) (se_embedding : Int) (se_beginning : Int) (se_end : Int) (br_partners : Nat → Int) (br_list : Nat → Int) (fi_breaks : Nat → Int) (fi_starts : Nat → Int) (fi_extents : Nat → Int) (fi_count : Int) (fi_groups : Nat → Int) (sh_levels : Nat → Int) (sh_order : Nat → Int) (tl_measure : Int) (tl_stale : Int) (K : Int → (Nat → Int) → (Nat → Int) → (Nat → Int) → (Nat → Int) → (Nat → Int) → Int → (Nat → Int) → (Nat → Int) → (Nat → Int) → (Nat → Int) → (Nat → Int) → Int → Int → Int → Int → (Nat → Int) → (Nat → Int) → (Nat → Int) → Int → Int → Int → Int → (Nat → Int) → (Nat → Int) → (Nat → Int) → (Nat → Int) → (Nat → Int) → Int → (Nat → Int) → (Nat → Int) → (Nat → Int) → Int → Prop) : Prop :=
  tww_tl_layOut pa_kinds pa_groups pa_widths pa_pairs pa_size pa_base ma_others ma_waiting le_types le_partners le_resolved le_ofParagraph ex_levels ex_types ex_entryLevels ex_entryOverrides ex_entryIsolates ex_last ex_lostIsolates ex_lostEmbeddings ex_openIsolates se_places se_types se_marks se_count se_embedding se_beginning se_end br_partners br_list fi_breaks fi_starts fi_extents fi_count fi_groups sh_levels sh_order tl_measure tl_stale (fun m_1_ma_others m_2_ma_waiting m_3_le_types m_4_le_partners m_5_le_resolved m_6_le_ofParagraph m_7_ex_levels m_8_ex_types m_9_ex_entryLevels m_10_ex_entryOverrides m_11_ex_entryIsolates m_12_ex_last m_13_ex_lostIsolates m_14_ex_lostEmbeddings m_15_ex_openIsolates m_16_se_places m_17_se_types m_18_se_marks m_19_se_count m_20_se_embedding m_21_se_beginning m_22_se_end m_23_br_partners m_24_br_list m_25_fi_breaks m_26_fi_starts m_27_fi_extents m_28_fi_count m_29_fi_groups m_30_sh_levels m_31_sh_order m_32_tl_stale =>
  (((twr_fi_has v1 m_28_fi_count) = 0 →
  K (-1) m_1_ma_others m_2_ma_waiting m_3_le_types m_4_le_partners m_5_le_resolved m_6_le_ofParagraph m_7_ex_levels m_8_ex_types m_9_ex_entryLevels m_10_ex_entryOverrides m_11_ex_entryIsolates m_12_ex_last m_13_ex_lostIsolates m_14_ex_lostEmbeddings m_15_ex_openIsolates m_16_se_places m_17_se_types m_18_se_marks m_19_se_count m_20_se_embedding m_21_se_beginning m_22_se_end m_23_br_partners m_24_br_list m_25_fi_breaks m_26_fi_starts m_27_fi_extents m_28_fi_count m_29_fi_groups m_30_sh_levels m_31_sh_order m_32_tl_stale) ∧
  (¬ (twr_fi_has v1 m_28_fi_count) = 0 →
  (0 ≤ v1 ∧ v1 < 65) ∧ (tw_rg (v1 + 1)) ∧ (0 ≤ (v1 + 1) ∧ (v1 + 1) < 65) ∧ (tw_rg ((m_26_fi_starts (Int.toNat (v1 + 1))) - (m_26_fi_starts (Int.toNat v1)))) ∧ (tw_rg (((m_26_fi_starts (Int.toNat (v1 + 1))) - (m_26_fi_starts (Int.toNat v1))) - 1)) ∧ (((twr_tl_within v2 0 (((m_26_fi_starts (Int.toNat (v1 + 1))) - (m_26_fi_starts (Int.toNat v1))) - 1)) = 0 →
    K (-1) m_1_ma_others m_2_ma_waiting m_3_le_types m_4_le_partners m_5_le_resolved m_6_le_ofParagraph m_7_ex_levels m_8_ex_types m_9_ex_entryLevels m_10_ex_entryOverrides m_11_ex_entryIsolates m_12_ex_last m_13_ex_lostIsolates m_14_ex_lostEmbeddings m_15_ex_openIsolates m_16_se_places m_17_se_types m_18_se_marks m_19_se_count m_20_se_embedding m_21_se_beginning m_22_se_end m_23_br_partners m_24_br_list m_25_fi_breaks m_26_fi_starts m_27_fi_extents m_28_fi_count m_29_fi_groups m_30_sh_levels m_31_sh_order m_32_tl_stale) ∧
    (¬ (twr_tl_within v2 0 (((m_26_fi_starts (Int.toNat (v1 + 1))) - (m_26_fi_starts (Int.toNat v1))) - 1)) = 0 →
    (tw_rg ((m_26_fi_starts (Int.toNat v1)) + v2)) ∧ (0 ≤ ((m_26_fi_starts (Int.toNat v1)) + v2) ∧ ((m_26_fi_starts (Int.toNat v1)) + v2) < 64) ∧ K (m_31_sh_order (Int.toNat ((m_26_fi_starts (Int.toNat v1)) + v2))) m_1_ma_others m_2_ma_waiting m_3_le_types m_4_le_partners m_5_le_resolved m_6_le_ofParagraph m_7_ex_levels m_8_ex_types m_9_ex_entryLevels m_10_ex_entryOverrides m_11_ex_entryIsolates m_12_ex_last m_13_ex_lostIsolates m_14_ex_lostEmbeddings m_15_ex_openIsolates m_16_se_places m_17_se_types m_18_se_marks m_19_se_count m_20_se_embedding m_21_se_beginning m_22_se_end m_23_br_partners m_24_br_list m_25_fi_breaks m_26_fi_starts m_27_fi_extents m_28_fi_count m_29_fi_groups m_30_sh_levels m_31_sh_order m_32_tl_stale)))))
set_option maxRecDepth 100000 in
set_option maxHeartbeats 4000000 in
theorem twc_tl_shown {l : Launch} {D : va_G} {ad : Nat → Nat} {cI cZ : ClassId} {Post : tw_P} {K : Int → (Nat → Int) → (Nat → Int) → (Nat → Int) → (Nat → Int) → (Nat → Int) → Int → (Nat → Int) → (Nat → Int) → (Nat → Int) → (Nat → Int) → (Nat → Int) → Int → Int → Int → Int → (Nat → Int) → (Nat → Int) → (Nat → Int) → Int → Int → Int → Int → (Nat → Int) → (Nat → Int) → (Nat → Int) → (Nat → Int) → (Nat → Int) → Int → (Nat → Int) → (Nat → Int) → (Nat → Int) → Int → Prop} {v1 v2 : Int} {pa_size pa_base le_ofParagraph ex_last ex_lostIsolates ex_lostEmbeddings ex_openIsolates se_count se_embedding se_beginning se_end fi_count tl_measure tl_stale : Int} {pa_kinds pa_groups pa_widths pa_pairs ma_others ma_waiting le_types le_partners le_resolved ex_levels ex_types ex_entryLevels ex_entryOverrides ex_entryIsolates se_places se_types se_marks br_partners br_list fi_breaks fi_starts fi_extents fi_groups sh_levels sh_order : Nat → Int} (h : tww_tl_shown v1 v2 pa_kinds pa_groups pa_widths pa_pairs pa_size pa_base ma_others ma_waiting le_types le_partners le_resolved le_ofParagraph ex_levels ex_types ex_entryLevels ex_entryOverrides ex_entryIsolates ex_last ex_lostIsolates ex_lostEmbeddings ex_openIsolates se_places se_types se_marks se_count se_embedding se_beginning se_end br_partners br_list fi_breaks fi_starts fi_extents fi_count fi_groups sh_levels sh_order tl_measure tl_stale K) (hK : ∀ (z : Int) (n_ma_others : Nat → Int) (n_ma_waiting : Nat → Int) (n_le_types : Nat → Int) (n_le_partners : Nat → Int) (n_le_resolved : Nat → Int) (n_le_ofParagraph : Int) (n_ex_levels : Nat → Int) (n_ex_types : Nat → Int) (n_ex_entryLevels : Nat → Int) (n_ex_entryOverrides : Nat → Int) (n_ex_entryIsolates : Nat → Int) (n_ex_last : Int) (n_ex_lostIsolates : Int) (n_ex_lostEmbeddings : Int) (n_ex_openIsolates : Int) (n_se_places : Nat → Int) (n_se_types : Nat → Int) (n_se_marks : Nat → Int) (n_se_count : Int) (n_se_embedding : Int) (n_se_beginning : Int) (n_se_end : Int) (n_br_partners : Nat → Int) (n_br_list : Nat → Int) (n_fi_breaks : Nat → Int) (n_fi_starts : Nat → Int) (n_fi_extents : Nat → Int) (n_fi_count : Int) (n_fi_groups : Nat → Int) (n_sh_levels : Nat → Int) (n_sh_order : Nat → Int) (n_tl_stale : Int), K z n_ma_others n_ma_waiting n_le_types n_le_partners n_le_resolved n_le_ofParagraph n_ex_levels n_ex_types n_ex_entryLevels n_ex_entryOverrides n_ex_entryIsolates n_ex_last n_ex_lostIsolates n_ex_lostEmbeddings n_ex_openIsolates n_se_places n_se_types n_se_marks n_se_count n_se_embedding n_se_beginning n_se_end n_br_partners n_br_list n_fi_breaks n_fi_starts n_fi_extents n_fi_count n_fi_groups n_sh_levels n_sh_order n_tl_stale → Post (some z) (tw_mC pa_kinds pa_groups pa_widths pa_pairs pa_size pa_base n_ma_others n_ma_waiting n_le_types n_le_partners n_le_resolved n_le_ofParagraph n_ex_levels n_ex_types n_ex_entryLevels n_ex_entryOverrides n_ex_entryIsolates n_ex_last n_ex_lostIsolates n_ex_lostEmbeddings n_ex_openIsolates n_se_places n_se_types n_se_marks n_se_count n_se_embedding n_se_beginning n_se_end n_br_partners n_br_list n_fi_breaks n_fi_starts n_fi_extents n_fi_count n_fi_groups n_sh_levels n_sh_order tl_measure n_tl_stale)) : tw_ct (tw_YC l D ad cI cZ) twy_tl_shown (Cond.code twy_tl_shown prog_1_method_18_code 5 (some .int) :: tw_Wg) 6 [.inr 0, .inl v1, .inl v2] (tw_mC pa_kinds pa_groups pa_widths pa_pairs pa_size pa_base ma_others ma_waiting le_types le_partners le_resolved le_ofParagraph ex_levels ex_types ex_entryLevels ex_entryOverrides ex_entryIsolates ex_last ex_lostIsolates ex_lostEmbeddings ex_openIsolates se_places se_types se_marks se_count se_embedding se_beginning se_end br_partners br_list fi_breaks fi_starts fi_extents fi_count fi_groups sh_levels sh_order tl_measure tl_stale) Post := by
  refine tw_of (own := twR_tl) (L0 := [some (.inr 0), some (.inl v1), some (.inl v2), none, none]) (by decide) rfl rfl (Nat.le_of_ble_eq_true rfl) (fun Z hX => ?_)
  unfold tww_tl_shown at h
  refine tw_aload_n hX twd_tl_shown_0 rfl rfl ?_
  refine tw_callV (As := []) (n := 0) hX twd_tl_shown_1 tw_good tww_383 tww_380 tww_382 tww_0 tww_77 twk_tl_layOut rfl rfl ⟨by decide, by decide⟩ rfl (Nat.le_of_ble_eq_true rfl) (twc_tl_layOut h (fun m_1_ma_others m_2_ma_waiting m_3_le_types m_4_le_partners m_5_le_resolved m_6_le_ofParagraph m_7_ex_levels m_8_ex_types m_9_ex_entryLevels m_10_ex_entryOverrides m_11_ex_entryIsolates m_12_ex_last m_13_ex_lostIsolates m_14_ex_lostEmbeddings m_15_ex_openIsolates m_16_se_places m_17_se_types m_18_se_marks m_19_se_count m_20_se_embedding m_21_se_beginning m_22_se_end m_23_br_partners m_24_br_list m_25_fi_breaks m_26_fi_starts m_27_fi_extents m_28_fi_count m_29_fi_groups m_30_sh_levels m_31_sh_order m_32_tl_stale h => ?_))
  change tw_rn (tw_YC l D ad cI cZ) Z Post 4 [some (.inr 0), some (.inl v1), some (.inl v2), none, none] [] (tw_mC pa_kinds pa_groups pa_widths pa_pairs pa_size pa_base m_1_ma_others m_2_ma_waiting m_3_le_types m_4_le_partners m_5_le_resolved m_6_le_ofParagraph m_7_ex_levels m_8_ex_types m_9_ex_entryLevels m_10_ex_entryOverrides m_11_ex_entryIsolates m_12_ex_last m_13_ex_lostIsolates m_14_ex_lostEmbeddings m_15_ex_openIsolates m_16_se_places m_17_se_types m_18_se_marks m_19_se_count m_20_se_embedding m_21_se_beginning m_22_se_end m_23_br_partners m_24_br_list m_25_fi_breaks m_26_fi_starts m_27_fi_extents m_28_fi_count m_29_fi_groups m_30_sh_levels m_31_sh_order tl_measure m_32_tl_stale)
  refine tw_aload_n hX twd_tl_shown_4 rfl rfl ?_
  refine tw_get (kf := 2) hX twd_tl_shown_5 twin_tl rfl (by decide) tww_328 rfl rfl rfl ?_
  refine tw_iload_n hX twd_tl_shown_8 rfl rfl ?_
  refine tw_callV (As := [.inl v1]) (n := 1) hX twd_tl_shown_9 tw_good tww_668 tww_665 tww_666 tww_667 tww_84 twk_fi_has rfl rfl ⟨by decide, by decide⟩ rfl (Nat.le_of_ble_eq_true rfl) (twc_fi_has (fun z33 e34 => ?_))
  subst e34
  change tw_rn (tw_YC l D ad cI cZ) Z Post 12 [some (.inr 0), some (.inl v1), some (.inl v2), none, none] [.inl (twr_fi_has v1 m_28_fi_count)] (tw_mC pa_kinds pa_groups pa_widths pa_pairs pa_size pa_base m_1_ma_others m_2_ma_waiting m_3_le_types m_4_le_partners m_5_le_resolved m_6_le_ofParagraph m_7_ex_levels m_8_ex_types m_9_ex_entryLevels m_10_ex_entryOverrides m_11_ex_entryIsolates m_12_ex_last m_13_ex_lostIsolates m_14_ex_lostEmbeddings m_15_ex_openIsolates m_16_se_places m_17_se_types m_18_se_marks m_19_se_count m_20_se_embedding m_21_se_beginning m_22_se_end m_23_br_partners m_24_br_list m_25_fi_breaks m_26_fi_starts m_27_fi_extents m_28_fi_count m_29_fi_groups m_30_sh_levels m_31_sh_order tl_measure m_32_tl_stale)
  refine tw_if_ne hX twd_tl_shown_12 rfl (fun q45 => ?_) (fun q45 => ?_)
  · have h := h.2 q45
    refine tw_aload_n hX twd_tl_shown_17 rfl rfl ?_
    refine tw_get (kf := 2) hX twd_tl_shown_18 twin_tl rfl (by decide) tww_328 rfl rfl rfl ?_
    refine tw_get (kf := 1) hX twd_tl_shown_21 twin_fi rfl (by decide) tww_293 rfl rfl rfl ?_
    refine tw_iload_n hX twd_tl_shown_24 rfl rfl ?_
    obtain ⟨c35, h⟩ := h
    refine tw_iaload hX twd_tl_shown_25 rfl c35 ?_
    refine tw_istore_n (L' := [some (.inr 0), some (.inl v1), some (.inl v2), some (.inl (m_26_fi_starts (Int.toNat v1))), none]) hX twd_tl_shown_26 rfl (by decide) rfl ?_
    refine tw_aload_n hX twd_tl_shown_27 rfl rfl ?_
    refine tw_get (kf := 2) hX twd_tl_shown_28 twin_tl rfl (by decide) tww_328 rfl rfl rfl ?_
    refine tw_get (kf := 1) hX twd_tl_shown_31 twin_fi rfl (by decide) tww_293 rfl rfl rfl ?_
    refine tw_iload_n hX twd_tl_shown_34 rfl rfl ?_
    refine tw_iconst hX twd_tl_shown_35 ⟨by decide, by decide⟩ ?_
    obtain ⟨c36, h⟩ := h
    refine tw_iadd hX twd_tl_shown_36 c36 ?_
    obtain ⟨c37, h⟩ := h
    refine tw_iaload hX twd_tl_shown_37 rfl c37 ?_
    refine tw_iload_n hX twd_tl_shown_38 rfl rfl ?_
    obtain ⟨c38, h⟩ := h
    refine tw_isub hX twd_tl_shown_39 c38 ?_
    refine tw_istore (L' := [some (.inr 0), some (.inl v1), some (.inl v2), some (.inl (m_26_fi_starts (Int.toNat v1))), some (.inl ((m_26_fi_starts (Int.toNat (v1 + 1))) - (m_26_fi_starts (Int.toNat v1))))]) hX twd_tl_shown_40 (by decide) rfl ?_
    refine tw_iload_n hX twd_tl_shown_42 rfl rfl ?_
    refine tw_iconst hX twd_tl_shown_43 ⟨by decide, by decide⟩ ?_
    refine tw_iload hX twd_tl_shown_44 rfl ?_
    refine tw_iconst hX twd_tl_shown_46 ⟨by decide, by decide⟩ ?_
    obtain ⟨c39, h⟩ := h
    refine tw_isub hX twd_tl_shown_47 c39 ?_
    refine tw_callS (As := [.inl v2, .inl 0, .inl (((m_26_fi_starts (Int.toNat (v1 + 1))) - (m_26_fi_starts (Int.toNat v1))) - 1)]) (n := 3) hX twd_tl_shown_48 tw_good tww_351 tww_349 tww_350 tww_77 twk_tl_within ⟨by decide, by decide⟩ rfl (Nat.le_of_ble_eq_true rfl) (twc_tl_within (fun z40 e41 => ?_))
    subst e41
    change tw_rn (tw_YC l D ad cI cZ) Z Post 51 [some (.inr 0), some (.inl v1), some (.inl v2), some (.inl (m_26_fi_starts (Int.toNat v1))), some (.inl ((m_26_fi_starts (Int.toNat (v1 + 1))) - (m_26_fi_starts (Int.toNat v1))))] [.inl (twr_tl_within v2 0 (((m_26_fi_starts (Int.toNat (v1 + 1))) - (m_26_fi_starts (Int.toNat v1))) - 1))] (tw_mC pa_kinds pa_groups pa_widths pa_pairs pa_size pa_base m_1_ma_others m_2_ma_waiting m_3_le_types m_4_le_partners m_5_le_resolved m_6_le_ofParagraph m_7_ex_levels m_8_ex_types m_9_ex_entryLevels m_10_ex_entryOverrides m_11_ex_entryIsolates m_12_ex_last m_13_ex_lostIsolates m_14_ex_lostEmbeddings m_15_ex_openIsolates m_16_se_places m_17_se_types m_18_se_marks m_19_se_count m_20_se_embedding m_21_se_beginning m_22_se_end m_23_br_partners m_24_br_list m_25_fi_breaks m_26_fi_starts m_27_fi_extents m_28_fi_count m_29_fi_groups m_30_sh_levels m_31_sh_order tl_measure m_32_tl_stale)
    refine tw_if_eq hX twd_tl_shown_51 rfl (fun q44 => ?_) (fun q44 => ?_)
    · have h := h.1 q44
      refine tw_iconst hX twd_tl_shown_68 ⟨by decide, by decide⟩ ?_
      exact tw_ret hX twd_tl_shown_69 (hK _ _ _ _ _ _ _ _ _ _ _ _ _ _ _ _ _ _ _ _ _ _ _ _ _ _ _ _ _ _ _ _ _ h)
    · have h := h.2 q44
      refine tw_aload_n hX twd_tl_shown_54 rfl rfl ?_
      refine tw_get (kf := 3) hX twd_tl_shown_55 twin_tl rfl (by decide) tww_329 rfl rfl rfl ?_
      refine tw_get (kf := 1) hX twd_tl_shown_58 twin_sh rfl (by decide) tww_320 rfl rfl rfl ?_
      refine tw_iload_n hX twd_tl_shown_61 rfl rfl ?_
      refine tw_iload_n hX twd_tl_shown_62 rfl rfl ?_
      obtain ⟨c42, h⟩ := h
      refine tw_iadd hX twd_tl_shown_63 c42 ?_
      obtain ⟨c43, h⟩ := h
      refine tw_iaload hX twd_tl_shown_64 rfl c43 ?_
      refine tw_goto hX twd_tl_shown_65 rfl ?_
      exact tw_ret hX twd_tl_shown_69 (hK _ _ _ _ _ _ _ _ _ _ _ _ _ _ _ _ _ _ _ _ _ _ _ _ _ _ _ _ _ _ _ _ _ h)
  · have h := h.1 q45
    refine tw_iconst hX twd_tl_shown_15 ⟨by decide, by decide⟩ ?_
    exact tw_ret hX twd_tl_shown_16 (hK _ _ _ _ _ _ _ _ _ _ _ _ _ _ _ _ _ _ _ _ _ _ _ _ _ _ _ _ _ _ _ _ _ h)
def tww_tl_mirrored (v1 : Int) (pa_kinds : Nat → Int) (pa_groups : Nat → Int) (pa_widths : Nat → Int) (pa_pairs : Nat → Int) (pa_size : Int) (pa_base : Int) (ma_others : Nat → Int) (ma_waiting : Nat → Int) (le_types : Nat → Int) (le_partners : Nat → Int) (le_resolved : Nat → Int) (le_ofParagraph : Int) (ex_levels : Nat → Int) (ex_types : Nat → Int) (ex_entryLevels : Nat → Int) (ex_entryOverrides : Nat → Int) (ex_entryIsolates : Nat → Int) (ex_last : Int) (ex_lostIsolates : Int) (ex_lostEmbeddings : Int) (ex_openIsolates : Int) (se_places : Nat → Int) (se_types : Nat → Int) (se_marks : Nat → Int) (se_count : Int) (se_embedding : Int) (se_beginning : Int) (se_end : Int) (br_partners : Nat → Int) (br_list : Nat → Int) (fi_breaks : Nat → Int) (fi_starts : Nat → Int) (fi_extents : Nat → Int) (fi_count : Int) (fi_groups : Nat → Int) (sh_levels : Nat → Int) (sh_order : Nat → Int) (tl_measure : Int) (tl_stale : Int) (K : Int → (Nat → Int) → (Nat → Int) → (Nat → Int) → (Nat → Int) → (Nat → Int) → Int → (Nat → Int) → (Nat → Int) → (Nat → Int) → (Nat → Int) → (Nat → Int) → Int → Int → Int → Int → (Nat → Int) → (Nat → Int) → (Nat → Int) → Int → Int → Int → Int → (Nat → Int) → (Nat → Int) → (Nat → Int) → (Nat → Int) → (Nat → Int) → Int → (Nat → Int) → (Nat → Int) → (Nat → Int) → Int → Prop) : Prop :=
  (((twr_pa_has v1 pa_size) = 0 →
  K 0 ma_others ma_waiting le_types le_partners le_resolved le_ofParagraph ex_levels ex_types ex_entryLevels ex_entryOverrides ex_entryIsolates ex_last ex_lostIsolates ex_lostEmbeddings ex_openIsolates se_places se_types se_marks se_count se_embedding se_beginning se_end br_partners br_list fi_breaks fi_starts fi_extents fi_count fi_groups sh_levels sh_order tl_stale) ∧
  (¬ (twr_pa_has v1 pa_size) = 0 →
  tww_tl_layOut pa_kinds pa_groups pa_widths pa_pairs pa_size pa_base ma_others ma_waiting le_types le_partners le_resolved le_ofParagraph ex_levels ex_types ex_entryLevels ex_entryOverrides ex_entryIsolates ex_last ex_lostIsolates ex_lostEmbeddings ex_openIsolates se_places se_types se_marks se_count se_embedding se_beginning se_end br_partners br_list fi_breaks fi_starts fi_extents fi_count fi_groups sh_levels sh_order tl_measure tl_stale (fun m_3_ma_others m_4_ma_waiting m_5_le_types m_6_le_partners m_7_le_resolved m_8_le_ofParagraph m_9_ex_levels m_10_ex_types m_11_ex_entryLevels m_12_ex_entryOverrides m_13_ex_entryIsolates m_14_ex_last m_15_ex_lostIsolates m_16_ex_lostEmbeddings m_17_ex_openIsolates m_18_se_places m_19_se_types m_20_se_marks m_21_se_count m_22_se_embedding m_23_se_beginning m_24_se_end m_25_br_partners m_26_br_list m_27_fi_breaks m_28_fi_starts m_29_fi_extents m_30_fi_count m_31_fi_groups m_32_sh_levels m_33_sh_order m_34_tl_stale =>
    (0 ≤ v1 ∧ v1 < 64) ∧ (∀ J68 : (Nat → Int) → (Nat → Int) → (Nat → Int) → (Nat → Int) → (Nat → Int) → Int → (Nat → Int) → (Nat → Int) → (Nat → Int) → (Nat → Int) → (Nat → Int) → Int → Int → Int → Int → (Nat → Int) → (Nat → Int) → (Nat → Int) → Int → Int → Int → Int → (Nat → Int) → (Nat → Int) → (Nat → Int) → (Nat → Int) → (Nat → Int) → Int → (Nat → Int) → (Nat → Int) → (Nat → Int) → Int → Prop, (∀ (x_36_ma_others : Nat → Int) (x_37_ma_waiting : Nat → Int) (x_38_le_types : Nat → Int) (x_39_le_partners : Nat → Int) (x_40_le_resolved : Nat → Int) (x_41_le_ofParagraph : Int) (x_42_ex_levels : Nat → Int) (x_43_ex_types : Nat → Int) (x_44_ex_entryLevels : Nat → Int) (x_45_ex_entryOverrides : Nat → Int) (x_46_ex_entryIsolates : Nat → Int) (x_47_ex_last : Int) (x_48_ex_lostIsolates : Int) (x_49_ex_lostEmbeddings : Int) (x_50_ex_openIsolates : Int) (x_51_se_places : Nat → Int) (x_52_se_types : Nat → Int) (x_53_se_marks : Nat → Int) (x_54_se_count : Int) (x_55_se_embedding : Int) (x_56_se_beginning : Int) (x_57_se_end : Int) (x_58_br_partners : Nat → Int) (x_59_br_list : Nat → Int) (x_60_fi_breaks : Nat → Int) (x_61_fi_starts : Nat → Int) (x_62_fi_extents : Nat → Int) (x_63_fi_count : Int) (x_64_fi_groups : Nat → Int) (x_65_sh_levels : Nat → Int) (x_66_sh_order : Nat → Int) (x_67_tl_stale : Int), (K 0 x_36_ma_others x_37_ma_waiting x_38_le_types x_39_le_partners x_40_le_resolved x_41_le_ofParagraph x_42_ex_levels x_43_ex_types x_44_ex_entryLevels x_45_ex_entryOverrides x_46_ex_entryIsolates x_47_ex_last x_48_ex_lostIsolates x_49_ex_lostEmbeddings x_50_ex_openIsolates x_51_se_places x_52_se_types x_53_se_marks x_54_se_count x_55_se_embedding x_56_se_beginning x_57_se_end x_58_br_partners x_59_br_list x_60_fi_breaks x_61_fi_starts x_62_fi_extents x_63_fi_count x_64_fi_groups x_65_sh_levels x_66_sh_order x_67_tl_stale) → J68 x_36_ma_others x_37_ma_waiting x_38_le_types x_39_le_partners x_40_le_resolved x_41_le_ofParagraph x_42_ex_levels x_43_ex_types x_44_ex_entryLevels x_45_ex_entryOverrides x_46_ex_entryIsolates x_47_ex_last x_48_ex_lostIsolates x_49_ex_lostEmbeddings x_50_ex_openIsolates x_51_se_places x_52_se_types x_53_se_marks x_54_se_count x_55_se_embedding x_56_se_beginning x_57_se_end x_58_br_partners x_59_br_list x_60_fi_breaks x_61_fi_starts x_62_fi_extents x_63_fi_count x_64_fi_groups x_65_sh_levels x_66_sh_order x_67_tl_stale) →
    (((pa_pairs (Int.toNat v1)) = 0 →
    J68 m_3_ma_others m_4_ma_waiting m_5_le_types m_6_le_partners m_7_le_resolved m_8_le_ofParagraph m_9_ex_levels m_10_ex_types m_11_ex_entryLevels m_12_ex_entryOverrides m_13_ex_entryIsolates m_14_ex_last m_15_ex_lostIsolates m_16_ex_lostEmbeddings m_17_ex_openIsolates m_18_se_places m_19_se_types m_20_se_marks m_21_se_count m_22_se_embedding m_23_se_beginning m_24_se_end m_25_br_partners m_26_br_list m_27_fi_breaks m_28_fi_starts m_29_fi_extents m_30_fi_count m_31_fi_groups m_32_sh_levels m_33_sh_order m_34_tl_stale) ∧
    (¬ (pa_pairs (Int.toNat v1)) = 0 →
    (0 ≤ v1 ∧ v1 < 64) ∧ (two_tl_isOdd (m_32_sh_levels (Int.toNat v1))) ∧ (((twr_tl_isOdd (m_32_sh_levels (Int.toNat v1))) = 0 →
      J68 m_3_ma_others m_4_ma_waiting m_5_le_types m_6_le_partners m_7_le_resolved m_8_le_ofParagraph m_9_ex_levels m_10_ex_types m_11_ex_entryLevels m_12_ex_entryOverrides m_13_ex_entryIsolates m_14_ex_last m_15_ex_lostIsolates m_16_ex_lostEmbeddings m_17_ex_openIsolates m_18_se_places m_19_se_types m_20_se_marks m_21_se_count m_22_se_embedding m_23_se_beginning m_24_se_end m_25_br_partners m_26_br_list m_27_fi_breaks m_28_fi_starts m_29_fi_extents m_30_fi_count m_31_fi_groups m_32_sh_levels m_33_sh_order m_34_tl_stale) ∧
      (¬ (twr_tl_isOdd (m_32_sh_levels (Int.toNat v1))) = 0 →
      K 1 m_3_ma_others m_4_ma_waiting m_5_le_types m_6_le_partners m_7_le_resolved m_8_le_ofParagraph m_9_ex_levels m_10_ex_types m_11_ex_entryLevels m_12_ex_entryOverrides m_13_ex_entryIsolates m_14_ex_last m_15_ex_lostIsolates m_16_ex_lostEmbeddings m_17_ex_openIsolates m_18_se_places m_19_se_types m_20_se_marks m_21_se_count m_22_se_embedding m_23_se_beginning m_24_se_end m_25_br_partners m_26_br_list m_27_fi_breaks m_28_fi_starts m_29_fi_extents m_30_fi_count m_31_fi_groups m_32_sh_levels m_33_sh_order m_34_tl_stale))))))))
set_option maxRecDepth 100000 in
set_option maxHeartbeats 4000000 in
theorem twc_tl_mirrored {l : Launch} {D : va_G} {ad : Nat → Nat} {cI cZ : ClassId} {Post : tw_P} {K : Int → (Nat → Int) → (Nat → Int) → (Nat → Int) → (Nat → Int) → (Nat → Int) → Int → (Nat → Int) → (Nat → Int) → (Nat → Int) → (Nat → Int) → (Nat → Int) → Int → Int → Int → Int → (Nat → Int) → (Nat → Int) → (Nat → Int) → Int → Int → Int → Int → (Nat → Int) → (Nat → Int) → (Nat → Int) → (Nat → Int) → (Nat → Int) → Int → (Nat → Int) → (Nat → Int) → (Nat → Int) → Int → Prop} {v1 : Int} {pa_size pa_base le_ofParagraph ex_last ex_lostIsolates ex_lostEmbeddings ex_openIsolates se_count se_embedding se_beginning se_end fi_count tl_measure tl_stale : Int} {pa_kinds pa_groups pa_widths pa_pairs ma_others ma_waiting le_types le_partners le_resolved ex_levels ex_types ex_entryLevels ex_entryOverrides ex_entryIsolates se_places se_types se_marks br_partners br_list fi_breaks fi_starts fi_extents fi_groups sh_levels sh_order : Nat → Int} (h : tww_tl_mirrored v1 pa_kinds pa_groups pa_widths pa_pairs pa_size pa_base ma_others ma_waiting le_types le_partners le_resolved le_ofParagraph ex_levels ex_types ex_entryLevels ex_entryOverrides ex_entryIsolates ex_last ex_lostIsolates ex_lostEmbeddings ex_openIsolates se_places se_types se_marks se_count se_embedding se_beginning se_end br_partners br_list fi_breaks fi_starts fi_extents fi_count fi_groups sh_levels sh_order tl_measure tl_stale K) (hK : ∀ (z : Int) (n_ma_others : Nat → Int) (n_ma_waiting : Nat → Int) (n_le_types : Nat → Int) (n_le_partners : Nat → Int) (n_le_resolved : Nat → Int) (n_le_ofParagraph : Int) (n_ex_levels : Nat → Int) (n_ex_types : Nat → Int) (n_ex_entryLevels : Nat → Int) (n_ex_entryOverrides : Nat → Int) (n_ex_entryIsolates : Nat → Int) (n_ex_last : Int) (n_ex_lostIsolates : Int) (n_ex_lostEmbeddings : Int) (n_ex_openIsolates : Int) (n_se_places : Nat → Int) (n_se_types : Nat → Int) (n_se_marks : Nat → Int) (n_se_count : Int) (n_se_embedding : Int) (n_se_beginning : Int) (n_se_end : Int) (n_br_partners : Nat → Int) (n_br_list : Nat → Int) (n_fi_breaks : Nat → Int) (n_fi_starts : Nat → Int) (n_fi_extents : Nat → Int) (n_fi_count : Int) (n_fi_groups : Nat → Int) (n_sh_levels : Nat → Int) (n_sh_order : Nat → Int) (n_tl_stale : Int), K z n_ma_others n_ma_waiting n_le_types n_le_partners n_le_resolved n_le_ofParagraph n_ex_levels n_ex_types n_ex_entryLevels n_ex_entryOverrides n_ex_entryIsolates n_ex_last n_ex_lostIsolates n_ex_lostEmbeddings n_ex_openIsolates n_se_places n_se_types n_se_marks n_se_count n_se_embedding n_se_beginning n_se_end n_br_partners n_br_list n_fi_breaks n_fi_starts n_fi_extents n_fi_count n_fi_groups n_sh_levels n_sh_order n_tl_stale → Post (some z) (tw_mC pa_kinds pa_groups pa_widths pa_pairs pa_size pa_base n_ma_others n_ma_waiting n_le_types n_le_partners n_le_resolved n_le_ofParagraph n_ex_levels n_ex_types n_ex_entryLevels n_ex_entryOverrides n_ex_entryIsolates n_ex_last n_ex_lostIsolates n_ex_lostEmbeddings n_ex_openIsolates n_se_places n_se_types n_se_marks n_se_count n_se_embedding n_se_beginning n_se_end n_br_partners n_br_list n_fi_breaks n_fi_starts n_fi_extents n_fi_count n_fi_groups n_sh_levels n_sh_order tl_measure n_tl_stale)) : tw_ct (tw_YC l D ad cI cZ) twy_tl_mirrored (Cond.code twy_tl_mirrored prog_1_method_19_code 2 (some .boolean) :: tw_Wg) 6 [.inr 0, .inl v1] (tw_mC pa_kinds pa_groups pa_widths pa_pairs pa_size pa_base ma_others ma_waiting le_types le_partners le_resolved le_ofParagraph ex_levels ex_types ex_entryLevels ex_entryOverrides ex_entryIsolates ex_last ex_lostIsolates ex_lostEmbeddings ex_openIsolates se_places se_types se_marks se_count se_embedding se_beginning se_end br_partners br_list fi_breaks fi_starts fi_extents fi_count fi_groups sh_levels sh_order tl_measure tl_stale) Post := by
  refine tw_of (own := twR_tl) (L0 := [some (.inr 0), some (.inl v1)]) (by decide) rfl rfl (Nat.le_of_ble_eq_true rfl) (fun Z hX => ?_)
  unfold tww_tl_mirrored at h
  refine tw_aload_n hX twd_tl_mirrored_0 rfl rfl ?_
  refine tw_get (kf := 0) hX twd_tl_mirrored_1 twin_tl rfl (by decide) tww_326 rfl rfl rfl ?_
  refine tw_iload_n hX twd_tl_mirrored_4 rfl rfl ?_
  refine tw_callV (As := [.inl v1]) (n := 1) hX twd_tl_mirrored_5 tw_good tww_636 tww_633 tww_634 tww_635 tww_78 twk_pa_has rfl rfl ⟨by decide, by decide⟩ rfl (Nat.le_of_ble_eq_true rfl) (twc_pa_has (fun z1 e2 => ?_))
  subst e2
  change tw_rn (tw_YC l D ad cI cZ) Z Post 8 [some (.inr 0), some (.inl v1)] [.inl (twr_pa_has v1 pa_size)] (tw_mC pa_kinds pa_groups pa_widths pa_pairs pa_size pa_base ma_others ma_waiting le_types le_partners le_resolved le_ofParagraph ex_levels ex_types ex_entryLevels ex_entryOverrides ex_entryIsolates ex_last ex_lostIsolates ex_lostEmbeddings ex_openIsolates se_places se_types se_marks se_count se_embedding se_beginning se_end br_partners br_list fi_breaks fi_starts fi_extents fi_count fi_groups sh_levels sh_order tl_measure tl_stale)
  refine tw_if_ne hX twd_tl_mirrored_8 rfl (fun q75 => ?_) (fun q75 => ?_)
  · have h := h.2 q75
    refine tw_aload_n hX twd_tl_mirrored_13 rfl rfl ?_
    refine tw_callV (As := []) (n := 0) hX twd_tl_mirrored_14 tw_good tww_383 tww_380 tww_382 tww_0 tww_77 twk_tl_layOut rfl rfl ⟨by decide, by decide⟩ rfl (Nat.le_of_ble_eq_true rfl) (twc_tl_layOut h (fun m_3_ma_others m_4_ma_waiting m_5_le_types m_6_le_partners m_7_le_resolved m_8_le_ofParagraph m_9_ex_levels m_10_ex_types m_11_ex_entryLevels m_12_ex_entryOverrides m_13_ex_entryIsolates m_14_ex_last m_15_ex_lostIsolates m_16_ex_lostEmbeddings m_17_ex_openIsolates m_18_se_places m_19_se_types m_20_se_marks m_21_se_count m_22_se_embedding m_23_se_beginning m_24_se_end m_25_br_partners m_26_br_list m_27_fi_breaks m_28_fi_starts m_29_fi_extents m_30_fi_count m_31_fi_groups m_32_sh_levels m_33_sh_order m_34_tl_stale h => ?_))
    change tw_rn (tw_YC l D ad cI cZ) Z Post 17 [some (.inr 0), some (.inl v1)] [] (tw_mC pa_kinds pa_groups pa_widths pa_pairs pa_size pa_base m_3_ma_others m_4_ma_waiting m_5_le_types m_6_le_partners m_7_le_resolved m_8_le_ofParagraph m_9_ex_levels m_10_ex_types m_11_ex_entryLevels m_12_ex_entryOverrides m_13_ex_entryIsolates m_14_ex_last m_15_ex_lostIsolates m_16_ex_lostEmbeddings m_17_ex_openIsolates m_18_se_places m_19_se_types m_20_se_marks m_21_se_count m_22_se_embedding m_23_se_beginning m_24_se_end m_25_br_partners m_26_br_list m_27_fi_breaks m_28_fi_starts m_29_fi_extents m_30_fi_count m_31_fi_groups m_32_sh_levels m_33_sh_order tl_measure m_34_tl_stale)
    refine tw_aload_n hX twd_tl_mirrored_17 rfl rfl ?_
    refine tw_get (kf := 0) hX twd_tl_mirrored_18 twin_tl rfl (by decide) tww_326 rfl rfl rfl ?_
    refine tw_get (kf := 3) hX twd_tl_mirrored_21 twin_pa rfl (by decide) tww_114 rfl rfl rfl ?_
    refine tw_iload_n hX twd_tl_mirrored_24 rfl rfl ?_
    obtain ⟨c35, h⟩ := h
    refine tw_iaload hX twd_tl_mirrored_25 rfl c35 ?_
    have h := h (fun (x_36_ma_others : Nat → Int) (x_37_ma_waiting : Nat → Int) (x_38_le_types : Nat → Int) (x_39_le_partners : Nat → Int) (x_40_le_resolved : Nat → Int) (x_41_le_ofParagraph : Int) (x_42_ex_levels : Nat → Int) (x_43_ex_types : Nat → Int) (x_44_ex_entryLevels : Nat → Int) (x_45_ex_entryOverrides : Nat → Int) (x_46_ex_entryIsolates : Nat → Int) (x_47_ex_last : Int) (x_48_ex_lostIsolates : Int) (x_49_ex_lostEmbeddings : Int) (x_50_ex_openIsolates : Int) (x_51_se_places : Nat → Int) (x_52_se_types : Nat → Int) (x_53_se_marks : Nat → Int) (x_54_se_count : Int) (x_55_se_embedding : Int) (x_56_se_beginning : Int) (x_57_se_end : Int) (x_58_br_partners : Nat → Int) (x_59_br_list : Nat → Int) (x_60_fi_breaks : Nat → Int) (x_61_fi_starts : Nat → Int) (x_62_fi_extents : Nat → Int) (x_63_fi_count : Int) (x_64_fi_groups : Nat → Int) (x_65_sh_levels : Nat → Int) (x_66_sh_order : Nat → Int) (x_67_tl_stale : Int) => tw_rn (tw_YC l D ad cI cZ) Z Post 48 [none, none] [] (tw_mC pa_kinds pa_groups pa_widths pa_pairs pa_size pa_base x_36_ma_others x_37_ma_waiting x_38_le_types x_39_le_partners x_40_le_resolved x_41_le_ofParagraph x_42_ex_levels x_43_ex_types x_44_ex_entryLevels x_45_ex_entryOverrides x_46_ex_entryIsolates x_47_ex_last x_48_ex_lostIsolates x_49_ex_lostEmbeddings x_50_ex_openIsolates x_51_se_places x_52_se_types x_53_se_marks x_54_se_count x_55_se_embedding x_56_se_beginning x_57_se_end x_58_br_partners x_59_br_list x_60_fi_breaks x_61_fi_starts x_62_fi_extents x_63_fi_count x_64_fi_groups x_65_sh_levels x_66_sh_order tl_measure x_67_tl_stale)) (by
      intro x_36_ma_others x_37_ma_waiting x_38_le_types x_39_le_partners x_40_le_resolved x_41_le_ofParagraph x_42_ex_levels x_43_ex_types x_44_ex_entryLevels x_45_ex_entryOverrides x_46_ex_entryIsolates x_47_ex_last x_48_ex_lostIsolates x_49_ex_lostEmbeddings x_50_ex_openIsolates x_51_se_places x_52_se_types x_53_se_marks x_54_se_count x_55_se_embedding x_56_se_beginning x_57_se_end x_58_br_partners x_59_br_list x_60_fi_breaks x_61_fi_starts x_62_fi_extents x_63_fi_count x_64_fi_groups x_65_sh_levels x_66_sh_order x_67_tl_stale h
      refine tw_iconst hX twd_tl_mirrored_48 ⟨by decide, by decide⟩ ?_
      exact tw_zret hX twd_tl_mirrored_49 ⟨by decide, by decide⟩ (hK _ _ _ _ _ _ _ _ _ _ _ _ _ _ _ _ _ _ _ _ _ _ _ _ _ _ _ _ _ _ _ _ _ h))
    refine tw_if_eq hX twd_tl_mirrored_26 rfl (fun q74 => ?_) (fun q74 => ?_)
    · have h := h.1 q74
      refine tw_wk (L' := [none, none]) (tw_le_n (tw_le_n tw_le_0)) ?_
      exact h
    · have h := h.2 q74
      refine tw_aload_n hX twd_tl_mirrored_29 rfl rfl ?_
      refine tw_get (kf := 3) hX twd_tl_mirrored_30 twin_tl rfl (by decide) tww_329 rfl rfl rfl ?_
      refine tw_get (kf := 0) hX twd_tl_mirrored_33 twin_sh rfl (by decide) tww_318 rfl rfl rfl ?_
      refine tw_iload_n hX twd_tl_mirrored_36 rfl rfl ?_
      obtain ⟨c69, h⟩ := h
      refine tw_iaload hX twd_tl_mirrored_37 rfl c69 ?_
      obtain ⟨c70, h⟩ := h
      refine tw_callS (As := [.inl (m_32_sh_levels (Int.toNat v1))]) (n := 1) hX twd_tl_mirrored_38 tw_good tww_428 tww_491 tww_427 tww_77 twk_tl_isOdd ⟨by decide, by decide⟩ rfl (Nat.le_of_ble_eq_true rfl) (twc_tl_isOdd c70 (fun z71 e72 => ?_))
      subst e72
      change tw_rn (tw_YC l D ad cI cZ) Z Post 41 [some (.inr 0), some (.inl v1)] [.inl (twr_tl_isOdd (m_32_sh_levels (Int.toNat v1)))] (tw_mC pa_kinds pa_groups pa_widths pa_pairs pa_size pa_base m_3_ma_others m_4_ma_waiting m_5_le_types m_6_le_partners m_7_le_resolved m_8_le_ofParagraph m_9_ex_levels m_10_ex_types m_11_ex_entryLevels m_12_ex_entryOverrides m_13_ex_entryIsolates m_14_ex_last m_15_ex_lostIsolates m_16_ex_lostEmbeddings m_17_ex_openIsolates m_18_se_places m_19_se_types m_20_se_marks m_21_se_count m_22_se_embedding m_23_se_beginning m_24_se_end m_25_br_partners m_26_br_list m_27_fi_breaks m_28_fi_starts m_29_fi_extents m_30_fi_count m_31_fi_groups m_32_sh_levels m_33_sh_order tl_measure m_34_tl_stale)
      refine tw_if_eq hX twd_tl_mirrored_41 rfl (fun q73 => ?_) (fun q73 => ?_)
      · have h := h.1 q73
        refine tw_wk (L' := [none, none]) (tw_le_n (tw_le_n tw_le_0)) ?_
        exact h
      · have h := h.2 q73
        refine tw_iconst hX twd_tl_mirrored_44 ⟨by decide, by decide⟩ ?_
        refine tw_goto hX twd_tl_mirrored_45 rfl ?_
        exact tw_zret hX twd_tl_mirrored_49 ⟨by decide, by decide⟩ (hK _ _ _ _ _ _ _ _ _ _ _ _ _ _ _ _ _ _ _ _ _ _ _ _ _ _ _ _ _ _ _ _ _ h)
  · have h := h.1 q75
    refine tw_iconst hX twd_tl_mirrored_11 ⟨by decide, by decide⟩ ?_
    exact tw_zret hX twd_tl_mirrored_12 ⟨by decide, by decide⟩ (hK _ _ _ _ _ _ _ _ _ _ _ _ _ _ _ _ _ _ _ _ _ _ _ _ _ _ _ _ _ _ _ _ _ h)
