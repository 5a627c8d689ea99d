def twl_mo_brackets_65 (X98 : Int → Prop) (v1 : Int) (v2 : Int) (v3 : Int) (mo_pair : Nat → Int) (mo_type : Nat → Int) (mo_partner : Nat → Int) (mo_n : Int) (mo_seq : Nat → Int) (mo_mark : Nat → Int) (mo_beginning : Int) (mo_embedding : Int) (mo_list : Nat → Int) : Nat → Int → Prop
  | 0, _ => False
  | f + 1, v4 =>
    ((v4 < 0 →
    X98 v4) ∧
    (¬ v4 < 0 →
    (0 ≤ v4 ∧ v4 < 64) ∧ (0 ≤ (mo_list (Int.toNat v4)) ∧ (mo_list (Int.toNat v4)) < 64) ∧ (0 ≤ (mo_seq (Int.toNat (mo_list (Int.toNat v4)))) ∧ (mo_seq (Int.toNat (mo_list (Int.toNat v4)))) < 64) ∧ (tw_rg (-v3)) ∧ (((mo_pair (Int.toNat (mo_seq (Int.toNat (mo_list (Int.toNat v4)))))) = (-v3) →
      X98 v4) ∧
      (¬ (mo_pair (Int.toNat (mo_seq (Int.toNat (mo_list (Int.toNat v4)))))) = (-v3) →
      (tw_rg (v4 + -1)) ∧ twl_mo_brackets_65 X98 v1 v2 v3 mo_pair mo_type mo_partner mo_n mo_seq mo_mark mo_beginning mo_embedding mo_list f (v4 + -1)))))
set_option maxRecDepth 100000 in
set_option maxHeartbeats 4000000 in
theorem twt_mo_brackets_65 {l : Launch} {D : va_G} {ad : Nat → Nat} {cI cZ : ClassId} {Z : tw_Z} {Post : tw_P} {X98 : Int → Prop} {v1 : Int} {v2 : Int} {v3 : Int} {mo_base mo_measure mo_size mo_known mo_root mo_top mo_lostIsolates mo_lostEmbeddings mo_openIsolates mo_n mo_beginning mo_ending mo_embedding mo_lines : Int} {mo_kind mo_group mo_width mo_pair mo_level mo_type mo_resolved mo_partner mo_entry mo_override mo_isolate mo_seq mo_mark mo_list mo_starts mo_shownLevels mo_order : Nat → Int} (hX : tw_cx (tw_YM l D ad cI cZ) Z prog_11_method_32_code twR_mo tw_Wg none 3 5) (hX98 : ∀ (v4 : Int), X98 v4 → tw_rn (tw_YM l D ad cI cZ) Z Post 98 [some (.inr 0), some (.inl v1), some (.inl v2), none, some (.inl v4)] [] (tw_mM mo_base mo_measure mo_size mo_kind mo_group mo_width mo_pair mo_known mo_root mo_level mo_type mo_resolved mo_partner mo_top mo_entry mo_override mo_isolate mo_lostIsolates mo_lostEmbeddings mo_openIsolates mo_n mo_seq mo_mark mo_beginning mo_ending mo_embedding mo_list mo_lines mo_starts mo_shownLevels mo_order)) : ∀ (f : Nat) (v4 : Int), twl_mo_brackets_65 X98 v1 v2 v3 mo_pair mo_type mo_partner mo_n mo_seq mo_mark mo_beginning mo_embedding mo_list f v4 → tw_rn (tw_YM l D ad cI cZ) Z Post 65 [some (.inr 0), some (.inl v1), some (.inl v2), some (.inl v3), some (.inl v4)] [] (tw_mM mo_base mo_measure mo_size mo_kind mo_group mo_width mo_pair mo_known mo_root mo_level mo_type mo_resolved mo_partner mo_top mo_entry mo_override mo_isolate mo_lostIsolates mo_lostEmbeddings mo_openIsolates mo_n mo_seq mo_mark mo_beginning mo_ending mo_embedding mo_list mo_lines mo_starts mo_shownLevels mo_order) := by
  intro f
  induction f with
  | zero => intro v4 h; rw [twl_mo_brackets_65] at h; exact h.elim
  | succ f ih =>
    intro v4 h
    rw [twl_mo_brackets_65] at h
    refine tw_iload hX twd_mo_brackets_65 rfl ?_
    refine tw_if_lt hX twd_mo_brackets_67 rfl (fun q19 => ?_) (fun q19 => ?_)
    · have h := h.1 q19
      refine tw_wk (L' := [some (.inr 0), some (.inl v1), some (.inl v2), none, some (.inl v4)]) (tw_le_s (tw_le_s (tw_le_s (tw_le_n (tw_le_s tw_le_0))))) ?_
      exact hX98 _ h
    · have h := h.2 q19
      refine tw_aload_n hX twd_mo_brackets_70 rfl rfl ?_
      refine tw_get (kf := 6) hX twd_mo_brackets_71 twin_mo rfl (by decide) tww_693 rfl rfl rfl ?_
      refine tw_aload_n hX twd_mo_brackets_74 rfl rfl ?_
      refine tw_get (kf := 21) hX twd_mo_brackets_75 twin_mo rfl (by decide) tww_708 rfl rfl rfl ?_
      refine tw_aload_n hX twd_mo_brackets_78 rfl rfl ?_
      refine tw_get (kf := 26) hX twd_mo_brackets_79 twin_mo rfl (by decide) tww_713 rfl rfl rfl ?_
      refine tw_iload hX twd_mo_brackets_82 rfl ?_
      obtain ⟨c13, h⟩ := h
      refine tw_iaload hX twd_mo_brackets_84 rfl c13 ?_
      obtain ⟨c14, h⟩ := h
      refine tw_iaload hX twd_mo_brackets_85 rfl c14 ?_
      obtain ⟨c15, h⟩ := h
      refine tw_iaload hX twd_mo_brackets_86 rfl c15 ?_
      refine tw_iload_n hX twd_mo_brackets_87 rfl rfl ?_
      obtain ⟨c16, h⟩ := h
      refine tw_ineg hX twd_mo_brackets_88 c16 ?_
      refine tw_icmp_eq hX twd_mo_brackets_89 rfl (fun q18 => ?_) (fun q18 => ?_)
      · have h := h.1 q18
        refine tw_wk (L' := [some (.inr 0), some (.inl v1), some (.inl v2), none, some (.inl v4)]) (tw_le_s (tw_le_s (tw_le_s (tw_le_n (tw_le_s tw_le_0))))) ?_
        exact hX98 _ h
      · have h := h.2 q18
        obtain ⟨c17, h⟩ := h
        refine tw_iinc (L' := [some (.inr 0), some (.inl v1), some (.inl v2), some (.inl v3), some (.inl (v4 + -1))]) hX twd_mo_brackets_92 rfl (by decide) c17 rfl ?_
        refine tw_goto hX twd_mo_brackets_95 rfl ?_
        exact ih _ h
def twl_mo_brackets_4 (X158 : (Nat → Int) → (Nat → Int) → Prop) (mo_pair : Nat → Int) (mo_type : Nat → Int) (mo_n : Int) (mo_seq : Nat → Int) (mo_mark : Nat → Int) (mo_beginning : Int) (mo_embedding : Int) : Nat → Int → Int → (Nat → Int) → (Nat → Int) → Prop
  | 0, _, _, _, _ => False
  | f + 1, v1, v2, mo_partner, mo_list =>
    ((mo_n ≤ v2 →
    X158 mo_partner mo_list) ∧
    (¬ mo_n ≤ v2 →
    (two_mo_at v2 mo_type mo_seq) ∧ ((((twr_mo_at v2 mo_type mo_seq) = 11 → ((0 ≤ v2 ∧ v2 < 64) ∧ (0 ≤ (mo_seq (Int.toNat v2)) ∧ (mo_seq (Int.toNat v2)) < 64)))) ∧
      (∀ x6 : Int, x6 = (if (twr_mo_at v2 mo_type mo_seq) = 11 then (mo_pair (Int.toNat (mo_seq (Int.toNat v2)))) else 0) →
      (((¬ x6 ≤ 0 → ((0 ≤ v1 ∧ v1 < 64) ∧ (tw_rg (v1 + 1))))) ∧
        (∀ x9 : Int, x9 = (if x6 ≤ 0 then v1 else (v1 + 1)) →
        ∀ x_10_mo_list : Nat → Int, x_10_mo_list = (if x6 ≤ 0 then mo_list else (tw_up mo_list (Int.toNat v1) v2)) →
        (((¬ 0 ≤ x6 → ((tw_rg (x9 - 1))))) ∧
          (∀ x12 : Int, x12 = (if 0 ≤ x6 then (-1) else (x9 - 1)) →
          (∃ f37 : Nat, twl_mo_brackets_65 (fun (y20 : Int) =>
            (((¬ y20 < 0 → ((0 ≤ v2 ∧ v2 < 64) ∧ (0 ≤ y20 ∧ y20 < 64) ∧ (0 ≤ (x_10_mo_list (Int.toNat y20)) ∧ (x_10_mo_list (Int.toNat y20)) < 64) ∧ (0 ≤ (mo_seq (Int.toNat v2)) ∧ (mo_seq (Int.toNat v2)) < 64) ∧ (0 ≤ y20 ∧ y20 < 64) ∧ (0 ≤ (x_10_mo_list (Int.toNat y20)) ∧ (x_10_mo_list (Int.toNat y20)) < 64) ∧ (0 ≤ v2 ∧ v2 < 64) ∧ (0 ≤ (mo_seq (Int.toNat (x_10_mo_list (Int.toNat y20)))) ∧ (mo_seq (Int.toNat (x_10_mo_list (Int.toNat y20)))) < 64)))) ∧
              (∀ x29 : Int, x29 = (if y20 < 0 then x9 else y20) →
              ∀ x_30_mo_partner : Nat → Int, x_30_mo_partner = (if y20 < 0 then mo_partner else (tw_up (tw_up mo_partner (Int.toNat (mo_seq (Int.toNat v2))) (mo_seq (Int.toNat (x_10_mo_list (Int.toNat y20))))) (Int.toNat (mo_seq (Int.toNat (x_10_mo_list (Int.toNat y20))))) (mo_seq (Int.toNat v2)))) →
              (tw_rg (v2 + 1)) ∧ twl_mo_brackets_4 X158 mo_pair mo_type mo_n mo_seq mo_mark mo_beginning mo_embedding f x29 (v2 + 1) x_30_mo_partner x_10_mo_list))) x9 v2 x6 mo_pair mo_type mo_partner mo_n mo_seq mo_mark mo_beginning mo_embedding x_10_mo_list f37 x12)))))))))
set_option maxRecDepth 100000 in
set_option maxHeartbeats 4000000 in
theorem twt_mo_brackets_4 {l : Launch} {D : va_G} {ad : Nat → Nat} {cI cZ : ClassId} {Z : tw_Z} {Post : tw_P} {X158 : (Nat → Int) → (Nat → Int) → Prop} {mo_base mo_measure mo_size mo_known mo_root mo_top mo_lostIsolates mo_lostEmbeddings mo_openIsolates mo_n mo_beginning mo_ending mo_embedding mo_lines : Int} {mo_kind mo_group mo_width mo_pair mo_level mo_type mo_resolved mo_entry mo_override mo_isolate mo_seq mo_mark mo_starts mo_shownLevels mo_order : Nat → Int} (hX : tw_cx (tw_YM l D ad cI cZ) Z prog_11_method_32_code twR_mo tw_Wg none 3 5) (hX158 : ∀ (mo_partner : Nat → Int) (mo_list : Nat → Int), X158 mo_partner mo_list → tw_rn (tw_YM l D ad cI cZ) Z Post 158 [some (.inr 0), none, none, none, none] [] (tw_mM mo_base mo_measure mo_size mo_kind mo_group mo_width mo_pair mo_known mo_root mo_level mo_type mo_resolved mo_partner mo_top mo_entry mo_override mo_isolate mo_lostIsolates mo_lostEmbeddings mo_openIsolates mo_n mo_seq mo_mark mo_beginning mo_ending mo_embedding mo_list mo_lines mo_starts mo_shownLevels mo_order)) : ∀ (f : Nat) (v1 : Int) (v2 : Int) (mo_partner : Nat → Int) (mo_list : Nat → Int), twl_mo_brackets_4 X158 mo_pair mo_type mo_n mo_seq mo_mark mo_beginning mo_embedding f v1 v2 mo_partner mo_list → tw_rn (tw_YM l D ad cI cZ) Z Post 4 [some (.inr 0), some (.inl v1), some (.inl v2), none, none] [] (tw_mM mo_base mo_measure mo_size mo_kind mo_group mo_width mo_pair mo_known mo_root mo_level mo_type mo_resolved mo_partner mo_top mo_entry mo_override mo_isolate mo_lostIsolates mo_lostEmbeddings mo_openIsolates mo_n mo_seq mo_mark mo_beginning mo_ending mo_embedding mo_list mo_lines mo_starts mo_shownLevels mo_order) := by
  intro f
  induction f with
  | zero => intro v1 v2 mo_partner mo_list h; rw [twl_mo_brackets_4] at h; exact h.elim
  | succ f ih =>
    intro v1 v2 mo_partner mo_list h
    rw [twl_mo_brackets_4] at h
    refine tw_iload_n hX twd_mo_brackets_4 rfl rfl ?_
    refine tw_aload_n hX twd_mo_brackets_5 rfl rfl ?_
    refine tw_get (kf := 20) hX twd_mo_brackets_6 twin_mo rfl (by decide) tww_707 rfl rfl rfl ?_
    refine tw_icmp_ge hX twd_mo_brackets_9 rfl (fun q51 => ?_) (fun q51 => ?_)
    · have h := h.1 q51
      refine tw_wk (L' := [some (.inr 0), none, none, none, none]) (tw_le_s (tw_le_n (tw_le_n (tw_le_n (tw_le_n tw_le_0))))) ?_
      exact hX158 _ _ h
    · have h := h.2 q51
      refine tw_aload_n hX twd_mo_brackets_12 rfl rfl ?_
      refine tw_iload_n hX twd_mo_brackets_13 rfl rfl ?_
      obtain ⟨c1, h⟩ := h
      refine tw_callV (As := [.inl v2]) (n := 1) hX twd_mo_brackets_14 tw_good tww_905 tww_902 tww_904 tww_61 tww_86 twk_mo_at rfl rfl ⟨by decide, by decide⟩ rfl (Nat.le_of_ble_eq_true rfl) (twc_mo_at c1 (fun z2 e3 => ?_))
      subst e3
      change tw_rn (tw_YM l D ad cI cZ) Z Post 17 [some (.inr 0), some (.inl v1), some (.inl v2), none, none] [.inl (twr_mo_at v2 mo_type mo_seq)] (tw_mM mo_base mo_measure mo_size mo_kind mo_group mo_width mo_pair mo_known mo_root mo_level mo_type mo_resolved mo_partner mo_top mo_entry mo_override mo_isolate mo_lostIsolates mo_lostEmbeddings mo_openIsolates mo_n mo_seq mo_mark mo_beginning mo_ending mo_embedding mo_list mo_lines mo_starts mo_shownLevels mo_order)
      refine tw_bipush hX twd_mo_brackets_17 (by decide +kernel) ⟨by decide, by decide⟩ ?_
      obtain ⟨o47, h⟩ := h
      have j48 : ∀ x6 : Int, x6 = (if (twr_mo_at v2 mo_type mo_seq) = 11 then (mo_pair (Int.toNat (mo_seq (Int.toNat v2)))) else 0) → tw_rn (tw_YM l D ad cI cZ) Z Post 37 [some (.inr 0), some (.inl v1), some (.inl v2), none, none] [.inl x6] (tw_mM mo_base mo_measure mo_size mo_kind mo_group mo_width mo_pair mo_known mo_root mo_level mo_type mo_resolved mo_partner mo_top mo_entry mo_override mo_isolate mo_lostIsolates mo_lostEmbeddings mo_openIsolates mo_n mo_seq mo_mark mo_beginning mo_ending mo_embedding mo_list mo_lines mo_starts mo_shownLevels mo_order) := by
        intro x6 e49
        have h := h x6 e49
        refine tw_istore_n (L' := [some (.inr 0), some (.inl v1), some (.inl v2), some (.inl x6), none]) hX twd_mo_brackets_37 rfl (by decide) rfl ?_
        refine tw_iload_n hX twd_mo_brackets_38 rfl rfl ?_
        obtain ⟨o42, h⟩ := h
        have j43 : ∀ x9 : Int, x9 = (if x6 ≤ 0 then v1 else (v1 + 1)) → ∀ x_10_mo_list : Nat → Int, x_10_mo_list = (if x6 ≤ 0 then mo_list else (tw_up mo_list (Int.toNat v1) v2)) → tw_rn (tw_YM l D ad cI cZ) Z Post 52 [some (.inr 0), some (.inl x9), some (.inl v2), some (.inl x6), none] [] (tw_mM mo_base mo_measure mo_size mo_kind mo_group mo_width mo_pair mo_known mo_root mo_level mo_type mo_resolved mo_partner mo_top mo_entry mo_override mo_isolate mo_lostIsolates mo_lostEmbeddings mo_openIsolates mo_n mo_seq mo_mark mo_beginning mo_ending mo_embedding x_10_mo_list mo_lines mo_starts mo_shownLevels mo_order) := by
          intro x9 e44 x_10_mo_list e45
          have h := h x9 e44 x_10_mo_list e45
          refine tw_iload_n hX twd_mo_brackets_52 rfl rfl ?_
          obtain ⟨o38, h⟩ := h
          have j39 : ∀ x12 : Int, x12 = (if 0 ≤ x6 then (-1) else (x9 - 1)) → tw_rn (tw_YM l D ad cI cZ) Z Post 63 [some (.inr 0), some (.inl x9), some (.inl v2), some (.inl x6), none] [.inl x12] (tw_mM mo_base mo_measure mo_size mo_kind mo_group mo_width mo_pair mo_known mo_root mo_level mo_type mo_resolved mo_partner mo_top mo_entry mo_override mo_isolate mo_lostIsolates mo_lostEmbeddings mo_openIsolates mo_n mo_seq mo_mark mo_beginning mo_ending mo_embedding x_10_mo_list mo_lines mo_starts mo_shownLevels mo_order) := by
            intro x12 e40
            have h := h x12 e40
            refine tw_istore (L' := [some (.inr 0), some (.inl x9), some (.inl v2), some (.inl x6), some (.inl x12)]) hX twd_mo_brackets_63 (by decide) rfl ?_
            obtain ⟨f37, h⟩ := h
            refine twt_mo_brackets_65 hX (fun y20 h => ?_) f37 _ h
            refine tw_iload hX twd_mo_brackets_98 rfl ?_
            obtain ⟨o32, h⟩ := h
            have j33 : ∀ x29 : Int, x29 = (if y20 < 0 then x9 else y20) → ∀ x_30_mo_partner : Nat → Int, x_30_mo_partner = (if y20 < 0 then mo_partner else (tw_up (tw_up mo_partner (Int.toNat (mo_seq (Int.toNat v2))) (mo_seq (Int.toNat (x_10_mo_list (Int.toNat y20))))) (Int.toNat (mo_seq (Int.toNat (x_10_mo_list (Int.toNat y20))))) (mo_seq (Int.toNat v2)))) → tw_rn (tw_YM l D ad cI cZ) Z Post 152 [some (.inr 0), some (.inl x29), some (.inl v2), none, none] [] (tw_mM mo_base mo_measure mo_size mo_kind mo_group mo_width mo_pair mo_known mo_root mo_level mo_type mo_resolved x_30_mo_partner mo_top mo_entry mo_override mo_isolate mo_lostIsolates mo_lostEmbeddings mo_openIsolates mo_n mo_seq mo_mark mo_beginning mo_ending mo_embedding x_10_mo_list mo_lines mo_starts mo_shownLevels mo_order) := by
              intro x29 e34 x_30_mo_partner e35
              have h := h x29 e34 x_30_mo_partner e35
              obtain ⟨c31, h⟩ := h
              refine tw_iinc (L' := [some (.inr 0), some (.inl x29), some (.inl (v2 + 1)), none, none]) hX twd_mo_brackets_152 rfl (by decide) c31 rfl ?_
              refine tw_goto hX twd_mo_brackets_155 rfl ?_
              exact ih _ _ _ _ h
            refine tw_if_lt hX twd_mo_brackets_100 rfl (fun q36 => ?_) (fun q36 => ?_)
            · have _tw := trivial
              refine tw_wk (L' := [some (.inr 0), some (.inl x9), some (.inl v2), none, none]) (tw_le_s (tw_le_s (tw_le_s (tw_le_n (tw_le_n tw_le_0))))) ?_
              exact j33 _ (Eq.symm (if_pos q36)) _ (Eq.symm (if_pos q36))
            · have _tw := trivial
              have o32 := o32 q36
              refine tw_aload_n hX twd_mo_brackets_103 rfl rfl ?_
              refine tw_get (kf := 12) hX twd_mo_brackets_104 twin_mo rfl (by decide) tww_699 rfl rfl rfl ?_
              refine tw_aload_n hX twd_mo_brackets_107 rfl rfl ?_
              refine tw_get (kf := 21) hX twd_mo_brackets_108 twin_mo rfl (by decide) tww_708 rfl rfl rfl ?_
              refine tw_iload_n hX twd_mo_brackets_111 rfl rfl ?_
              obtain ⟨c21, o32⟩ := o32
              refine tw_iaload hX twd_mo_brackets_112 rfl c21 ?_
              refine tw_aload_n hX twd_mo_brackets_113 rfl rfl ?_
              refine tw_get (kf := 21) hX twd_mo_brackets_114 twin_mo rfl (by decide) tww_708 rfl rfl rfl ?_
              refine tw_aload_n hX twd_mo_brackets_117 rfl rfl ?_
              refine tw_get (kf := 26) hX twd_mo_brackets_118 twin_mo rfl (by decide) tww_713 rfl rfl rfl ?_
              refine tw_iload hX twd_mo_brackets_121 rfl ?_
              obtain ⟨c22, o32⟩ := o32
              refine tw_iaload hX twd_mo_brackets_123 rfl c22 ?_
              obtain ⟨c23, o32⟩ := o32
              refine tw_iaload hX twd_mo_brackets_124 rfl c23 ?_
              obtain ⟨c24, o32⟩ := o32
              refine tw_iastore (mem' := (tw_mM mo_base mo_measure mo_size mo_kind mo_group mo_width mo_pair mo_known mo_root mo_level mo_type mo_resolved (tw_up mo_partner (Int.toNat (mo_seq (Int.toNat v2))) (mo_seq (Int.toNat (x_10_mo_list (Int.toNat y20))))) mo_top mo_entry mo_override mo_isolate mo_lostIsolates mo_lostEmbeddings mo_openIsolates mo_n mo_seq mo_mark mo_beginning mo_ending mo_embedding x_10_mo_list mo_lines mo_starts mo_shownLevels mo_order)) hX twd_mo_brackets_125 rfl c24 rfl ?_
              refine tw_aload_n hX twd_mo_brackets_126 rfl rfl ?_
              refine tw_get (kf := 12) hX twd_mo_brackets_127 twin_mo rfl (by decide) tww_699 rfl rfl rfl ?_
              refine tw_aload_n hX twd_mo_brackets_130 rfl rfl ?_
              refine tw_get (kf := 21) hX twd_mo_brackets_131 twin_mo rfl (by decide) tww_708 rfl rfl rfl ?_
              refine tw_aload_n hX twd_mo_brackets_134 rfl rfl ?_
              refine tw_get (kf := 26) hX twd_mo_brackets_135 twin_mo rfl (by decide) tww_713 rfl rfl rfl ?_
              refine tw_iload hX twd_mo_brackets_138 rfl ?_
              obtain ⟨c25, o32⟩ := o32
              refine tw_iaload hX twd_mo_brackets_140 rfl c25 ?_
              obtain ⟨c26, o32⟩ := o32
              refine tw_iaload hX twd_mo_brackets_141 rfl c26 ?_
              refine tw_aload_n hX twd_mo_brackets_142 rfl rfl ?_
              refine tw_get (kf := 21) hX twd_mo_brackets_143 twin_mo rfl (by decide) tww_708 rfl rfl rfl ?_
              refine tw_iload_n hX twd_mo_brackets_146 rfl rfl ?_
              obtain ⟨c27, o32⟩ := o32
              refine tw_iaload hX twd_mo_brackets_147 rfl c27 ?_
              have c28 := o32
              refine tw_iastore (mem' := (tw_mM mo_base mo_measure mo_size mo_kind mo_group mo_width mo_pair mo_known mo_root mo_level mo_type mo_resolved (tw_up (tw_up mo_partner (Int.toNat (mo_seq (Int.toNat v2))) (mo_seq (Int.toNat (x_10_mo_list (Int.toNat y20))))) (Int.toNat (mo_seq (Int.toNat (x_10_mo_list (Int.toNat y20))))) (mo_seq (Int.toNat v2))) mo_top mo_entry mo_override mo_isolate mo_lostIsolates mo_lostEmbeddings mo_openIsolates mo_n mo_seq mo_mark mo_beginning mo_ending mo_embedding x_10_mo_list mo_lines mo_starts mo_shownLevels mo_order)) hX twd_mo_brackets_148 rfl c28 rfl ?_
              refine tw_iload hX twd_mo_brackets_149 rfl ?_
              refine tw_istore_n (L' := [some (.inr 0), some (.inl y20), some (.inl v2), none, some (.inl y20)]) hX twd_mo_brackets_151 rfl (by decide) rfl ?_
              refine tw_wk (L' := [some (.inr 0), some (.inl y20), some (.inl v2), none, none]) (tw_le_s (tw_le_s (tw_le_s (tw_le_n (tw_le_n tw_le_0))))) ?_
              exact j33 _ (Eq.symm (if_neg q36)) _ (Eq.symm (if_neg q36))
          refine tw_if_ge hX twd_mo_brackets_53 rfl (fun q41 => ?_) (fun q41 => ?_)
          · have _tw := trivial
            refine tw_iconst hX twd_mo_brackets_62 ⟨by decide, by decide⟩ ?_
            exact j39 _ (Eq.symm (if_pos q41))
          · have _tw := trivial
            have o38 := o38 q41
            refine tw_iload_n hX twd_mo_brackets_56 rfl rfl ?_
            refine tw_iconst hX twd_mo_brackets_57 ⟨by decide, by decide⟩ ?_
            have c11 := o38
            refine tw_isub hX twd_mo_brackets_58 c11 ?_
            refine tw_goto hX twd_mo_brackets_59 rfl ?_
            exact j39 _ (Eq.symm (if_neg q41))
        refine tw_if_le hX twd_mo_brackets_39 rfl (fun q46 => ?_) (fun q46 => ?_)
        · have _tw := trivial
          exact j43 _ (Eq.symm (if_pos q46)) _ (Eq.symm (if_pos q46))
        · have _tw := trivial
          have o42 := o42 q46
          refine tw_aload_n hX twd_mo_brackets_42 rfl rfl ?_
          refine tw_get (kf := 26) hX twd_mo_brackets_43 twin_mo rfl (by decide) tww_713 rfl rfl rfl ?_
          refine tw_iload_n hX twd_mo_brackets_46 rfl rfl ?_
          refine tw_iload_n hX twd_mo_brackets_47 rfl rfl ?_
          obtain ⟨c7, o42⟩ := o42
          refine tw_iastore (mem' := (tw_mM mo_base mo_measure mo_size mo_kind mo_group mo_width mo_pair mo_known mo_root mo_level mo_type mo_resolved mo_partner mo_top mo_entry mo_override mo_isolate mo_lostIsolates mo_lostEmbeddings mo_openIsolates mo_n mo_seq mo_mark mo_beginning mo_ending mo_embedding (tw_up mo_list (Int.toNat v1) v2) mo_lines mo_starts mo_shownLevels mo_order)) hX twd_mo_brackets_48 rfl c7 rfl ?_
          have c8 := o42
          refine tw_iinc (L' := [some (.inr 0), some (.inl (v1 + 1)), some (.inl v2), some (.inl x6), none]) hX twd_mo_brackets_49 rfl (by decide) c8 rfl ?_
          exact j43 _ (Eq.symm (if_neg q46)) _ (Eq.symm (if_neg q46))
      refine tw_icmp_ne hX twd_mo_brackets_19 rfl (fun q50 => ?_) (fun q50 => ?_)
      · have _tw := trivial
        refine tw_iconst hX twd_mo_brackets_36 ⟨by decide, by decide⟩ ?_
        exact j48 _ (Eq.symm (if_neg q50))
      · have _tw := trivial
        have o47 := o47 q50
        refine tw_aload_n hX twd_mo_brackets_22 rfl rfl ?_
        refine tw_get (kf := 6) hX twd_mo_brackets_23 twin_mo rfl (by decide) tww_693 rfl rfl rfl ?_
        refine tw_aload_n hX twd_mo_brackets_26 rfl rfl ?_
        refine tw_get (kf := 21) hX twd_mo_brackets_27 twin_mo rfl (by decide) tww_708 rfl rfl rfl ?_
        refine tw_iload_n hX twd_mo_brackets_30 rfl rfl ?_
        obtain ⟨c4, o47⟩ := o47
        refine tw_iaload hX twd_mo_brackets_31 rfl c4 ?_
        have c5 := o47
        refine tw_iaload hX twd_mo_brackets_32 rfl c5 ?_
        refine tw_goto hX twd_mo_brackets_33 rfl ?_
        exact j48 _ (Eq.symm (if_pos q50))
def twl_mo_brackets_193 (X210 : Int → Prop) (v2 : Int) (v3 : Int) (mo_pair : Nat → Int) (mo_type : Nat → Int) (mo_partner : Nat → Int) (mo_n : Int) (mo_seq : Nat → Int) (mo_mark : Nat → Int) (mo_beginning : Int) (mo_embedding : Int) (mo_list : Nat → Int) : Nat → Int → Prop
  | 0, _ => False
  | f + 1, v4 =>
    (0 ≤ v4 ∧ v4 < 64) ∧ (((mo_seq (Int.toNat v4)) = v3 →
    X210 v4) ∧
    (¬ (mo_seq (Int.toNat v4)) = v3 →
    (tw_rg (v4 + 1)) ∧ twl_mo_brackets_193 X210 v2 v3 mo_pair mo_type mo_partner mo_n mo_seq mo_mark mo_beginning mo_embedding mo_list f (v4 + 1)))
set_option maxRecDepth 100000 in
set_option maxHeartbeats 4000000 in
theorem twt_mo_brackets_193 {l : Launch} {D : va_G} {ad : Nat → Nat} {cI cZ : ClassId} {Z : tw_Z} {Post : tw_P} {X210 : Int → Prop} {v2 : Int} {v3 : Int} {mo_base mo_measure mo_size mo_known mo_root mo_top mo_lostIsolates mo_lostEmbeddings mo_openIsolates mo_n mo_beginning mo_ending mo_embedding mo_lines : Int} {mo_kind mo_group mo_width mo_pair mo_level mo_type mo_resolved mo_partner mo_entry mo_override mo_isolate mo_seq mo_mark mo_list mo_starts mo_shownLevels mo_order : Nat → Int} (hX : tw_cx (tw_YM l D ad cI cZ) Z prog_11_method_32_code twR_mo tw_Wg none 3 5) (hX210 : ∀ (v4 : Int), X210 v4 → tw_rn (tw_YM l D ad cI cZ) Z Post 210 [some (.inr 0), none, some (.inl v2), none, some (.inl v4)] [] (tw_mM mo_base mo_measure mo_size mo_kind mo_group mo_width mo_pair mo_known mo_root mo_level mo_type mo_resolved mo_partner mo_top mo_entry mo_override mo_isolate mo_lostIsolates mo_lostEmbeddings mo_openIsolates mo_n mo_seq mo_mark mo_beginning mo_ending mo_embedding mo_list mo_lines mo_starts mo_shownLevels mo_order)) : ∀ (f : Nat) (v4 : Int), twl_mo_brackets_193 X210 v2 v3 mo_pair mo_type mo_partner mo_n mo_seq mo_mark mo_beginning mo_embedding mo_list f v4 → tw_rn (tw_YM l D ad cI cZ) Z Post 193 [some (.inr 0), none, some (.inl v2), some (.inl v3), some (.inl v4)] [] (tw_mM mo_base mo_measure mo_size mo_kind mo_group mo_width mo_pair mo_known mo_root mo_level mo_type mo_resolved mo_partner mo_top mo_entry mo_override mo_isolate mo_lostIsolates mo_lostEmbeddings mo_openIsolates mo_n mo_seq mo_mark mo_beginning mo_ending mo_embedding mo_list mo_lines mo_starts mo_shownLevels mo_order) := by
  intro f
  induction f with
  | zero => intro v4 h; rw [twl_mo_brackets_193] at h; exact h.elim
  | succ f ih =>
    intro v4 h
    rw [twl_mo_brackets_193] at h
    refine tw_aload_n hX twd_mo_brackets_193 rfl rfl ?_
    refine tw_get (kf := 21) hX twd_mo_brackets_194 twin_mo rfl (by decide) tww_708 rfl rfl rfl ?_
    refine tw_iload hX twd_mo_brackets_197 rfl ?_
    obtain ⟨c60, h⟩ := h
    refine tw_iaload hX twd_mo_brackets_199 rfl c60 ?_
    refine tw_iload_n hX twd_mo_brackets_200 rfl rfl ?_
    refine tw_icmp_eq hX twd_mo_brackets_201 rfl (fun q62 => ?_) (fun q62 => ?_)
    · have h := h.1 q62
      refine tw_wk (L' := [some (.inr 0), none, some (.inl v2), none, some (.inl v4)]) (tw_le_s (tw_le_n (tw_le_s (tw_le_n (tw_le_s tw_le_0))))) ?_
      exact hX210 _ h
    · have h := h.2 q62
      obtain ⟨c61, h⟩ := h
      refine tw_iinc (L' := [some (.inr 0), none, some (.inl v2), some (.inl v3), some (.inl (v4 + 1))]) hX twd_mo_brackets_204 rfl (by decide) c61 rfl ?_
      refine tw_goto hX twd_mo_brackets_207 rfl ?_
      exact ih _ h
def twl_mo_brackets_160 (X223 : (Nat → Int) → Prop) (mo_pair : Nat → Int) (mo_partner : Nat → Int) (mo_n : Int) (mo_seq : Nat → Int) (mo_mark : Nat → Int) (mo_beginning : Int) (mo_embedding : Int) (mo_list : Nat → Int) : Nat → Int → (Nat → Int) → Prop
  | 0, _, _ => False
  | f + 1, v2, mo_type =>
    ((mo_n ≤ v2 →
    X223 mo_type) ∧
    (¬ mo_n ≤ v2 →
    (0 ≤ v2 ∧ v2 < 64) ∧ (0 ≤ (mo_seq (Int.toNat v2)) ∧ (mo_seq (Int.toNat v2)) < 64) ∧ (0 ≤ v2 ∧ v2 < 64) ∧ (∀ J58 : (Nat → Int) → Prop, (∀ (x_57_mo_type : Nat → Int), ((tw_rg (v2 + 1)) ∧ twl_mo_brackets_160 X223 mo_pair mo_partner mo_n mo_seq mo_mark mo_beginning mo_embedding mo_list f (v2 + 1) x_57_mo_type) → J58 x_57_mo_type) →
      (((mo_partner (Int.toNat (mo_seq (Int.toNat v2)))) ≤ (mo_seq (Int.toNat v2)) →
      J58 mo_type) ∧
      (¬ (mo_partner (Int.toNat (mo_seq (Int.toNat v2)))) ≤ (mo_seq (Int.toNat v2)) →
      (∃ f65 : Nat, twl_mo_brackets_193 (fun (y63 : Int) =>
        tww_mo_enclose v2 y63 mo_type mo_n mo_seq mo_mark mo_beginning mo_embedding (fun m_64_mo_type =>
          J58 m_64_mo_type)) v2 (mo_partner (Int.toNat (mo_seq (Int.toNat v2)))) mo_pair mo_type mo_partner mo_n mo_seq mo_mark mo_beginning mo_embedding mo_list f65 v2))))))
set_option maxRecDepth 100000 in
set_option maxHeartbeats 4000000 in
theorem twt_mo_brackets_160 {l : Launch} {D : va_G} {ad : Nat → Nat} {cI cZ : ClassId} {Z : tw_Z} {Post : tw_P} {X223 : (Nat → Int) → Prop} {mo_base mo_measure mo_size mo_known mo_root mo_top mo_lostIsolates mo_lostEmbeddings mo_openIsolates mo_n mo_beginning mo_ending mo_embedding mo_lines : Int} {mo_kind mo_group mo_width mo_pair mo_level mo_resolved mo_partner mo_entry mo_override mo_isolate mo_seq mo_mark mo_list mo_starts mo_shownLevels mo_order : Nat → Int} (hX : tw_cx (tw_YM l D ad cI cZ) Z prog_11_method_32_code twR_mo tw_Wg none 3 5) (hX223 : ∀ (mo_type : Nat → Int), X223 mo_type → tw_rn (tw_YM l D ad cI cZ) Z Post 223 [none, none, none, none, none] [] (tw_mM mo_base mo_measure mo_size mo_kind mo_group mo_width mo_pair mo_known mo_root mo_level mo_type mo_resolved mo_partner mo_top mo_entry mo_override mo_isolate mo_lostIsolates mo_lostEmbeddings mo_openIsolates mo_n mo_seq mo_mark mo_beginning mo_ending mo_embedding mo_list mo_lines mo_starts mo_shownLevels mo_order)) : ∀ (f : Nat) (v2 : Int) (mo_type : Nat → Int), twl_mo_brackets_160 X223 mo_pair mo_partner mo_n mo_seq mo_mark mo_beginning mo_embedding mo_list f v2 mo_type → tw_rn (tw_YM l D ad cI cZ) Z Post 160 [some (.inr 0), none, some (.inl v2), none, none] [] (tw_mM mo_base mo_measure mo_size mo_kind mo_group mo_width mo_pair mo_known mo_root mo_level mo_type mo_resolved mo_partner mo_top mo_entry mo_override mo_isolate mo_lostIsolates mo_lostEmbeddings mo_openIsolates mo_n mo_seq mo_mark mo_beginning mo_ending mo_embedding mo_list mo_lines mo_starts mo_shownLevels mo_order) := by
  intro f
  induction f with
  | zero => intro v2 mo_type h; rw [twl_mo_brackets_160] at h; exact h.elim
  | succ f ih =>
    intro v2 mo_type h
    rw [twl_mo_brackets_160] at h
    refine tw_iload_n hX twd_mo_brackets_160 rfl rfl ?_
    refine tw_aload_n hX twd_mo_brackets_161 rfl rfl ?_
    refine tw_get (kf := 20) hX twd_mo_brackets_162 twin_mo rfl (by decide) tww_707 rfl rfl rfl ?_
    refine tw_icmp_ge hX twd_mo_brackets_165 rfl (fun q67 => ?_) (fun q67 => ?_)
    · have h := h.1 q67
      refine tw_wk (L' := [none, none, none, none, none]) (tw_le_n (tw_le_n (tw_le_n (tw_le_n (tw_le_n tw_le_0))))) ?_
      exact hX223 _ h
    · have h := h.2 q67
      refine tw_aload_n hX twd_mo_brackets_168 rfl rfl ?_
      refine tw_get (kf := 12) hX twd_mo_brackets_169 twin_mo rfl (by decide) tww_699 rfl rfl rfl ?_
      refine tw_aload_n hX twd_mo_brackets_172 rfl rfl ?_
      refine tw_get (kf := 21) hX twd_mo_brackets_173 twin_mo rfl (by decide) tww_708 rfl rfl rfl ?_
      refine tw_iload_n hX twd_mo_brackets_176 rfl rfl ?_
      obtain ⟨c54, h⟩ := h
      refine tw_iaload hX twd_mo_brackets_177 rfl c54 ?_
      obtain ⟨c55, h⟩ := h
      refine tw_iaload hX twd_mo_brackets_178 rfl c55 ?_
      refine tw_istore_n (L' := [some (.inr 0), none, some (.inl v2), some (.inl (mo_partner (Int.toNat (mo_seq (Int.toNat v2))))), none]) hX twd_mo_brackets_179 rfl (by decide) rfl ?_
      refine tw_iload_n hX twd_mo_brackets_180 rfl rfl ?_
      refine tw_aload_n hX twd_mo_brackets_181 rfl rfl ?_
      refine tw_get (kf := 21) hX twd_mo_brackets_182 twin_mo rfl (by decide) tww_708 rfl rfl rfl ?_
      refine tw_iload_n hX twd_mo_brackets_185 rfl rfl ?_
      obtain ⟨c56, h⟩ := h
      refine tw_iaload hX twd_mo_brackets_186 rfl c56 ?_
      have h := h (fun (x_57_mo_type : Nat → Int) => tw_rn (tw_YM l D ad cI cZ) Z Post 217 [some (.inr 0), none, some (.inl v2), none, none] [] (tw_mM mo_base mo_measure mo_size mo_kind mo_group mo_width mo_pair mo_known mo_root mo_level x_57_mo_type mo_resolved mo_partner mo_top mo_entry mo_override mo_isolate mo_lostIsolates mo_lostEmbeddings mo_openIsolates mo_n mo_seq mo_mark mo_beginning mo_ending mo_embedding mo_list mo_lines mo_starts mo_shownLevels mo_order)) (by
        intro x_57_mo_type h
        obtain ⟨c59, h⟩ := h
        refine tw_iinc (L' := [some (.inr 0), none, some (.inl (v2 + 1)), none, none]) hX twd_mo_brackets_217 rfl (by decide) c59 rfl ?_
        refine tw_goto hX twd_mo_brackets_220 rfl ?_
        exact ih _ _ h)
      refine tw_icmp_le hX twd_mo_brackets_187 rfl (fun q66 => ?_) (fun q66 => ?_)
      · have h := h.1 q66
        refine tw_wk (L' := [some (.inr 0), none, some (.inl v2), none, none]) (tw_le_s (tw_le_n (tw_le_s (tw_le_n (tw_le_n tw_le_0))))) ?_
        exact h
      · have h := h.2 q66
        refine tw_iload_n hX twd_mo_brackets_190 rfl rfl ?_
        refine tw_istore (L' := [some (.inr 0), none, some (.inl v2), some (.inl (mo_partner (Int.toNat (mo_seq (Int.toNat v2))))), some (.inl v2)]) hX twd_mo_brackets_191 (by decide) rfl ?_
        obtain ⟨f65, h⟩ := h
        refine twt_mo_brackets_193 hX (fun y63 h => ?_) f65 _ h
        refine tw_aload_n hX twd_mo_brackets_210 rfl rfl ?_
        refine tw_iload_n hX twd_mo_brackets_211 rfl rfl ?_
        refine tw_iload hX twd_mo_brackets_212 rfl ?_
        refine tw_callV (As := [.inl v2, .inl y63]) (n := 2) hX twd_mo_brackets_214 tw_good tww_921 tww_918 tww_920 tww_65 tww_86 twk_mo_enclose rfl rfl ⟨by decide, by decide⟩ rfl (Nat.le_of_ble_eq_true rfl) (twc_mo_enclose h (fun m_64_mo_type h => ?_))
        change tw_rn (tw_YM l D ad cI cZ) Z Post 217 [some (.inr 0), none, some (.inl v2), none, some (.inl y63)] [] (tw_mM mo_base mo_measure mo_size mo_kind mo_group mo_width mo_pair mo_known mo_root mo_level m_64_mo_type mo_resolved mo_partner mo_top mo_entry mo_override mo_isolate mo_lostIsolates mo_lostEmbeddings mo_openIsolates mo_n mo_seq mo_mark mo_beginning mo_ending mo_embedding mo_list mo_lines mo_starts mo_shownLevels mo_order)
        refine tw_wk (L' := [some (.inr 0), none, some (.inl v2), none, none]) (tw_le_s (tw_le_n (tw_le_s (tw_le_n (tw_le_n tw_le_0))))) ?_
        exact h
def tww_mo_brackets (mo_pair : Nat → Int) (mo_type : Nat → Int) (mo_partner : Nat → Int) (mo_n : Int) (mo_seq : Nat → Int) (mo_mark : Nat → Int) (mo_beginning : Int) (mo_embedding : Int) (mo_list : Nat → Int) (K : (Nat → Int) → (Nat → Int) → (Nat → Int) → Prop) : Prop :=
  (∃ f70 : Nat, twl_mo_brackets_4 (fun (y52_mo_partner : Nat → Int) (y53_mo_list : Nat → Int) =>
  (∃ f69 : Nat, twl_mo_brackets_160 (fun (y68_mo_type : Nat → Int) =>
    K y68_mo_type y52_mo_partner y53_mo_list) mo_pair y52_mo_partner mo_n mo_seq mo_mark mo_beginning mo_embedding y53_mo_list f69 0 mo_type)) mo_pair mo_type mo_n mo_seq mo_mark mo_beginning mo_embedding f70 0 0 mo_partner mo_list)
set_option maxRecDepth 100000 in
set_option maxHeartbeats 4000000 in
theorem twc_mo_brackets {l : Launch} {D : va_G} {ad : Nat → Nat} {cI cZ : ClassId} {Post : tw_P} {K : (Nat → Int) → (Nat → Int) → (Nat → Int) → Prop} {mo_base mo_measure mo_size mo_known mo_root mo_top mo_lostIsolates mo_lostEmbeddings mo_openIsolates mo_n mo_beginning mo_ending mo_embedding mo_lines : Int} {mo_kind mo_group mo_width mo_pair mo_level mo_type mo_resolved mo_partner mo_entry mo_override mo_isolate mo_seq mo_mark mo_list mo_starts mo_shownLevels mo_order : Nat → Int} (h : tww_mo_brackets mo_pair mo_type mo_partner mo_n mo_seq mo_mark mo_beginning mo_embedding mo_list K) (hK : ∀ (n_mo_type : Nat → Int) (n_mo_partner : Nat → Int) (n_mo_list : Nat → Int), K n_mo_type n_mo_partner n_mo_list → Post none (tw_mM mo_base mo_measure mo_size mo_kind mo_group mo_width mo_pair mo_known mo_root mo_level n_mo_type mo_resolved n_mo_partner mo_top mo_entry mo_override mo_isolate mo_lostIsolates mo_lostEmbeddings mo_openIsolates mo_n mo_seq mo_mark mo_beginning mo_ending mo_embedding n_mo_list mo_lines mo_starts mo_shownLevels mo_order)) : tw_ct (tw_YM l D ad cI cZ) twy_mo_brackets (Cond.code twy_mo_brackets prog_11_method_32_code 5 none :: tw_Wg) 3 [.inr 0] (tw_mM mo_base mo_measure mo_size mo_kind mo_group mo_width mo_pair mo_known mo_root mo_level mo_type mo_resolved mo_partner mo_top mo_entry mo_override mo_isolate mo_lostIsolates mo_lostEmbeddings mo_openIsolates mo_n mo_seq mo_mark mo_beginning mo_ending mo_embedding mo_list mo_lines mo_starts mo_shownLevels mo_order) Post := by
  refine tw_of (own := twR_mo) (L0 := [some (.inr 0), none, none, none, none]) (by decide) rfl rfl (Nat.le_of_ble_eq_true rfl) (fun Z hX => ?_)
  unfold tww_mo_brackets at h
  refine tw_iconst hX twd_mo_brackets_0 ⟨by decide, by decide⟩ ?_
  refine tw_istore_n (L' := [some (.inr 0), some (.inl 0), none, none, none]) hX twd_mo_brackets_1 rfl (by decide) rfl ?_
  refine tw_iconst hX twd_mo_brackets_2 ⟨by decide, by decide⟩ ?_
  refine tw_istore_n (L' := [some (.inr 0), some (.inl 0), some (.inl 0), none, none]) hX twd_mo_brackets_3 rfl (by decide) rfl ?_
  obtain ⟨f70, h⟩ := h
  refine twt_mo_brackets_4 hX (fun y52_mo_partner y53_mo_list h => ?_) f70 _ _ _ _ h
  refine tw_iconst hX twd_mo_brackets_158 ⟨by decide, by decide⟩ ?_
  refine tw_istore_n (L' := [some (.inr 0), none, some (.inl 0), none, none]) hX twd_mo_brackets_159 rfl (by decide) rfl ?_
  obtain ⟨f69, h⟩ := h
  refine twt_mo_brackets_160 hX (fun y68_mo_type h => ?_) f69 _ _ h
  exact tw_vret hX twd_mo_brackets_223 (hK _ _ _ h)
def twl_mo_neutral_12 (X36 : Int → Prop) (v1 : Int) (mo_type : Nat → Int) (mo_n : Int) (mo_seq : Nat → Int) (mo_beginning : Int) (mo_ending : Int) (mo_embedding : Int) : Nat → Int → Prop
  | 0, _ => False
  | f + 1, v2 =>
    ((mo_n ≤ v2 →
    X36 v2) ∧
    (¬ mo_n ≤ v2 →
    (two_mo_at v2 mo_type mo_seq) ∧ (((twr_mo_at v2 mo_type mo_seq) < 9 →
      X36 v2) ∧
      (¬ (twr_mo_at v2 mo_type mo_seq) < 9 →
      (tw_rg (v2 + 1)) ∧ twl_mo_neutral_12 X36 v1 mo_type mo_n mo_seq mo_beginning mo_ending mo_embedding f (v2 + 1)))))
set_option maxRecDepth 100000 in
set_option maxHeartbeats 4000000 in
theorem twt_mo_neutral_12 {l : Launch} {D : va_G} {ad : Nat → Nat} {cI cZ : ClassId} {Z : tw_Z} {Post : tw_P} {X36 : Int → Prop} {v1 : Int} {mo_base mo_measure mo_size mo_known mo_root mo_top mo_lostIsolates mo_lostEmbeddings mo_openIsolates mo_n mo_beginning mo_ending mo_embedding mo_lines : Int} {mo_kind mo_group mo_width mo_pair mo_level mo_type mo_resolved mo_partner mo_entry mo_override mo_isolate mo_seq mo_mark mo_list mo_starts mo_shownLevels mo_order : Nat → Int} (hX : tw_cx (tw_YM l D ad cI cZ) Z prog_11_method_35_code twR_mo tw_Wg none 2 6) (hX36 : ∀ (v2 : Int), X36 v2 → tw_rn (tw_YM l D ad cI cZ) Z Post 36 [some (.inr 0), some (.inl v1), some (.inl v2), none, none, none] [] (tw_mM mo_base mo_measure mo_size mo_kind mo_group mo_width mo_pair mo_known mo_root mo_level mo_type mo_resolved mo_partner mo_top mo_entry mo_override mo_isolate mo_lostIsolates mo_lostEmbeddings mo_openIsolates mo_n mo_seq mo_mark mo_beginning mo_ending mo_embedding mo_list mo_lines mo_starts mo_shownLevels mo_order)) : ∀ (f : Nat) (v2 : Int), twl_mo_neutral_12 X36 v1 mo_type mo_n mo_seq mo_beginning mo_ending mo_embedding f v2 → tw_rn (tw_YM l D ad cI cZ) Z Post 12 [some (.inr 0), some (.inl v1), some (.inl v2), none, none, none] [] (tw_mM mo_base mo_measure mo_size mo_kind mo_group mo_width mo_pair mo_known mo_root mo_level mo_type mo_resolved mo_partner mo_top mo_entry mo_override mo_isolate mo_lostIsolates mo_lostEmbeddings mo_openIsolates mo_n mo_seq mo_mark mo_beginning mo_ending mo_embedding mo_list mo_lines mo_starts mo_shownLevels mo_order) := by
  intro f
  induction f with
  | zero => intro v2 h; rw [twl_mo_neutral_12] at h; exact h.elim
  | succ f ih =>
    intro v2 h
    rw [twl_mo_neutral_12] at h
    refine tw_iload_n hX twd_mo_neutral_12 rfl rfl ?_
    refine tw_aload_n hX twd_mo_neutral_13 rfl rfl ?_
    refine tw_get (kf := 20) hX twd_mo_neutral_14 twin_mo rfl (by decide) tww_707 rfl rfl rfl ?_
    refine tw_icmp_ge hX twd_mo_neutral_17 rfl (fun q6 => ?_) (fun q6 => ?_)
    · have h := h.1 q6
      exact hX36 _ h
    · have h := h.2 q6
      refine tw_aload_n hX twd_mo_neutral_20 rfl rfl ?_
      refine tw_iload_n hX twd_mo_neutral_21 rfl rfl ?_
      obtain ⟨c1, h⟩ := h
      refine tw_callV (As := [.inl v2]) (n := 1) hX twd_mo_neutral_22 tw_good tww_905 tww_902 tww_904 tww_61 tww_86 twk_mo_at rfl rfl ⟨by decide, by decide⟩ rfl (Nat.le_of_ble_eq_true rfl) (twc_mo_at c1 (fun z2 e3 => ?_))
      subst e3
      change tw_rn (tw_YM l D ad cI cZ) Z Post 25 [some (.inr 0), some (.inl v1), some (.inl v2), none, none, none] [.inl (twr_mo_at v2 mo_type mo_seq)] (tw_mM mo_base mo_measure mo_size mo_kind mo_group mo_width mo_pair mo_known mo_root mo_level mo_type mo_resolved mo_partner mo_top mo_entry mo_override mo_isolate mo_lostIsolates mo_lostEmbeddings mo_openIsolates mo_n mo_seq mo_mark mo_beginning mo_ending mo_embedding mo_list mo_lines mo_starts mo_shownLevels mo_order)
      refine tw_bipush hX twd_mo_neutral_25 (by decide +kernel) ⟨by decide, by decide⟩ ?_
      refine tw_icmp_lt hX twd_mo_neutral_27 rfl (fun q5 => ?_) (fun q5 => ?_)
      · have h := h.1 q5
        exact hX36 _ h
      · have h := h.2 q5
        obtain ⟨c4, h⟩ := h
        refine tw_iinc (L' := [some (.inr 0), some (.inl v1), some (.inl (v2 + 1)), none, none, none]) hX twd_mo_neutral_30 rfl (by decide) c4 rfl ?_
        refine tw_goto hX twd_mo_neutral_33 rfl ?_
        exact ih _ h
def twl_mo_neutral_85 (X117 : (Nat → Int) → Prop) (v1 : Int) (v2 : Int) (v3 : Int) (v4 : Int) (mo_n : Int) (mo_seq : Nat → Int) (mo_beginning : Int) (mo_ending : Int) (mo_embedding : Int) : Nat → Int → (Nat → Int) → Prop
  | 0, _, _ => False
  | f + 1, v5, mo_type =>
    ((v2 ≤ v5 →
    X117 mo_type) ∧
    (¬ v2 ≤ v5 →
    (∀ x25 : Int, x25 = (if v3 = v4 then v3 else mo_embedding) →
      (two_mo_set v5 x25 mo_type mo_seq) ∧ (tw_rg (v5 + 1)) ∧ twl_mo_neutral_85 X117 v1 v2 v3 v4 mo_n mo_seq mo_beginning mo_ending mo_embedding f (v5 + 1) (twu_mo_set__mo_type v5 x25 mo_type mo_seq))))
set_option maxRecDepth 100000 in
set_option maxHeartbeats 4000000 in
theorem twt_mo_neutral_85 {l : Launch} {D : va_G} {ad : Nat → Nat} {cI cZ : ClassId} {Z : tw_Z} {Post : tw_P} {X117 : (Nat → Int) → Prop} {v1 : Int} {v2 : Int} {v3 : Int} {v4 : Int} {mo_base mo_measure mo_size mo_known mo_root mo_top mo_lostIsolates mo_lostEmbeddings mo_openIsolates mo_n mo_beginning mo_ending mo_embedding mo_lines : Int} {mo_kind mo_group mo_width mo_pair mo_level mo_resolved mo_partner mo_entry mo_override mo_isolate mo_seq mo_mark mo_list mo_starts mo_shownLevels mo_order : Nat → Int} (hX : tw_cx (tw_YM l D ad cI cZ) Z prog_11_method_35_code twR_mo tw_Wg none 2 6) (hX117 : ∀ (mo_type : Nat → Int), X117 mo_type → tw_rn (tw_YM l D ad cI cZ) Z Post 117 [some (.inr 0), some (.inl v1), some (.inl v2), none, none, none] [] (tw_mM mo_base mo_measure mo_size mo_kind mo_group mo_width mo_pair mo_known mo_root mo_level mo_type mo_resolved mo_partner mo_top mo_entry mo_override mo_isolate mo_lostIsolates mo_lostEmbeddings mo_openIsolates mo_n mo_seq mo_mark mo_beginning mo_ending mo_embedding mo_list mo_lines mo_starts mo_shownLevels mo_order)) : ∀ (f : Nat) (v5 : Int) (mo_type : Nat → Int), twl_mo_neutral_85 X117 v1 v2 v3 v4 mo_n mo_seq mo_beginning mo_ending mo_embedding f v5 mo_type → tw_rn (tw_YM l D ad cI cZ) Z Post 85 [some (.inr 0), some (.inl v1), some (.inl v2), some (.inl v3), some (.inl v4), some (.inl v5)] [] (tw_mM mo_base mo_measure mo_size mo_kind mo_group mo_width mo_pair mo_known mo_root mo_level mo_type mo_resolved mo_partner mo_top mo_entry mo_override mo_isolate mo_lostIsolates mo_lostEmbeddings mo_openIsolates mo_n mo_seq mo_mark mo_beginning mo_ending mo_embedding mo_list mo_lines mo_starts mo_shownLevels mo_order) := by
  intro f
  induction f with
  | zero => intro v5 mo_type h; rw [twl_mo_neutral_85] at h; exact h.elim
  | succ f ih =>
    intro v5 mo_type h
    rw [twl_mo_neutral_85] at h
    refine tw_iload hX twd_mo_neutral_85 rfl ?_
    refine tw_iload_n hX twd_mo_neutral_87 rfl rfl ?_
    refine tw_icmp_ge hX twd_mo_neutral_88 rfl (fun q34 => ?_) (fun q34 => ?_)
    · have h := h.1 q34
      refine tw_wk (L' := [some (.inr 0), some (.inl v1), some (.inl v2), none, none, none]) (tw_le_s (tw_le_s (tw_le_s (tw_le_n (tw_le_n (tw_le_n tw_le_0)))))) ?_
      exact hX117 _ h
    · have h := h.2 q34
      refine tw_aload_n hX twd_mo_neutral_91 rfl rfl ?_
      refine tw_iload hX twd_mo_neutral_92 rfl ?_
      refine tw_iload_n hX twd_mo_neutral_94 rfl rfl ?_
      refine tw_iload hX twd_mo_neutral_95 rfl ?_
      have j31 : ∀ x25 : Int, x25 = (if v3 = v4 then v3 else mo_embedding) → tw_rn (tw_YM l D ad cI cZ) Z Post 108 [some (.inr 0), some (.inl v1), some (.inl v2), some (.inl v3), some (.inl v4), some (.inl v5)] [.inl x25, .inl v5, .inr 0] (tw_mM mo_base mo_measure mo_size mo_kind mo_group mo_width mo_pair mo_known mo_root mo_level mo_type mo_resolved mo_partner mo_top mo_entry mo_override mo_isolate mo_lostIsolates mo_lostEmbeddings mo_openIsolates mo_n mo_seq mo_mark mo_beginning mo_ending mo_embedding mo_list mo_lines mo_starts mo_shownLevels mo_order) := by
        intro x25 e32
        have h := h x25 e32
        obtain ⟨c26, h⟩ := h
        refine tw_callV (As := [.inl v5, .inl x25]) (n := 2) hX twd_mo_neutral_108 tw_good tww_909 tww_906 tww_908 tww_62 tww_86 twk_mo_set rfl rfl ⟨by decide, by decide⟩ rfl (Nat.le_of_ble_eq_true rfl) (twc_mo_set c26 (fun w28 e29 => ?_))
        subst e29
        change tw_rn (tw_YM l D ad cI cZ) Z Post 111 [some (.inr 0), some (.inl v1), some (.inl v2), some (.inl v3), some (.inl v4), some (.inl v5)] [] (tw_mM mo_base mo_measure mo_size mo_kind mo_group mo_width mo_pair mo_known mo_root mo_level (twu_mo_set__mo_type v5 x25 mo_type mo_seq) mo_resolved mo_partner mo_top mo_entry mo_override mo_isolate mo_lostIsolates mo_lostEmbeddings mo_openIsolates mo_n mo_seq mo_mark mo_beginning mo_ending mo_embedding mo_list mo_lines mo_starts mo_shownLevels mo_order)
        obtain ⟨c30, h⟩ := h
        refine tw_iinc (L' := [some (.inr 0), some (.inl v1), some (.inl v2), some (.inl v3), some (.inl v4), some (.inl (v5 + 1))]) hX twd_mo_neutral_111 rfl (by decide) c30 rfl ?_
        refine tw_goto hX twd_mo_neutral_114 rfl ?_
        exact ih _ _ h
      refine tw_icmp_ne hX twd_mo_neutral_97 rfl (fun q33 => ?_) (fun q33 => ?_)
      · have _tw := trivial
        refine tw_aload_n hX twd_mo_neutral_104 rfl rfl ?_
        refine tw_get (kf := 25) hX twd_mo_neutral_105 twin_mo rfl (by decide) tww_712 rfl rfl rfl ?_
        exact j31 _ (Eq.symm (if_neg q33))
      · have _tw := trivial
        refine tw_iload_n hX twd_mo_neutral_100 rfl rfl ?_
        refine tw_goto hX twd_mo_neutral_101 rfl ?_
        exact j31 _ (Eq.symm (if_pos q33))
def twl_mo_neutral_2 (X133 : (Nat → Int) → Prop) (mo_n : Int) (mo_seq : Nat → Int) (mo_beginning : Int) (mo_ending : Int) (mo_embedding : Int) : Nat → Int → (Nat → Int) → Prop
  | 0, _, _ => False
  | f + 1, v1, mo_type =>
    ((mo_n ≤ v1 →
    X133 mo_type) ∧
    (¬ mo_n ≤ v1 →
    (∃ f46 : Nat, twl_mo_neutral_12 (fun (y7 : Int) =>
      (∀ J9 : (Nat → Int) → Prop, (∀ (x_8_mo_type : Nat → Int), ((((y7 ≤ v1 → ((tw_rg (v1 + 1))))) ∧
          (∀ x11 : Int, x11 = (if y7 ≤ v1 then (v1 + 1) else y7) →
          twl_mo_neutral_2 X133 mo_n mo_seq mo_beginning mo_ending mo_embedding f x11 x_8_mo_type))) → J9 x_8_mo_type) →
        ((y7 ≤ v1 →
        J9 mo_type) ∧
        (¬ y7 ≤ v1 →
        (((¬ v1 = 0 → ((tw_rg (v1 - 1)) ∧ (two_mo_strong (v1 - 1) mo_type mo_seq)))) ∧
          (∀ x20 : Int, x20 = (if v1 = 0 then mo_beginning else (twr_mo_strong (v1 - 1) mo_type mo_seq)) →
          (((¬ y7 = mo_n → ((two_mo_strong y7 mo_type mo_seq)))) ∧
            (∀ x24 : Int, x24 = (if y7 = mo_n then mo_ending else (twr_mo_strong y7 mo_type mo_seq)) →
            (∃ f36 : Nat, twl_mo_neutral_85 (fun (y35_mo_type : Nat → Int) =>
              J9 y35_mo_type) v1 y7 x20 x24 mo_n mo_seq mo_beginning mo_ending mo_embedding f36 v1 mo_type))))))))) v1 mo_type mo_n mo_seq mo_beginning mo_ending mo_embedding f46 v1)))
set_option maxRecDepth 100000 in
set_option maxHeartbeats 4000000 in
theorem twt_mo_neutral_2 {l : Launch} {D : va_G} {ad : Nat → Nat} {cI cZ : ClassId} {Z : tw_Z} {Post : tw_P} {X133 : (Nat → Int) → Prop} {mo_base mo_measure mo_size mo_known mo_root mo_top mo_lostIsolates mo_lostEmbeddings mo_openIsolates mo_n mo_beginning mo_ending mo_embedding mo_lines : Int} {mo_kind mo_group mo_width mo_pair mo_level mo_resolved mo_partner mo_entry mo_override mo_isolate mo_seq mo_mark mo_list mo_starts mo_shownLevels mo_order : Nat → Int} (hX : tw_cx (tw_YM l D ad cI cZ) Z prog_11_method_35_code twR_mo tw_Wg none 2 6) (hX133 : ∀ (mo_type : Nat → Int), X133 mo_type → tw_rn (tw_YM l D ad cI cZ) Z Post 133 [none, none, none, none, none, none] [] (tw_mM mo_base mo_measure mo_size mo_kind mo_group mo_width mo_pair mo_known mo_root mo_level mo_type mo_resolved mo_partner mo_top mo_entry mo_override mo_isolate mo_lostIsolates mo_lostEmbeddings mo_openIsolates mo_n mo_seq mo_mark mo_beginning mo_ending mo_embedding mo_list mo_lines mo_starts mo_shownLevels mo_order)) : ∀ (f : Nat) (v1 : Int) (mo_type : Nat → Int), twl_mo_neutral_2 X133 mo_n mo_seq mo_beginning mo_ending mo_embedding f v1 mo_type → tw_rn (tw_YM l D ad cI cZ) Z Post 2 [some (.inr 0), some (.inl v1), none, none, none, none] [] (tw_mM mo_base mo_measure mo_size mo_kind mo_group mo_width mo_pair mo_known mo_root mo_level mo_type mo_resolved mo_partner mo_top mo_entry mo_override mo_isolate mo_lostIsolates mo_lostEmbeddings mo_openIsolates mo_n mo_seq mo_mark mo_beginning mo_ending mo_embedding mo_list mo_lines mo_starts mo_shownLevels mo_order) := by
  intro f
  induction f with
  | zero => intro v1 mo_type h; rw [twl_mo_neutral_2] at h; exact h.elim
  | succ f ih =>
    intro v1 mo_type h
    rw [twl_mo_neutral_2] at h
    refine tw_iload_n hX twd_mo_neutral_2 rfl rfl ?_
    refine tw_aload_n hX twd_mo_neutral_3 rfl rfl ?_
    refine tw_get (kf := 20) hX twd_mo_neutral_4 twin_mo rfl (by decide) tww_707 rfl rfl rfl ?_
    refine tw_icmp_ge hX twd_mo_neutral_7 rfl (fun q47 => ?_) (fun q47 => ?_)
    · have h := h.1 q47
      refine tw_wk (L' := [none, none, none, none, none, none]) (tw_le_n (tw_le_n (tw_le_n (tw_le_n (tw_le_n (tw_le_n tw_le_0)))))) ?_
      exact hX133 _ h
    · have h := h.2 q47
      refine tw_iload_n hX twd_mo_neutral_10 rfl rfl ?_
      refine tw_istore_n (L' := [some (.inr 0), some (.inl v1), some (.inl v1), none, none, none]) hX twd_mo_neutral_11 rfl (by decide) rfl ?_
      obtain ⟨f46, h⟩ := h
      refine twt_mo_neutral_12 hX (fun y7 h => ?_) f46 _ h
      refine tw_iload_n hX twd_mo_neutral_36 rfl rfl ?_
      refine tw_iload_n hX twd_mo_neutral_37 rfl rfl ?_
      have h := h (fun (x_8_mo_type : Nat → Int) => tw_rn (tw_YM l D ad cI cZ) Z Post 117 [some (.inr 0), some (.inl v1), some (.inl y7), none, none, none] [] (tw_mM mo_base mo_measure mo_size mo_kind mo_group mo_width mo_pair mo_known mo_root mo_level x_8_mo_type mo_resolved mo_partner mo_top mo_entry mo_override mo_isolate mo_lostIsolates mo_lostEmbeddings mo_openIsolates mo_n mo_seq mo_mark mo_beginning mo_ending mo_embedding mo_list mo_lines mo_starts mo_shownLevels mo_order)) (by
        intro x_8_mo_type h
        refine tw_iload_n hX twd_mo_neutral_117 rfl rfl ?_
        refine tw_iload_n hX twd_mo_neutral_118 rfl rfl ?_
        obtain ⟨o12, h⟩ := h
        have j13 : ∀ x11 : Int, x11 = (if y7 ≤ v1 then (v1 + 1) else y7) → tw_rn (tw_YM l D ad cI cZ) Z Post 129 [some (.inr 0), none, none, none, none, none] [.inl x11] (tw_mM mo_base mo_measure mo_size mo_kind mo_group mo_width mo_pair mo_known mo_root mo_level x_8_mo_type mo_resolved mo_partner mo_top mo_entry mo_override mo_isolate mo_lostIsolates mo_lostEmbeddings mo_openIsolates mo_n mo_seq mo_mark mo_beginning mo_ending mo_embedding mo_list mo_lines mo_starts mo_shownLevels mo_order) := by
          intro x11 e14
          have h := h x11 e14
          refine tw_istore_n (L' := [some (.inr 0), some (.inl x11), none, none, none, none]) hX twd_mo_neutral_129 rfl (by decide) rfl ?_
          refine tw_goto hX twd_mo_neutral_130 rfl ?_
          exact ih _ _ h
        refine tw_icmp_le hX twd_mo_neutral_119 rfl (fun q15 => ?_) (fun q15 => ?_)
        · have _tw := trivial
          have o12 := o12 q15
          refine tw_iload_n hX twd_mo_neutral_126 rfl rfl ?_
          refine tw_iconst hX twd_mo_neutral_127 ⟨by decide, by decide⟩ ?_
          have c10 := o12
          refine tw_iadd hX twd_mo_neutral_128 c10 ?_
          refine tw_wk (L' := [some (.inr 0), none, none, none, none, none]) (tw_le_s (tw_le_n (tw_le_n (tw_le_n (tw_le_n (tw_le_n tw_le_0)))))) ?_
          exact j13 _ (Eq.symm (if_pos q15))
        · have _tw := trivial
          refine tw_iload_n hX twd_mo_neutral_122 rfl rfl ?_
          refine tw_goto hX twd_mo_neutral_123 rfl ?_
          refine tw_wk (L' := [some (.inr 0), none, none, none, none, none]) (tw_le_s (tw_le_n (tw_le_n (tw_le_n (tw_le_n (tw_le_n tw_le_0)))))) ?_
          exact j13 _ (Eq.symm (if_neg q15)))
      refine tw_icmp_le hX twd_mo_neutral_38 rfl (fun q45 => ?_) (fun q45 => ?_)
      · have h := h.1 q45
        exact h
      · have h := h.2 q45
        refine tw_iload_n hX twd_mo_neutral_41 rfl rfl ?_
        obtain ⟨o41, h⟩ := h
        have j42 : ∀ x20 : Int, x20 = (if v1 = 0 then mo_beginning else (twr_mo_strong (v1 - 1) mo_type mo_seq)) → tw_rn (tw_YM l D ad cI cZ) Z Post 59 [some (.inr 0), some (.inl v1), some (.inl y7), none, none, none] [.inl x20] (tw_mM mo_base mo_measure mo_size mo_kind mo_group mo_width mo_pair mo_known mo_root mo_level mo_type mo_resolved mo_partner mo_top mo_entry mo_override mo_isolate mo_lostIsolates mo_lostEmbeddings mo_openIsolates mo_n mo_seq mo_mark mo_beginning mo_ending mo_embedding mo_list mo_lines mo_starts mo_shownLevels mo_order) := by
          intro x20 e43
          have h := h x20 e43
          refine tw_istore_n (L' := [some (.inr 0), some (.inl v1), some (.inl y7), some (.inl x20), none, none]) hX twd_mo_neutral_59 rfl (by decide) rfl ?_
          refine tw_iload_n hX twd_mo_neutral_60 rfl rfl ?_
          refine tw_aload_n hX twd_mo_neutral_61 rfl rfl ?_
          refine tw_get (kf := 20) hX twd_mo_neutral_62 twin_mo rfl (by decide) tww_707 rfl rfl rfl ?_
          obtain ⟨o37, h⟩ := h
          have j38 : ∀ x24 : Int, x24 = (if y7 = mo_n then mo_ending else (twr_mo_strong y7 mo_type mo_seq)) → tw_rn (tw_YM l D ad cI cZ) Z Post 80 [some (.inr 0), some (.inl v1), some (.inl y7), some (.inl x20), none, none] [.inl x24] (tw_mM mo_base mo_measure mo_size mo_kind mo_group mo_width mo_pair mo_known mo_root mo_level mo_type mo_resolved mo_partner mo_top mo_entry mo_override mo_isolate mo_lostIsolates mo_lostEmbeddings mo_openIsolates mo_n mo_seq mo_mark mo_beginning mo_ending mo_embedding mo_list mo_lines mo_starts mo_shownLevels mo_order) := by
            intro x24 e39
            have h := h x24 e39
            refine tw_istore (L' := [some (.inr 0), some (.inl v1), some (.inl y7), some (.inl x20), some (.inl x24), none]) hX twd_mo_neutral_80 (by decide) rfl ?_
            refine tw_iload_n hX twd_mo_neutral_82 rfl rfl ?_
            refine tw_istore (L' := [some (.inr 0), some (.inl v1), some (.inl y7), some (.inl x20), some (.inl x24), some (.inl v1)]) hX twd_mo_neutral_83 (by decide) rfl ?_
            obtain ⟨f36, h⟩ := h
            refine twt_mo_neutral_85 hX (fun y35_mo_type h => ?_) f36 _ _ h
            exact h
          refine tw_icmp_ne hX twd_mo_neutral_65 rfl (fun q40 => ?_) (fun q40 => ?_)
          · have _tw := trivial
            have o37 := o37 q40
            refine tw_aload_n hX twd_mo_neutral_75 rfl rfl ?_
            refine tw_iload_n hX twd_mo_neutral_76 rfl rfl ?_
            have c21 := o37
            refine tw_callV (As := [.inl y7]) (n := 1) hX twd_mo_neutral_77 tw_good tww_925 tww_922 tww_924 tww_66 tww_86 twk_mo_strong rfl rfl ⟨by decide, by decide⟩ rfl (Nat.le_of_ble_eq_true rfl) (twc_mo_strong c21 (fun z22 e23 => ?_))
            subst e23
            change tw_rn (tw_YM l D ad cI cZ) Z Post 80 [some (.inr 0), some (.inl v1), some (.inl y7), some (.inl x20), none, none] [.inl (twr_mo_strong y7 mo_type mo_seq)] (tw_mM mo_base mo_measure mo_size mo_kind mo_group mo_width mo_pair mo_known mo_root mo_level mo_type mo_resolved mo_partner mo_top mo_entry mo_override mo_isolate mo_lostIsolates mo_lostEmbeddings mo_openIsolates mo_n mo_seq mo_mark mo_beginning mo_ending mo_embedding mo_list mo_lines mo_starts mo_shownLevels mo_order)
            exact j38 _ (Eq.symm (if_neg q40))
          · have _tw := trivial
            refine tw_aload_n hX twd_mo_neutral_68 rfl rfl ?_
            refine tw_get (kf := 24) hX twd_mo_neutral_69 twin_mo rfl (by decide) tww_711 rfl rfl rfl ?_
            refine tw_goto hX twd_mo_neutral_72 rfl ?_
            exact j38 _ (Eq.symm (if_pos q40))
        refine tw_if_ne hX twd_mo_neutral_42 rfl (fun q44 => ?_) (fun q44 => ?_)
        · have _tw := trivial
          have o41 := o41 q44
          refine tw_aload_n hX twd_mo_neutral_52 rfl rfl ?_
          refine tw_iload_n hX twd_mo_neutral_53 rfl rfl ?_
          refine tw_iconst hX twd_mo_neutral_54 ⟨by decide, by decide⟩ ?_
          obtain ⟨c16, o41⟩ := o41
          refine tw_isub hX twd_mo_neutral_55 c16 ?_
          have c17 := o41
          refine tw_callV (As := [.inl (v1 - 1)]) (n := 1) hX twd_mo_neutral_56 tw_good tww_925 tww_922 tww_924 tww_66 tww_86 twk_mo_strong rfl rfl ⟨by decide, by decide⟩ rfl (Nat.le_of_ble_eq_true rfl) (twc_mo_strong c17 (fun z18 e19 => ?_))
          subst e19
          change tw_rn (tw_YM l D ad cI cZ) Z Post 59 [some (.inr 0), some (.inl v1), some (.inl y7), none, none, none] [.inl (twr_mo_strong (v1 - 1) mo_type mo_seq)] (tw_mM mo_base mo_measure mo_size mo_kind mo_group mo_width mo_pair mo_known mo_root mo_level mo_type mo_resolved mo_partner mo_top mo_entry mo_override mo_isolate mo_lostIsolates mo_lostEmbeddings mo_openIsolates mo_n mo_seq mo_mark mo_beginning mo_ending mo_embedding mo_list mo_lines mo_starts mo_shownLevels mo_order)
          exact j42 _ (Eq.symm (if_neg q44))
        · have _tw := trivial
          refine tw_aload_n hX twd_mo_neutral_45 rfl rfl ?_
          refine tw_get (kf := 23) hX twd_mo_neutral_46 twin_mo rfl (by decide) tww_710 rfl rfl rfl ?_
          refine tw_goto hX twd_mo_neutral_49 rfl ?_
          exact j42 _ (Eq.symm (if_pos q44))
def tww_mo_neutral (mo_type : Nat → Int) (mo_n : Int) (mo_seq : Nat → Int) (mo_beginning : Int) (mo_ending : Int) (mo_embedding : Int) (K : (Nat → Int) → Prop) : Prop :=
  (∃ f49 : Nat, twl_mo_neutral_2 (fun (y48_mo_type : Nat → Int) =>
  K y48_mo_type) mo_n mo_seq mo_beginning mo_ending mo_embedding f49 0 mo_type)
set_option maxRecDepth 100000 in
set_option maxHeartbeats 4000000 in
theorem twc_mo_neutral {l : Launch} {D : va_G} {ad : Nat → Nat} {cI cZ : ClassId} {Post : tw_P} {K : (Nat → Int) → Prop} {mo_base mo_measure mo_size mo_known mo_root mo_top mo_lostIsolates mo_lostEmbeddings mo_openIsolates mo_n mo_beginning mo_ending mo_embedding mo_lines : Int} {mo_kind mo_group mo_width mo_pair mo_level mo_type mo_resolved mo_partner mo_entry mo_override mo_isolate mo_seq mo_mark mo_list mo_starts mo_shownLevels mo_order : Nat → Int} (h : tww_mo_neutral mo_type mo_n mo_seq mo_beginning mo_ending mo_embedding K) (hK : ∀ (n_mo_type : Nat → Int), K n_mo_type → Post none (tw_mM mo_base mo_measure mo_size mo_kind mo_group mo_width mo_pair mo_known mo_root mo_level n_mo_type mo_resolved mo_partner mo_top mo_entry mo_override mo_isolate mo_lostIsolates mo_lostEmbeddings mo_openIsolates mo_n mo_seq mo_mark mo_beginning mo_ending mo_embedding mo_list mo_lines mo_starts mo_shownLevels mo_order)) : tw_ct (tw_YM l D ad cI cZ) twy_mo_neutral (Cond.code twy_mo_neutral prog_11_method_35_code 6 none :: tw_Wg) 2 [.inr 0] (tw_mM mo_base mo_measure mo_size mo_kind mo_group mo_width mo_pair mo_known mo_root mo_level mo_type mo_resolved mo_partner mo_top mo_entry mo_override mo_isolate mo_lostIsolates mo_lostEmbeddings mo_openIsolates mo_n mo_seq mo_mark mo_beginning mo_ending mo_embedding mo_list mo_lines mo_starts mo_shownLevels mo_order) Post := by
  refine tw_of (own := twR_mo) (L0 := [some (.inr 0), none, none, none, none, none]) (by decide) rfl rfl (Nat.le_of_ble_eq_true rfl) (fun Z hX => ?_)
  unfold tww_mo_neutral at h
  refine tw_iconst hX twd_mo_neutral_0 ⟨by decide, by decide⟩ ?_
  refine tw_istore_n (L' := [some (.inr 0), some (.inl 0), none, none, none, none]) hX twd_mo_neutral_1 rfl (by decide) rfl ?_
  obtain ⟨f49, h⟩ := h
  refine twt_mo_neutral_2 hX (fun y48_mo_type h => ?_) f49 _ _ h
  exact tw_vret hX twd_mo_neutral_133 (hK _ h)
def twl_mo_sequences_54 (X113 : Int → (Nat → Int) → Prop) (v1 : Int) (mo_size : Int) (mo_kind : Nat → Int) (mo_pair : Nat → Int) (mo_root : Int) (mo_level : Nat → Int) (mo_type : Nat → Int) (mo_partner : Nat → Int) (mo_mark : Nat → Int) (mo_beginning : Int) (mo_ending : Int) (mo_embedding : Int) (mo_list : Nat → Int) : Nat → Int → Int → Int → (Nat → Int) → Prop
  | 0, _, _, _, _ => False
  | f + 1, v2, v3, mo_n, mo_seq =>
    ((64 ≤ v3 →
    X113 mo_n mo_seq) ∧
    (¬ 64 ≤ v3 →
    ((v2 < 0 →
      X113 mo_n mo_seq) ∧
      (¬ v2 < 0 →
      tww_mo_addRun v2 mo_size mo_kind mo_level mo_n mo_seq (fun m_18_mo_n m_19_mo_seq =>
        (tw_rg (m_18_mo_n - 1)) ∧ (0 ≤ (m_18_mo_n - 1) ∧ (m_18_mo_n - 1) < 64) ∧ (two_mo_opener (m_19_mo_seq (Int.toNat (m_18_mo_n - 1))) mo_kind) ∧ (∀ J28 : Int → Int → (Nat → Int) → Prop, (∀ (x25 : Int) (x_26_mo_n : Int) (x_27_mo_seq : Nat → Int), ((tw_rg (v3 + 1)) ∧ twl_mo_sequences_54 X113 v1 mo_size mo_kind mo_pair mo_root mo_level mo_type mo_partner mo_mark mo_beginning mo_ending mo_embedding mo_list f x25 (v3 + 1) x_26_mo_n x_27_mo_seq) → J28 x25 x_26_mo_n x_27_mo_seq) →
        (((twr_mo_opener (m_19_mo_seq (Int.toNat (m_18_mo_n - 1))) mo_kind) = 0 →
        J28 (-1) m_18_mo_n m_19_mo_seq) ∧
        (¬ (twr_mo_opener (m_19_mo_seq (Int.toNat (m_18_mo_n - 1))) mo_kind) = 0 →
        (tw_rg (m_18_mo_n - 1)) ∧ (0 ≤ (m_18_mo_n - 1) ∧ (m_18_mo_n - 1) < 64) ∧ tww_mo_closing (m_19_mo_seq (Int.toNat (m_18_mo_n - 1))) mo_size mo_kind (fun z32 =>
          J28 z32 m_18_mo_n m_19_mo_seq)))))))))
set_option maxRecDepth 100000 in
set_option maxHeartbeats 4000000 in
theorem twt_mo_sequences_54 {l : Launch} {D : va_G} {ad : Nat → Nat} {cI cZ : ClassId} {Z : tw_Z} {Post : tw_P} {X113 : Int → (Nat → Int) → Prop} {v1 : Int} {mo_base mo_measure mo_size mo_known mo_root mo_top mo_lostIsolates mo_lostEmbeddings mo_openIsolates mo_beginning mo_ending mo_embedding mo_lines : Int} {mo_kind mo_group mo_width mo_pair mo_level mo_type mo_resolved mo_partner mo_entry mo_override mo_isolate mo_mark mo_list mo_starts mo_shownLevels mo_order : Nat → Int} (hX : tw_cx (tw_YM l D ad cI cZ) Z prog_11_method_25_code twR_mo tw_Wg none 4 4) (hX113 : ∀ (mo_n : Int) (mo_seq : Nat → Int), X113 mo_n mo_seq → tw_rn (tw_YM l D ad cI cZ) Z Post 113 [some (.inr 0), some (.inl v1), none, none] [] (tw_mM mo_base mo_measure mo_size mo_kind mo_group mo_width mo_pair mo_known mo_root mo_level mo_type mo_resolved mo_partner mo_top mo_entry mo_override mo_isolate mo_lostIsolates mo_lostEmbeddings mo_openIsolates mo_n mo_seq mo_mark mo_beginning mo_ending mo_embedding mo_list mo_lines mo_starts mo_shownLevels mo_order)) : ∀ (f : Nat) (v2 : Int) (v3 : Int) (mo_n : Int) (mo_seq : Nat → Int), twl_mo_sequences_54 X113 v1 mo_size mo_kind mo_pair mo_root mo_level mo_type mo_partner mo_mark mo_beginning mo_ending mo_embedding mo_list f v2 v3 mo_n mo_seq → tw_rn (tw_YM l D ad cI cZ) Z Post 54 [some (.inr 0), some (.inl v1), some (.inl v2), some (.inl v3)] [] (tw_mM mo_base mo_measure mo_size mo_kind mo_group mo_width mo_pair mo_known mo_root mo_level mo_type mo_resolved mo_partner mo_top mo_entry mo_override mo_isolate mo_lostIsolates mo_lostEmbeddings mo_openIsolates mo_n mo_seq mo_mark mo_beginning mo_ending mo_embedding mo_list mo_lines mo_starts mo_shownLevels mo_order) := by
  intro f
  induction f with
  | zero => intro v2 v3 mo_n mo_seq h; rw [twl_mo_sequences_54] at h; exact h.elim
  | succ f ih =>
    intro v2 v3 mo_n mo_seq h
    rw [twl_mo_sequences_54] at h
    refine tw_iload_n hX twd_mo_sequences_54 rfl rfl ?_
    refine tw_bipush hX twd_mo_sequences_55 (by decide +kernel) ⟨by decide, by decide⟩ ?_
    refine tw_icmp_ge hX twd_mo_sequences_57 rfl (fun q35 => ?_) (fun q35 => ?_)
    · have h := h.1 q35
      refine tw_wk (L' := [some (.inr 0), some (.inl v1), none, none]) (tw_le_s (tw_le_s (tw_le_n (tw_le_n tw_le_0)))) ?_
      exact hX113 _ _ h
    · have h := h.2 q35
      refine tw_iload_n hX twd_mo_sequences_60 rfl rfl ?_
      refine tw_if_lt hX twd_mo_sequences_61 rfl (fun q34 => ?_) (fun q34 => ?_)
      · have h := h.1 q34
        refine tw_wk (L' := [some (.inr 0), some (.inl v1), none, none]) (tw_le_s (tw_le_s (tw_le_n (tw_le_n tw_le_0)))) ?_
        exact hX113 _ _ h
      · have h := h.2 q34
        refine tw_aload_n hX twd_mo_sequences_64 rfl rfl ?_
        refine tw_iload_n hX twd_mo_sequences_65 rfl rfl ?_
        refine tw_callV (As := [.inl v2]) (n := 1) hX twd_mo_sequences_66 tw_good tww_893 tww_890 tww_892 tww_58 tww_86 twk_mo_addRun rfl rfl ⟨by decide, by decide⟩ rfl (Nat.le_of_ble_eq_true rfl) (twc_mo_addRun h (fun m_18_mo_n m_19_mo_seq h => ?_))
        change tw_rn (tw_YM l D ad cI cZ) Z Post 69 [some (.inr 0), some (.inl v1), some (.inl v2), some (.inl v3)] [] (tw_mM mo_base mo_measure mo_size mo_kind mo_group mo_width mo_pair mo_known mo_root mo_level mo_type mo_resolved mo_partner mo_top mo_entry mo_override mo_isolate mo_lostIsolates mo_lostEmbeddings mo_openIsolates m_18_mo_n m_19_mo_seq mo_mark mo_beginning mo_ending mo_embedding mo_list mo_lines mo_starts mo_shownLevels mo_order)
        refine tw_aload_n hX twd_mo_sequences_69 rfl rfl ?_
        refine tw_aload_n hX twd_mo_sequences_70 rfl rfl ?_
        refine tw_get (kf := 21) hX twd_mo_sequences_71 twin_mo rfl (by decide) tww_708 rfl rfl rfl ?_
        refine tw_aload_n hX twd_mo_sequences_74 rfl rfl ?_
        refine tw_get (kf := 20) hX twd_mo_sequences_75 twin_mo rfl (by decide) tww_707 rfl rfl rfl ?_
        refine tw_iconst hX twd_mo_sequences_78 ⟨by decide, by decide⟩ ?_
        obtain ⟨c20, h⟩ := h
        refine tw_isub hX twd_mo_sequences_79 c20 ?_
        obtain ⟨c21, h⟩ := h
        refine tw_iaload hX twd_mo_sequences_80 rfl c21 ?_
        obtain ⟨c22, h⟩ := h
        refine tw_callV (As := [.inl (m_19_mo_seq (Int.toNat (m_18_mo_n - 1)))]) (n := 1) hX twd_mo_sequences_81 tw_good tww_812 tww_809 tww_811 tww_40 tww_86 twk_mo_opener rfl rfl ⟨by decide, by decide⟩ rfl (Nat.le_of_ble_eq_true rfl) (twc_mo_opener c22 (fun z23 e24 => ?_))
        subst e24
        change tw_rn (tw_YM l D ad cI cZ) Z Post 84 [some (.inr 0), some (.inl v1), some (.inl v2), some (.inl v3)] [.inl (twr_mo_opener (m_19_mo_seq (Int.toNat (m_18_mo_n - 1))) mo_kind)] (tw_mM mo_base mo_measure mo_size mo_kind mo_group mo_width mo_pair mo_known mo_root mo_level mo_type mo_resolved mo_partner mo_top mo_entry mo_override mo_isolate mo_lostIsolates mo_lostEmbeddings mo_openIsolates m_18_mo_n m_19_mo_seq mo_mark mo_beginning mo_ending mo_embedding mo_list mo_lines mo_starts mo_shownLevels mo_order)
        have h := h (fun (x25 : Int) (x_26_mo_n : Int) (x_27_mo_seq : Nat → Int) => tw_rn (tw_YM l D ad cI cZ) Z Post 106 [some (.inr 0), some (.inl v1), none, some (.inl v3)] [.inl x25] (tw_mM mo_base mo_measure mo_size mo_kind mo_group mo_width mo_pair mo_known mo_root mo_level mo_type mo_resolved mo_partner mo_top mo_entry mo_override mo_isolate mo_lostIsolates mo_lostEmbeddings mo_openIsolates x_26_mo_n x_27_mo_seq mo_mark mo_beginning mo_ending mo_embedding mo_list mo_lines mo_starts mo_shownLevels mo_order)) (by
          intro x25 x_26_mo_n x_27_mo_seq h
          refine tw_istore_n (L' := [some (.inr 0), some (.inl v1), some (.inl x25), some (.inl v3)]) hX twd_mo_sequences_106 rfl (by decide) rfl ?_
          obtain ⟨c29, h⟩ := h
          refine tw_iinc (L' := [some (.inr 0), some (.inl v1), some (.inl x25), some (.inl (v3 + 1))]) hX twd_mo_sequences_107 rfl (by decide) c29 rfl ?_
          refine tw_goto hX twd_mo_sequences_110 rfl ?_
          exact ih _ _ _ _ h)
        refine tw_if_eq hX twd_mo_sequences_84 rfl (fun q33 => ?_) (fun q33 => ?_)
        · have h := h.1 q33
          refine tw_iconst hX twd_mo_sequences_105 ⟨by decide, by decide⟩ ?_
          refine tw_wk (L' := [some (.inr 0), some (.inl v1), none, some (.inl v3)]) (tw_le_s (tw_le_s (tw_le_n (tw_le_s tw_le_0)))) ?_
          exact h
        · have h := h.2 q33
          refine tw_aload_n hX twd_mo_sequences_87 rfl rfl ?_
          refine tw_aload_n hX twd_mo_sequences_88 rfl rfl ?_
          refine tw_get (kf := 21) hX twd_mo_sequences_89 twin_mo rfl (by decide) tww_708 rfl rfl rfl ?_
          refine tw_aload_n hX twd_mo_sequences_92 rfl rfl ?_
          refine tw_get (kf := 20) hX twd_mo_sequences_93 twin_mo rfl (by decide) tww_707 rfl rfl rfl ?_
          refine tw_iconst hX twd_mo_sequences_96 ⟨by decide, by decide⟩ ?_
          obtain ⟨c30, h⟩ := h
          refine tw_isub hX twd_mo_sequences_97 c30 ?_
          obtain ⟨c31, h⟩ := h
          refine tw_iaload hX twd_mo_sequences_98 rfl c31 ?_
          refine tw_callV (As := [.inl (m_19_mo_seq (Int.toNat (m_18_mo_n - 1)))]) (n := 1) hX twd_mo_sequences_99 tw_good tww_816 tww_813 tww_815 tww_41 tww_86 twk_mo_closing rfl rfl ⟨by decide, by decide⟩ rfl (Nat.le_of_ble_eq_true rfl) (twc_mo_closing h (fun z32 h => ?_))
          change tw_rn (tw_YM l D ad cI cZ) Z Post 102 [some (.inr 0), some (.inl v1), some (.inl v2), some (.inl v3)] [.inl z32] (tw_mM mo_base mo_measure mo_size mo_kind mo_group mo_width mo_pair mo_known mo_root mo_level mo_type mo_resolved mo_partner mo_top mo_entry mo_override mo_isolate mo_lostIsolates mo_lostEmbeddings mo_openIsolates m_18_mo_n m_19_mo_seq mo_mark mo_beginning mo_ending mo_embedding mo_list mo_lines mo_starts mo_shownLevels mo_order)
          refine tw_goto hX twd_mo_sequences_102 rfl ?_
          refine tw_wk (L' := [some (.inr 0), some (.inl v1), none, some (.inl v3)]) (tw_le_s (tw_le_s (tw_le_n (tw_le_s tw_le_0)))) ?_
          exact h
def twl_mo_sequences_2 (X135 : (Nat → Int) → (Nat → Int) → Int → (Nat → Int) → (Nat → Int) → Int → Int → Int → (Nat → Int) → Prop) (mo_size : Int) (mo_kind : Nat → Int) (mo_pair : Nat → Int) (mo_root : Int) (mo_level : Nat → Int) : Nat → Int → (Nat → Int) → (Nat → Int) → Int → (Nat → Int) → (Nat → Int) → Int → Int → Int → (Nat → Int) → Prop
  | 0, _, _, _, _, _, _, _, _, _, _ => False
  | f + 1, v1, mo_type, mo_partner, mo_n, mo_seq, mo_mark, mo_beginning, mo_ending, mo_embedding, mo_list =>
    ((mo_size ≤ v1 →
    X135 mo_type mo_partner mo_n mo_seq mo_mark mo_beginning mo_ending mo_embedding mo_list) ∧
    (¬ mo_size ≤ v1 →
    (two_mo_hidden v1 mo_kind) ∧ (∀ J13 : (Nat → Int) → (Nat → Int) → Int → (Nat → Int) → (Nat → Int) → Int → Int → Int → (Nat → Int) → Prop, (∀ (x_4_mo_type : Nat → Int) (x_5_mo_partner : Nat → Int) (x_6_mo_n : Int) (x_7_mo_seq : Nat → Int) (x_8_mo_mark : Nat → Int) (x_9_mo_beginning : Int) (x_10_mo_ending : Int) (x_11_mo_embedding : Int) (x_12_mo_list : Nat → Int), ((tw_rg (v1 + 1)) ∧ twl_mo_sequences_2 X135 mo_size mo_kind mo_pair mo_root mo_level f (v1 + 1) x_4_mo_type x_5_mo_partner x_6_mo_n x_7_mo_seq x_8_mo_mark x_9_mo_beginning x_10_mo_ending x_11_mo_embedding x_12_mo_list) → J13 x_4_mo_type x_5_mo_partner x_6_mo_n x_7_mo_seq x_8_mo_mark x_9_mo_beginning x_10_mo_ending x_11_mo_embedding x_12_mo_list) →
      (((twr_mo_hidden v1 mo_kind) = 0 →
      tww_mo_beginsRun v1 mo_size mo_kind mo_level (fun z15 =>
        ((z15 = 0 →
        J13 mo_type mo_partner mo_n mo_seq mo_mark mo_beginning mo_ending mo_embedding mo_list) ∧
        (¬ z15 = 0 →
        (0 ≤ v1 ∧ v1 < 64) ∧ (∀ J17 : Prop, (((∃ f47 : Nat, twl_mo_sequences_54 (fun (y36_mo_n : Int) (y37_mo_seq : Nat → Int) =>
            tww_mo_bounds mo_size mo_kind mo_root mo_level y36_mo_n y37_mo_seq mo_beginning mo_ending mo_embedding (fun m_38_mo_beginning m_39_mo_ending m_40_mo_embedding =>
              tww_mo_weak mo_type y36_mo_n y37_mo_seq mo_mark m_38_mo_beginning (fun m_41_mo_type m_42_mo_mark =>
              tww_mo_brackets mo_pair m_41_mo_type mo_partner y36_mo_n y37_mo_seq m_42_mo_mark m_38_mo_beginning m_40_mo_embedding mo_list (fun m_43_mo_type m_44_mo_partner m_45_mo_list =>
              tww_mo_neutral m_43_mo_type y36_mo_n y37_mo_seq m_38_mo_beginning m_39_mo_ending m_40_mo_embedding (fun m_46_mo_type =>
              J13 m_46_mo_type m_44_mo_partner y36_mo_n y37_mo_seq m_42_mo_mark m_38_mo_beginning m_39_mo_ending m_40_mo_embedding m_45_mo_list))))) v1 mo_size mo_kind mo_pair mo_root mo_level mo_type mo_partner mo_mark mo_beginning mo_ending mo_embedding mo_list f47 v1 0 0 mo_seq)) → J17) →
          (((mo_kind (Int.toNat v1)) = 20 →
          tww_mo_match v1 mo_size mo_kind (fun z48 =>
            ((0 ≤ z48 →
            J13 mo_type mo_partner mo_n mo_seq mo_mark mo_beginning mo_ending mo_embedding mo_list) ∧
            (¬ 0 ≤ z48 →
            J17)))) ∧
          (¬ (mo_kind (Int.toNat v1)) = 20 →
          J17))))))) ∧
      (¬ (twr_mo_hidden v1 mo_kind) = 0 →
      J13 mo_type mo_partner mo_n mo_seq mo_mark mo_beginning mo_ending mo_embedding mo_list)))))
set_option maxRecDepth 100000 in
set_option maxHeartbeats 4000000 in
theorem twt_mo_sequences_2 {l : Launch} {D : va_G} {ad : Nat → Nat} {cI cZ : ClassId} {Z : tw_Z} {Post : tw_P} {X135 : (Nat → Int) → (Nat → Int) → Int → (Nat → Int) → (Nat → Int) → Int → Int → Int → (Nat → Int) → Prop} {mo_base mo_measure mo_size mo_known mo_root mo_top mo_lostIsolates mo_lostEmbeddings mo_openIsolates mo_lines : Int} {mo_kind mo_group mo_width mo_pair mo_level mo_resolved mo_entry mo_override mo_isolate mo_starts mo_shownLevels mo_order : Nat → Int} (hX : tw_cx (tw_YM l D ad cI cZ) Z prog_11_method_25_code twR_mo tw_Wg none 4 4) (hX135 : ∀ (mo_type : Nat → Int) (mo_partner : Nat → Int) (mo_n : Int) (mo_seq : Nat → Int) (mo_mark : Nat → Int) (mo_beginning : Int) (mo_ending : Int) (mo_embedding : Int) (mo_list : Nat → Int), X135 mo_type mo_partner mo_n mo_seq mo_mark mo_beginning mo_ending mo_embedding mo_list → tw_rn (tw_YM l D ad cI cZ) Z Post 135 [none, none, none, none] [] (tw_mM mo_base mo_measure mo_size mo_kind mo_group mo_width mo_pair mo_known mo_root mo_level mo_type mo_resolved mo_partner mo_top mo_entry mo_override mo_isolate mo_lostIsolates mo_lostEmbeddings mo_openIsolates mo_n mo_seq mo_mark mo_beginning mo_ending mo_embedding mo_list mo_lines mo_starts mo_shownLevels mo_order)) : ∀ (f : Nat) (v1 : Int) (mo_type : Nat → Int) (mo_partner : Nat → Int) (mo_n : Int) (mo_seq : Nat → Int) (mo_mark : Nat → Int) (mo_beginning : Int) (mo_ending : Int) (mo_embedding : Int) (mo_list : Nat → Int), twl_mo_sequences_2 X135 mo_size mo_kind mo_pair mo_root mo_level f v1 mo_type mo_partner mo_n mo_seq mo_mark mo_beginning mo_ending mo_embedding mo_list → tw_rn (tw_YM l D ad cI cZ) Z Post 2 [some (.inr 0), some (.inl v1), none, none] [] (tw_mM mo_base mo_measure mo_size mo_kind mo_group mo_width mo_pair mo_known mo_root mo_level mo_type mo_resolved mo_partner mo_top mo_entry mo_override mo_isolate mo_lostIsolates mo_lostEmbeddings mo_openIsolates mo_n mo_seq mo_mark mo_beginning mo_ending mo_embedding mo_list mo_lines mo_starts mo_shownLevels mo_order) := by
  intro f
  induction f with
  | zero => intro v1 mo_type mo_partner mo_n mo_seq mo_mark mo_beginning mo_ending mo_embedding mo_list h; rw [twl_mo_sequences_2] at h; exact h.elim
  | succ f ih =>
    intro v1 mo_type mo_partner mo_n mo_seq mo_mark mo_beginning mo_ending mo_embedding mo_list h
    rw [twl_mo_sequences_2] at h
    refine tw_iload_n hX twd_mo_sequences_2 rfl rfl ?_
    refine tw_aload_n hX twd_mo_sequences_3 rfl rfl ?_
    refine tw_get (kf := 2) hX twd_mo_sequences_4 twin_mo rfl (by decide) tww_689 rfl rfl rfl ?_
    refine tw_icmp_ge hX twd_mo_sequences_7 rfl (fun q53 => ?_) (fun q53 => ?_)
    · have h := h.1 q53
      refine tw_wk (L' := [none, none, none, none]) (tw_le_n (tw_le_n (tw_le_n (tw_le_n tw_le_0)))) ?_
      exact hX135 _ _ _ _ _ _ _ _ _ h
    · have h := h.2 q53
      refine tw_aload_n hX twd_mo_sequences_10 rfl rfl ?_
      refine tw_iload_n hX twd_mo_sequences_11 rfl rfl ?_
      obtain ⟨c1, h⟩ := h
      refine tw_callV (As := [.inl v1]) (n := 1) hX twd_mo_sequences_12 tw_good tww_880 tww_877 tww_879 tww_55 tww_86 twk_mo_hidden rfl rfl ⟨by decide, by decide⟩ rfl (Nat.le_of_ble_eq_true rfl) (twc_mo_hidden c1 (fun z2 e3 => ?_))
      subst e3
      change tw_rn (tw_YM l D ad cI cZ) Z Post 15 [some (.inr 0), some (.inl v1), none, none] [.inl (twr_mo_hidden v1 mo_kind)] (tw_mM mo_base mo_measure mo_size mo_kind mo_group mo_width mo_pair mo_known mo_root mo_level mo_type mo_resolved mo_partner mo_top mo_entry mo_override mo_isolate mo_lostIsolates mo_lostEmbeddings mo_openIsolates mo_n mo_seq mo_mark mo_beginning mo_ending mo_embedding mo_list mo_lines mo_starts mo_shownLevels mo_order)
      have h := h (fun (x_4_mo_type : Nat → Int) (x_5_mo_partner : Nat → Int) (x_6_mo_n : Int) (x_7_mo_seq : Nat → Int) (x_8_mo_mark : Nat → Int) (x_9_mo_beginning : Int) (x_10_mo_ending : Int) (x_11_mo_embedding : Int) (x_12_mo_list : Nat → Int) => tw_rn (tw_YM l D ad cI cZ) Z Post 129 [some (.inr 0), some (.inl v1), none, none] [] (tw_mM mo_base mo_measure mo_size mo_kind mo_group mo_width mo_pair mo_known mo_root mo_level x_4_mo_type mo_resolved x_5_mo_partner mo_top mo_entry mo_override mo_isolate mo_lostIsolates mo_lostEmbeddings mo_openIsolates x_6_mo_n x_7_mo_seq x_8_mo_mark x_9_mo_beginning x_10_mo_ending x_11_mo_embedding x_12_mo_list mo_lines mo_starts mo_shownLevels mo_order)) (by
        intro x_4_mo_type x_5_mo_partner x_6_mo_n x_7_mo_seq x_8_mo_mark x_9_mo_beginning x_10_mo_ending x_11_mo_embedding x_12_mo_list h
        obtain ⟨c14, h⟩ := h
        refine tw_iinc (L' := [some (.inr 0), some (.inl (v1 + 1)), none, none]) hX twd_mo_sequences_129 rfl (by decide) c14 rfl ?_
        refine tw_goto hX twd_mo_sequences_132 rfl ?_
        exact ih _ _ _ _ _ _ _ _ _ _ h)
      refine tw_if_ne hX twd_mo_sequences_15 rfl (fun q52 => ?_) (fun q52 => ?_)
      · have h := h.2 q52
        exact h
      · have h := h.1 q52
        refine tw_aload_n hX twd_mo_sequences_18 rfl rfl ?_
        refine tw_iload_n hX twd_mo_sequences_19 rfl rfl ?_
        refine tw_callV (As := [.inl v1]) (n := 1) hX twd_mo_sequences_20 tw_good tww_884 tww_881 tww_883 tww_56 tww_86 twk_mo_beginsRun rfl rfl ⟨by decide, by decide⟩ rfl (Nat.le_of_ble_eq_true rfl) (twc_mo_beginsRun h (fun z15 h => ?_))
        change tw_rn (tw_YM l D ad cI cZ) Z Post 23 [some (.inr 0), some (.inl v1), none, none] [.inl z15] (tw_mM mo_base mo_measure mo_size mo_kind mo_group mo_width mo_pair mo_known mo_root mo_level mo_type mo_resolved mo_partner mo_top mo_entry mo_override mo_isolate mo_lostIsolates mo_lostEmbeddings mo_openIsolates mo_n mo_seq mo_mark mo_beginning mo_ending mo_embedding mo_list mo_lines mo_starts mo_shownLevels mo_order)
        refine tw_if_eq hX twd_mo_sequences_23 rfl (fun q51 => ?_) (fun q51 => ?_)
        · have h := h.1 q51
          exact h
        · have h := h.2 q51
          refine tw_aload_n hX twd_mo_sequences_26 rfl rfl ?_
          refine tw_get (kf := 3) hX twd_mo_sequences_27 twin_mo rfl (by decide) tww_690 rfl rfl rfl ?_
          refine tw_iload_n hX twd_mo_sequences_30 rfl rfl ?_
          obtain ⟨c16, h⟩ := h
          refine tw_iaload hX twd_mo_sequences_31 rfl c16 ?_
          refine tw_bipush hX twd_mo_sequences_32 (by decide +kernel) ⟨by decide, by decide⟩ ?_
          have h := h (tw_rn (tw_YM l D ad cI cZ) Z Post 45 [some (.inr 0), some (.inl v1), none, none] [] (tw_mM mo_base mo_measure mo_size mo_kind mo_group mo_width mo_pair mo_known mo_root mo_level mo_type mo_resolved mo_partner mo_top mo_entry mo_override mo_isolate mo_lostIsolates mo_lostEmbeddings mo_openIsolates mo_n mo_seq mo_mark mo_beginning mo_ending mo_embedding mo_list mo_lines mo_starts mo_shownLevels mo_order)) (by
            intro  h
            refine tw_aload_n hX twd_mo_sequences_45 rfl rfl ?_
            refine tw_iconst hX twd_mo_sequences_46 ⟨by decide, by decide⟩ ?_
            refine tw_put (kf := 20) (mem' := (tw_mM mo_base mo_measure mo_size mo_kind mo_group mo_width mo_pair mo_known mo_root mo_level mo_type mo_resolved mo_partner mo_top mo_entry mo_override mo_isolate mo_lostIsolates mo_lostEmbeddings mo_openIsolates 0 mo_seq mo_mark mo_beginning mo_ending mo_embedding mo_list mo_lines mo_starts mo_shownLevels mo_order)) twt_mo hX twd_mo_sequences_47 twin_mo twtok_mo twnm_mo rfl (by decide) tww_707 rfl rfl rfl (Or.inl rfl) rfl (Nat.le_of_ble_eq_true rfl) rfl ?_
            refine tw_iload_n hX twd_mo_sequences_50 rfl rfl ?_
            refine tw_istore_n (L' := [some (.inr 0), some (.inl v1), some (.inl v1), none]) hX twd_mo_sequences_51 rfl (by decide) rfl ?_
            refine tw_iconst hX twd_mo_sequences_52 ⟨by decide, by decide⟩ ?_
            refine tw_istore_n (L' := [some (.inr 0), some (.inl v1), some (.inl v1), some (.inl 0)]) hX twd_mo_sequences_53 rfl (by decide) rfl ?_
            obtain ⟨f47, h⟩ := h
            refine twt_mo_sequences_54 hX (fun y36_mo_n y37_mo_seq h => ?_) f47 _ _ _ _ h
            refine tw_aload_n hX twd_mo_sequences_113 rfl rfl ?_
            refine tw_callV (As := []) (n := 0) hX twd_mo_sequences_114 tw_good tww_897 tww_894 tww_896 tww_59 tww_86 twk_mo_bounds rfl rfl ⟨by decide, by decide⟩ rfl (Nat.le_of_ble_eq_true rfl) (twc_mo_bounds h (fun m_38_mo_beginning m_39_mo_ending m_40_mo_embedding h => ?_))
            change tw_rn (tw_YM l D ad cI cZ) Z Post 117 [some (.inr 0), some (.inl v1), none, none] [] (tw_mM mo_base mo_measure mo_size mo_kind mo_group mo_width mo_pair mo_known mo_root mo_level mo_type mo_resolved mo_partner mo_top mo_entry mo_override mo_isolate mo_lostIsolates mo_lostEmbeddings mo_openIsolates y36_mo_n y37_mo_seq mo_mark m_38_mo_beginning m_39_mo_ending m_40_mo_embedding mo_list mo_lines mo_starts mo_shownLevels mo_order)
            refine tw_aload_n hX twd_mo_sequences_117 rfl rfl ?_
            refine tw_callV (As := []) (n := 0) hX twd_mo_sequences_118 tw_good tww_901 tww_898 tww_900 tww_60 tww_86 twk_mo_weak rfl rfl ⟨by decide, by decide⟩ rfl (Nat.le_of_ble_eq_true rfl) (twc_mo_weak h (fun m_41_mo_type m_42_mo_mark h => ?_))
            change tw_rn (tw_YM l D ad cI cZ) Z Post 121 [some (.inr 0), some (.inl v1), none, none] [] (tw_mM mo_base mo_measure mo_size mo_kind mo_group mo_width mo_pair mo_known mo_root mo_level m_41_mo_type mo_resolved mo_partner mo_top mo_entry mo_override mo_isolate mo_lostIsolates mo_lostEmbeddings mo_openIsolates y36_mo_n y37_mo_seq m_42_mo_mark m_38_mo_beginning m_39_mo_ending m_40_mo_embedding mo_list mo_lines mo_starts mo_shownLevels mo_order)
            refine tw_aload_n hX twd_mo_sequences_121 rfl rfl ?_
            refine tw_callV (As := []) (n := 0) hX twd_mo_sequences_122 tw_good tww_917 tww_914 tww_916 tww_64 tww_86 twk_mo_brackets rfl rfl ⟨by decide, by decide⟩ rfl (Nat.le_of_ble_eq_true rfl) (twc_mo_brackets h (fun m_43_mo_type m_44_mo_partner m_45_mo_list h => ?_))
            change tw_rn (tw_YM l D ad cI cZ) Z Post 125 [some (.inr 0), some (.inl v1), none, none] [] (tw_mM mo_base mo_measure mo_size mo_kind mo_group mo_width mo_pair mo_known mo_root mo_level m_43_mo_type mo_resolved m_44_mo_partner mo_top mo_entry mo_override mo_isolate mo_lostIsolates mo_lostEmbeddings mo_openIsolates y36_mo_n y37_mo_seq m_42_mo_mark m_38_mo_beginning m_39_mo_ending m_40_mo_embedding m_45_mo_list mo_lines mo_starts mo_shownLevels mo_order)
            refine tw_aload_n hX twd_mo_sequences_125 rfl rfl ?_
            refine tw_callV (As := []) (n := 0) hX twd_mo_sequences_126 tw_good tww_933 tww_930 tww_932 tww_68 tww_86 twk_mo_neutral rfl rfl ⟨by decide, by decide⟩ rfl (Nat.le_of_ble_eq_true rfl) (twc_mo_neutral h (fun m_46_mo_type h => ?_))
            change tw_rn (tw_YM l D ad cI cZ) Z Post 129 [some (.inr 0), some (.inl v1), none, none] [] (tw_mM mo_base mo_measure mo_size mo_kind mo_group mo_width mo_pair mo_known mo_root mo_level m_46_mo_type mo_resolved m_44_mo_partner mo_top mo_entry mo_override mo_isolate mo_lostIsolates mo_lostEmbeddings mo_openIsolates y36_mo_n y37_mo_seq m_42_mo_mark m_38_mo_beginning m_39_mo_ending m_40_mo_embedding m_45_mo_list mo_lines mo_starts mo_shownLevels mo_order)
            exact h)
          refine tw_icmp_ne hX twd_mo_sequences_34 rfl (fun q50 => ?_) (fun q50 => ?_)
          · have h := h.2 q50
            exact h
          · have h := h.1 q50
            refine tw_aload_n hX twd_mo_sequences_37 rfl rfl ?_
            refine tw_iload_n hX twd_mo_sequences_38 rfl rfl ?_
            refine tw_callV (As := [.inl v1]) (n := 1) hX twd_mo_sequences_39 tw_good tww_808 tww_889 tww_806 tww_807 tww_86 twk_mo_match rfl rfl ⟨by decide, by decide⟩ rfl (Nat.le_of_ble_eq_true rfl) (twc_mo_match h (fun z48 h => ?_))
            change tw_rn (tw_YM l D ad cI cZ) Z Post 42 [some (.inr 0), some (.inl v1), none, none] [.inl z48] (tw_mM mo_base mo_measure mo_size mo_kind mo_group mo_width mo_pair mo_known mo_root mo_level mo_type mo_resolved mo_partner mo_top mo_entry mo_override mo_isolate mo_lostIsolates mo_lostEmbeddings mo_openIsolates mo_n mo_seq mo_mark mo_beginning mo_ending mo_embedding mo_list mo_lines mo_starts mo_shownLevels mo_order)
            refine tw_if_ge hX twd_mo_sequences_42 rfl (fun q49 => ?_) (fun q49 => ?_)
            · have h := h.1 q49
              exact h
            · have h := h.2 q49
              exact h
def tww_mo_sequences (mo_size : Int) (mo_kind : Nat → Int) (mo_pair : Nat → Int) (mo_root : Int) (mo_level : Nat → Int) (mo_type : Nat → Int) (mo_partner : Nat → Int) (mo_n : Int) (mo_seq : Nat → Int) (mo_mark : Nat → Int) (mo_beginning : Int) (mo_ending : Int) (mo_embedding : Int) (mo_list : Nat → Int) (K : (Nat → Int) → (Nat → Int) → Int → (Nat → Int) → (Nat → Int) → Int → Int → Int → (Nat → Int) → Prop) : Prop :=
  (∃ f63 : Nat, twl_mo_sequences_2 (fun (y54_mo_type : Nat → Int) (y55_mo_partner : Nat → Int) (y56_mo_n : Int) (y57_mo_seq : Nat → Int) (y58_mo_mark : Nat → Int) (y59_mo_beginning : Int) (y60_mo_ending : Int) (y61_mo_embedding : Int) (y62_mo_list : Nat → Int) =>
  K y54_mo_type y55_mo_partner y56_mo_n y57_mo_seq y58_mo_mark y59_mo_beginning y60_mo_ending y61_mo_embedding y62_mo_list) mo_size mo_kind mo_pair mo_root mo_level f63 0 mo_type mo_partner mo_n mo_seq mo_mark mo_beginning mo_ending mo_embedding mo_list)
set_option maxRecDepth 100000 in
set_option maxHeartbeats 4000000 in
theorem twc_mo_sequences {l : Launch} {D : va_G} {ad : Nat → Nat} {cI cZ : ClassId} {Post : tw_P} {K : (Nat → Int) → (Nat → Int) → Int → (Nat → Int) → (Nat → Int) → Int → Int → Int → (Nat → Int) → Prop} {mo_base mo_measure mo_size mo_known mo_root mo_top mo_lostIsolates mo_lostEmbeddings mo_openIsolates mo_n mo_beginning mo_ending mo_embedding mo_lines : Int} {mo_kind mo_group mo_width mo_pair mo_level mo_type mo_resolved mo_partner mo_entry mo_override mo_isolate mo_seq mo_mark mo_list mo_starts mo_shownLevels mo_order : Nat → Int} (h : tww_mo_sequences mo_size mo_kind mo_pair mo_root mo_level mo_type mo_partner mo_n mo_seq mo_mark mo_beginning mo_ending mo_embedding mo_list K) (hK : ∀ (n_mo_type : Nat → Int) (n_mo_partner : Nat → Int) (n_mo_n : Int) (n_mo_seq : Nat → Int) (n_mo_mark : Nat → Int) (n_mo_beginning : Int) (n_mo_ending : Int) (n_mo_embedding : Int) (n_mo_list : Nat → Int), K n_mo_type n_mo_partner n_mo_n n_mo_seq n_mo_mark n_mo_beginning n_mo_ending n_mo_embedding n_mo_list → Post none (tw_mM mo_base mo_measure mo_size mo_kind mo_group mo_width mo_pair mo_known mo_root mo_level n_mo_type mo_resolved n_mo_partner mo_top mo_entry mo_override mo_isolate mo_lostIsolates mo_lostEmbeddings mo_openIsolates n_mo_n n_mo_seq n_mo_mark n_mo_beginning n_mo_ending n_mo_embedding n_mo_list mo_lines mo_starts mo_shownLevels mo_order)) : tw_ct (tw_YM l D ad cI cZ) twy_mo_sequences (Cond.code twy_mo_sequences prog_11_method_25_code 4 none :: tw_Wg) 4 [.inr 0] (tw_mM mo_base mo_measure mo_size mo_kind mo_group mo_width mo_pair mo_known mo_root mo_level mo_type mo_resolved mo_partner mo_top mo_entry mo_override mo_isolate mo_lostIsolates mo_lostEmbeddings mo_openIsolates mo_n mo_seq mo_mark mo_beginning mo_ending mo_embedding mo_list mo_lines mo_starts mo_shownLevels mo_order) Post := by
  refine tw_of (own := twR_mo) (L0 := [some (.inr 0), none, none, none]) (by decide) rfl rfl (Nat.le_of_ble_eq_true rfl) (fun Z hX => ?_)
  unfold tww_mo_sequences at h
  refine tw_iconst hX twd_mo_sequences_0 ⟨by decide, by decide⟩ ?_
  refine tw_istore_n (L' := [some (.inr 0), some (.inl 0), none, none]) hX twd_mo_sequences_1 rfl (by decide) rfl ?_
  obtain ⟨f63, h⟩ := h
  refine twt_mo_sequences_2 hX (fun y54_mo_type y55_mo_partner y56_mo_n y57_mo_seq y58_mo_mark y59_mo_beginning y60_mo_ending y61_mo_embedding y62_mo_list h => ?_) f63 _ _ _ _ _ _ _ _ _ _ h
  exact tw_vret hX twd_mo_sequences_135 (hK _ _ _ _ _ _ _ _ _ h)
def twl_mo_resolve_2 (X116 : (Nat → Int) → Prop) (mo_size : Int) (mo_kind : Nat → Int) (mo_root : Int) (mo_level : Nat → Int) (mo_type : Nat → Int) : Nat → Int → (Nat → Int) → Prop
  | 0, _, _ => False
  | f + 1, v1, mo_resolved =>
    ((mo_size ≤ v1 →
    X116 mo_resolved) ∧
    (¬ mo_size ≤ v1 →
    (0 ≤ v1 ∧ v1 < 64) ∧ (0 ≤ v1 ∧ v1 < 64) ∧ (0 ≤ (mo_level (Int.toNat v1))) ∧ (∀ x4 : Int, x4 = (if ((mo_level (Int.toNat v1)) % 2) = 0 then (if (mo_type (Int.toNat v1)) = 1 then 1 else (if (mo_type (Int.toNat v1)) = 3 then 2 else (if (mo_type (Int.toNat v1)) = 6 then 2 else 0))) else (if (mo_type (Int.toNat v1)) = 1 then 0 else 1)) →
      (two_mo_hidden v1 mo_kind) ∧ (((((twr_mo_hidden v1 mo_kind) = 0 → ((tw_rg ((mo_level (Int.toNat v1)) + x4)))) ∧ (¬ (twr_mo_hidden v1 mo_kind) = 0 → ((¬ v1 = 0 → ((tw_rg (v1 - 1)) ∧ (0 ≤ (v1 - 1) ∧ (v1 - 1) < 64))))))) ∧
        (∀ x11 : Int, x11 = (if (twr_mo_hidden v1 mo_kind) = 0 then ((mo_level (Int.toNat v1)) + x4) else (if v1 = 0 then mo_root else (mo_resolved (Int.toNat (v1 - 1))))) →
        (0 ≤ v1 ∧ v1 < 64) ∧ (tw_rg (v1 + 1)) ∧ twl_mo_resolve_2 X116 mo_size mo_kind mo_root mo_level mo_type f (v1 + 1) (tw_up mo_resolved (Int.toNat v1) x11))))))
set_option maxRecDepth 100000 in
set_option maxHeartbeats 4000000 in
theorem twt_mo_resolve_2 {l : Launch} {D : va_G} {ad : Nat → Nat} {cI cZ : ClassId} {Z : tw_Z} {Post : tw_P} {X116 : (Nat → Int) → Prop} {mo_base mo_measure mo_size mo_known mo_root mo_top mo_lostIsolates mo_lostEmbeddings mo_openIsolates mo_n mo_beginning mo_ending mo_embedding mo_lines : Int} {mo_kind mo_group mo_width mo_pair mo_level mo_type mo_partner mo_entry mo_override mo_isolate mo_seq mo_mark mo_list mo_starts mo_shownLevels mo_order : Nat → Int} (hX : tw_cx (tw_YM l D ad cI cZ) Z prog_11_method_36_code twR_mo tw_Wg none 1 5) (hX116 : ∀ (mo_resolved : Nat → Int), X116 mo_resolved → tw_rn (tw_YM l D ad cI cZ) Z Post 116 [none, none, none, none, none] [] (tw_mM mo_base mo_measure mo_size mo_kind mo_group mo_width mo_pair mo_known mo_root mo_level mo_type mo_resolved mo_partner mo_top mo_entry mo_override mo_isolate mo_lostIsolates mo_lostEmbeddings mo_openIsolates mo_n mo_seq mo_mark mo_beginning mo_ending mo_embedding mo_list mo_lines mo_starts mo_shownLevels mo_order)) : ∀ (f : Nat) (v1 : Int) (mo_resolved : Nat → Int), twl_mo_resolve_2 X116 mo_size mo_kind mo_root mo_level mo_type f v1 mo_resolved → tw_rn (tw_YM l D ad cI cZ) Z Post 2 [some (.inr 0), some (.inl v1), none, none, none] [] (tw_mM mo_base mo_measure mo_size mo_kind mo_group mo_width mo_pair mo_known mo_root mo_level mo_type mo_resolved mo_partner mo_top mo_entry mo_override mo_isolate mo_lostIsolates mo_lostEmbeddings mo_openIsolates mo_n mo_seq mo_mark mo_beginning mo_ending mo_embedding mo_list mo_lines mo_starts mo_shownLevels mo_order) := by
  intro f
  induction f with
  | zero => intro v1 mo_resolved h; rw [twl_mo_resolve_2] at h; exact h.elim
  | succ f ih =>
    intro v1 mo_resolved h
    rw [twl_mo_resolve_2] at h
    refine tw_iload_n hX twd_mo_resolve_2 rfl rfl ?_
    refine tw_aload_n hX twd_mo_resolve_3 rfl rfl ?_
    refine tw_get (kf := 2) hX twd_mo_resolve_4 twin_mo rfl (by decide) tww_689 rfl rfl rfl ?_
    refine tw_icmp_ge hX twd_mo_resolve_7 rfl (fun q26 => ?_) (fun q26 => ?_)
    · have h := h.1 q26
      refine tw_wk (L' := [none, none, none, none, none]) (tw_le_n (tw_le_n (tw_le_n (tw_le_n (tw_le_n tw_le_0))))) ?_
      exact hX116 _ h
    · have h := h.2 q26
      refine tw_aload_n hX twd_mo_resolve_10 rfl rfl ?_
      refine tw_get (kf := 10) hX twd_mo_resolve_11 twin_mo rfl (by decide) tww_697 rfl rfl rfl ?_
      refine tw_iload_n hX twd_mo_resolve_14 rfl rfl ?_
      obtain ⟨c1, h⟩ := h
      refine tw_iaload hX twd_mo_resolve_15 rfl c1 ?_
      refine tw_istore_n (L' := [some (.inr 0), some (.inl v1), some (.inl (mo_type (Int.toNat v1))), none, none]) hX twd_mo_resolve_16 rfl (by decide) rfl ?_
      refine tw_aload_n hX twd_mo_resolve_17 rfl rfl ?_
      refine tw_get (kf := 9) hX twd_mo_resolve_18 twin_mo rfl (by decide) tww_696 rfl rfl rfl ?_
      refine tw_iload_n hX twd_mo_resolve_21 rfl rfl ?_
      obtain ⟨c2, h⟩ := h
      refine tw_iaload hX twd_mo_resolve_22 rfl c2 ?_
      refine tw_istore_n (L' := [some (.inr 0), some (.inl v1), some (.inl (mo_type (Int.toNat v1))), some (.inl (mo_level (Int.toNat v1))), none]) hX twd_mo_resolve_23 rfl (by decide) rfl ?_
      refine tw_iload_n hX twd_mo_resolve_24 rfl rfl ?_
      refine tw_iconst hX twd_mo_resolve_25 ⟨by decide, by decide⟩ ?_
      obtain ⟨c3, h⟩ := h
      refine tw_irem hX twd_mo_resolve_26 c3 (by decide) ?_
      have j19 : ∀ x4 : Int, x4 = (if ((mo_level (Int.toNat v1)) % 2) = 0 then (if (mo_type (Int.toNat v1)) = 1 then 1 else (if (mo_type (Int.toNat v1)) = 3 then 2 else (if (mo_type (Int.toNat v1)) = 6 then 2 else 0))) else (if (mo_type (Int.toNat v1)) = 1 then 0 else 1)) → tw_rn (tw_YM l D ad cI cZ) Z Post 68 [some (.inr 0), some (.inl v1), none, some (.inl (mo_level (Int.toNat v1))), none] [.inl x4] (tw_mM mo_base mo_measure mo_size mo_kind mo_group mo_width mo_pair mo_known mo_root mo_level mo_type mo_resolved mo_partner mo_top mo_entry mo_override mo_isolate mo_lostIsolates mo_lostEmbeddings mo_openIsolates mo_n mo_seq mo_mark mo_beginning mo_ending mo_embedding mo_list mo_lines mo_starts mo_shownLevels mo_order) := by
        intro x4 e20
        have h := h x4 e20
        refine tw_istore (L' := [some (.inr 0), some (.inl v1), none, some (.inl (mo_level (Int.toNat v1))), some (.inl x4)]) hX twd_mo_resolve_68 (by decide) rfl ?_
        refine tw_aload_n hX twd_mo_resolve_70 rfl rfl ?_
        refine tw_get (kf := 11) hX twd_mo_resolve_71 twin_mo rfl (by decide) tww_698 rfl rfl rfl ?_
        refine tw_iload_n hX twd_mo_resolve_74 rfl rfl ?_
        refine tw_aload_n hX twd_mo_resolve_75 rfl rfl ?_
        refine tw_iload_n hX twd_mo_resolve_76 rfl rfl ?_
        obtain ⟨c5, h⟩ := h
        refine tw_callV (As := [.inl v1]) (n := 1) hX twd_mo_resolve_77 tw_good tww_880 tww_877 tww_879 tww_55 tww_86 twk_mo_hidden rfl rfl ⟨by decide, by decide⟩ rfl (Nat.le_of_ble_eq_true rfl) (twc_mo_hidden c5 (fun z6 e7 => ?_))
        subst e7
        change tw_rn (tw_YM l D ad cI cZ) Z Post 80 [some (.inr 0), some (.inl v1), none, some (.inl (mo_level (Int.toNat v1))), some (.inl x4)] [.inl (twr_mo_hidden v1 mo_kind), .inl v1, .inr 7] (tw_mM mo_base mo_measure mo_size mo_kind mo_group mo_width mo_pair mo_known mo_root mo_level mo_type mo_resolved mo_partner mo_top mo_entry mo_override mo_isolate mo_lostIsolates mo_lostEmbeddings mo_openIsolates mo_n mo_seq mo_mark mo_beginning mo_ending mo_embedding mo_list mo_lines mo_starts mo_shownLevels mo_order)
        obtain ⟨o14, h⟩ := h
        have j15 : ∀ x11 : Int, x11 = (if (twr_mo_hidden v1 mo_kind) = 0 then ((mo_level (Int.toNat v1)) + x4) else (if v1 = 0 then mo_root else (mo_resolved (Int.toNat (v1 - 1))))) → tw_rn (tw_YM l D ad cI cZ) Z Post 109 [some (.inr 0), some (.inl v1), none, none, none] [.inl x11, .inl v1, .inr 7] (tw_mM mo_base mo_measure mo_size mo_kind mo_group mo_width mo_pair mo_known mo_root mo_level mo_type mo_resolved mo_partner mo_top mo_entry mo_override mo_isolate mo_lostIsolates mo_lostEmbeddings mo_openIsolates mo_n mo_seq mo_mark mo_beginning mo_ending mo_embedding mo_list mo_lines mo_starts mo_shownLevels mo_order) := by
          intro x11 e16
          have h := h x11 e16
          obtain ⟨c12, h⟩ := h
          refine tw_iastore (mem' := (tw_mM mo_base mo_measure mo_size mo_kind mo_group mo_width mo_pair mo_known mo_root mo_level mo_type (tw_up mo_resolved (Int.toNat v1) x11) mo_partner mo_top mo_entry mo_override mo_isolate mo_lostIsolates mo_lostEmbeddings mo_openIsolates mo_n mo_seq mo_mark mo_beginning mo_ending mo_embedding mo_list mo_lines mo_starts mo_shownLevels mo_order)) hX twd_mo_resolve_109 rfl c12 rfl ?_
          obtain ⟨c13, h⟩ := h
          refine tw_iinc (L' := [some (.inr 0), some (.inl (v1 + 1)), none, none, none]) hX twd_mo_resolve_110 rfl (by decide) c13 rfl ?_
          refine tw_goto hX twd_mo_resolve_113 rfl ?_
          exact ih _ _ h
        refine tw_if_eq hX twd_mo_resolve_80 rfl (fun q17 => ?_) (fun q17 => ?_)
        · have _tw := trivial
          have o14 := o14.1 q17
          refine tw_iload_n hX twd_mo_resolve_105 rfl rfl ?_
          refine tw_iload hX twd_mo_resolve_106 rfl ?_
          have c8 := o14
          refine tw_iadd hX twd_mo_resolve_108 c8 ?_
          refine tw_wk (L' := [some (.inr 0), some (.inl v1), none, none, none]) (tw_le_s (tw_le_s (tw_le_n (tw_le_n (tw_le_n tw_le_0))))) ?_
          exact j15 _ (Eq.symm (if_pos q17))
        · have _tw := trivial
          have o14 := o14.2 q17
          refine tw_iload_n hX twd_mo_resolve_83 rfl rfl ?_
          refine tw_if_ne hX twd_mo_resolve_84 rfl (fun q18 => ?_) (fun q18 => ?_)
          · have _tw := trivial
            have o14 := o14 q18
            refine tw_aload_n hX twd_mo_resolve_94 rfl rfl ?_
            refine tw_get (kf := 11) hX twd_mo_resolve_95 twin_mo rfl (by decide) tww_698 rfl rfl rfl ?_
            refine tw_iload_n hX twd_mo_resolve_98 rfl rfl ?_
            refine tw_iconst hX twd_mo_resolve_99 ⟨by decide, by decide⟩ ?_
            obtain ⟨c9, o14⟩ := o14
            refine tw_isub hX twd_mo_resolve_100 c9 ?_
            have c10 := o14
            refine tw_iaload hX twd_mo_resolve_101 rfl c10 ?_
            refine tw_goto hX twd_mo_resolve_102 rfl ?_
            refine tw_wk (L' := [some (.inr 0), some (.inl v1), none, none, none]) (tw_le_s (tw_le_s (tw_le_n (tw_le_n (tw_le_n tw_le_0))))) ?_
            exact j15 _ (Eq.symm (Eq.trans (if_neg q17) (if_neg q18)))
          · have _tw := trivial
            refine tw_aload_n hX twd_mo_resolve_87 rfl rfl ?_
            refine tw_get (kf := 8) hX twd_mo_resolve_88 twin_mo rfl (by decide) tww_695 rfl rfl rfl ?_
            refine tw_goto hX twd_mo_resolve_91 rfl ?_
            refine tw_wk (L' := [some (.inr 0), some (.inl v1), none, none, none]) (tw_le_s (tw_le_s (tw_le_n (tw_le_n (tw_le_n tw_le_0))))) ?_
            exact j15 _ (Eq.symm (Eq.trans (if_neg q17) (if_pos q18)))
      refine tw_if_ne hX twd_mo_resolve_27 rfl (fun q21 => ?_) (fun q21 => ?_)
      · have _tw := trivial
        refine tw_iload_n hX twd_mo_resolve_58 rfl rfl ?_
        refine tw_iconst hX twd_mo_resolve_59 ⟨by decide, by decide⟩ ?_
        refine tw_icmp_ne hX twd_mo_resolve_60 rfl (fun q22 => ?_) (fun q22 => ?_)
        · have _tw := trivial
          refine tw_iconst hX twd_mo_resolve_67 ⟨by decide, by decide⟩ ?_
          refine tw_wk (L' := [some (.inr 0), some (.inl v1), none, some (.inl (mo_level (Int.toNat v1))), none]) (tw_le_s (tw_le_s (tw_le_n (tw_le_s (tw_le_n tw_le_0))))) ?_
          exact j19 _ (Eq.symm (Eq.trans (if_neg q21) (if_neg q22)))
        · have _tw := trivial
          refine tw_iconst hX twd_mo_resolve_63 ⟨by decide, by decide⟩ ?_
          refine tw_goto hX twd_mo_resolve_64 rfl ?_
          refine tw_wk (L' := [some (.inr 0), some (.inl v1), none, some (.inl (mo_level (Int.toNat v1))), none]) (tw_le_s (tw_le_s (tw_le_n (tw_le_s (tw_le_n tw_le_0))))) ?_
          exact j19 _ (Eq.symm (Eq.trans (if_neg q21) (if_pos q22)))
      · have _tw := trivial
        refine tw_iload_n hX twd_mo_resolve_30 rfl rfl ?_
        refine tw_iconst hX twd_mo_resolve_31 ⟨by decide, by decide⟩ ?_
        refine tw_icmp_ne hX twd_mo_resolve_32 rfl (fun q23 => ?_) (fun q23 => ?_)
        · have _tw := trivial
          refine tw_iload_n hX twd_mo_resolve_39 rfl rfl ?_
          refine tw_iconst hX twd_mo_resolve_40 ⟨by decide, by decide⟩ ?_
          refine tw_icmp_eq hX twd_mo_resolve_41 rfl (fun q24 => ?_) (fun q24 => ?_)
          · have _tw := trivial
            refine tw_iconst hX twd_mo_resolve_50 ⟨by decide, by decide⟩ ?_
            refine tw_goto hX twd_mo_resolve_51 rfl ?_
            refine tw_wk (L' := [some (.inr 0), some (.inl v1), none, some (.inl (mo_level (Int.toNat v1))), none]) (tw_le_s (tw_le_s (tw_le_n (tw_le_s (tw_le_n tw_le_0))))) ?_
            exact j19 _ (Eq.symm (Eq.trans (if_pos q21) (Eq.trans (if_neg q23) (if_pos q24))))
          · have _tw := trivial
            refine tw_iload_n hX twd_mo_resolve_44 rfl rfl ?_
            refine tw_bipush hX twd_mo_resolve_45 (by decide +kernel) ⟨by decide, by decide⟩ ?_
            refine tw_icmp_ne hX twd_mo_resolve_47 rfl (fun q25 => ?_) (fun q25 => ?_)
            · have _tw := trivial
              refine tw_iconst hX twd_mo_resolve_54 ⟨by decide, by decide⟩ ?_
              refine tw_goto hX twd_mo_resolve_55 rfl ?_
              refine tw_wk (L' := [some (.inr 0), some (.inl v1), none, some (.inl (mo_level (Int.toNat v1))), none]) (tw_le_s (tw_le_s (tw_le_n (tw_le_s (tw_le_n tw_le_0))))) ?_
              exact j19 _ (Eq.symm (Eq.trans (if_pos q21) (Eq.trans (if_neg q23) (Eq.trans (if_neg q24) (if_neg q25)))))
            · have _tw := trivial
              refine tw_iconst hX twd_mo_resolve_50 ⟨by decide, by decide⟩ ?_
              refine tw_goto hX twd_mo_resolve_51 rfl ?_
              refine tw_wk (L' := [some (.inr 0), some (.inl v1), none, some (.inl (mo_level (Int.toNat v1))), none]) (tw_le_s (tw_le_s (tw_le_n (tw_le_s (tw_le_n tw_le_0))))) ?_
              exact j19 _ (Eq.symm (Eq.trans (if_pos q21) (Eq.trans (if_neg q23) (Eq.trans (if_neg q24) (if_pos q25)))))
        · have _tw := trivial
          refine tw_iconst hX twd_mo_resolve_35 ⟨by decide, by decide⟩ ?_
          refine tw_goto hX twd_mo_resolve_36 rfl ?_
          refine tw_wk (L' := [some (.inr 0), some (.inl v1), none, some (.inl (mo_level (Int.toNat v1))), none]) (tw_le_s (tw_le_s (tw_le_n (tw_le_s (tw_le_n tw_le_0))))) ?_
          exact j19 _ (Eq.symm (Eq.trans (if_pos q21) (if_pos q23)))
def tww_mo_resolve (mo_size : Int) (mo_kind : Nat → Int) (mo_root : Int) (mo_level : Nat → Int) (mo_type : Nat → Int) (mo_resolved : Nat → Int) (K : (Nat → Int) → Prop) : Prop :=
  (∃ f28 : Nat, twl_mo_resolve_2 (fun (y27_mo_resolved : Nat → Int) =>
  K y27_mo_resolved) mo_size mo_kind mo_root mo_level mo_type f28 0 mo_resolved)
set_option maxRecDepth 100000 in
set_option maxHeartbeats 4000000 in
theorem twc_mo_resolve {l : Launch} {D : va_G} {ad : Nat → Nat} {cI cZ : ClassId} {Post : tw_P} {K : (Nat → Int) → Prop} {mo_base mo_measure mo_size mo_known mo_root mo_top mo_lostIsolates mo_lostEmbeddings mo_openIsolates mo_n mo_beginning mo_ending mo_embedding mo_lines : Int} {mo_kind mo_group mo_width mo_pair mo_level mo_type mo_resolved mo_partner mo_entry mo_override mo_isolate mo_seq mo_mark mo_list mo_starts mo_shownLevels mo_order : Nat → Int} (h : tww_mo_resolve mo_size mo_kind mo_root mo_level mo_type mo_resolved K) (hK : ∀ (n_mo_resolved : Nat → Int), K n_mo_resolved → Post none (tw_mM mo_base mo_measure mo_size mo_kind mo_group mo_width mo_pair mo_known mo_root mo_level mo_type n_mo_resolved mo_partner mo_top mo_entry mo_override mo_isolate mo_lostIsolates mo_lostEmbeddings mo_openIsolates mo_n mo_seq mo_mark mo_beginning mo_ending mo_embedding mo_list mo_lines mo_starts mo_shownLevels mo_order)) : tw_ct (tw_YM l D ad cI cZ) twy_mo_resolve (Cond.code twy_mo_resolve prog_11_method_36_code 5 none :: tw_Wg) 1 [.inr 0] (tw_mM mo_base mo_measure mo_size mo_kind mo_group mo_width mo_pair mo_known mo_root mo_level mo_type mo_resolved mo_partner mo_top mo_entry mo_override mo_isolate mo_lostIsolates mo_lostEmbeddings mo_openIsolates mo_n mo_seq mo_mark mo_beginning mo_ending mo_embedding mo_list mo_lines mo_starts mo_shownLevels mo_order) Post := by
  refine tw_of (own := twR_mo) (L0 := [some (.inr 0), none, none, none, none]) (by decide) rfl rfl (Nat.le_of_ble_eq_true rfl) (fun Z hX => ?_)
  unfold tww_mo_resolve at h
  refine tw_iconst hX twd_mo_resolve_0 ⟨by decide, by decide⟩ ?_
  refine tw_istore_n (L' := [some (.inr 0), some (.inl 0), none, none, none]) hX twd_mo_resolve_1 rfl (by decide) rfl ?_
  obtain ⟨f28, h⟩ := h
  refine twt_mo_resolve_2 hX (fun y27_mo_resolved h => ?_) f28 _ _ h
  exact tw_vret hX twd_mo_resolve_116 (hK _ h)
def twl_mo_groupOf_2 (X23 : Int → Prop) (mo_kind : Nat → Int) (mo_group : Nat → Int) : Nat → Int → Prop
  | 0, _ => False
  | f + 1, v2 =>
    ((v2 < 0 →
    X23 v2) ∧
    (¬ v2 < 0 →
    (0 ≤ v2 ∧ v2 < 64) ∧ (((mo_kind (Int.toNat v2)) = 8 →
      (tw_rg (v2 + -1)) ∧ twl_mo_groupOf_2 X23 mo_kind mo_group f (v2 + -1)) ∧
      (¬ (mo_kind (Int.toNat v2)) = 8 →
      X23 v2))))
set_option maxRecDepth 100000 in
set_option maxHeartbeats 4000000 in
theorem twt_mo_groupOf_2 {l : Launch} {D : va_G} {ad : Nat → Nat} {cI cZ : ClassId} {Z : tw_Z} {Post : tw_P} {X23 : Int → Prop} {mo_base mo_measure mo_size mo_known mo_root mo_top mo_lostIsolates mo_lostEmbeddings mo_openIsolates mo_n mo_beginning mo_ending mo_embedding mo_lines : Int} {mo_kind mo_group mo_width mo_pair mo_level mo_type mo_resolved mo_partner mo_entry mo_override mo_isolate mo_seq mo_mark mo_list mo_starts mo_shownLevels mo_order : Nat → Int} (hX : tw_cx (tw_YM l D ad cI cZ) Z prog_11_method_37_code twR_mo tw_Wg (some .int) 0 3) (hX23 : ∀ (v2 : Int), X23 v2 → tw_rn (tw_YM l D ad cI cZ) Z Post 23 [some (.inr 0), none, some (.inl v2)] [] (tw_mM mo_base mo_measure mo_size mo_kind mo_group mo_width mo_pair mo_known mo_root mo_level mo_type mo_resolved mo_partner mo_top mo_entry mo_override mo_isolate mo_lostIsolates mo_lostEmbeddings mo_openIsolates mo_n mo_seq mo_mark mo_beginning mo_ending mo_embedding mo_list mo_lines mo_starts mo_shownLevels mo_order)) : ∀ (f : Nat) (v2 : Int), twl_mo_groupOf_2 X23 mo_kind mo_group f v2 → tw_rn (tw_YM l D ad cI cZ) Z Post 2 [some (.inr 0), none, some (.inl v2)] [] (tw_mM mo_base mo_measure mo_size mo_kind mo_group mo_width mo_pair mo_known mo_root mo_level mo_type mo_resolved mo_partner mo_top mo_entry mo_override mo_isolate mo_lostIsolates mo_lostEmbeddings mo_openIsolates mo_n mo_seq mo_mark mo_beginning mo_ending mo_embedding mo_list mo_lines mo_starts mo_shownLevels mo_order) := by
  intro f
  induction f with
  | zero => intro v2 h; rw [twl_mo_groupOf_2] at h; exact h.elim
  | succ f ih =>
    intro v2 h
    rw [twl_mo_groupOf_2] at h
    refine tw_iload_n hX twd_mo_groupOf_2 rfl rfl ?_
    refine tw_if_lt hX twd_mo_groupOf_3 rfl (fun q4 => ?_) (fun q4 => ?_)
    · have h := h.1 q4
      exact hX23 _ h
    · have h := h.2 q4
      refine tw_aload_n hX twd_mo_groupOf_6 rfl rfl ?_
      refine tw_get (kf := 3) hX twd_mo_groupOf_7 twin_mo rfl (by decide) tww_690 rfl rfl rfl ?_
      refine tw_iload_n hX twd_mo_groupOf_10 rfl rfl ?_
      obtain ⟨c1, h⟩ := h
      refine tw_iaload hX twd_mo_groupOf_11 rfl c1 ?_
      refine tw_bipush hX twd_mo_groupOf_12 (by decide +kernel) ⟨by decide, by decide⟩ ?_
      refine tw_icmp_ne hX twd_mo_groupOf_14 rfl (fun q3 => ?_) (fun q3 => ?_)
      · have h := h.2 q3
        exact hX23 _ h
      · have h := h.1 q3
        obtain ⟨c2, h⟩ := h
        refine tw_iinc (L' := [some (.inr 0), none, some (.inl (v2 + -1))]) hX twd_mo_groupOf_17 rfl (by decide) c2 rfl ?_
        refine tw_goto hX twd_mo_groupOf_20 rfl ?_
        exact ih _ h
def tww_mo_groupOf (v1 : Int) (mo_kind : Nat → Int) (mo_group : Nat → Int) (K : Int → Prop) : Prop :=
  (∃ f8 : Nat, twl_mo_groupOf_2 (fun (y5 : Int) =>
  ((0 ≤ y5 →
    (0 ≤ y5 ∧ y5 < 64) ∧ K (mo_group (Int.toNat y5))) ∧
    (¬ 0 ≤ y5 →
    K 0))) mo_kind mo_group f8 v1)
set_option maxRecDepth 100000 in
set_option maxHeartbeats 4000000 in
theorem twc_mo_groupOf {l : Launch} {D : va_G} {ad : Nat → Nat} {cI cZ : ClassId} {Post : tw_P} {K : Int → Prop} {v1 : Int} {mo_base mo_measure mo_size mo_known mo_root mo_top mo_lostIsolates mo_lostEmbeddings mo_openIsolates mo_n mo_beginning mo_ending mo_embedding mo_lines : Int} {mo_kind mo_group mo_width mo_pair mo_level mo_type mo_resolved mo_partner mo_entry mo_override mo_isolate mo_seq mo_mark mo_list mo_starts mo_shownLevels mo_order : Nat → Int} (h : tww_mo_groupOf v1 mo_kind mo_group K) (hK : ∀ (z : Int), K z → Post (some z) (tw_mM mo_base mo_measure mo_size mo_kind mo_group mo_width mo_pair mo_known mo_root mo_level mo_type mo_resolved mo_partner mo_top mo_entry mo_override mo_isolate mo_lostIsolates mo_lostEmbeddings mo_openIsolates mo_n mo_seq mo_mark mo_beginning mo_ending mo_embedding mo_list mo_lines mo_starts mo_shownLevels mo_order)) : tw_ct (tw_YM l D ad cI cZ) twy_mo_groupOf (Cond.code twy_mo_groupOf prog_11_method_37_code 3 (some .int) :: tw_Wg) 0 [.inr 0, .inl v1] (tw_mM mo_base mo_measure mo_size mo_kind mo_group mo_width mo_pair mo_known mo_root mo_level mo_type mo_resolved mo_partner mo_top mo_entry mo_override mo_isolate mo_lostIsolates mo_lostEmbeddings mo_openIsolates mo_n mo_seq mo_mark mo_beginning mo_ending mo_embedding mo_list mo_lines mo_starts mo_shownLevels mo_order) Post := by
  refine tw_of (own := twR_mo) (L0 := [some (.inr 0), some (.inl v1), none]) (by decide) rfl rfl (Nat.le_of_ble_eq_true rfl) (fun Z hX => ?_)
  unfold tww_mo_groupOf at h
  refine tw_iload_n hX twd_mo_groupOf_0 rfl rfl ?_
  refine tw_istore_n (L' := [some (.inr 0), some (.inl v1), some (.inl v1)]) hX twd_mo_groupOf_1 rfl (by decide) rfl ?_
  obtain ⟨f8, h⟩ := h
  refine tw_wk (L' := [some (.inr 0), none, some (.inl v1)]) (tw_le_s (tw_le_n (tw_le_s tw_le_0))) ?_
  refine twt_mo_groupOf_2 hX (fun y5 h => ?_) f8 _ h
  refine tw_iload_n hX twd_mo_groupOf_23 rfl rfl ?_
  refine tw_if_ge hX twd_mo_groupOf_24 rfl (fun q7 => ?_) (fun q7 => ?_)
  · have h := h.1 q7
    refine tw_aload_n hX twd_mo_groupOf_31 rfl rfl ?_
    refine tw_get (kf := 4) hX twd_mo_groupOf_32 twin_mo rfl (by decide) tww_691 rfl rfl rfl ?_
    refine tw_iload_n hX twd_mo_groupOf_35 rfl rfl ?_
    obtain ⟨c6, h⟩ := h
    refine tw_iaload hX twd_mo_groupOf_36 rfl c6 ?_
    exact tw_ret hX twd_mo_groupOf_37 (hK _ h)
  · have h := h.2 q7
    refine tw_iconst hX twd_mo_groupOf_27 ⟨by decide, by decide⟩ ?_
    refine tw_goto hX twd_mo_groupOf_28 rfl ?_
    exact tw_ret hX twd_mo_groupOf_37 (hK _ h)
def twl_mo_mayBreak_45 (X66 : Int → Prop) (v2 : Int) (v3 : Int) (mo_size : Int) (mo_kind : Nat → Int) (mo_group : Nat → Int) : Nat → Int → Prop
  | 0, _ => False
  | f + 1, v4 =>
    ((v4 < 0 →
    X66 v4) ∧
    (¬ v4 < 0 →
    tww_mo_groupOf v4 mo_kind mo_group (fun z6 =>
      ((z6 = 1 →
      (tw_rg (v4 + -1)) ∧ twl_mo_mayBreak_45 X66 v2 v3 mo_size mo_kind mo_group f (v4 + -1)) ∧
      (¬ z6 = 1 →
      X66 v4)))))
set_option maxRecDepth 100000 in
set_option maxHeartbeats 4000000 in
theorem twt_mo_mayBreak_45 {l : Launch} {D : va_G} {ad : Nat → Nat} {cI cZ : ClassId} {Z : tw_Z} {Post : tw_P} {X66 : Int → Prop} {v2 : Int} {v3 : Int} {mo_base mo_measure mo_size mo_known mo_root mo_top mo_lostIsolates mo_lostEmbeddings mo_openIsolates mo_n mo_beginning mo_ending mo_embedding mo_lines : Int} {mo_kind mo_group mo_width mo_pair mo_level mo_type mo_resolved mo_partner mo_entry mo_override mo_isolate mo_seq mo_mark mo_list mo_starts mo_shownLevels mo_order : Nat → Int} (hX : tw_cx (tw_YM l D ad cI cZ) Z prog_11_method_38_code twR_mo tw_Wg (some .boolean) 1 5) (hX66 : ∀ (v4 : Int), X66 v4 → tw_rn (tw_YM l D ad cI cZ) Z Post 66 [some (.inr 0), none, some (.inl v2), some (.inl v3), some (.inl v4)] [] (tw_mM mo_base mo_measure mo_size mo_kind mo_group mo_width mo_pair mo_known mo_root mo_level mo_type mo_resolved mo_partner mo_top mo_entry mo_override mo_isolate mo_lostIsolates mo_lostEmbeddings mo_openIsolates mo_n mo_seq mo_mark mo_beginning mo_ending mo_embedding mo_list mo_lines mo_starts mo_shownLevels mo_order)) : ∀ (f : Nat) (v4 : Int), twl_mo_mayBreak_45 X66 v2 v3 mo_size mo_kind mo_group f v4 → tw_rn (tw_YM l D ad cI cZ) Z Post 45 [some (.inr 0), none, some (.inl v2), some (.inl v3), some (.inl v4)] [] (tw_mM mo_base mo_measure mo_size mo_kind mo_group mo_width mo_pair mo_known mo_root mo_level mo_type mo_resolved mo_partner mo_top mo_entry mo_override mo_isolate mo_lostIsolates mo_lostEmbeddings mo_openIsolates mo_n mo_seq mo_mark mo_beginning mo_ending mo_embedding mo_list mo_lines mo_starts mo_shownLevels mo_order) := by
  intro f
  induction f with
  | zero => intro v4 h; rw [twl_mo_mayBreak_45] at h; exact h.elim
  | succ f ih =>
    intro v4 h
    rw [twl_mo_mayBreak_45] at h
    refine tw_iload hX twd_mo_mayBreak_45 rfl ?_
    refine tw_if_lt hX twd_mo_mayBreak_47 rfl (fun q9 => ?_) (fun q9 => ?_)
    · have h := h.1 q9
      exact hX66 _ h
    · have h := h.2 q9
      refine tw_aload_n hX twd_mo_mayBreak_50 rfl rfl ?_
      refine tw_iload hX twd_mo_mayBreak_51 rfl ?_
      refine tw_callV (As := [.inl v4]) (n := 1) hX twd_mo_mayBreak_53 tw_good tww_824 tww_821 tww_823 tww_42 tww_86 twk_mo_groupOf rfl rfl ⟨by decide, by decide⟩ rfl (Nat.le_of_ble_eq_true rfl) (twc_mo_groupOf h (fun z6 h => ?_))
      change tw_rn (tw_YM l D ad cI cZ) Z Post 56 [some (.inr 0), none, some (.inl v2), some (.inl v3), some (.inl v4)] [.inl z6] (tw_mM mo_base mo_measure mo_size mo_kind mo_group mo_width mo_pair mo_known mo_root mo_level mo_type mo_resolved mo_partner mo_top mo_entry mo_override mo_isolate mo_lostIsolates mo_lostEmbeddings mo_openIsolates mo_n mo_seq mo_mark mo_beginning mo_ending mo_embedding mo_list mo_lines mo_starts mo_shownLevels mo_order)
      refine tw_iconst hX twd_mo_mayBreak_56 ⟨by decide, by decide⟩ ?_
      refine tw_icmp_ne hX twd_mo_mayBreak_57 rfl (fun q8 => ?_) (fun q8 => ?_)
      · have h := h.2 q8
        exact hX66 _ h
      · have h := h.1 q8
        obtain ⟨c7, h⟩ := h
        refine tw_iinc (L' := [some (.inr 0), none, some (.inl v2), some (.inl v3), some (.inl (v4 + -1))]) hX twd_mo_mayBreak_60 rfl (by decide) c7 rfl ?_
        refine tw_goto hX twd_mo_mayBreak_63 rfl ?_
        exact ih _ h
def tww_mo_mayBreak (v1 : Int) (mo_size : Int) (mo_kind : Nat → Int) (mo_group : Nat → Int) (K : Int → Prop) : Prop :=
  ((v1 < 1 →
  K 0) ∧
  (¬ v1 < 1 →
  ((mo_size ≤ v1 →
    K 0) ∧
    (¬ mo_size ≤ v1 →
    (0 ≤ v1 ∧ v1 < 64) ∧ (((mo_kind (Int.toNat v1)) = 8 →
      K 0) ∧
      (¬ (mo_kind (Int.toNat v1)) = 8 →
      tww_mo_groupOf v1 mo_kind mo_group (fun z2 =>
        (tw_rg (v1 - 1)) ∧ tww_mo_groupOf (v1 - 1) mo_kind mo_group (fun z4 =>
        (tw_rg (v1 - 1)) ∧ (∃ f26 : Nat, twl_mo_mayBreak_45 (fun (y10 : Int) =>
        ((z2 = 1 →
          K 0) ∧
          (¬ z2 = 1 →
          ((z2 = 3 →
            K 0) ∧
            (¬ z2 = 3 →
            (∀ J11 : Prop, ((((z4 = 1 →
                K 1) ∧
                (¬ z4 = 1 →
                (∀ J12 : Prop, ((K 0) → J12) →
                  ((z4 = 4 →
                  J12) ∧
                  (¬ z4 = 4 →
                  ((z2 = 4 →
                    J12) ∧
                    (¬ z2 = 4 →
                    ((z2 = 6 →
                      J12) ∧
                      (¬ z2 = 6 →
                      (∀ J13 : Prop, ((K 1) → J13) →
                        ((z4 = 6 →
                        J13) ∧
                        (¬ z4 = 6 →
                        ((z4 = 5 →
                          J13) ∧
                          (¬ z4 = 5 →
                          ((z2 = 5 →
                            J13) ∧
                            (¬ z2 = 5 →
                            J12))))))))))))))))) → J11) →
              ((y10 < 0 →
              J11) ∧
              (¬ y10 < 0 →
              tww_mo_groupOf y10 mo_kind mo_group (fun z21 =>
                ((z21 = 2 →
                K 0) ∧
                (¬ z21 = 2 →
                J11))))))))))) z2 z4 mo_size mo_kind mo_group f26 (v1 - 1))))))))))
set_option maxRecDepth 100000 in
set_option maxHeartbeats 4000000 in
theorem twc_mo_mayBreak {l : Launch} {D : va_G} {ad : Nat → Nat} {cI cZ : ClassId} {Post : tw_P} {K : Int → Prop} {v1 : Int} {mo_base mo_measure mo_size mo_known mo_root mo_top mo_lostIsolates mo_lostEmbeddings mo_openIsolates mo_n mo_beginning mo_ending mo_embedding mo_lines : Int} {mo_kind mo_group mo_width mo_pair mo_level mo_type mo_resolved mo_partner mo_entry mo_override mo_isolate mo_seq mo_mark mo_list mo_starts mo_shownLevels mo_order : Nat → Int} (h : tww_mo_mayBreak v1 mo_size mo_kind mo_group K) (hK : ∀ (z : Int), K z → Post (some z) (tw_mM mo_base mo_measure mo_size mo_kind mo_group mo_width mo_pair mo_known mo_root mo_level mo_type mo_resolved mo_partner mo_top mo_entry mo_override mo_isolate mo_lostIsolates mo_lostEmbeddings mo_openIsolates mo_n mo_seq mo_mark mo_beginning mo_ending mo_embedding mo_list mo_lines mo_starts mo_shownLevels mo_order)) : tw_ct (tw_YM l D ad cI cZ) twy_mo_mayBreak (Cond.code twy_mo_mayBreak prog_11_method_38_code 5 (some .boolean) :: tw_Wg) 1 [.inr 0, .inl v1] (tw_mM mo_base mo_measure mo_size mo_kind mo_group mo_width mo_pair mo_known mo_root mo_level mo_type mo_resolved mo_partner mo_top mo_entry mo_override mo_isolate mo_lostIsolates mo_lostEmbeddings mo_openIsolates mo_n mo_seq mo_mark mo_beginning mo_ending mo_embedding mo_list mo_lines mo_starts mo_shownLevels mo_order) Post := by
  refine tw_of (own := twR_mo) (L0 := [some (.inr 0), some (.inl v1), none, none, none]) (by decide) rfl rfl (Nat.le_of_ble_eq_true rfl) (fun Z hX => ?_)
  unfold tww_mo_mayBreak at h
  refine tw_iload_n hX twd_mo_mayBreak_0 rfl rfl ?_
  refine tw_iconst hX twd_mo_mayBreak_1 ⟨by decide, by decide⟩ ?_
  refine tw_icmp_lt hX twd_mo_mayBreak_2 rfl (fun q29 => ?_) (fun q29 => ?_)
  · have h := h.1 q29
    refine tw_iconst hX twd_mo_mayBreak_24 ⟨by decide, by decide⟩ ?_
    exact tw_zret hX twd_mo_mayBreak_25 ⟨by decide, by decide⟩ (hK _ h)
  · have h := h.2 q29
    refine tw_iload_n hX twd_mo_mayBreak_5 rfl rfl ?_
    refine tw_aload_n hX twd_mo_mayBreak_6 rfl rfl ?_
    refine tw_get (kf := 2) hX twd_mo_mayBreak_7 twin_mo rfl (by decide) tww_689 rfl rfl rfl ?_
    refine tw_icmp_ge hX twd_mo_mayBreak_10 rfl (fun q28 => ?_) (fun q28 => ?_)
    · have h := h.1 q28
      refine tw_iconst hX twd_mo_mayBreak_24 ⟨by decide, by decide⟩ ?_
      exact tw_zret hX twd_mo_mayBreak_25 ⟨by decide, by decide⟩ (hK _ h)
    · have h := h.2 q28
      refine tw_aload_n hX twd_mo_mayBreak_13 rfl rfl ?_
      refine tw_get (kf := 3) hX twd_mo_mayBreak_14 twin_mo rfl (by decide) tww_690 rfl rfl rfl ?_
      refine tw_iload_n hX twd_mo_mayBreak_17 rfl rfl ?_
      obtain ⟨c1, h⟩ := h
      refine tw_iaload hX twd_mo_mayBreak_18 rfl c1 ?_
      refine tw_bipush hX twd_mo_mayBreak_19 (by decide +kernel) ⟨by decide, by decide⟩ ?_
      refine tw_icmp_ne hX twd_mo_mayBreak_21 rfl (fun q27 => ?_) (fun q27 => ?_)
      · have h := h.2 q27
        refine tw_aload_n hX twd_mo_mayBreak_26 rfl rfl ?_
        refine tw_iload_n hX twd_mo_mayBreak_27 rfl rfl ?_
        refine tw_callV (As := [.inl v1]) (n := 1) hX twd_mo_mayBreak_28 tw_good tww_824 tww_821 tww_823 tww_42 tww_86 twk_mo_groupOf rfl rfl ⟨by decide, by decide⟩ rfl (Nat.le_of_ble_eq_true rfl) (twc_mo_groupOf h (fun z2 h => ?_))
        change tw_rn (tw_YM l D ad cI cZ) Z Post 31 [some (.inr 0), some (.inl v1), none, none, none] [.inl z2] (tw_mM mo_base mo_measure mo_size mo_kind mo_group mo_width mo_pair mo_known mo_root mo_level mo_type mo_resolved mo_partner mo_top mo_entry mo_override mo_isolate mo_lostIsolates mo_lostEmbeddings mo_openIsolates mo_n mo_seq mo_mark mo_beginning mo_ending mo_embedding mo_list mo_lines mo_starts mo_shownLevels mo_order)
        refine tw_istore_n (L' := [some (.inr 0), some (.inl v1), some (.inl z2), none, none]) hX twd_mo_mayBreak_31 rfl (by decide) rfl ?_
        refine tw_aload_n hX twd_mo_mayBreak_32 rfl rfl ?_
        refine tw_iload_n hX twd_mo_mayBreak_33 rfl rfl ?_
        refine tw_iconst hX twd_mo_mayBreak_34 ⟨by decide, by decide⟩ ?_
        obtain ⟨c3, h⟩ := h
        refine tw_isub hX twd_mo_mayBreak_35 c3 ?_
        refine tw_callV (As := [.inl (v1 - 1)]) (n := 1) hX twd_mo_mayBreak_36 tw_good tww_824 tww_821 tww_823 tww_42 tww_86 twk_mo_groupOf rfl rfl ⟨by decide, by decide⟩ rfl (Nat.le_of_ble_eq_true rfl) (twc_mo_groupOf h (fun z4 h => ?_))
        change tw_rn (tw_YM l D ad cI cZ) Z Post 39 [some (.inr 0), some (.inl v1), some (.inl z2), none, none] [.inl z4] (tw_mM mo_base mo_measure mo_size mo_kind mo_group mo_width mo_pair mo_known mo_root mo_level mo_type mo_resolved mo_partner mo_top mo_entry mo_override mo_isolate mo_lostIsolates mo_lostEmbeddings mo_openIsolates mo_n mo_seq mo_mark mo_beginning mo_ending mo_embedding mo_list mo_lines mo_starts mo_shownLevels mo_order)
        refine tw_istore_n (L' := [some (.inr 0), some (.inl v1), some (.inl z2), some (.inl z4), none]) hX twd_mo_mayBreak_39 rfl (by decide) rfl ?_
        refine tw_iload_n hX twd_mo_mayBreak_40 rfl rfl ?_
        refine tw_iconst hX twd_mo_mayBreak_41 ⟨by decide, by decide⟩ ?_
        obtain ⟨c5, h⟩ := h
        refine tw_isub hX twd_mo_mayBreak_42 c5 ?_
        refine tw_istore (L' := [some (.inr 0), some (.inl v1), some (.inl z2), some (.inl z4), some (.inl (v1 - 1))]) hX twd_mo_mayBreak_43 (by decide) rfl ?_
        obtain ⟨f26, h⟩ := h
        refine tw_wk (L' := [some (.inr 0), none, some (.inl z2), some (.inl z4), some (.inl (v1 - 1))]) (tw_le_s (tw_le_n (tw_le_s (tw_le_s (tw_le_s tw_le_0))))) ?_
        refine twt_mo_mayBreak_45 hX (fun y10 h => ?_) f26 _ h
        refine tw_iload_n hX twd_mo_mayBreak_66 rfl rfl ?_
        refine tw_iconst hX twd_mo_mayBreak_67 ⟨by decide, by decide⟩ ?_
        refine tw_icmp_eq hX twd_mo_mayBreak_68 rfl (fun q25 => ?_) (fun q25 => ?_)
        · have h := h.1 q25
          refine tw_iconst hX twd_mo_mayBreak_91 ⟨by decide, by decide⟩ ?_
          exact tw_zret hX twd_mo_mayBreak_92 ⟨by decide, by decide⟩ (hK _ h)
        · have h := h.2 q25
          refine tw_iload_n hX twd_mo_mayBreak_71 rfl rfl ?_
          refine tw_iconst hX twd_mo_mayBreak_72 ⟨by decide, by decide⟩ ?_
          refine tw_icmp_eq hX twd_mo_mayBreak_73 rfl (fun q24 => ?_) (fun q24 => ?_)
          · have h := h.1 q24
            refine tw_iconst hX twd_mo_mayBreak_91 ⟨by decide, by decide⟩ ?_
            exact tw_zret hX twd_mo_mayBreak_92 ⟨by decide, by decide⟩ (hK _ h)
          · have h := h.2 q24
            refine tw_iload hX twd_mo_mayBreak_76 rfl ?_
            have h := h (tw_rn (tw_YM l D ad cI cZ) Z Post 93 [none, none, some (.inl z2), some (.inl z4), none] [] (tw_mM mo_base mo_measure mo_size mo_kind mo_group mo_width mo_pair mo_known mo_root mo_level mo_type mo_resolved mo_partner mo_top mo_entry mo_override mo_isolate mo_lostIsolates mo_lostEmbeddings mo_openIsolates mo_n mo_seq mo_mark mo_beginning mo_ending mo_embedding mo_list mo_lines mo_starts mo_shownLevels mo_order)) (by
              intro  h
              refine tw_iload_n hX twd_mo_mayBreak_93 rfl rfl ?_
              refine tw_iconst hX twd_mo_mayBreak_94 ⟨by decide, by decide⟩ ?_
              refine tw_icmp_ne hX twd_mo_mayBreak_95 rfl (fun q20 => ?_) (fun q20 => ?_)
              · have h := h.2 q20
                refine tw_iload_n hX twd_mo_mayBreak_100 rfl rfl ?_
                refine tw_iconst hX twd_mo_mayBreak_101 ⟨by decide, by decide⟩ ?_
                have h := h (tw_rn (tw_YM l D ad cI cZ) Z Post 136 [none, none, none, none, none] [] (tw_mM mo_base mo_measure mo_size mo_kind mo_group mo_width mo_pair mo_known mo_root mo_level mo_type mo_resolved mo_partner mo_top mo_entry mo_override mo_isolate mo_lostIsolates mo_lostEmbeddings mo_openIsolates mo_n mo_seq mo_mark mo_beginning mo_ending mo_embedding mo_list mo_lines mo_starts mo_shownLevels mo_order)) (by
                  intro  h
                  refine tw_iconst hX twd_mo_mayBreak_136 ⟨by decide, by decide⟩ ?_
                  exact tw_zret hX twd_mo_mayBreak_137 ⟨by decide, by decide⟩ (hK _ h))
                refine tw_icmp_eq hX twd_mo_mayBreak_102 rfl (fun q19 => ?_) (fun q19 => ?_)
                · have h := h.1 q19
                  refine tw_wk (L' := [none, none, none, none, none]) (tw_le_n (tw_le_n (tw_le_n (tw_le_n (tw_le_n tw_le_0))))) ?_
                  exact h
                · have h := h.2 q19
                  refine tw_iload_n hX twd_mo_mayBreak_105 rfl rfl ?_
                  refine tw_iconst hX twd_mo_mayBreak_106 ⟨by decide, by decide⟩ ?_
                  refine tw_icmp_eq hX twd_mo_mayBreak_107 rfl (fun q18 => ?_) (fun q18 => ?_)
                  · have h := h.1 q18
                    refine tw_wk (L' := [none, none, none, none, none]) (tw_le_n (tw_le_n (tw_le_n (tw_le_n (tw_le_n tw_le_0))))) ?_
                    exact h
                  · have h := h.2 q18
                    refine tw_iload_n hX twd_mo_mayBreak_110 rfl rfl ?_
                    refine tw_bipush hX twd_mo_mayBreak_111 (by decide +kernel) ⟨by decide, by decide⟩ ?_
                    refine tw_icmp_eq hX twd_mo_mayBreak_113 rfl (fun q17 => ?_) (fun q17 => ?_)
                    · have h := h.1 q17
                      refine tw_wk (L' := [none, none, none, none, none]) (tw_le_n (tw_le_n (tw_le_n (tw_le_n (tw_le_n tw_le_0))))) ?_
                      exact h
                    · have h := h.2 q17
                      refine tw_iload_n hX twd_mo_mayBreak_116 rfl rfl ?_
                      refine tw_bipush hX twd_mo_mayBreak_117 (by decide +kernel) ⟨by decide, by decide⟩ ?_
                      have h := h (tw_rn (tw_YM l D ad cI cZ) Z Post 132 [none, none, none, none, none] [] (tw_mM mo_base mo_measure mo_size mo_kind mo_group mo_width mo_pair mo_known mo_root mo_level mo_type mo_resolved mo_partner mo_top mo_entry mo_override mo_isolate mo_lostIsolates mo_lostEmbeddings mo_openIsolates mo_n mo_seq mo_mark mo_beginning mo_ending mo_embedding mo_list mo_lines mo_starts mo_shownLevels mo_order)) (by
                        intro  h
                        refine tw_iconst hX twd_mo_mayBreak_132 ⟨by decide, by decide⟩ ?_
                        refine tw_goto hX twd_mo_mayBreak_133 rfl ?_
                        exact tw_zret hX twd_mo_mayBreak_137 ⟨by decide, by decide⟩ (hK _ h))
                      refine tw_icmp_eq hX twd_mo_mayBreak_119 rfl (fun q16 => ?_) (fun q16 => ?_)
                      · have h := h.1 q16
                        refine tw_wk (L' := [none, none, none, none, none]) (tw_le_n (tw_le_n (tw_le_n (tw_le_n (tw_le_n tw_le_0))))) ?_
                        exact h
                      · have h := h.2 q16
                        refine tw_iload_n hX twd_mo_mayBreak_122 rfl rfl ?_
                        refine tw_iconst hX twd_mo_mayBreak_123 ⟨by decide, by decide⟩ ?_
                        refine tw_icmp_eq hX twd_mo_mayBreak_124 rfl (fun q15 => ?_) (fun q15 => ?_)
                        · have h := h.1 q15
                          refine tw_wk (L' := [none, none, none, none, none]) (tw_le_n (tw_le_n (tw_le_n (tw_le_n (tw_le_n tw_le_0))))) ?_
                          exact h
                        · have h := h.2 q15
                          refine tw_iload_n hX twd_mo_mayBreak_127 rfl rfl ?_
                          refine tw_iconst hX twd_mo_mayBreak_128 ⟨by decide, by decide⟩ ?_
                          refine tw_icmp_ne hX twd_mo_mayBreak_129 rfl (fun q14 => ?_) (fun q14 => ?_)
                          · have h := h.2 q14
                            refine tw_wk (L' := [none, none, none, none, none]) (tw_le_n (tw_le_n (tw_le_n (tw_le_n (tw_le_n tw_le_0))))) ?_
                            exact h
                          · have h := h.1 q14
                            refine tw_wk (L' := [none, none, none, none, none]) (tw_le_n (tw_le_n (tw_le_n (tw_le_n (tw_le_n tw_le_0))))) ?_
                            exact h
              · have h := h.1 q20
                refine tw_iconst hX twd_mo_mayBreak_98 ⟨by decide, by decide⟩ ?_
                exact tw_zret hX twd_mo_mayBreak_99 ⟨by decide, by decide⟩ (hK _ h))
            refine tw_if_lt hX twd_mo_mayBreak_78 rfl (fun q23 => ?_) (fun q23 => ?_)
            · have h := h.1 q23
              refine tw_wk (L' := [none, none, some (.inl z2), some (.inl z4), none]) (tw_le_n (tw_le_n (tw_le_s (tw_le_s (tw_le_n tw_le_0))))) ?_
              exact h
            · have h := h.2 q23
              refine tw_aload_n hX twd_mo_mayBreak_81 rfl rfl ?_
              refine tw_iload hX twd_mo_mayBreak_82 rfl ?_
              refine tw_callV (As := [.inl y10]) (n := 1) hX twd_mo_mayBreak_84 tw_good tww_824 tww_821 tww_823 tww_42 tww_86 twk_mo_groupOf rfl rfl ⟨by decide, by decide⟩ rfl (Nat.le_of_ble_eq_true rfl) (twc_mo_groupOf h (fun z21 h => ?_))
              change tw_rn (tw_YM l D ad cI cZ) Z Post 87 [some (.inr 0), none, some (.inl z2), some (.inl z4), some (.inl y10)] [.inl z21] (tw_mM mo_base mo_measure mo_size mo_kind mo_group mo_width mo_pair mo_known mo_root mo_level mo_type mo_resolved mo_partner mo_top mo_entry mo_override mo_isolate mo_lostIsolates mo_lostEmbeddings mo_openIsolates mo_n mo_seq mo_mark mo_beginning mo_ending mo_embedding mo_list mo_lines mo_starts mo_shownLevels mo_order)
              refine tw_iconst hX twd_mo_mayBreak_87 ⟨by decide, by decide⟩ ?_
              refine tw_icmp_ne hX twd_mo_mayBreak_88 rfl (fun q22 => ?_) (fun q22 => ?_)
              · have h := h.2 q22
                refine tw_wk (L' := [none, none, some (.inl z2), some (.inl z4), none]) (tw_le_n (tw_le_n (tw_le_s (tw_le_s (tw_le_n tw_le_0))))) ?_
                exact h
              · have h := h.1 q22
                refine tw_iconst hX twd_mo_mayBreak_91 ⟨by decide, by decide⟩ ?_
                exact tw_zret hX twd_mo_mayBreak_92 ⟨by decide, by decide⟩ (hK _ h)
      · have h := h.1 q27
        refine tw_iconst hX twd_mo_mayBreak_24 ⟨by decide, by decide⟩ ?_
        exact tw_zret hX twd_mo_mayBreak_25 ⟨by decide, by decide⟩ (hK _ h)
def twl_mo_extentOf_2 (X24 : Int → Prop) (v1 : Int) (mo_kind : Nat → Int) (mo_group : Nat → Int) (mo_width : Nat → Int) : Nat → Int → Prop
  | 0, _ => False
  | f + 1, v3 =>
    ((v3 ≤ v1 →
    X24 v3) ∧
    (¬ v3 ≤ v1 →
    (tw_rg (v3 - 1)) ∧ tww_mo_groupOf (v3 - 1) mo_kind mo_group (fun z2 =>
      ((z2 = 1 →
      (tw_rg (v3 + -1)) ∧ twl_mo_extentOf_2 X24 v1 mo_kind mo_group mo_width f (v3 + -1)) ∧
      (¬ z2 = 1 →
      X24 v3)))))
set_option maxRecDepth 100000 in
set_option maxHeartbeats 4000000 in
theorem twt_mo_extentOf_2 {l : Launch} {D : va_G} {ad : Nat → Nat} {cI cZ : ClassId} {Z : tw_Z} {Post : tw_P} {X24 : Int → Prop} {v1 : Int} {mo_base mo_measure mo_size mo_known mo_root mo_top mo_lostIsolates mo_lostEmbeddings mo_openIsolates mo_n mo_beginning mo_ending mo_embedding mo_lines : Int} {mo_kind mo_group mo_width mo_pair mo_level mo_type mo_resolved mo_partner mo_entry mo_override mo_isolate mo_seq mo_mark mo_list mo_starts mo_shownLevels mo_order : Nat → Int} (hX : tw_cx (tw_YM l D ad cI cZ) Z prog_11_method_39_code twR_mo tw_Wg (some .int) 1 6) (hX24 : ∀ (v3 : Int), X24 v3 → tw_rn (tw_YM l D ad cI cZ) Z Post 24 [some (.inr 0), some (.inl v1), none, some (.inl v3), none, none] [] (tw_mM mo_base mo_measure mo_size mo_kind mo_group mo_width mo_pair mo_known mo_root mo_level mo_type mo_resolved mo_partner mo_top mo_entry mo_override mo_isolate mo_lostIsolates mo_lostEmbeddings mo_openIsolates mo_n mo_seq mo_mark mo_beginning mo_ending mo_embedding mo_list mo_lines mo_starts mo_shownLevels mo_order)) : ∀ (f : Nat) (v3 : Int), twl_mo_extentOf_2 X24 v1 mo_kind mo_group mo_width f v3 → tw_rn (tw_YM l D ad cI cZ) Z Post 2 [some (.inr 0), some (.inl v1), none, some (.inl v3), none, none] [] (tw_mM mo_base mo_measure mo_size mo_kind mo_group mo_width mo_pair mo_known mo_root mo_level mo_type mo_resolved mo_partner mo_top mo_entry mo_override mo_isolate mo_lostIsolates mo_lostEmbeddings mo_openIsolates mo_n mo_seq mo_mark mo_beginning mo_ending mo_embedding mo_list mo_lines mo_starts mo_shownLevels mo_order) := by
  intro f
  induction f with
  | zero => intro v3 h; rw [twl_mo_extentOf_2] at h; exact h.elim
  | succ f ih =>
    intro v3 h
    rw [twl_mo_extentOf_2] at h
    refine tw_iload_n hX twd_mo_extentOf_2 rfl rfl ?_
    refine tw_iload_n hX twd_mo_extentOf_3 rfl rfl ?_
    refine tw_icmp_le hX twd_mo_extentOf_4 rfl (fun q5 => ?_) (fun q5 => ?_)
    · have h := h.1 q5
      exact hX24 _ h
    · have h := h.2 q5
      refine tw_aload_n hX twd_mo_extentOf_7 rfl rfl ?_
      refine tw_iload_n hX twd_mo_extentOf_8 rfl rfl ?_
      refine tw_iconst hX twd_mo_extentOf_9 ⟨by decide, by decide⟩ ?_
      obtain ⟨c1, h⟩ := h
      refine tw_isub hX twd_mo_extentOf_10 c1 ?_
      refine tw_callV (As := [.inl (v3 - 1)]) (n := 1) hX twd_mo_extentOf_11 tw_good tww_824 tww_821 tww_823 tww_42 tww_86 twk_mo_groupOf rfl rfl ⟨by decide, by decide⟩ rfl (Nat.le_of_ble_eq_true rfl) (twc_mo_groupOf h (fun z2 h => ?_))
      change tw_rn (tw_YM l D ad cI cZ) Z Post 14 [some (.inr 0), some (.inl v1), none, some (.inl v3), none, none] [.inl z2] (tw_mM mo_base mo_measure mo_size mo_kind mo_group mo_width mo_pair mo_known mo_root mo_level mo_type mo_resolved mo_partner mo_top mo_entry mo_override mo_isolate mo_lostIsolates mo_lostEmbeddings mo_openIsolates mo_n mo_seq mo_mark mo_beginning mo_ending mo_embedding mo_list mo_lines mo_starts mo_shownLevels mo_order)
      refine tw_iconst hX twd_mo_extentOf_14 ⟨by decide, by decide⟩ ?_
      refine tw_icmp_ne hX twd_mo_extentOf_15 rfl (fun q4 => ?_) (fun q4 => ?_)
      · have h := h.2 q4
        exact hX24 _ h
      · have h := h.1 q4
        obtain ⟨c3, h⟩ := h
        refine tw_iinc (L' := [some (.inr 0), some (.inl v1), none, some (.inl (v3 + -1)), none, none]) hX twd_mo_extentOf_18 rfl (by decide) c3 rfl ?_
        refine tw_goto hX twd_mo_extentOf_21 rfl ?_
        exact ih _ h
def twl_mo_extentOf_30 (X54 : Int → Prop) (v3 : Int) (mo_kind : Nat → Int) (mo_group : Nat → Int) (mo_width : Nat → Int) : Nat → Int → Int → Prop
  | 0, _, _ => False
  | f + 1, v4, v5 =>
    ((v3 ≤ v5 →
    X54 v4) ∧
    (¬ v3 ≤ v5 →
    (0 ≤ v5 ∧ v5 < 64) ∧ (tw_rg (v4 + (mo_width (Int.toNat v5)))) ∧ (tw_rg (v5 + 1)) ∧ twl_mo_extentOf_30 X54 v3 mo_kind mo_group mo_width f (v4 + (mo_width (Int.toNat v5))) (v5 + 1)))
set_option maxRecDepth 100000 in
set_option maxHeartbeats 4000000 in
theorem twt_mo_extentOf_30 {l : Launch} {D : va_G} {ad : Nat → Nat} {cI cZ : ClassId} {Z : tw_Z} {Post : tw_P} {X54 : Int → Prop} {v3 : Int} {mo_base mo_measure mo_size mo_known mo_root mo_top mo_lostIsolates mo_lostEmbeddings mo_openIsolates mo_n mo_beginning mo_ending mo_embedding mo_lines : Int} {mo_kind mo_group mo_width mo_pair mo_level mo_type mo_resolved mo_partner mo_entry mo_override mo_isolate mo_seq mo_mark mo_list mo_starts mo_shownLevels mo_order : Nat → Int} (hX : tw_cx (tw_YM l D ad cI cZ) Z prog_11_method_39_code twR_mo tw_Wg (some .int) 1 6) (hX54 : ∀ (v4 : Int), X54 v4 → tw_rn (tw_YM l D ad cI cZ) Z Post 54 [none, none, none, none, some (.inl v4), none] [] (tw_mM mo_base mo_measure mo_size mo_kind mo_group mo_width mo_pair mo_known mo_root mo_level mo_type mo_resolved mo_partner mo_top mo_entry mo_override mo_isolate mo_lostIsolates mo_lostEmbeddings mo_openIsolates mo_n mo_seq mo_mark mo_beginning mo_ending mo_embedding mo_list mo_lines mo_starts mo_shownLevels mo_order)) : ∀ (f : Nat) (v4 : Int) (v5 : Int), twl_mo_extentOf_30 X54 v3 mo_kind mo_group mo_width f v4 v5 → tw_rn (tw_YM l D ad cI cZ) Z Post 30 [some (.inr 0), none, none, some (.inl v3), some (.inl v4), some (.inl v5)] [] (tw_mM mo_base mo_measure mo_size mo_kind mo_group mo_width mo_pair mo_known mo_root mo_level mo_type mo_resolved mo_partner mo_top mo_entry mo_override mo_isolate mo_lostIsolates mo_lostEmbeddings mo_openIsolates mo_n mo_seq mo_mark mo_beginning mo_ending mo_embedding mo_list mo_lines mo_starts mo_shownLevels mo_order) := by
  intro f
  induction f with
  | zero => intro v4 v5 h; rw [twl_mo_extentOf_30] at h; exact h.elim
  | succ f ih =>
    intro v4 v5 h
    rw [twl_mo_extentOf_30] at h
    refine tw_iload hX twd_mo_extentOf_30 rfl ?_
    refine tw_iload_n hX twd_mo_extentOf_32 rfl rfl ?_
    refine tw_icmp_ge hX twd_mo_extentOf_33 rfl (fun q10 => ?_) (fun q10 => ?_)
    · have h := h.1 q10
      refine tw_wk (L' := [none, none, none, none, some (.inl v4), none]) (tw_le_n (tw_le_n (tw_le_n (tw_le_n (tw_le_s (tw_le_n tw_le_0)))))) ?_
      exact hX54 _ h
    · have h := h.2 q10
      refine tw_iload hX twd_mo_extentOf_36 rfl ?_
      refine tw_aload_n hX twd_mo_extentOf_38 rfl rfl ?_
      refine tw_get (kf := 5) hX twd_mo_extentOf_39 twin_mo rfl (by decide) tww_692 rfl rfl rfl ?_
      refine tw_iload hX twd_mo_extentOf_42 rfl ?_
      obtain ⟨c7, h⟩ := h
      refine tw_iaload hX twd_mo_extentOf_44 rfl c7 ?_
      obtain ⟨c8, h⟩ := h
      refine tw_iadd hX twd_mo_extentOf_45 c8 ?_
      refine tw_istore (L' := [some (.inr 0), none, none, some (.inl v3), some (.inl (v4 + (mo_width (Int.toNat v5)))), some (.inl v5)]) hX twd_mo_extentOf_46 (by decide) rfl ?_
      obtain ⟨c9, h⟩ := h
      refine tw_iinc (L' := [some (.inr 0), none, none, some (.inl v3), some (.inl (v4 + (mo_width (Int.toNat v5)))), some (.inl (v5 + 1))]) hX twd_mo_extentOf_48 rfl (by decide) c9 rfl ?_
      refine tw_goto hX twd_mo_extentOf_51 rfl ?_
      exact ih _ _ h
def tww_mo_extentOf (v1 v2 : Int) (mo_kind : Nat → Int) (mo_group : Nat → Int) (mo_width : Nat → Int) (K : Int → Prop) : Prop :=
  (∃ f13 : Nat, twl_mo_extentOf_2 (fun (y6 : Int) =>
  (∃ f12 : Nat, twl_mo_extentOf_30 (fun (y11 : Int) =>
    K y11) y6 mo_kind mo_group mo_width f12 0 v1)) v1 mo_kind mo_group mo_width f13 v2)
set_option maxRecDepth 100000 in
set_option maxHeartbeats 4000000 in
theorem twc_mo_extentOf {l : Launch} {D : va_G} {ad : Nat → Nat} {cI cZ : ClassId} {Post : tw_P} {K : Int → Prop} {v1 v2 : Int} {mo_base mo_measure mo_size mo_known mo_root mo_top mo_lostIsolates mo_lostEmbeddings mo_openIsolates mo_n mo_beginning mo_ending mo_embedding mo_lines : Int} {mo_kind mo_group mo_width mo_pair mo_level mo_type mo_resolved mo_partner mo_entry mo_override mo_isolate mo_seq mo_mark mo_list mo_starts mo_shownLevels mo_order : Nat → Int} (h : tww_mo_extentOf v1 v2 mo_kind mo_group mo_width K) (hK : ∀ (z : Int), K z → Post (some z) (tw_mM mo_base mo_measure mo_size mo_kind mo_group mo_width mo_pair mo_known mo_root mo_level mo_type mo_resolved mo_partner mo_top mo_entry mo_override mo_isolate mo_lostIsolates mo_lostEmbeddings mo_openIsolates mo_n mo_seq mo_mark mo_beginning mo_ending mo_embedding mo_list mo_lines mo_starts mo_shownLevels mo_order)) : tw_ct (tw_YM l D ad cI cZ) twy_mo_extentOf (Cond.code twy_mo_extentOf prog_11_method_39_code 6 (some .int) :: tw_Wg) 1 [.inr 0, .inl v1, .inl v2] (tw_mM mo_base mo_measure mo_size mo_kind mo_group mo_width mo_pair mo_known mo_root mo_level mo_type mo_resolved mo_partner mo_top mo_entry mo_override mo_isolate mo_lostIsolates mo_lostEmbeddings mo_openIsolates mo_n mo_seq mo_mark mo_beginning mo_ending mo_embedding mo_list mo_lines mo_starts mo_shownLevels mo_order) Post := by
  refine tw_of (own := twR_mo) (L0 := [some (.inr 0), some (.inl v1), some (.inl v2), none, none, none]) (by decide) rfl rfl (Nat.le_of_ble_eq_true rfl) (fun Z hX => ?_)
  unfold tww_mo_extentOf at h
  refine tw_iload_n hX twd_mo_extentOf_0 rfl rfl ?_
  refine tw_istore_n (L' := [some (.inr 0), some (.inl v1), some (.inl v2), some (.inl v2), none, none]) hX twd_mo_extentOf_1 rfl (by decide) rfl ?_
  obtain ⟨f13, h⟩ := h
  refine tw_wk (L' := [some (.inr 0), some (.inl v1), none, some (.inl v2), none, none]) (tw_le_s (tw_le_s (tw_le_n (tw_le_s (tw_le_n (tw_le_n tw_le_0)))))) ?_
  refine twt_mo_extentOf_2 hX (fun y6 h => ?_) f13 _ h
  refine tw_iconst hX twd_mo_extentOf_24 ⟨by decide, by decide⟩ ?_
  refine tw_istore (L' := [some (.inr 0), some (.inl v1), none, some (.inl y6), some (.inl 0), none]) hX twd_mo_extentOf_25 (by decide) rfl ?_
  refine tw_iload_n hX twd_mo_extentOf_27 rfl rfl ?_
  refine tw_istore (L' := [some (.inr 0), some (.inl v1), none, some (.inl y6), some (.inl 0), some (.inl v1)]) hX twd_mo_extentOf_28 (by decide) rfl ?_
  obtain ⟨f12, h⟩ := h
  refine tw_wk (L' := [some (.inr 0), none, none, some (.inl y6), some (.inl 0), some (.inl v1)]) (tw_le_s (tw_le_n (tw_le_n (tw_le_s (tw_le_s (tw_le_s tw_le_0)))))) ?_
  refine twt_mo_extentOf_30 hX (fun y11 h => ?_) f12 _ _ h
  refine tw_iload hX twd_mo_extentOf_54 rfl ?_
  exact tw_ret hX twd_mo_extentOf_56 (hK _ h)
def twl_mo_endOf_5 (K : Int → Prop) (X47 : Prop) (v1 : Int) (mo_measure : Int) (mo_size : Int) (mo_kind : Nat → Int) (mo_group : Nat → Int) (mo_width : Nat → Int) : Nat → Int → Prop
  | 0, _ => False
  | f + 1, v2 =>
    ((v2 ≤ v1 →
    X47) ∧
    (¬ v2 ≤ v1 →
    (∀ J1 : Prop, (((tw_rg (v2 + -1)) ∧ twl_mo_endOf_5 K X47 v1 mo_measure mo_size mo_kind mo_group mo_width f (v2 + -1)) → J1) →
      ∀ J3 : Prop, ((tww_mo_extentOf v1 v2 mo_kind mo_group mo_width (fun z4 =>
        ((mo_measure < z4 →
        J1) ∧
        (¬ mo_measure < z4 →
        K v2)))) → J3) →
      ((v2 = mo_size →
      J3) ∧
      (¬ v2 = mo_size →
      tww_mo_mayBreak v2 mo_size mo_kind mo_group (fun z6 =>
        ((z6 = 0 →
        J1) ∧
        (¬ z6 = 0 →
        J3))))))))
set_option maxRecDepth 100000 in
set_option maxHeartbeats 4000000 in
theorem twt_mo_endOf_5 {l : Launch} {D : va_G} {ad : Nat → Nat} {cI cZ : ClassId} {Z : tw_Z} {Post : tw_P} {K : Int → Prop} {X47 : Prop} {v1 : Int} {mo_base mo_measure mo_size mo_known mo_root mo_top mo_lostIsolates mo_lostEmbeddings mo_openIsolates mo_n mo_beginning mo_ending mo_embedding mo_lines : Int} {mo_kind mo_group mo_width mo_pair mo_level mo_type mo_resolved mo_partner mo_entry mo_override mo_isolate mo_seq mo_mark mo_list mo_starts mo_shownLevels mo_order : Nat → Int} (hX : tw_cx (tw_YM l D ad cI cZ) Z prog_11_method_40_code twR_mo tw_Wg (some .int) 2 4) (hX47 : X47 → tw_rn (tw_YM l D ad cI cZ) Z Post 47 [some (.inr 0), some (.inl v1), none, none] [] (tw_mM mo_base mo_measure mo_size mo_kind mo_group mo_width mo_pair mo_known mo_root mo_level mo_type mo_resolved mo_partner mo_top mo_entry mo_override mo_isolate mo_lostIsolates mo_lostEmbeddings mo_openIsolates mo_n mo_seq mo_mark mo_beginning mo_ending mo_embedding mo_list mo_lines mo_starts mo_shownLevels mo_order)) (hK : ∀ (z : Int), K z → Post (some z) (tw_mM mo_base mo_measure mo_size mo_kind mo_group mo_width mo_pair mo_known mo_root mo_level mo_type mo_resolved mo_partner mo_top mo_entry mo_override mo_isolate mo_lostIsolates mo_lostEmbeddings mo_openIsolates mo_n mo_seq mo_mark mo_beginning mo_ending mo_embedding mo_list mo_lines mo_starts mo_shownLevels mo_order)) : ∀ (f : Nat) (v2 : Int), twl_mo_endOf_5 K X47 v1 mo_measure mo_size mo_kind mo_group mo_width f v2 → tw_rn (tw_YM l D ad cI cZ) Z Post 5 [some (.inr 0), some (.inl v1), some (.inl v2), none] [] (tw_mM mo_base mo_measure mo_size mo_kind mo_group mo_width mo_pair mo_known mo_root mo_level mo_type mo_resolved mo_partner mo_top mo_entry mo_override mo_isolate mo_lostIsolates mo_lostEmbeddings mo_openIsolates mo_n mo_seq mo_mark mo_beginning mo_ending mo_embedding mo_list mo_lines mo_starts mo_shownLevels mo_order) := by
  intro f
  induction f with
  | zero => intro v2 h; rw [twl_mo_endOf_5] at h; exact h.elim
  | succ f ih =>
    intro v2 h
    rw [twl_mo_endOf_5] at h
    refine tw_iload_n hX twd_mo_endOf_5 rfl rfl ?_
    refine tw_iload_n hX twd_mo_endOf_6 rfl rfl ?_
    refine tw_icmp_le hX twd_mo_endOf_7 rfl (fun q9 => ?_) (fun q9 => ?_)
    · have h := h.1 q9
      refine tw_wk (L' := [some (.inr 0), some (.inl v1), none, none]) (tw_le_s (tw_le_s (tw_le_n (tw_le_n tw_le_0)))) ?_
      exact hX47 h
    · have h := h.2 q9
      refine tw_iload_n hX twd_mo_endOf_10 rfl rfl ?_
      refine tw_aload_n hX twd_mo_endOf_11 rfl rfl ?_
      refine tw_get (kf := 2) hX twd_mo_endOf_12 twin_mo rfl (by decide) tww_689 rfl rfl rfl ?_
      have h := h (tw_rn (tw_YM l D ad cI cZ) Z Post 41 [some (.inr 0), some (.inl v1), some (.inl v2), none] [] (tw_mM mo_base mo_measure mo_size mo_kind mo_group mo_width mo_pair mo_known mo_root mo_level mo_type mo_resolved mo_partner mo_top mo_entry mo_override mo_isolate mo_lostIsolates mo_lostEmbeddings mo_openIsolates mo_n mo_seq mo_mark mo_beginning mo_ending mo_embedding mo_list mo_lines mo_starts mo_shownLevels mo_order)) (by
        intro  h
        obtain ⟨c2, h⟩ := h
        refine tw_iinc (L' := [some (.inr 0), some (.inl v1), some (.inl (v2 + -1)), none]) hX twd_mo_endOf_41 rfl (by decide) c2 rfl ?_
        refine tw_goto hX twd_mo_endOf_44 rfl ?_
        exact ih _ h)
      have h := h (tw_rn (tw_YM l D ad cI cZ) Z Post 26 [some (.inr 0), some (.inl v1), some (.inl v2), none] [] (tw_mM mo_base mo_measure mo_size mo_kind mo_group mo_width mo_pair mo_known mo_root mo_level mo_type mo_resolved mo_partner mo_top mo_entry mo_override mo_isolate mo_lostIsolates mo_lostEmbeddings mo_openIsolates mo_n mo_seq mo_mark mo_beginning mo_ending mo_embedding mo_list mo_lines mo_starts mo_shownLevels mo_order)) (by
        intro  h
        refine tw_aload_n hX twd_mo_endOf_26 rfl rfl ?_
        refine tw_iload_n hX twd_mo_endOf_27 rfl rfl ?_
        refine tw_iload_n hX twd_mo_endOf_28 rfl rfl ?_
        refine tw_callV (As := [.inl v1, .inl v2]) (n := 2) hX twd_mo_endOf_29 tw_good tww_950 tww_947 tww_949 tww_72 tww_86 twk_mo_extentOf rfl rfl ⟨by decide, by decide⟩ rfl (Nat.le_of_ble_eq_true rfl) (twc_mo_extentOf h (fun z4 h => ?_))
        change tw_rn (tw_YM l D ad cI cZ) Z Post 32 [some (.inr 0), some (.inl v1), some (.inl v2), none] [.inl z4] (tw_mM mo_base mo_measure mo_size mo_kind mo_group mo_width mo_pair mo_known mo_root mo_level mo_type mo_resolved mo_partner mo_top mo_entry mo_override mo_isolate mo_lostIsolates mo_lostEmbeddings mo_openIsolates mo_n mo_seq mo_mark mo_beginning mo_ending mo_embedding mo_list mo_lines mo_starts mo_shownLevels mo_order)
        refine tw_aload_n hX twd_mo_endOf_32 rfl rfl ?_
        refine tw_get (kf := 1) hX twd_mo_endOf_33 twin_mo rfl (by decide) tww_688 rfl rfl rfl ?_
        refine tw_icmp_gt hX twd_mo_endOf_36 rfl (fun q5 => ?_) (fun q5 => ?_)
        · have h := h.1 q5
          exact h
        · have h := h.2 q5
          refine tw_iload_n hX twd_mo_endOf_39 rfl rfl ?_
          exact tw_ret hX twd_mo_endOf_40 (hK _ h))
      refine tw_icmp_eq hX twd_mo_endOf_15 rfl (fun q8 => ?_) (fun q8 => ?_)
      · have h := h.1 q8
        exact h
      · have h := h.2 q8
        refine tw_aload_n hX twd_mo_endOf_18 rfl rfl ?_
        refine tw_iload_n hX twd_mo_endOf_19 rfl rfl ?_
        refine tw_callV (As := [.inl v2]) (n := 1) hX twd_mo_endOf_20 tw_good tww_820 tww_946 tww_818 tww_819 tww_86 twk_mo_mayBreak rfl rfl ⟨by decide, by decide⟩ rfl (Nat.le_of_ble_eq_true rfl) (twc_mo_mayBreak h (fun z6 h => ?_))
        change tw_rn (tw_YM l D ad cI cZ) Z Post 23 [some (.inr 0), some (.inl v1), some (.inl v2), none] [.inl z6] (tw_mM mo_base mo_measure mo_size mo_kind mo_group mo_width mo_pair mo_known mo_root mo_level mo_type mo_resolved mo_partner mo_top mo_entry mo_override mo_isolate mo_lostIsolates mo_lostEmbeddings mo_openIsolates mo_n mo_seq mo_mark mo_beginning mo_ending mo_embedding mo_list mo_lines mo_starts mo_shownLevels mo_order)
        refine tw_if_eq hX twd_mo_endOf_23 rfl (fun q7 => ?_) (fun q7 => ?_)
        · have h := h.1 q7
          exact h
        · have h := h.2 q7
          exact h
def twl_mo_endOf_57 (K : Int → Prop) (X104 : Int → Prop) (v1 : Int) (mo_measure : Int) (mo_size : Int) (mo_kind : Nat → Int) (mo_group : Nat → Int) (mo_width : Nat → Int) : Nat → Int → Int → Prop
  | 0, _, _ => False
  | f + 1, v2, v3 =>
    ((v3 ≤ v1 →
    X104 v2) ∧
    (¬ v3 ≤ v1 →
    (∀ J11 : Int → Prop, (∀ (x10 : Int), ((tw_rg (v3 + -1)) ∧ twl_mo_endOf_57 K X104 v1 mo_measure mo_size mo_kind mo_group mo_width f x10 (v3 + -1)) → J11 x10) →
      ∀ J13 : Prop, ((tww_mo_extentOf v1 v3 mo_kind mo_group mo_width (fun z14 =>
        ((mo_measure < z14 →
        J11 v3) ∧
        (¬ mo_measure < z14 →
        K v3)))) → J13) →
      ((v3 = mo_size →
      J13) ∧
      (¬ v3 = mo_size →
      (0 ≤ v3 ∧ v3 < 64) ∧ (((mo_kind (Int.toNat v3)) = 8 →
        J11 v2) ∧
        (¬ (mo_kind (Int.toNat v3)) = 8 →
        J13)))))))
set_option maxRecDepth 100000 in
set_option maxHeartbeats 4000000 in
theorem twt_mo_endOf_57 {l : Launch} {D : va_G} {ad : Nat → Nat} {cI cZ : ClassId} {Z : tw_Z} {Post : tw_P} {K : Int → Prop} {X104 : Int → Prop} {v1 : Int} {mo_base mo_measure mo_size mo_known mo_root mo_top mo_lostIsolates mo_lostEmbeddings mo_openIsolates mo_n mo_beginning mo_ending mo_embedding mo_lines : Int} {mo_kind mo_group mo_width mo_pair mo_level mo_type mo_resolved mo_partner mo_entry mo_override mo_isolate mo_seq mo_mark mo_list mo_starts mo_shownLevels mo_order : Nat → Int} (hX : tw_cx (tw_YM l D ad cI cZ) Z prog_11_method_40_code twR_mo tw_Wg (some .int) 2 4) (hX104 : ∀ (v2 : Int), X104 v2 → tw_rn (tw_YM l D ad cI cZ) Z Post 104 [none, none, some (.inl v2), none] [] (tw_mM mo_base mo_measure mo_size mo_kind mo_group mo_width mo_pair mo_known mo_root mo_level mo_type mo_resolved mo_partner mo_top mo_entry mo_override mo_isolate mo_lostIsolates mo_lostEmbeddings mo_openIsolates mo_n mo_seq mo_mark mo_beginning mo_ending mo_embedding mo_list mo_lines mo_starts mo_shownLevels mo_order)) (hK : ∀ (z : Int), K z → Post (some z) (tw_mM mo_base mo_measure mo_size mo_kind mo_group mo_width mo_pair mo_known mo_root mo_level mo_type mo_resolved mo_partner mo_top mo_entry mo_override mo_isolate mo_lostIsolates mo_lostEmbeddings mo_openIsolates mo_n mo_seq mo_mark mo_beginning mo_ending mo_embedding mo_list mo_lines mo_starts mo_shownLevels mo_order)) : ∀ (f : Nat) (v2 : Int) (v3 : Int), twl_mo_endOf_57 K X104 v1 mo_measure mo_size mo_kind mo_group mo_width f v2 v3 → tw_rn (tw_YM l D ad cI cZ) Z Post 57 [some (.inr 0), some (.inl v1), some (.inl v2), some (.inl v3)] [] (tw_mM mo_base mo_measure mo_size mo_kind mo_group mo_width mo_pair mo_known mo_root mo_level mo_type mo_resolved mo_partner mo_top mo_entry mo_override mo_isolate mo_lostIsolates mo_lostEmbeddings mo_openIsolates mo_n mo_seq mo_mark mo_beginning mo_ending mo_embedding mo_list mo_lines mo_starts mo_shownLevels mo_order) := by
  intro f
  induction f with
  | zero => intro v2 v3 h; rw [twl_mo_endOf_57] at h; exact h.elim
  | succ f ih =>
    intro v2 v3 h
    rw [twl_mo_endOf_57] at h
    refine tw_iload_n hX twd_mo_endOf_57 rfl rfl ?_
    refine tw_iload_n hX twd_mo_endOf_58 rfl rfl ?_
    refine tw_icmp_le hX twd_mo_endOf_59 rfl (fun q19 => ?_) (fun q19 => ?_)
    · have h := h.1 q19
      refine tw_wk (L' := [none, none, some (.inl v2), none]) (tw_le_n (tw_le_n (tw_le_s (tw_le_n tw_le_0)))) ?_
      exact hX104 _ h
    · have h := h.2 q19
      refine tw_iload_n hX twd_mo_endOf_62 rfl rfl ?_
      refine tw_aload_n hX twd_mo_endOf_63 rfl rfl ?_
      refine tw_get (kf := 2) hX twd_mo_endOf_64 twin_mo rfl (by decide) tww_689 rfl rfl rfl ?_
      have h := h (fun (x10 : Int) => tw_rn (tw_YM l D ad cI cZ) Z Post 98 [some (.inr 0), some (.inl v1), some (.inl x10), some (.inl v3)] [] (tw_mM mo_base mo_measure mo_size mo_kind mo_group mo_width mo_pair mo_known mo_root mo_level mo_type mo_resolved mo_partner mo_top mo_entry mo_override mo_isolate mo_lostIsolates mo_lostEmbeddings mo_openIsolates mo_n mo_seq mo_mark mo_beginning mo_ending mo_embedding mo_list mo_lines mo_starts mo_shownLevels mo_order)) (by
        intro x10 h
        obtain ⟨c12, h⟩ := h
        refine tw_iinc (L' := [some (.inr 0), some (.inl v1), some (.inl x10), some (.inl (v3 + -1))]) hX twd_mo_endOf_98 rfl (by decide) c12 rfl ?_
        refine tw_goto hX twd_mo_endOf_101 rfl ?_
        exact ih _ _ h)
      have h := h (tw_rn (tw_YM l D ad cI cZ) Z Post 81 [some (.inr 0), some (.inl v1), none, some (.inl v3)] [] (tw_mM mo_base mo_measure mo_size mo_kind mo_group mo_width mo_pair mo_known mo_root mo_level mo_type mo_resolved mo_partner mo_top mo_entry mo_override mo_isolate mo_lostIsolates mo_lostEmbeddings mo_openIsolates mo_n mo_seq mo_mark mo_beginning mo_ending mo_embedding mo_list mo_lines mo_starts mo_shownLevels mo_order)) (by
        intro  h
        refine tw_aload_n hX twd_mo_endOf_81 rfl rfl ?_
        refine tw_iload_n hX twd_mo_endOf_82 rfl rfl ?_
        refine tw_iload_n hX twd_mo_endOf_83 rfl rfl ?_
        refine tw_callV (As := [.inl v1, .inl v3]) (n := 2) hX twd_mo_endOf_84 tw_good tww_950 tww_947 tww_949 tww_72 tww_86 twk_mo_extentOf rfl rfl ⟨by decide, by decide⟩ rfl (Nat.le_of_ble_eq_true rfl) (twc_mo_extentOf h (fun z14 h => ?_))
        change tw_rn (tw_YM l D ad cI cZ) Z Post 87 [some (.inr 0), some (.inl v1), none, some (.inl v3)] [.inl z14] (tw_mM mo_base mo_measure mo_size mo_kind mo_group mo_width mo_pair mo_known mo_root mo_level mo_type mo_resolved mo_partner mo_top mo_entry mo_override mo_isolate mo_lostIsolates mo_lostEmbeddings mo_openIsolates mo_n mo_seq mo_mark mo_beginning mo_ending mo_embedding mo_list mo_lines mo_starts mo_shownLevels mo_order)
        refine tw_aload_n hX twd_mo_endOf_87 rfl rfl ?_
        refine tw_get (kf := 1) hX twd_mo_endOf_88 twin_mo rfl (by decide) tww_688 rfl rfl rfl ?_
        refine tw_icmp_gt hX twd_mo_endOf_91 rfl (fun q15 => ?_) (fun q15 => ?_)
        · have h := h.1 q15
          refine tw_iload_n hX twd_mo_endOf_96 rfl rfl ?_
          refine tw_istore_n (L' := [some (.inr 0), some (.inl v1), some (.inl v3), some (.inl v3)]) hX twd_mo_endOf_97 rfl (by decide) rfl ?_
          exact h
        · have h := h.2 q15
          refine tw_iload_n hX twd_mo_endOf_94 rfl rfl ?_
          exact tw_ret hX twd_mo_endOf_95 (hK _ h))
      refine tw_icmp_eq hX twd_mo_endOf_67 rfl (fun q18 => ?_) (fun q18 => ?_)
      · have h := h.1 q18
        refine tw_wk (L' := [some (.inr 0), some (.inl v1), none, some (.inl v3)]) (tw_le_s (tw_le_s (tw_le_n (tw_le_s tw_le_0)))) ?_
        exact h
      · have h := h.2 q18
        refine tw_aload_n hX twd_mo_endOf_70 rfl rfl ?_
        refine tw_get (kf := 3) hX twd_mo_endOf_71 twin_mo rfl (by decide) tww_690 rfl rfl rfl ?_
        refine tw_iload_n hX twd_mo_endOf_74 rfl rfl ?_
        obtain ⟨c16, h⟩ := h
        refine tw_iaload hX twd_mo_endOf_75 rfl c16 ?_
        refine tw_bipush hX twd_mo_endOf_76 (by decide +kernel) ⟨by decide, by decide⟩ ?_
        refine tw_icmp_eq hX twd_mo_endOf_78 rfl (fun q17 => ?_) (fun q17 => ?_)
        · have h := h.1 q17
          exact h
        · have h := h.2 q17
          refine tw_wk (L' := [some (.inr 0), some (.inl v1), none, some (.inl v3)]) (tw_le_s (tw_le_s (tw_le_n (tw_le_s tw_le_0)))) ?_
          exact h
def tww_mo_endOf (v1 : Int) (mo_measure : Int) (mo_size : Int) (mo_kind : Nat → Int) (mo_group : Nat → Int) (mo_width : Nat → Int) (K : Int → Prop) : Prop :=
  (∃ f22 : Nat, twl_mo_endOf_5 K ((∃ f21 : Nat, twl_mo_endOf_57 K (fun (y20 : Int) =>
    K y20) v1 mo_measure mo_size mo_kind mo_group mo_width f21 mo_size mo_size)) v1 mo_measure mo_size mo_kind mo_group mo_width f22 mo_size)
set_option maxRecDepth 100000 in
set_option maxHeartbeats 4000000 in
theorem twc_mo_endOf {l : Launch} {D : va_G} {ad : Nat → Nat} {cI cZ : ClassId} {Post : tw_P} {K : Int → Prop} {v1 : Int} {mo_base mo_measure mo_size mo_known mo_root mo_top mo_lostIsolates mo_lostEmbeddings mo_openIsolates mo_n mo_beginning mo_ending mo_embedding mo_lines : Int} {mo_kind mo_group mo_width mo_pair mo_level mo_type mo_resolved mo_partner mo_entry mo_override mo_isolate mo_seq mo_mark mo_list mo_starts mo_shownLevels mo_order : Nat → Int} (h : tww_mo_endOf v1 mo_measure mo_size mo_kind mo_group mo_width K) (hK : ∀ (z : Int), K z → Post (some z) (tw_mM mo_base mo_measure mo_size mo_kind mo_group mo_width mo_pair mo_known mo_root mo_level mo_type mo_resolved mo_partner mo_top mo_entry mo_override mo_isolate mo_lostIsolates mo_lostEmbeddings mo_openIsolates mo_n mo_seq mo_mark mo_beginning mo_ending mo_embedding mo_list mo_lines mo_starts mo_shownLevels mo_order)) : tw_ct (tw_YM l D ad cI cZ) twy_mo_endOf (Cond.code twy_mo_endOf prog_11_method_40_code 4 (some .int) :: tw_Wg) 2 [.inr 0, .inl v1] (tw_mM mo_base mo_measure mo_size mo_kind mo_group mo_width mo_pair mo_known mo_root mo_level mo_type mo_resolved mo_partner mo_top mo_entry mo_override mo_isolate mo_lostIsolates mo_lostEmbeddings mo_openIsolates mo_n mo_seq mo_mark mo_beginning mo_ending mo_embedding mo_list mo_lines mo_starts mo_shownLevels mo_order) Post := by
  refine tw_of (own := twR_mo) (L0 := [some (.inr 0), some (.inl v1), none, none]) (by decide) rfl rfl (Nat.le_of_ble_eq_true rfl) (fun Z hX => ?_)
  unfold tww_mo_endOf at h
  refine tw_aload_n hX twd_mo_endOf_0 rfl rfl ?_
  refine tw_get (kf := 2) hX twd_mo_endOf_1 twin_mo rfl (by decide) tww_689 rfl rfl rfl ?_
  refine tw_istore_n (L' := [some (.inr 0), some (.inl v1), some (.inl mo_size), none]) hX twd_mo_endOf_4 rfl (by decide) rfl ?_
  obtain ⟨f22, h⟩ := h
  refine twt_mo_endOf_5 hX (fun  h => ?_) hK f22 _ h
  refine tw_aload_n hX twd_mo_endOf_47 rfl rfl ?_
  refine tw_get (kf := 2) hX twd_mo_endOf_48 twin_mo rfl (by decide) tww_689 rfl rfl rfl ?_
  refine tw_istore_n (L' := [some (.inr 0), some (.inl v1), some (.inl mo_size), none]) hX twd_mo_endOf_51 rfl (by decide) rfl ?_
  refine tw_aload_n hX twd_mo_endOf_52 rfl rfl ?_
  refine tw_get (kf := 2) hX twd_mo_endOf_53 twin_mo rfl (by decide) tww_689 rfl rfl rfl ?_
  refine tw_istore_n (L' := [some (.inr 0), some (.inl v1), some (.inl mo_size), some (.inl mo_size)]) hX twd_mo_endOf_56 rfl (by decide) rfl ?_
  obtain ⟨f21, h⟩ := h
  refine twt_mo_endOf_57 hX (fun y20 h => ?_) hK f21 _ _ h
  refine tw_iload_n hX twd_mo_endOf_104 rfl rfl ?_
  exact tw_ret hX twd_mo_endOf_105 (hK _ h)
def twl_mo_turn_5 (X50 : (Nat → Int) → Prop) : Nat → Int → Int → (Nat → Int) → Prop
  | 0, _, _, _ => False
  | f + 1, v3, v4, mo_order =>
    ((v4 ≤ v3 →
    X50 mo_order) ∧
    (¬ v4 ≤ v3 →
    (0 ≤ v3 ∧ v3 < 64) ∧ (0 ≤ v4 ∧ v4 < 64) ∧ (0 ≤ v3 ∧ v3 < 64) ∧ (0 ≤ v4 ∧ v4 < 64) ∧ (tw_rg (v3 + 1)) ∧ (tw_rg (v4 + -1)) ∧ twl_mo_turn_5 X50 f (v3 + 1) (v4 + -1) (tw_up (tw_up mo_order (Int.toNat v3) (mo_order (Int.toNat v4))) (Int.toNat v4) (mo_order (Int.toNat v3)))))
set_option maxRecDepth 100000 in
set_option maxHeartbeats 4000000 in
theorem twt_mo_turn_5 {l : Launch} {D : va_G} {ad : Nat → Nat} {cI cZ : ClassId} {Z : tw_Z} {Post : tw_P} {X50 : (Nat → Int) → Prop} {mo_base mo_measure mo_size mo_known mo_root mo_top mo_lostIsolates mo_lostEmbeddings mo_openIsolates mo_n mo_beginning mo_ending mo_embedding mo_lines : Int} {mo_kind mo_group mo_width mo_pair mo_level mo_type mo_resolved mo_partner mo_entry mo_override mo_isolate mo_seq mo_mark mo_list mo_starts mo_shownLevels : Nat → Int} (hX : tw_cx (tw_YM l D ad cI cZ) Z prog_11_method_42_code twR_mo tw_Wg none 0 6) (hX50 : ∀ (mo_order : Nat → Int), X50 mo_order → tw_rn (tw_YM l D ad cI cZ) Z Post 50 [none, none, none, none, none, none] [] (tw_mM mo_base mo_measure mo_size mo_kind mo_group mo_width mo_pair mo_known mo_root mo_level mo_type mo_resolved mo_partner mo_top mo_entry mo_override mo_isolate mo_lostIsolates mo_lostEmbeddings mo_openIsolates mo_n mo_seq mo_mark mo_beginning mo_ending mo_embedding mo_list mo_lines mo_starts mo_shownLevels mo_order)) : ∀ (f : Nat) (v3 : Int) (v4 : Int) (mo_order : Nat → Int), twl_mo_turn_5 X50 f v3 v4 mo_order → tw_rn (tw_YM l D ad cI cZ) Z Post 5 [some (.inr 0), none, none, some (.inl v3), some (.inl v4), none] [] (tw_mM mo_base mo_measure mo_size mo_kind mo_group mo_width mo_pair mo_known mo_root mo_level mo_type mo_resolved mo_partner mo_top mo_entry mo_override mo_isolate mo_lostIsolates mo_lostEmbeddings mo_openIsolates mo_n mo_seq mo_mark mo_beginning mo_ending mo_embedding mo_list mo_lines mo_starts mo_shownLevels mo_order) := by
  intro f
  induction f with
  | zero => intro v3 v4 mo_order h; rw [twl_mo_turn_5] at h; exact h.elim
  | succ f ih =>
    intro v3 v4 mo_order h
    rw [twl_mo_turn_5] at h
    refine tw_iload_n hX twd_mo_turn_5 rfl rfl ?_
    refine tw_iload hX twd_mo_turn_6 rfl ?_
    refine tw_icmp_ge hX twd_mo_turn_8 rfl (fun q7 => ?_) (fun q7 => ?_)
    · have h := h.1 q7
      refine tw_wk (L' := [none, none, none, none, none, none]) (tw_le_n (tw_le_n (tw_le_n (tw_le_n (tw_le_n (tw_le_n tw_le_0)))))) ?_
      exact hX50 _ h
    · have h := h.2 q7
      refine tw_aload_n hX twd_mo_turn_11 rfl rfl ?_
      refine tw_get (kf := 30) hX twd_mo_turn_12 twin_mo rfl (by decide) tww_717 rfl rfl rfl ?_
      refine tw_iload_n hX twd_mo_turn_15 rfl rfl ?_
      obtain ⟨c1, h⟩ := h
      refine tw_iaload hX twd_mo_turn_16 rfl c1 ?_
      refine tw_istore (L' := [some (.inr 0), none, none, some (.inl v3), some (.inl v4), some (.inl (mo_order (Int.toNat v3)))]) hX twd_mo_turn_17 (by decide) rfl ?_
      refine tw_aload_n hX twd_mo_turn_19 rfl rfl ?_
      refine tw_get (kf := 30) hX twd_mo_turn_20 twin_mo rfl (by decide) tww_717 rfl rfl rfl ?_
      refine tw_iload_n hX twd_mo_turn_23 rfl rfl ?_
      refine tw_aload_n hX twd_mo_turn_24 rfl rfl ?_
      refine tw_get (kf := 30) hX twd_mo_turn_25 twin_mo rfl (by decide) tww_717 rfl rfl rfl ?_
      refine tw_iload hX twd_mo_turn_28 rfl ?_
      obtain ⟨c2, h⟩ := h
      refine tw_iaload hX twd_mo_turn_30 rfl c2 ?_
      obtain ⟨c3, h⟩ := h
      refine tw_iastore (mem' := (tw_mM mo_base mo_measure mo_size mo_kind mo_group mo_width mo_pair mo_known mo_root mo_level mo_type mo_resolved mo_partner mo_top mo_entry mo_override mo_isolate mo_lostIsolates mo_lostEmbeddings mo_openIsolates mo_n mo_seq mo_mark mo_beginning mo_ending mo_embedding mo_list mo_lines mo_starts mo_shownLevels (tw_up mo_order (Int.toNat v3) (mo_order (Int.toNat v4))))) hX twd_mo_turn_31 rfl c3 rfl ?_
      refine tw_aload_n hX twd_mo_turn_32 rfl rfl ?_
      refine tw_get (kf := 30) hX twd_mo_turn_33 twin_mo rfl (by decide) tww_717 rfl rfl rfl ?_
      refine tw_iload hX twd_mo_turn_36 rfl ?_
      refine tw_iload hX twd_mo_turn_38 rfl ?_
      obtain ⟨c4, h⟩ := h
      refine tw_iastore (mem' := (tw_mM mo_base mo_measure mo_size mo_kind mo_group mo_width mo_pair mo_known mo_root mo_level mo_type mo_resolved mo_partner mo_top mo_entry mo_override mo_isolate mo_lostIsolates mo_lostEmbeddings mo_openIsolates mo_n mo_seq mo_mark mo_beginning mo_ending mo_embedding mo_list mo_lines mo_starts mo_shownLevels (tw_up (tw_up mo_order (Int.toNat v3) (mo_order (Int.toNat v4))) (Int.toNat v4) (mo_order (Int.toNat v3))))) hX twd_mo_turn_40 rfl c4 rfl ?_
      obtain ⟨c5, h⟩ := h
      refine tw_iinc (L' := [some (.inr 0), none, none, some (.inl (v3 + 1)), some (.inl v4), some (.inl (mo_order (Int.toNat v3)))]) hX twd_mo_turn_41 rfl (by decide) c5 rfl ?_
      obtain ⟨c6, h⟩ := h
      refine tw_iinc (L' := [some (.inr 0), none, none, some (.inl (v3 + 1)), some (.inl (v4 + -1)), some (.inl (mo_order (Int.toNat v3)))]) hX twd_mo_turn_44 rfl (by decide) c6 rfl ?_
      refine tw_goto hX twd_mo_turn_47 rfl ?_
      refine tw_wk (L' := [some (.inr 0), none, none, some (.inl (v3 + 1)), some (.inl (v4 + -1)), none]) (tw_le_s (tw_le_n (tw_le_n (tw_le_s (tw_le_s (tw_le_n tw_le_0)))))) ?_
      exact ih _ _ _ h
def tww_mo_turn (v1 v2 : Int) (mo_order : Nat → Int) (K : (Nat → Int) → Prop) : Prop :=
  (∃ f9 : Nat, twl_mo_turn_5 (fun (y8_mo_order : Nat → Int) =>
  K y8_mo_order)  f9 v1 v2 mo_order)
set_option maxRecDepth 100000 in
set_option maxHeartbeats 4000000 in
theorem twc_mo_turn {l : Launch} {D : va_G} {ad : Nat → Nat} {cI cZ : ClassId} {Post : tw_P} {K : (Nat → Int) → Prop} {v1 v2 : Int} {mo_base mo_measure mo_size mo_known mo_root mo_top mo_lostIsolates mo_lostEmbeddings mo_openIsolates mo_n mo_beginning mo_ending mo_embedding mo_lines : Int} {mo_kind mo_group mo_width mo_pair mo_level mo_type mo_resolved mo_partner mo_entry mo_override mo_isolate mo_seq mo_mark mo_list mo_starts mo_shownLevels mo_order : Nat → Int} (h : tww_mo_turn v1 v2 mo_order K) (hK : ∀ (n_mo_order : Nat → Int), K n_mo_order → Post none (tw_mM mo_base mo_measure mo_size mo_kind mo_group mo_width mo_pair mo_known mo_root mo_level mo_type mo_resolved mo_partner mo_top mo_entry mo_override mo_isolate mo_lostIsolates mo_lostEmbeddings mo_openIsolates mo_n mo_seq mo_mark mo_beginning mo_ending mo_embedding mo_list mo_lines mo_starts mo_shownLevels n_mo_order)) : tw_ct (tw_YM l D ad cI cZ) twy_mo_turn (Cond.code twy_mo_turn prog_11_method_42_code 6 none :: tw_Wg) 0 [.inr 0, .inl v1, .inl v2] (tw_mM mo_base mo_measure mo_size mo_kind mo_group mo_width mo_pair mo_known mo_root mo_level mo_type mo_resolved mo_partner mo_top mo_entry mo_override mo_isolate mo_lostIsolates mo_lostEmbeddings mo_openIsolates mo_n mo_seq mo_mark mo_beginning mo_ending mo_embedding mo_list mo_lines mo_starts mo_shownLevels mo_order) Post := by
  refine tw_of (own := twR_mo) (L0 := [some (.inr 0), some (.inl v1), some (.inl v2), none, none, none]) (by decide) rfl rfl (Nat.le_of_ble_eq_true rfl) (fun Z hX => ?_)
  unfold tww_mo_turn at h
  refine tw_iload_n hX twd_mo_turn_0 rfl rfl ?_
  refine tw_istore_n (L' := [some (.inr 0), some (.inl v1), some (.inl v2), some (.inl v1), none, none]) hX twd_mo_turn_1 rfl (by decide) rfl ?_
  refine tw_iload_n hX twd_mo_turn_2 rfl rfl ?_
  refine tw_istore (L' := [some (.inr 0), some (.inl v1), some (.inl v2), some (.inl v1), some (.inl v2), none]) hX twd_mo_turn_3 (by decide) rfl ?_
  obtain ⟨f9, h⟩ := h
  refine tw_wk (L' := [some (.inr 0), none, none, some (.inl v1), some (.inl v2), none]) (tw_le_s (tw_le_n (tw_le_n (tw_le_s (tw_le_s (tw_le_n tw_le_0)))))) ?_
  refine twt_mo_turn_5 hX (fun y8_mo_order h => ?_) f9 _ _ _ h
  exact tw_vret hX twd_mo_turn_50 (hK _ h)
def twl_mo_showLine_7 (X111 : (Nat → Int) → (Nat → Int) → Prop) (v1 : Int) (v2 : Int) (mo_kind : Nat → Int) (mo_root : Int) (mo_resolved : Nat → Int) : Nat → Int → Int → (Nat → Int) → (Nat → Int) → Prop
  | 0, _, _, _, _ => False
  | f + 1, v3, v4, mo_shownLevels, mo_order =>
    ((v4 < v1 →
    X111 mo_shownLevels mo_order) ∧
    (¬ v4 < v1 →
    (0 ≤ v4 ∧ v4 < 64) ∧ (∀ J4 : Int → Prop, (∀ (x3 : Int), ((0 ≤ v4 ∧ v4 < 64) ∧ (∀ J7 : Int → Prop, (∀ (x6 : Int), ((((x6 = 0 → ((0 ≤ v4 ∧ v4 < 64)))) ∧
          (∀ x9 : Int, x9 = (if x6 = 0 then (mo_resolved (Int.toNat v4)) else mo_root) →
          (0 ≤ v4 ∧ v4 < 64) ∧ (0 ≤ v4 ∧ v4 < 64) ∧ (tw_rg (v4 + -1)) ∧ twl_mo_showLine_7 X111 v1 v2 mo_kind mo_root mo_resolved f x6 (v4 + -1) (tw_up mo_shownLevels (Int.toNat v4) x9) (tw_up mo_order (Int.toNat v4) v4)))) → J7 x6) →
        ∀ J17 : Prop, ((J7 1) → J17) →
        (((mo_kind (Int.toNat v4)) = 10 →
        J17) ∧
        (¬ (mo_kind (Int.toNat v4)) = 10 →
        (∀ J18 : Prop, ((J7 0) → J18) →
          ((v3 = 0 →
          J18) ∧
          (¬ v3 = 0 →
          ((x3 = 0 →
            J18) ∧
            (¬ x3 = 0 →
            J17))))))))) → J4 x3) →
      ∀ J22 : Prop, ((J4 1) → J22) →
      (((mo_kind (Int.toNat v4)) = 9 →
      J22) ∧
      (¬ (mo_kind (Int.toNat v4)) = 9 →
      (0 ≤ v4 ∧ v4 < 64) ∧ (((mo_kind (Int.toNat v4)) < 12 →
        J4 0) ∧
        (¬ (mo_kind (Int.toNat v4)) < 12 →
        J22)))))))
set_option maxRecDepth 100000 in
set_option maxHeartbeats 4000000 in
theorem twt_mo_showLine_7 {l : Launch} {D : va_G} {ad : Nat → Nat} {cI cZ : ClassId} {Z : tw_Z} {Post : tw_P} {X111 : (Nat → Int) → (Nat → Int) → Prop} {v1 : Int} {v2 : Int} {mo_base mo_measure mo_size mo_known mo_root mo_top mo_lostIsolates mo_lostEmbeddings mo_openIsolates mo_n mo_beginning mo_ending mo_embedding mo_lines : Int} {mo_kind mo_group mo_width mo_pair mo_level mo_type mo_resolved mo_partner mo_entry mo_override mo_isolate mo_seq mo_mark mo_list mo_starts : Nat → Int} (hX : tw_cx (tw_YM l D ad cI cZ) Z prog_11_method_43_code twR_mo tw_Wg none 1 7) (hX111 : ∀ (mo_shownLevels : Nat → Int) (mo_order : Nat → Int), X111 mo_shownLevels mo_order → tw_rn (tw_YM l D ad cI cZ) Z Post 111 [some (.inr 0), some (.inl v1), some (.inl v2), none, none, none, none] [] (tw_mM mo_base mo_measure mo_size mo_kind mo_group mo_width mo_pair mo_known mo_root mo_level mo_type mo_resolved mo_partner mo_top mo_entry mo_override mo_isolate mo_lostIsolates mo_lostEmbeddings mo_openIsolates mo_n mo_seq mo_mark mo_beginning mo_ending mo_embedding mo_list mo_lines mo_starts mo_shownLevels mo_order)) : ∀ (f : Nat) (v3 : Int) (v4 : Int) (mo_shownLevels : Nat → Int) (mo_order : Nat → Int), twl_mo_showLine_7 X111 v1 v2 mo_kind mo_root mo_resolved f v3 v4 mo_shownLevels mo_order → tw_rn (tw_YM l D ad cI cZ) Z Post 7 [some (.inr 0), some (.inl v1), some (.inl v2), some (.inl v3), some (.inl v4), none, none] [] (tw_mM mo_base mo_measure mo_size mo_kind mo_group mo_width mo_pair mo_known mo_root mo_level mo_type mo_resolved mo_partner mo_top mo_entry mo_override mo_isolate mo_lostIsolates mo_lostEmbeddings mo_openIsolates mo_n mo_seq mo_mark mo_beginning mo_ending mo_embedding mo_list mo_lines mo_starts mo_shownLevels mo_order) := by
  intro f
  induction f with
  | zero => intro v3 v4 mo_shownLevels mo_order h; rw [twl_mo_showLine_7] at h; exact h.elim
  | succ f ih =>
    intro v3 v4 mo_shownLevels mo_order h
    rw [twl_mo_showLine_7] at h
    refine tw_iload hX twd_mo_showLine_7 rfl ?_
    refine tw_iload_n hX twd_mo_showLine_9 rfl rfl ?_
    refine tw_icmp_lt hX twd_mo_showLine_10 rfl (fun q26 => ?_) (fun q26 => ?_)
    · have h := h.1 q26
      refine tw_wk (L' := [some (.inr 0), some (.inl v1), some (.inl v2), none, none, none, none]) (tw_le_s (tw_le_s (tw_le_s (tw_le_n (tw_le_n (tw_le_n (tw_le_n tw_le_0))))))) ?_
      exact hX111 _ _ h
    · have h := h.2 q26
      refine tw_aload_n hX twd_mo_showLine_13 rfl rfl ?_
      refine tw_get (kf := 3) hX twd_mo_showLine_14 twin_mo rfl (by decide) tww_690 rfl rfl rfl ?_
      refine tw_iload hX twd_mo_showLine_17 rfl ?_
      obtain ⟨c2, h⟩ := h
      refine tw_iaload hX twd_mo_showLine_19 rfl c2 ?_
      refine tw_bipush hX twd_mo_showLine_20 (by decide +kernel) ⟨by decide, by decide⟩ ?_
      have h := h (fun (x3 : Int) => tw_rn (tw_YM l D ad cI cZ) Z Post 42 [some (.inr 0), some (.inl v1), some (.inl v2), some (.inl v3), some (.inl v4), none, none] [.inl x3] (tw_mM mo_base mo_measure mo_size mo_kind mo_group mo_width mo_pair mo_known mo_root mo_level mo_type mo_resolved mo_partner mo_top mo_entry mo_override mo_isolate mo_lostIsolates mo_lostEmbeddings mo_openIsolates mo_n mo_seq mo_mark mo_beginning mo_ending mo_embedding mo_list mo_lines mo_starts mo_shownLevels mo_order)) (by
        intro x3 h
        refine tw_istore (L' := [some (.inr 0), some (.inl v1), some (.inl v2), some (.inl v3), some (.inl v4), some (.inl x3), none]) hX twd_mo_showLine_42 (by decide) rfl ?_
        refine tw_aload_n hX twd_mo_showLine_44 rfl rfl ?_
        refine tw_get (kf := 3) hX twd_mo_showLine_45 twin_mo rfl (by decide) tww_690 rfl rfl rfl ?_
        refine tw_iload hX twd_mo_showLine_48 rfl ?_
        obtain ⟨c5, h⟩ := h
        refine tw_iaload hX twd_mo_showLine_50 rfl c5 ?_
        refine tw_bipush hX twd_mo_showLine_51 (by decide +kernel) ⟨by decide, by decide⟩ ?_
        have h := h (fun (x6 : Int) => tw_rn (tw_YM l D ad cI cZ) Z Post 70 [some (.inr 0), some (.inl v1), some (.inl v2), none, some (.inl v4), none, none] [.inl x6] (tw_mM mo_base mo_measure mo_size mo_kind mo_group mo_width mo_pair mo_known mo_root mo_level mo_type mo_resolved mo_partner mo_top mo_entry mo_override mo_isolate mo_lostIsolates mo_lostEmbeddings mo_openIsolates mo_n mo_seq mo_mark mo_beginning mo_ending mo_embedding mo_list mo_lines mo_starts mo_shownLevels mo_order)) (by
          intro x6 h
          refine tw_istore_n (L' := [some (.inr 0), some (.inl v1), some (.inl v2), some (.inl x6), some (.inl v4), none, none]) hX twd_mo_showLine_70 rfl (by decide) rfl ?_
          refine tw_aload_n hX twd_mo_showLine_71 rfl rfl ?_
          refine tw_get (kf := 29) hX twd_mo_showLine_72 twin_mo rfl (by decide) tww_716 rfl rfl rfl ?_
          refine tw_iload hX twd_mo_showLine_75 rfl ?_
          refine tw_iload_n hX twd_mo_showLine_77 rfl rfl ?_
          obtain ⟨o13, h⟩ := h
          have j14 : ∀ x9 : Int, x9 = (if x6 = 0 then (mo_resolved (Int.toNat v4)) else mo_root) → tw_rn (tw_YM l D ad cI cZ) Z Post 95 [some (.inr 0), some (.inl v1), some (.inl v2), some (.inl x6), some (.inl v4), none, none] [.inl x9, .inl v4, .inr 16] (tw_mM mo_base mo_measure mo_size mo_kind mo_group mo_width mo_pair mo_known mo_root mo_level mo_type mo_resolved mo_partner mo_top mo_entry mo_override mo_isolate mo_lostIsolates mo_lostEmbeddings mo_openIsolates mo_n mo_seq mo_mark mo_beginning mo_ending mo_embedding mo_list mo_lines mo_starts mo_shownLevels mo_order) := by
            intro x9 e15
            have h := h x9 e15
            obtain ⟨c10, h⟩ := h
            refine tw_iastore (mem' := (tw_mM mo_base mo_measure mo_size mo_kind mo_group mo_width mo_pair mo_known mo_root mo_level mo_type mo_resolved mo_partner mo_top mo_entry mo_override mo_isolate mo_lostIsolates mo_lostEmbeddings mo_openIsolates mo_n mo_seq mo_mark mo_beginning mo_ending mo_embedding mo_list mo_lines mo_starts (tw_up mo_shownLevels (Int.toNat v4) x9) mo_order)) hX twd_mo_showLine_95 rfl c10 rfl ?_
            refine tw_aload_n hX twd_mo_showLine_96 rfl rfl ?_
            refine tw_get (kf := 30) hX twd_mo_showLine_97 twin_mo rfl (by decide) tww_717 rfl rfl rfl ?_
            refine tw_iload hX twd_mo_showLine_100 rfl ?_
            refine tw_iload hX twd_mo_showLine_102 rfl ?_
            obtain ⟨c11, h⟩ := h
            refine tw_iastore (mem' := (tw_mM mo_base mo_measure mo_size mo_kind mo_group mo_width mo_pair mo_known mo_root mo_level mo_type mo_resolved mo_partner mo_top mo_entry mo_override mo_isolate mo_lostIsolates mo_lostEmbeddings mo_openIsolates mo_n mo_seq mo_mark mo_beginning mo_ending mo_embedding mo_list mo_lines mo_starts (tw_up mo_shownLevels (Int.toNat v4) x9) (tw_up mo_order (Int.toNat v4) v4))) hX twd_mo_showLine_104 rfl c11 rfl ?_
            obtain ⟨c12, h⟩ := h
            refine tw_iinc (L' := [some (.inr 0), some (.inl v1), some (.inl v2), some (.inl x6), some (.inl (v4 + -1)), none, none]) hX twd_mo_showLine_105 rfl (by decide) c12 rfl ?_
            refine tw_goto hX twd_mo_showLine_108 rfl ?_
            exact ih _ _ _ _ h
          refine tw_if_eq hX twd_mo_showLine_78 rfl (fun q16 => ?_) (fun q16 => ?_)
          · have _tw := trivial
            have o13 := o13 q16
            refine tw_aload_n hX twd_mo_showLine_88 rfl rfl ?_
            refine tw_get (kf := 11) hX twd_mo_showLine_89 twin_mo rfl (by decide) tww_698 rfl rfl rfl ?_
            refine tw_iload hX twd_mo_showLine_92 rfl ?_
            have c8 := o13
            refine tw_iaload hX twd_mo_showLine_94 rfl c8 ?_
            exact j14 _ (Eq.symm (if_pos q16))
          · have _tw := trivial
            refine tw_aload_n hX twd_mo_showLine_81 rfl rfl ?_
            refine tw_get (kf := 8) hX twd_mo_showLine_82 twin_mo rfl (by decide) tww_695 rfl rfl rfl ?_
            refine tw_goto hX twd_mo_showLine_85 rfl ?_
            exact j14 _ (Eq.symm (if_neg q16)))
        have h := h (tw_rn (tw_YM l D ad cI cZ) Z Post 65 [some (.inr 0), some (.inl v1), some (.inl v2), none, some (.inl v4), none, none] [] (tw_mM mo_base mo_measure mo_size mo_kind mo_group mo_width mo_pair mo_known mo_root mo_level mo_type mo_resolved mo_partner mo_top mo_entry mo_override mo_isolate mo_lostIsolates mo_lostEmbeddings mo_openIsolates mo_n mo_seq mo_mark mo_beginning mo_ending mo_embedding mo_list mo_lines mo_starts mo_shownLevels mo_order)) (by
          intro  h
          refine tw_iconst hX twd_mo_showLine_65 ⟨by decide, by decide⟩ ?_
          refine tw_goto hX twd_mo_showLine_66 rfl ?_
          exact h)
        refine tw_icmp_eq hX twd_mo_showLine_53 rfl (fun q21 => ?_) (fun q21 => ?_)
        · have h := h.1 q21
          refine tw_wk (L' := [some (.inr 0), some (.inl v1), some (.inl v2), none, some (.inl v4), none, none]) (tw_le_s (tw_le_s (tw_le_s (tw_le_n (tw_le_s (tw_le_n (tw_le_n tw_le_0))))))) ?_
          exact h
        · have h := h.2 q21
          refine tw_iload_n hX twd_mo_showLine_56 rfl rfl ?_
          have h := h (tw_rn (tw_YM l D ad cI cZ) Z Post 69 [some (.inr 0), some (.inl v1), some (.inl v2), none, some (.inl v4), none, none] [] (tw_mM mo_base mo_measure mo_size mo_kind mo_group mo_width mo_pair mo_known mo_root mo_level mo_type mo_resolved mo_partner mo_top mo_entry mo_override mo_isolate mo_lostIsolates mo_lostEmbeddings mo_openIsolates mo_n mo_seq mo_mark mo_beginning mo_ending mo_embedding mo_list mo_lines mo_starts mo_shownLevels mo_order)) (by
            intro  h
            refine tw_iconst hX twd_mo_showLine_69 ⟨by decide, by decide⟩ ?_
            exact h)
          refine tw_if_eq hX twd_mo_showLine_57 rfl (fun q20 => ?_) (fun q20 => ?_)
          · have h := h.1 q20
            refine tw_wk (L' := [some (.inr 0), some (.inl v1), some (.inl v2), none, some (.inl v4), none, none]) (tw_le_s (tw_le_s (tw_le_s (tw_le_n (tw_le_s (tw_le_n (tw_le_n tw_le_0))))))) ?_
            exact h
          · have h := h.2 q20
            refine tw_iload hX twd_mo_showLine_60 rfl ?_
            refine tw_if_eq hX twd_mo_showLine_62 rfl (fun q19 => ?_) (fun q19 => ?_)
            · have h := h.1 q19
              refine tw_wk (L' := [some (.inr 0), some (.inl v1), some (.inl v2), none, some (.inl v4), none, none]) (tw_le_s (tw_le_s (tw_le_s (tw_le_n (tw_le_s (tw_le_n (tw_le_n tw_le_0))))))) ?_
              exact h
            · have h := h.2 q19
              refine tw_wk (L' := [some (.inr 0), some (.inl v1), some (.inl v2), none, some (.inl v4), none, none]) (tw_le_s (tw_le_s (tw_le_s (tw_le_n (tw_le_s (tw_le_n (tw_le_n tw_le_0))))))) ?_
              exact h)
      have h := h (tw_rn (tw_YM l D ad cI cZ) Z Post 37 [some (.inr 0), some (.inl v1), some (.inl v2), some (.inl v3), some (.inl v4), none, none] [] (tw_mM mo_base mo_measure mo_size mo_kind mo_group mo_width mo_pair mo_known mo_root mo_level mo_type mo_resolved mo_partner mo_top mo_entry mo_override mo_isolate mo_lostIsolates mo_lostEmbeddings mo_openIsolates mo_n mo_seq mo_mark mo_beginning mo_ending mo_embedding mo_list mo_lines mo_starts mo_shownLevels mo_order)) (by
        intro  h
        refine tw_iconst hX twd_mo_showLine_37 ⟨by decide, by decide⟩ ?_
        refine tw_goto hX twd_mo_showLine_38 rfl ?_
        exact h)
      refine tw_icmp_eq hX twd_mo_showLine_22 rfl (fun q25 => ?_) (fun q25 => ?_)
      · have h := h.1 q25
        exact h
      · have h := h.2 q25
        refine tw_aload_n hX twd_mo_showLine_25 rfl rfl ?_
        refine tw_get (kf := 3) hX twd_mo_showLine_26 twin_mo rfl (by decide) tww_690 rfl rfl rfl ?_
        refine tw_iload hX twd_mo_showLine_29 rfl ?_
        obtain ⟨c23, h⟩ := h
        refine tw_iaload hX twd_mo_showLine_31 rfl c23 ?_
        refine tw_bipush hX twd_mo_showLine_32 (by decide +kernel) ⟨by decide, by decide⟩ ?_
        refine tw_icmp_lt hX twd_mo_showLine_34 rfl (fun q24 => ?_) (fun q24 => ?_)
        · have h := h.1 q24
          refine tw_iconst hX twd_mo_showLine_41 ⟨by decide, by decide⟩ ?_
          exact h
        · have h := h.2 q24
          exact h
def twl_mo_showLine_134 (X163 : Int → Prop) (v1 : Int) (v2 : Int) (v4 : Int) (v5 : Int) (mo_kind : Nat → Int) (mo_root : Int) (mo_resolved : Nat → Int) (mo_shownLevels : Nat → Int) (mo_order : Nat → Int) : Nat → Int → Prop
  | 0, _ => False
  | f + 1, v6 =>
    ((v2 ≤ v6 →
    X163 v6) ∧
    (¬ v2 ≤ v6 →
    (0 ≤ v6 ∧ v6 < 64) ∧ (0 ≤ (mo_order (Int.toNat v6)) ∧ (mo_order (Int.toNat v6)) < 64) ∧ (((mo_shownLevels (Int.toNat (mo_order (Int.toNat v6)))) < v4 →
      X163 v6) ∧
      (¬ (mo_shownLevels (Int.toNat (mo_order (Int.toNat v6)))) < v4 →
      (tw_rg (v6 + 1)) ∧ twl_mo_showLine_134 X163 v1 v2 v4 v5 mo_kind mo_root mo_resolved mo_shownLevels mo_order f (v6 + 1)))))
set_option maxRecDepth 100000 in
set_option maxHeartbeats 4000000 in
theorem twt_mo_showLine_134 {l : Launch} {D : va_G} {ad : Nat → Nat} {cI cZ : ClassId} {Z : tw_Z} {Post : tw_P} {X163 : Int → Prop} {v1 : Int} {v2 : Int} {v4 : Int} {v5 : Int} {mo_base mo_measure mo_size mo_known mo_root mo_top mo_lostIsolates mo_lostEmbeddings mo_openIsolates mo_n mo_beginning mo_ending mo_embedding mo_lines : Int} {mo_kind mo_group mo_width mo_pair mo_level mo_type mo_resolved mo_partner mo_entry mo_override mo_isolate mo_seq mo_mark mo_list mo_starts mo_shownLevels mo_order : Nat → Int} (hX : tw_cx (tw_YM l D ad cI cZ) Z prog_11_method_43_code twR_mo tw_Wg none 1 7) (hX163 : ∀ (v6 : Int), X163 v6 → tw_rn (tw_YM l D ad cI cZ) Z Post 163 [some (.inr 0), some (.inl v1), some (.inl v2), none, some (.inl v4), some (.inl v5), some (.inl v6)] [] (tw_mM mo_base mo_measure mo_size mo_kind mo_group mo_width mo_pair mo_known mo_root mo_level mo_type mo_resolved mo_partner mo_top mo_entry mo_override mo_isolate mo_lostIsolates mo_lostEmbeddings mo_openIsolates mo_n mo_seq mo_mark mo_beginning mo_ending mo_embedding mo_list mo_lines mo_starts mo_shownLevels mo_order)) : ∀ (f : Nat) (v6 : Int), twl_mo_showLine_134 X163 v1 v2 v4 v5 mo_kind mo_root mo_resolved mo_shownLevels mo_order f v6 → tw_rn (tw_YM l D ad cI cZ) Z Post 134 [some (.inr 0), some (.inl v1), some (.inl v2), none, some (.inl v4), some (.inl v5), some (.inl v6)] [] (tw_mM mo_base mo_measure mo_size mo_kind mo_group mo_width mo_pair mo_known mo_root mo_level mo_type mo_resolved mo_partner mo_top mo_entry mo_override mo_isolate mo_lostIsolates mo_lostEmbeddings mo_openIsolates mo_n mo_seq mo_mark mo_beginning mo_ending mo_embedding mo_list mo_lines mo_starts mo_shownLevels mo_order) := by
  intro f
  induction f with
  | zero => intro v6 h; rw [twl_mo_showLine_134] at h; exact h.elim
  | succ f ih =>
    intro v6 h
    rw [twl_mo_showLine_134] at h
    refine tw_iload hX twd_mo_showLine_134 rfl ?_
    refine tw_iload_n hX twd_mo_showLine_136 rfl rfl ?_
    refine tw_icmp_ge hX twd_mo_showLine_137 rfl (fun q33 => ?_) (fun q33 => ?_)
    · have h := h.1 q33
      exact hX163 _ h
    · have h := h.2 q33
      refine tw_aload_n hX twd_mo_showLine_140 rfl rfl ?_
      refine tw_get (kf := 29) hX twd_mo_showLine_141 twin_mo rfl (by decide) tww_716 rfl rfl rfl ?_
      refine tw_aload_n hX twd_mo_showLine_144 rfl rfl ?_
      refine tw_get (kf := 30) hX twd_mo_showLine_145 twin_mo rfl (by decide) tww_717 rfl rfl rfl ?_
      refine tw_iload hX twd_mo_showLine_148 rfl ?_
      obtain ⟨c29, h⟩ := h
      refine tw_iaload hX twd_mo_showLine_150 rfl c29 ?_
      obtain ⟨c30, h⟩ := h
      refine tw_iaload hX twd_mo_showLine_151 rfl c30 ?_
      refine tw_iload hX twd_mo_showLine_152 rfl ?_
      refine tw_icmp_lt hX twd_mo_showLine_154 rfl (fun q32 => ?_) (fun q32 => ?_)
      · have h := h.1 q32
        exact hX163 _ h
      · have h := h.2 q32
        obtain ⟨c31, h⟩ := h
        refine tw_iinc (L' := [some (.inr 0), some (.inl v1), some (.inl v2), none, some (.inl v4), some (.inl v5), some (.inl (v6 + 1))]) hX twd_mo_showLine_157 rfl (by decide) c31 rfl ?_
        refine tw_goto hX twd_mo_showLine_160 rfl ?_
        exact ih _ h
def twl_mo_showLine_124 (X194 : (Nat → Int) → Prop) (v1 : Int) (v2 : Int) (v4 : Int) (mo_kind : Nat → Int) (mo_root : Int) (mo_resolved : Nat → Int) (mo_shownLevels : Nat → Int) : Nat → Int → (Nat → Int) → Prop
  | 0, _, _ => False
  | f + 1, v5, mo_order =>
    ((v2 ≤ v5 →
    X194 mo_order) ∧
    (¬ v2 ≤ v5 →
    (∃ f43 : Nat, twl_mo_showLine_134 (fun (y34 : Int) =>
      (tw_rg (y34 - 1)) ∧ tww_mo_turn v5 (y34 - 1) mo_order (fun m_36_mo_order =>
        (((y34 ≤ v5 → ((tw_rg (v5 + 1))))) ∧
        (∀ x38 : Int, x38 = (if y34 ≤ v5 then (v5 + 1) else y34) →
        twl_mo_showLine_124 X194 v1 v2 v4 mo_kind mo_root mo_resolved mo_shownLevels f x38 m_36_mo_order)))) v1 v2 v4 v5 mo_kind mo_root mo_resolved mo_shownLevels mo_order f43 v5)))
set_option maxRecDepth 100000 in
set_option maxHeartbeats 4000000 in
theorem twt_mo_showLine_124 {l : Launch} {D : va_G} {ad : Nat → Nat} {cI cZ : ClassId} {Z : tw_Z} {Post : tw_P} {X194 : (Nat → Int) → Prop} {v1 : Int} {v2 : Int} {v4 : Int} {mo_base mo_measure mo_size mo_known mo_root mo_top mo_lostIsolates mo_lostEmbeddings mo_openIsolates mo_n mo_beginning mo_ending mo_embedding mo_lines : Int} {mo_kind mo_group mo_width mo_pair mo_level mo_type mo_resolved mo_partner mo_entry mo_override mo_isolate mo_seq mo_mark mo_list mo_starts mo_shownLevels : Nat → Int} (hX : tw_cx (tw_YM l D ad cI cZ) Z prog_11_method_43_code twR_mo tw_Wg none 1 7) (hX194 : ∀ (mo_order : Nat → Int), X194 mo_order → tw_rn (tw_YM l D ad cI cZ) Z Post 194 [some (.inr 0), some (.inl v1), some (.inl v2), none, some (.inl v4), none, none] [] (tw_mM mo_base mo_measure mo_size mo_kind mo_group mo_width mo_pair mo_known mo_root mo_level mo_type mo_resolved mo_partner mo_top mo_entry mo_override mo_isolate mo_lostIsolates mo_lostEmbeddings mo_openIsolates mo_n mo_seq mo_mark mo_beginning mo_ending mo_embedding mo_list mo_lines mo_starts mo_shownLevels mo_order)) : ∀ (f : Nat) (v5 : Int) (mo_order : Nat → Int), twl_mo_showLine_124 X194 v1 v2 v4 mo_kind mo_root mo_resolved mo_shownLevels f v5 mo_order → tw_rn (tw_YM l D ad cI cZ) Z Post 124 [some (.inr 0), some (.inl v1), some (.inl v2), none, some (.inl v4), some (.inl v5), none] [] (tw_mM mo_base mo_measure mo_size mo_kind mo_group mo_width mo_pair mo_known mo_root mo_level mo_type mo_resolved mo_partner mo_top mo_entry mo_override mo_isolate mo_lostIsolates mo_lostEmbeddings mo_openIsolates mo_n mo_seq mo_mark mo_beginning mo_ending mo_embedding mo_list mo_lines mo_starts mo_shownLevels mo_order) := by
  intro f
  induction f with
  | zero => intro v5 mo_order h; rw [twl_mo_showLine_124] at h; exact h.elim
  | succ f ih =>
    intro v5 mo_order h
    rw [twl_mo_showLine_124] at h
    refine tw_iload hX twd_mo_showLine_124 rfl ?_
    refine tw_iload_n hX twd_mo_showLine_126 rfl rfl ?_
    refine tw_icmp_ge hX twd_mo_showLine_127 rfl (fun q44 => ?_) (fun q44 => ?_)
    · have h := h.1 q44
      refine tw_wk (L' := [some (.inr 0), some (.inl v1), some (.inl v2), none, some (.inl v4), none, none]) (tw_le_s (tw_le_s (tw_le_s (tw_le_n (tw_le_s (tw_le_n (tw_le_n tw_le_0))))))) ?_
      exact hX194 _ h
    · have h := h.2 q44
      refine tw_iload hX twd_mo_showLine_130 rfl ?_
      refine tw_istore (L' := [some (.inr 0), some (.inl v1), some (.inl v2), none, some (.inl v4), some (.inl v5), some (.inl v5)]) hX twd_mo_showLine_132 (by decide) rfl ?_
      obtain ⟨f43, h⟩ := h
      refine twt_mo_showLine_134 hX (fun y34 h => ?_) f43 _ h
      refine tw_aload_n hX twd_mo_showLine_163 rfl rfl ?_
      refine tw_iload hX twd_mo_showLine_164 rfl ?_
      refine tw_iload hX twd_mo_showLine_166 rfl ?_
      refine tw_iconst hX twd_mo_showLine_168 ⟨by decide, by decide⟩ ?_
      obtain ⟨c35, h⟩ := h
      refine tw_isub hX twd_mo_showLine_169 c35 ?_
      refine tw_callV (As := [.inl v5, .inl (y34 - 1)]) (n := 2) hX twd_mo_showLine_170 tw_good tww_958 tww_955 tww_957 tww_74 tww_86 twk_mo_turn rfl rfl ⟨by decide, by decide⟩ rfl (Nat.le_of_ble_eq_true rfl) (twc_mo_turn h (fun m_36_mo_order h => ?_))
      change tw_rn (tw_YM l D ad cI cZ) Z Post 173 [some (.inr 0), some (.inl v1), some (.inl v2), none, some (.inl v4), some (.inl v5), some (.inl y34)] [] (tw_mM mo_base mo_measure mo_size mo_kind mo_group mo_width mo_pair mo_known mo_root mo_level mo_type mo_resolved mo_partner mo_top mo_entry mo_override mo_isolate mo_lostIsolates mo_lostEmbeddings mo_openIsolates mo_n mo_seq mo_mark mo_beginning mo_ending mo_embedding mo_list mo_lines mo_starts mo_shownLevels m_36_mo_order)
      refine tw_iload hX twd_mo_showLine_173 rfl ?_
      refine tw_iload hX twd_mo_showLine_175 rfl ?_
      obtain ⟨o39, h⟩ := h
      have j40 : ∀ x38 : Int, x38 = (if y34 ≤ v5 then (v5 + 1) else y34) → tw_rn (tw_YM l D ad cI cZ) Z Post 189 [some (.inr 0), some (.inl v1), some (.inl v2), none, some (.inl v4), none, none] [.inl x38] (tw_mM mo_base mo_measure mo_size mo_kind mo_group mo_width mo_pair mo_known mo_root mo_level mo_type mo_resolved mo_partner mo_top mo_entry mo_override mo_isolate mo_lostIsolates mo_lostEmbeddings mo_openIsolates mo_n mo_seq mo_mark mo_beginning mo_ending mo_embedding mo_list mo_lines mo_starts mo_shownLevels m_36_mo_order) := by
        intro x38 e41
        have h := h x38 e41
        refine tw_istore (L' := [some (.inr 0), some (.inl v1), some (.inl v2), none, some (.inl v4), some (.inl x38), none]) hX twd_mo_showLine_189 (by decide) rfl ?_
        refine tw_goto hX twd_mo_showLine_191 rfl ?_
        exact ih _ _ h
      refine tw_icmp_le hX twd_mo_showLine_177 rfl (fun q42 => ?_) (fun q42 => ?_)
      · have _tw := trivial
        have o39 := o39 q42
        refine tw_iload hX twd_mo_showLine_185 rfl ?_
        refine tw_iconst hX twd_mo_showLine_187 ⟨by decide, by decide⟩ ?_
        have c37 := o39
        refine tw_iadd hX twd_mo_showLine_188 c37 ?_
        refine tw_wk (L' := [some (.inr 0), some (.inl v1), some (.inl v2), none, some (.inl v4), none, none]) (tw_le_s (tw_le_s (tw_le_s (tw_le_n (tw_le_s (tw_le_n (tw_le_n tw_le_0))))))) ?_
        exact j40 _ (Eq.symm (if_pos q42))
      · have _tw := trivial
        refine tw_iload hX twd_mo_showLine_180 rfl ?_
        refine tw_goto hX twd_mo_showLine_182 rfl ?_
        refine tw_wk (L' := [some (.inr 0), some (.inl v1), some (.inl v2), none, some (.inl v4), none, none]) (tw_le_s (tw_le_s (tw_le_s (tw_le_n (tw_le_s (tw_le_n (tw_le_n tw_le_0))))))) ?_
        exact j40 _ (Eq.symm (if_neg q42))
def twl_mo_showLine_115 (X200 : (Nat → Int) → Prop) (v1 : Int) (v2 : Int) (mo_kind : Nat → Int) (mo_root : Int) (mo_resolved : Nat → Int) (mo_shownLevels : Nat → Int) : Nat → Int → (Nat → Int) → Prop
  | 0, _, _ => False
  | f + 1, v4, mo_order =>
    ((v4 < 1 →
    X200 mo_order) ∧
    (¬ v4 < 1 →
    (∃ f47 : Nat, twl_mo_showLine_124 (fun (y45_mo_order : Nat → Int) =>
      (tw_rg (v4 + -1)) ∧ twl_mo_showLine_115 X200 v1 v2 mo_kind mo_root mo_resolved mo_shownLevels f (v4 + -1) y45_mo_order) v1 v2 v4 mo_kind mo_root mo_resolved mo_shownLevels f47 v1 mo_order)))
set_option maxRecDepth 100000 in
set_option maxHeartbeats 4000000 in
theorem twt_mo_showLine_115 {l : Launch} {D : va_G} {ad : Nat → Nat} {cI cZ : ClassId} {Z : tw_Z} {Post : tw_P} {X200 : (Nat → Int) → Prop} {v1 : Int} {v2 : Int} {mo_base mo_measure mo_size mo_known mo_root mo_top mo_lostIsolates mo_lostEmbeddings mo_openIsolates mo_n mo_beginning mo_ending mo_embedding mo_lines : Int} {mo_kind mo_group mo_width mo_pair mo_level mo_type mo_resolved mo_partner mo_entry mo_override mo_isolate mo_seq mo_mark mo_list mo_starts mo_shownLevels : Nat → Int} (hX : tw_cx (tw_YM l D ad cI cZ) Z prog_11_method_43_code twR_mo tw_Wg none 1 7) (hX200 : ∀ (mo_order : Nat → Int), X200 mo_order → tw_rn (tw_YM l D ad cI cZ) Z Post 200 [none, none, none, none, none, none, none] [] (tw_mM mo_base mo_measure mo_size mo_kind mo_group mo_width mo_pair mo_known mo_root mo_level mo_type mo_resolved mo_partner mo_top mo_entry mo_override mo_isolate mo_lostIsolates mo_lostEmbeddings mo_openIsolates mo_n mo_seq mo_mark mo_beginning mo_ending mo_embedding mo_list mo_lines mo_starts mo_shownLevels mo_order)) : ∀ (f : Nat) (v4 : Int) (mo_order : Nat → Int), twl_mo_showLine_115 X200 v1 v2 mo_kind mo_root mo_resolved mo_shownLevels f v4 mo_order → tw_rn (tw_YM l D ad cI cZ) Z Post 115 [some (.inr 0), some (.inl v1), some (.inl v2), none, some (.inl v4), none, none] [] (tw_mM mo_base mo_measure mo_size mo_kind mo_group mo_width mo_pair mo_known mo_root mo_level mo_type mo_resolved mo_partner mo_top mo_entry mo_override mo_isolate mo_lostIsolates mo_lostEmbeddings mo_openIsolates mo_n mo_seq mo_mark mo_beginning mo_ending mo_embedding mo_list mo_lines mo_starts mo_shownLevels mo_order) := by
  intro f
  induction f with
  | zero => intro v4 mo_order h; rw [twl_mo_showLine_115] at h; exact h.elim
  | succ f ih =>
    intro v4 mo_order h
    rw [twl_mo_showLine_115] at h
    refine tw_iload hX twd_mo_showLine_115 rfl ?_
    refine tw_iconst hX twd_mo_showLine_117 ⟨by decide, by decide⟩ ?_
    refine tw_icmp_lt hX twd_mo_showLine_118 rfl (fun q48 => ?_) (fun q48 => ?_)
    · have h := h.1 q48
      refine tw_wk (L' := [none, none, none, none, none, none, none]) (tw_le_n (tw_le_n (tw_le_n (tw_le_n (tw_le_n (tw_le_n (tw_le_n tw_le_0))))))) ?_
      exact hX200 _ h
    · have h := h.2 q48
      refine tw_iload_n hX twd_mo_showLine_121 rfl rfl ?_
      refine tw_istore (L' := [some (.inr 0), some (.inl v1), some (.inl v2), none, some (.inl v4), some (.inl v1), none]) hX twd_mo_showLine_122 (by decide) rfl ?_
      obtain ⟨f47, h⟩ := h
      refine twt_mo_showLine_124 hX (fun y45_mo_order h => ?_) f47 _ _ h
      obtain ⟨c46, h⟩ := h
      refine tw_iinc (L' := [some (.inr 0), some (.inl v1), some (.inl v2), none, some (.inl (v4 + -1)), none, none]) hX twd_mo_showLine_194 rfl (by decide) c46 rfl ?_
      refine tw_goto hX twd_mo_showLine_197 rfl ?_
      exact ih _ _ h
def tww_mo_showLine (v1 v2 : Int) (mo_kind : Nat → Int) (mo_root : Int) (mo_resolved : Nat → Int) (mo_shownLevels : Nat → Int) (mo_order : Nat → Int) (K : (Nat → Int) → (Nat → Int) → Prop) : Prop :=
  (tw_rg (v2 - 1)) ∧ (∃ f51 : Nat, twl_mo_showLine_7 (fun (y27_mo_shownLevels : Nat → Int) (y28_mo_order : Nat → Int) =>
  (∃ f50 : Nat, twl_mo_showLine_115 (fun (y49_mo_order : Nat → Int) =>
    K y27_mo_shownLevels y49_mo_order) v1 v2 mo_kind mo_root mo_resolved y27_mo_shownLevels f50 8 y28_mo_order)) v1 v2 mo_kind mo_root mo_resolved f51 1 (v2 - 1) mo_shownLevels mo_order)
set_option maxRecDepth 100000 in
set_option maxHeartbeats 4000000 in
theorem twc_mo_showLine {l : Launch} {D : va_G} {ad : Nat → Nat} {cI cZ : ClassId} {Post : tw_P} {K : (Nat → Int) → (Nat → Int) → Prop} {v1 v2 : Int} {mo_base mo_measure mo_size mo_known mo_root mo_top mo_lostIsolates mo_lostEmbeddings mo_openIsolates mo_n mo_beginning mo_ending mo_embedding mo_lines : Int} {mo_kind mo_group mo_width mo_pair mo_level mo_type mo_resolved mo_partner mo_entry mo_override mo_isolate mo_seq mo_mark mo_list mo_starts mo_shownLevels mo_order : Nat → Int} (h : tww_mo_showLine v1 v2 mo_kind mo_root mo_resolved mo_shownLevels mo_order K) (hK : ∀ (n_mo_shownLevels : Nat → Int) (n_mo_order : Nat → Int), K n_mo_shownLevels n_mo_order → Post none (tw_mM mo_base mo_measure mo_size mo_kind mo_group mo_width mo_pair mo_known mo_root mo_level mo_type mo_resolved mo_partner mo_top mo_entry mo_override mo_isolate mo_lostIsolates mo_lostEmbeddings mo_openIsolates mo_n mo_seq mo_mark mo_beginning mo_ending mo_embedding mo_list mo_lines mo_starts n_mo_shownLevels n_mo_order)) : tw_ct (tw_YM l D ad cI cZ) twy_mo_showLine (Cond.code twy_mo_showLine prog_11_method_43_code 7 none :: tw_Wg) 1 [.inr 0, .inl v1, .inl v2] (tw_mM mo_base mo_measure mo_size mo_kind mo_group mo_width mo_pair mo_known mo_root mo_level mo_type mo_resolved mo_partner mo_top mo_entry mo_override mo_isolate mo_lostIsolates mo_lostEmbeddings mo_openIsolates mo_n mo_seq mo_mark mo_beginning mo_ending mo_embedding mo_list mo_lines mo_starts mo_shownLevels mo_order) Post := by
  refine tw_of (own := twR_mo) (L0 := [some (.inr 0), some (.inl v1), some (.inl v2), none, none, none, none]) (by decide) rfl rfl (Nat.le_of_ble_eq_true rfl) (fun Z hX => ?_)
  unfold tww_mo_showLine at h
  refine tw_iconst hX twd_mo_showLine_0 ⟨by decide, by decide⟩ ?_
  refine tw_istore_n (L' := [some (.inr 0), some (.inl v1), some (.inl v2), some (.inl 1), none, none, none]) hX twd_mo_showLine_1 rfl (by decide) rfl ?_
  refine tw_iload_n hX twd_mo_showLine_2 rfl rfl ?_
  refine tw_iconst hX twd_mo_showLine_3 ⟨by decide, by decide⟩ ?_
  obtain ⟨c1, h⟩ := h
  refine tw_isub hX twd_mo_showLine_4 c1 ?_
  refine tw_istore (L' := [some (.inr 0), some (.inl v1), some (.inl v2), some (.inl 1), some (.inl (v2 - 1)), none, none]) hX twd_mo_showLine_5 (by decide) rfl ?_
  obtain ⟨f51, h⟩ := h
  refine twt_mo_showLine_7 hX (fun y27_mo_shownLevels y28_mo_order h => ?_) f51 _ _ _ _ h
  refine tw_bipush hX twd_mo_showLine_111 (by decide +kernel) ⟨by decide, by decide⟩ ?_
  refine tw_istore (L' := [some (.inr 0), some (.inl v1), some (.inl v2), none, some (.inl 8), none, none]) hX twd_mo_showLine_113 (by decide) rfl ?_
  obtain ⟨f50, h⟩ := h
  refine twt_mo_showLine_115 hX (fun y49_mo_order h => ?_) f50 _ _ h
  exact tw_vret hX twd_mo_showLine_200 (hK _ _ h)
