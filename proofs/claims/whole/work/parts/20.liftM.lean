def two_mo_add (v1 v2 v3 v4 : Int) (mo_size : Int) (mo_kind : Nat → Int) (mo_group : Nat → Int) (mo_width : Nat → Int) (mo_pair : Nat → Int) (mo_known : Int) : Prop := ((¬ mo_size = 64 → ((¬ v1 < 0 → ((¬ 20 < v1 → ((¬ v2 < 0 → ((¬ 6 < v2 → ((¬ v3 < 0 → ((¬ 3 < v3 → ((¬ v4 < (-3) → ((v4 ≤ 3 → ((0 ≤ mo_size ∧ mo_size < 64) ∧ (0 ≤ mo_size ∧ mo_size < 64) ∧ ((v1 < 12 → ((0 ≤ mo_size ∧ mo_size < 64) ∧ ((v1 = 11 → ((0 ≤ mo_size ∧ mo_size < 64) ∧ (tw_rg (mo_size + 1)))) ∧ (¬ v1 = 11 → ((0 ≤ mo_size ∧ mo_size < 64) ∧ (tw_rg (mo_size + 1))))))) ∧ (¬ v1 < 12 → ((0 ≤ mo_size ∧ mo_size < 64) ∧ ((v1 = 11 → ((0 ≤ mo_size ∧ mo_size < 64) ∧ (tw_rg (mo_size + 1)))) ∧ (¬ v1 = 11 → ((0 ≤ mo_size ∧ mo_size < 64) ∧ (tw_rg (mo_size + 1)))))))))))))))))))))))))))
def twr_mo_add (v1 v2 v3 v4 : Int) (mo_size : Int) (mo_kind : Nat → Int) (mo_group : Nat → Int) (mo_width : Nat → Int) (mo_pair : Nat → Int) (mo_known : Int) : Int := if mo_size = 64 then 0 else (if v1 < 0 then 0 else (if 20 < v1 then 0 else (if v2 < 0 then 0 else (if 6 < v2 then 0 else (if v3 < 0 then 0 else (if 3 < v3 then 0 else (if v4 < (-3) then 0 else (if v4 ≤ 3 then 1 else 0))))))))
def twu_mo_add__mo_size (v1 v2 v3 v4 : Int) (mo_size : Int) (mo_kind : Nat → Int) (mo_group : Nat → Int) (mo_width : Nat → Int) (mo_pair : Nat → Int) (mo_known : Int) : Int := if mo_size = 64 then mo_size else (if v1 < 0 then mo_size else (if 20 < v1 then mo_size else (if v2 < 0 then mo_size else (if 6 < v2 then mo_size else (if v3 < 0 then mo_size else (if 3 < v3 then mo_size else (if v4 < (-3) then mo_size else (if v4 ≤ 3 then (mo_size + 1) else mo_size))))))))
def twu_mo_add__mo_kind (v1 v2 v3 v4 : Int) (mo_size : Int) (mo_kind : Nat → Int) (mo_group : Nat → Int) (mo_width : Nat → Int) (mo_pair : Nat → Int) (mo_known : Int) : Nat → Int := if mo_size = 64 then mo_kind else (if v1 < 0 then mo_kind else (if 20 < v1 then mo_kind else (if v2 < 0 then mo_kind else (if 6 < v2 then mo_kind else (if v3 < 0 then mo_kind else (if 3 < v3 then mo_kind else (if v4 < (-3) then mo_kind else (if v4 ≤ 3 then (tw_up mo_kind (Int.toNat mo_size) v1) else mo_kind))))))))
def twu_mo_add__mo_group (v1 v2 v3 v4 : Int) (mo_size : Int) (mo_kind : Nat → Int) (mo_group : Nat → Int) (mo_width : Nat → Int) (mo_pair : Nat → Int) (mo_known : Int) : Nat → Int := if mo_size = 64 then mo_group else (if v1 < 0 then mo_group else (if 20 < v1 then mo_group else (if v2 < 0 then mo_group else (if 6 < v2 then mo_group else (if v3 < 0 then mo_group else (if 3 < v3 then mo_group else (if v4 < (-3) then mo_group else (if v4 ≤ 3 then (tw_up mo_group (Int.toNat mo_size) v2) else mo_group))))))))
def twu_mo_add__mo_width (v1 v2 v3 v4 : Int) (mo_size : Int) (mo_kind : Nat → Int) (mo_group : Nat → Int) (mo_width : Nat → Int) (mo_pair : Nat → Int) (mo_known : Int) : Nat → Int := if mo_size = 64 then mo_width else (if v1 < 0 then mo_width else (if 20 < v1 then mo_width else (if v2 < 0 then mo_width else (if 6 < v2 then mo_width else (if v3 < 0 then mo_width else (if 3 < v3 then mo_width else (if v4 < (-3) then mo_width else (if v4 ≤ 3 then (if v1 < 12 then (tw_up mo_width (Int.toNat mo_size) v3) else (tw_up mo_width (Int.toNat mo_size) 0)) else mo_width))))))))
def twu_mo_add__mo_pair (v1 v2 v3 v4 : Int) (mo_size : Int) (mo_kind : Nat → Int) (mo_group : Nat → Int) (mo_width : Nat → Int) (mo_pair : Nat → Int) (mo_known : Int) : Nat → Int := if mo_size = 64 then mo_pair else (if v1 < 0 then mo_pair else (if 20 < v1 then mo_pair else (if v2 < 0 then mo_pair else (if 6 < v2 then mo_pair else (if v3 < 0 then mo_pair else (if 3 < v3 then mo_pair else (if v4 < (-3) then mo_pair else (if v4 ≤ 3 then (if v1 = 11 then (tw_up mo_pair (Int.toNat mo_size) v4) else (tw_up mo_pair (Int.toNat mo_size) 0)) else mo_pair))))))))
def twu_mo_add__mo_known (v1 v2 v3 v4 : Int) (mo_size : Int) (mo_kind : Nat → Int) (mo_group : Nat → Int) (mo_width : Nat → Int) (mo_pair : Nat → Int) (mo_known : Int) : Int := if mo_size = 64 then mo_known else (if v1 < 0 then mo_known else (if 20 < v1 then mo_known else (if v2 < 0 then mo_known else (if 6 < v2 then mo_known else (if v3 < 0 then mo_known else (if 3 < v3 then mo_known else (if v4 < (-3) then mo_known else (if v4 ≤ 3 then 0 else mo_known))))))))
set_option maxRecDepth 100000 in
set_option maxHeartbeats 4000000 in
theorem twc_mo_add {l : Launch} {D : va_G} {ad : Nat → Nat} {cI cZ : ClassId} {Post : tw_P} {v1 v2 v3 v4 : Int} {mo_base mo_measure mo_size mo_known mo_root mo_top mo_lostIsolates mo_lostEmbeddings mo_openIsolates mo_n mo_beginning mo_ending mo_embedding mo_lines : Int} {mo_kind mo_group mo_width mo_pair mo_level mo_type mo_resolved mo_partner mo_entry mo_override mo_isolate mo_seq mo_mark mo_list mo_starts mo_shownLevels mo_order : Nat → Int} (h : two_mo_add v1 v2 v3 v4 mo_size mo_kind mo_group mo_width mo_pair mo_known) (hK : ∀ (z : Int) (n_mo_size : Int) (n_mo_kind : Nat → Int) (n_mo_group : Nat → Int) (n_mo_width : Nat → Int) (n_mo_pair : Nat → Int) (n_mo_known : Int), z = twr_mo_add v1 v2 v3 v4 mo_size mo_kind mo_group mo_width mo_pair mo_known → n_mo_size = twu_mo_add__mo_size v1 v2 v3 v4 mo_size mo_kind mo_group mo_width mo_pair mo_known → n_mo_kind = twu_mo_add__mo_kind v1 v2 v3 v4 mo_size mo_kind mo_group mo_width mo_pair mo_known → n_mo_group = twu_mo_add__mo_group v1 v2 v3 v4 mo_size mo_kind mo_group mo_width mo_pair mo_known → n_mo_width = twu_mo_add__mo_width v1 v2 v3 v4 mo_size mo_kind mo_group mo_width mo_pair mo_known → n_mo_pair = twu_mo_add__mo_pair v1 v2 v3 v4 mo_size mo_kind mo_group mo_width mo_pair mo_known → n_mo_known = twu_mo_add__mo_known v1 v2 v3 v4 mo_size mo_kind mo_group mo_width mo_pair mo_known → Post (some z) (tw_mM mo_base mo_measure n_mo_size n_mo_kind n_mo_group n_mo_width n_mo_pair n_mo_known mo_root mo_level mo_type mo_resolved mo_partner mo_top mo_entry mo_override mo_isolate mo_lostIsolates mo_lostEmbeddings mo_openIsolates mo_n mo_seq mo_mark mo_beginning mo_ending mo_embedding mo_list mo_lines mo_starts mo_shownLevels mo_order)) : tw_ct (tw_YM l D ad cI cZ) twy_mo_add (Cond.code twy_mo_add prog_11_method_2_code 5 (some .boolean) :: tw_Wg) 0 [.inr 0, .inl v1, .inl v2, .inl v3, .inl v4] (tw_mM mo_base mo_measure mo_size mo_kind mo_group mo_width mo_pair mo_known mo_root mo_level mo_type mo_resolved mo_partner mo_top mo_entry mo_override mo_isolate mo_lostIsolates mo_lostEmbeddings mo_openIsolates mo_n mo_seq mo_mark mo_beginning mo_ending mo_embedding mo_list mo_lines mo_starts mo_shownLevels mo_order) Post := by
  refine tw_of (own := twR_mo) (L0 := [some (.inr 0), some (.inl v1), some (.inl v2), some (.inl v3), some (.inl v4)]) (by decide) rfl rfl (Nat.le_of_ble_eq_true rfl) (fun Z hX => ?_)
  unfold two_mo_add at h
  refine tw_aload_n hX twd_mo_add_0 rfl rfl ?_
  refine tw_get (kf := 2) hX twd_mo_add_1 twin_mo rfl (by decide) tww_689 rfl rfl rfl ?_
  refine tw_bipush hX twd_mo_add_4 (by decide +kernel) ⟨by decide, by decide⟩ ?_
  refine tw_icmp_eq hX twd_mo_add_6 rfl (fun q13 => ?_) (fun q13 => ?_)
  · have _tw := trivial
    refine tw_iconst hX twd_mo_add_51 ⟨by decide, by decide⟩ ?_
    exact tw_zret hX twd_mo_add_52 ⟨by decide, by decide⟩ (hK _ _ _ _ _ _ _ (Eq.symm (if_pos q13)) (Eq.symm (if_pos q13)) (Eq.symm (if_pos q13)) (Eq.symm (if_pos q13)) (Eq.symm (if_pos q13)) (Eq.symm (if_pos q13)) (Eq.symm (if_pos q13)))
  · have _tw := trivial
    have h := h q13
    refine tw_iload_n hX twd_mo_add_9 rfl rfl ?_
    refine tw_if_lt hX twd_mo_add_10 rfl (fun q14 => ?_) (fun q14 => ?_)
    · have _tw := trivial
      refine tw_iconst hX twd_mo_add_51 ⟨by decide, by decide⟩ ?_
      exact tw_zret hX twd_mo_add_52 ⟨by decide, by decide⟩ (hK _ _ _ _ _ _ _ (Eq.symm (Eq.trans (if_neg q13) (if_pos q14))) (Eq.symm (Eq.trans (if_neg q13) (if_pos q14))) (Eq.symm (Eq.trans (if_neg q13) (if_pos q14))) (Eq.symm (Eq.trans (if_neg q13) (if_pos q14))) (Eq.symm (Eq.trans (if_neg q13) (if_pos q14))) (Eq.symm (Eq.trans (if_neg q13) (if_pos q14))) (Eq.symm (Eq.trans (if_neg q13) (if_pos q14))))
    · have _tw := trivial
      have h := h q14
      refine tw_iload_n hX twd_mo_add_13 rfl rfl ?_
      refine tw_bipush hX twd_mo_add_14 (by decide +kernel) ⟨by decide, by decide⟩ ?_
      refine tw_icmp_gt hX twd_mo_add_16 rfl (fun q15 => ?_) (fun q15 => ?_)
      · have _tw := trivial
        refine tw_iconst hX twd_mo_add_51 ⟨by decide, by decide⟩ ?_
        exact tw_zret hX twd_mo_add_52 ⟨by decide, by decide⟩ (hK _ _ _ _ _ _ _ (Eq.symm (Eq.trans (if_neg q13) (Eq.trans (if_neg q14) (if_pos q15)))) (Eq.symm (Eq.trans (if_neg q13) (Eq.trans (if_neg q14) (if_pos q15)))) (Eq.symm (Eq.trans (if_neg q13) (Eq.trans (if_neg q14) (if_pos q15)))) (Eq.symm (Eq.trans (if_neg q13) (Eq.trans (if_neg q14) (if_pos q15)))) (Eq.symm (Eq.trans (if_neg q13) (Eq.trans (if_neg q14) (if_pos q15)))) (Eq.symm (Eq.trans (if_neg q13) (Eq.trans (if_neg q14) (if_pos q15)))) (Eq.symm (Eq.trans (if_neg q13) (Eq.trans (if_neg q14) (if_pos q15)))))
      · have _tw := trivial
        have h := h q15
        refine tw_iload_n hX twd_mo_add_19 rfl rfl ?_
        refine tw_if_lt hX twd_mo_add_20 rfl (fun q16 => ?_) (fun q16 => ?_)
        · have _tw := trivial
          refine tw_iconst hX twd_mo_add_51 ⟨by decide, by decide⟩ ?_
          exact tw_zret hX twd_mo_add_52 ⟨by decide, by decide⟩ (hK _ _ _ _ _ _ _ (Eq.symm (Eq.trans (if_neg q13) (Eq.trans (if_neg q14) (Eq.trans (if_neg q15) (if_pos q16))))) (Eq.symm (Eq.trans (if_neg q13) (Eq.trans (if_neg q14) (Eq.trans (if_neg q15) (if_pos q16))))) (Eq.symm (Eq.trans (if_neg q13) (Eq.trans (if_neg q14) (Eq.trans (if_neg q15) (if_pos q16))))) (Eq.symm (Eq.trans (if_neg q13) (Eq.trans (if_neg q14) (Eq.trans (if_neg q15) (if_pos q16))))) (Eq.symm (Eq.trans (if_neg q13) (Eq.trans (if_neg q14) (Eq.trans (if_neg q15) (if_pos q16))))) (Eq.symm (Eq.trans (if_neg q13) (Eq.trans (if_neg q14) (Eq.trans (if_neg q15) (if_pos q16))))) (Eq.symm (Eq.trans (if_neg q13) (Eq.trans (if_neg q14) (Eq.trans (if_neg q15) (if_pos q16))))))
        · have _tw := trivial
          have h := h q16
          refine tw_iload_n hX twd_mo_add_23 rfl rfl ?_
          refine tw_bipush hX twd_mo_add_24 (by decide +kernel) ⟨by decide, by decide⟩ ?_
          refine tw_icmp_gt hX twd_mo_add_26 rfl (fun q17 => ?_) (fun q17 => ?_)
          · have _tw := trivial
            refine tw_iconst hX twd_mo_add_51 ⟨by decide, by decide⟩ ?_
            exact tw_zret hX twd_mo_add_52 ⟨by decide, by decide⟩ (hK _ _ _ _ _ _ _ (Eq.symm (Eq.trans (if_neg q13) (Eq.trans (if_neg q14) (Eq.trans (if_neg q15) (Eq.trans (if_neg q16) (if_pos q17)))))) (Eq.symm (Eq.trans (if_neg q13) (Eq.trans (if_neg q14) (Eq.trans (if_neg q15) (Eq.trans (if_neg q16) (if_pos q17)))))) (Eq.symm (Eq.trans (if_neg q13) (Eq.trans (if_neg q14) (Eq.trans (if_neg q15) (Eq.trans (if_neg q16) (if_pos q17)))))) (Eq.symm (Eq.trans (if_neg q13) (Eq.trans (if_neg q14) (Eq.trans (if_neg q15) (Eq.trans (if_neg q16) (if_pos q17)))))) (Eq.symm (Eq.trans (if_neg q13) (Eq.trans (if_neg q14) (Eq.trans (if_neg q15) (Eq.trans (if_neg q16) (if_pos q17)))))) (Eq.symm (Eq.trans (if_neg q13) (Eq.trans (if_neg q14) (Eq.trans (if_neg q15) (Eq.trans (if_neg q16) (if_pos q17)))))) (Eq.symm (Eq.trans (if_neg q13) (Eq.trans (if_neg q14) (Eq.trans (if_neg q15) (Eq.trans (if_neg q16) (if_pos q17)))))))
          · have _tw := trivial
            have h := h q17
            refine tw_iload_n hX twd_mo_add_29 rfl rfl ?_
            refine tw_if_lt hX twd_mo_add_30 rfl (fun q18 => ?_) (fun q18 => ?_)
            · have _tw := trivial
              refine tw_iconst hX twd_mo_add_51 ⟨by decide, by decide⟩ ?_
              exact tw_zret hX twd_mo_add_52 ⟨by decide, by decide⟩ (hK _ _ _ _ _ _ _ (Eq.symm (Eq.trans (if_neg q13) (Eq.trans (if_neg q14) (Eq.trans (if_neg q15) (Eq.trans (if_neg q16) (Eq.trans (if_neg q17) (if_pos q18))))))) (Eq.symm (Eq.trans (if_neg q13) (Eq.trans (if_neg q14) (Eq.trans (if_neg q15) (Eq.trans (if_neg q16) (Eq.trans (if_neg q17) (if_pos q18))))))) (Eq.symm (Eq.trans (if_neg q13) (Eq.trans (if_neg q14) (Eq.trans (if_neg q15) (Eq.trans (if_neg q16) (Eq.trans (if_neg q17) (if_pos q18))))))) (Eq.symm (Eq.trans (if_neg q13) (Eq.trans (if_neg q14) (Eq.trans (if_neg q15) (Eq.trans (if_neg q16) (Eq.trans (if_neg q17) (if_pos q18))))))) (Eq.symm (Eq.trans (if_neg q13) (Eq.trans (if_neg q14) (Eq.trans (if_neg q15) (Eq.trans (if_neg q16) (Eq.trans (if_neg q17) (if_pos q18))))))) (Eq.symm (Eq.trans (if_neg q13) (Eq.trans (if_neg q14) (Eq.trans (if_neg q15) (Eq.trans (if_neg q16) (Eq.trans (if_neg q17) (if_pos q18))))))) (Eq.symm (Eq.trans (if_neg q13) (Eq.trans (if_neg q14) (Eq.trans (if_neg q15) (Eq.trans (if_neg q16) (Eq.trans (if_neg q17) (if_pos q18))))))))
            · have _tw := trivial
              have h := h q18
              refine tw_iload_n hX twd_mo_add_33 rfl rfl ?_
              refine tw_iconst hX twd_mo_add_34 ⟨by decide, by decide⟩ ?_
              refine tw_icmp_gt hX twd_mo_add_35 rfl (fun q19 => ?_) (fun q19 => ?_)
              · have _tw := trivial
                refine tw_iconst hX twd_mo_add_51 ⟨by decide, by decide⟩ ?_
                exact tw_zret hX twd_mo_add_52 ⟨by decide, by decide⟩ (hK _ _ _ _ _ _ _ (Eq.symm (Eq.trans (if_neg q13) (Eq.trans (if_neg q14) (Eq.trans (if_neg q15) (Eq.trans (if_neg q16) (Eq.trans (if_neg q17) (Eq.trans (if_neg q18) (if_pos q19)))))))) (Eq.symm (Eq.trans (if_neg q13) (Eq.trans (if_neg q14) (Eq.trans (if_neg q15) (Eq.trans (if_neg q16) (Eq.trans (if_neg q17) (Eq.trans (if_neg q18) (if_pos q19)))))))) (Eq.symm (Eq.trans (if_neg q13) (Eq.trans (if_neg q14) (Eq.trans (if_neg q15) (Eq.trans (if_neg q16) (Eq.trans (if_neg q17) (Eq.trans (if_neg q18) (if_pos q19)))))))) (Eq.symm (Eq.trans (if_neg q13) (Eq.trans (if_neg q14) (Eq.trans (if_neg q15) (Eq.trans (if_neg q16) (Eq.trans (if_neg q17) (Eq.trans (if_neg q18) (if_pos q19)))))))) (Eq.symm (Eq.trans (if_neg q13) (Eq.trans (if_neg q14) (Eq.trans (if_neg q15) (Eq.trans (if_neg q16) (Eq.trans (if_neg q17) (Eq.trans (if_neg q18) (if_pos q19)))))))) (Eq.symm (Eq.trans (if_neg q13) (Eq.trans (if_neg q14) (Eq.trans (if_neg q15) (Eq.trans (if_neg q16) (Eq.trans (if_neg q17) (Eq.trans (if_neg q18) (if_pos q19)))))))) (Eq.symm (Eq.trans (if_neg q13) (Eq.trans (if_neg q14) (Eq.trans (if_neg q15) (Eq.trans (if_neg q16) (Eq.trans (if_neg q17) (Eq.trans (if_neg q18) (if_pos q19)))))))))
              · have _tw := trivial
                have h := h q19
                refine tw_iload hX twd_mo_add_38 rfl ?_
                refine tw_bipush hX twd_mo_add_40 (by decide +kernel) ⟨by decide, by decide⟩ ?_
                refine tw_icmp_lt hX twd_mo_add_42 rfl (fun q20 => ?_) (fun q20 => ?_)
                · have _tw := trivial
                  refine tw_iconst hX twd_mo_add_51 ⟨by decide, by decide⟩ ?_
                  exact tw_zret hX twd_mo_add_52 ⟨by decide, by decide⟩ (hK _ _ _ _ _ _ _ (Eq.symm (Eq.trans (if_neg q13) (Eq.trans (if_neg q14) (Eq.trans (if_neg q15) (Eq.trans (if_neg q16) (Eq.trans (if_neg q17) (Eq.trans (if_neg q18) (Eq.trans (if_neg q19) (if_pos q20))))))))) (Eq.symm (Eq.trans (if_neg q13) (Eq.trans (if_neg q14) (Eq.trans (if_neg q15) (Eq.trans (if_neg q16) (Eq.trans (if_neg q17) (Eq.trans (if_neg q18) (Eq.trans (if_neg q19) (if_pos q20))))))))) (Eq.symm (Eq.trans (if_neg q13) (Eq.trans (if_neg q14) (Eq.trans (if_neg q15) (Eq.trans (if_neg q16) (Eq.trans (if_neg q17) (Eq.trans (if_neg q18) (Eq.trans (if_neg q19) (if_pos q20))))))))) (Eq.symm (Eq.trans (if_neg q13) (Eq.trans (if_neg q14) (Eq.trans (if_neg q15) (Eq.trans (if_neg q16) (Eq.trans (if_neg q17) (Eq.trans (if_neg q18) (Eq.trans (if_neg q19) (if_pos q20))))))))) (Eq.symm (Eq.trans (if_neg q13) (Eq.trans (if_neg q14) (Eq.trans (if_neg q15) (Eq.trans (if_neg q16) (Eq.trans (if_neg q17) (Eq.trans (if_neg q18) (Eq.trans (if_neg q19) (if_pos q20))))))))) (Eq.symm (Eq.trans (if_neg q13) (Eq.trans (if_neg q14) (Eq.trans (if_neg q15) (Eq.trans (if_neg q16) (Eq.trans (if_neg q17) (Eq.trans (if_neg q18) (Eq.trans (if_neg q19) (if_pos q20))))))))) (Eq.symm (Eq.trans (if_neg q13) (Eq.trans (if_neg q14) (Eq.trans (if_neg q15) (Eq.trans (if_neg q16) (Eq.trans (if_neg q17) (Eq.trans (if_neg q18) (Eq.trans (if_neg q19) (if_pos q20))))))))))
                · have _tw := trivial
                  have h := h q20
                  refine tw_iload hX twd_mo_add_45 rfl ?_
                  refine tw_iconst hX twd_mo_add_47 ⟨by decide, by decide⟩ ?_
                  refine tw_icmp_le hX twd_mo_add_48 rfl (fun q21 => ?_) (fun q21 => ?_)
                  · have _tw := trivial
                    have h := h q21
                    refine tw_aload_n hX twd_mo_add_53 rfl rfl ?_
                    refine tw_get (kf := 3) hX twd_mo_add_54 twin_mo rfl (by decide) tww_690 rfl rfl rfl ?_
                    refine tw_aload_n hX twd_mo_add_57 rfl rfl ?_
                    refine tw_get (kf := 2) hX twd_mo_add_58 twin_mo rfl (by decide) tww_689 rfl rfl rfl ?_
                    refine tw_iload_n hX twd_mo_add_61 rfl rfl ?_
                    obtain ⟨c1, h⟩ := h
                    refine tw_iastore (mem' := (tw_mM mo_base mo_measure mo_size (tw_up mo_kind (Int.toNat mo_size) v1) mo_group mo_width mo_pair mo_known mo_root mo_level mo_type mo_resolved mo_partner mo_top mo_entry mo_override mo_isolate mo_lostIsolates mo_lostEmbeddings mo_openIsolates mo_n mo_seq mo_mark mo_beginning mo_ending mo_embedding mo_list mo_lines mo_starts mo_shownLevels mo_order)) hX twd_mo_add_62 rfl c1 rfl ?_
                    refine tw_aload_n hX twd_mo_add_63 rfl rfl ?_
                    refine tw_get (kf := 4) hX twd_mo_add_64 twin_mo rfl (by decide) tww_691 rfl rfl rfl ?_
                    refine tw_aload_n hX twd_mo_add_67 rfl rfl ?_
                    refine tw_get (kf := 2) hX twd_mo_add_68 twin_mo rfl (by decide) tww_689 rfl rfl rfl ?_
                    refine tw_iload_n hX twd_mo_add_71 rfl rfl ?_
                    obtain ⟨c2, h⟩ := h
                    refine tw_iastore (mem' := (tw_mM mo_base mo_measure mo_size (tw_up mo_kind (Int.toNat mo_size) v1) (tw_up mo_group (Int.toNat mo_size) v2) mo_width mo_pair mo_known mo_root mo_level mo_type mo_resolved mo_partner mo_top mo_entry mo_override mo_isolate mo_lostIsolates mo_lostEmbeddings mo_openIsolates mo_n mo_seq mo_mark mo_beginning mo_ending mo_embedding mo_list mo_lines mo_starts mo_shownLevels mo_order)) hX twd_mo_add_72 rfl c2 rfl ?_
                    refine tw_aload_n hX twd_mo_add_73 rfl rfl ?_
                    refine tw_get (kf := 5) hX twd_mo_add_74 twin_mo rfl (by decide) tww_692 rfl rfl rfl ?_
                    refine tw_aload_n hX twd_mo_add_77 rfl rfl ?_
                    refine tw_get (kf := 2) hX twd_mo_add_78 twin_mo rfl (by decide) tww_689 rfl rfl rfl ?_
                    refine tw_iload_n hX twd_mo_add_81 rfl rfl ?_
                    refine tw_bipush hX twd_mo_add_82 (by decide +kernel) ⟨by decide, by decide⟩ ?_
                    refine tw_icmp_lt hX twd_mo_add_84 rfl (fun q22 => ?_) (fun q22 => ?_)
                    · have _tw := trivial
                      have h := h.1 q22
                      refine tw_iload_n hX twd_mo_add_91 rfl rfl ?_
                      obtain ⟨c3, h⟩ := h
                      refine tw_iastore (mem' := (tw_mM mo_base mo_measure mo_size (tw_up mo_kind (Int.toNat mo_size) v1) (tw_up mo_group (Int.toNat mo_size) v2) (tw_up mo_width (Int.toNat mo_size) v3) mo_pair mo_known mo_root mo_level mo_type mo_resolved mo_partner mo_top mo_entry mo_override mo_isolate mo_lostIsolates mo_lostEmbeddings mo_openIsolates mo_n mo_seq mo_mark mo_beginning mo_ending mo_embedding mo_list mo_lines mo_starts mo_shownLevels mo_order)) hX twd_mo_add_92 rfl c3 rfl ?_
                      refine tw_aload_n hX twd_mo_add_93 rfl rfl ?_
                      refine tw_get (kf := 6) hX twd_mo_add_94 twin_mo rfl (by decide) tww_693 rfl rfl rfl ?_
                      refine tw_aload_n hX twd_mo_add_97 rfl rfl ?_
                      refine tw_get (kf := 2) hX twd_mo_add_98 twin_mo rfl (by decide) tww_689 rfl rfl rfl ?_
                      refine tw_iload_n hX twd_mo_add_101 rfl rfl ?_
                      refine tw_bipush hX twd_mo_add_102 (by decide +kernel) ⟨by decide, by decide⟩ ?_
                      refine tw_icmp_ne hX twd_mo_add_104 rfl (fun q23 => ?_) (fun q23 => ?_)
                      · have _tw := trivial
                        have h := h.2 q23
                        refine tw_iconst hX twd_mo_add_112 ⟨by decide, by decide⟩ ?_
                        obtain ⟨c4, h⟩ := h
                        refine tw_iastore (mem' := (tw_mM mo_base mo_measure mo_size (tw_up mo_kind (Int.toNat mo_size) v1) (tw_up mo_group (Int.toNat mo_size) v2) (tw_up mo_width (Int.toNat mo_size) v3) (tw_up mo_pair (Int.toNat mo_size) 0) mo_known mo_root mo_level mo_type mo_resolved mo_partner mo_top mo_entry mo_override mo_isolate mo_lostIsolates mo_lostEmbeddings mo_openIsolates mo_n mo_seq mo_mark mo_beginning mo_ending mo_embedding mo_list mo_lines mo_starts mo_shownLevels mo_order)) hX twd_mo_add_113 rfl c4 rfl ?_
                        refine tw_aload_n hX twd_mo_add_114 rfl rfl ?_
                        refine tw_dup hX twd_mo_add_115 ?_
                        refine tw_get (kf := 2) hX twd_mo_add_116 twin_mo rfl (by decide) tww_689 rfl rfl rfl ?_
                        refine tw_iconst hX twd_mo_add_119 ⟨by decide, by decide⟩ ?_
                        have c5 := h
                        refine tw_iadd hX twd_mo_add_120 c5 ?_
                        refine tw_put (kf := 2) (mem' := (tw_mM mo_base mo_measure (mo_size + 1) (tw_up mo_kind (Int.toNat mo_size) v1) (tw_up mo_group (Int.toNat mo_size) v2) (tw_up mo_width (Int.toNat mo_size) v3) (tw_up mo_pair (Int.toNat mo_size) 0) mo_known mo_root mo_level mo_type mo_resolved mo_partner mo_top mo_entry mo_override mo_isolate mo_lostIsolates mo_lostEmbeddings mo_openIsolates mo_n mo_seq mo_mark mo_beginning mo_ending mo_embedding mo_list mo_lines mo_starts mo_shownLevels mo_order)) twt_mo hX twd_mo_add_121 twin_mo twtok_mo twnm_mo rfl (by decide) tww_689 rfl rfl rfl (Or.inl rfl) rfl (Nat.le_of_ble_eq_true rfl) rfl ?_
                        refine tw_aload_n hX twd_mo_add_124 rfl rfl ?_
                        refine tw_iconst hX twd_mo_add_125 ⟨by decide, by decide⟩ ?_
                        refine tw_put (kf := 7) (mem' := (tw_mM mo_base mo_measure (mo_size + 1) (tw_up mo_kind (Int.toNat mo_size) v1) (tw_up mo_group (Int.toNat mo_size) v2) (tw_up mo_width (Int.toNat mo_size) v3) (tw_up mo_pair (Int.toNat mo_size) 0) 0 mo_root mo_level mo_type mo_resolved mo_partner mo_top mo_entry mo_override mo_isolate mo_lostIsolates mo_lostEmbeddings mo_openIsolates mo_n mo_seq mo_mark mo_beginning mo_ending mo_embedding mo_list mo_lines mo_starts mo_shownLevels mo_order)) twt_mo hX twd_mo_add_126 twin_mo twtok_mo twnm_mo rfl (by decide) tww_694 rfl rfl rfl (Or.inr ⟨rfl, ⟨by decide, by decide⟩⟩) rfl (Nat.le_of_ble_eq_true rfl) rfl ?_
                        refine tw_iconst hX twd_mo_add_129 ⟨by decide, by decide⟩ ?_
                        exact tw_zret hX twd_mo_add_130 ⟨by decide, by decide⟩ (hK _ _ _ _ _ _ _ (Eq.symm (Eq.trans (if_neg q13) (Eq.trans (if_neg q14) (Eq.trans (if_neg q15) (Eq.trans (if_neg q16) (Eq.trans (if_neg q17) (Eq.trans (if_neg q18) (Eq.trans (if_neg q19) (Eq.trans (if_neg q20) (if_pos q21)))))))))) (Eq.symm (Eq.trans (if_neg q13) (Eq.trans (if_neg q14) (Eq.trans (if_neg q15) (Eq.trans (if_neg q16) (Eq.trans (if_neg q17) (Eq.trans (if_neg q18) (Eq.trans (if_neg q19) (Eq.trans (if_neg q20) (if_pos q21)))))))))) (Eq.symm (Eq.trans (if_neg q13) (Eq.trans (if_neg q14) (Eq.trans (if_neg q15) (Eq.trans (if_neg q16) (Eq.trans (if_neg q17) (Eq.trans (if_neg q18) (Eq.trans (if_neg q19) (Eq.trans (if_neg q20) (if_pos q21)))))))))) (Eq.symm (Eq.trans (if_neg q13) (Eq.trans (if_neg q14) (Eq.trans (if_neg q15) (Eq.trans (if_neg q16) (Eq.trans (if_neg q17) (Eq.trans (if_neg q18) (Eq.trans (if_neg q19) (Eq.trans (if_neg q20) (if_pos q21)))))))))) (Eq.symm (Eq.trans (if_neg q13) (Eq.trans (if_neg q14) (Eq.trans (if_neg q15) (Eq.trans (if_neg q16) (Eq.trans (if_neg q17) (Eq.trans (if_neg q18) (Eq.trans (if_neg q19) (Eq.trans (if_neg q20) (Eq.trans (if_pos q21) (if_pos q22))))))))))) (Eq.symm (Eq.trans (if_neg q13) (Eq.trans (if_neg q14) (Eq.trans (if_neg q15) (Eq.trans (if_neg q16) (Eq.trans (if_neg q17) (Eq.trans (if_neg q18) (Eq.trans (if_neg q19) (Eq.trans (if_neg q20) (Eq.trans (if_pos q21) (if_neg q23))))))))))) (Eq.symm (Eq.trans (if_neg q13) (Eq.trans (if_neg q14) (Eq.trans (if_neg q15) (Eq.trans (if_neg q16) (Eq.trans (if_neg q17) (Eq.trans (if_neg q18) (Eq.trans (if_neg q19) (Eq.trans (if_neg q20) (if_pos q21)))))))))))
                      · have _tw := trivial
                        have h := h.1 q23
                        refine tw_iload hX twd_mo_add_107 rfl ?_
                        refine tw_goto hX twd_mo_add_109 rfl ?_
                        obtain ⟨c6, h⟩ := h
                        refine tw_iastore (mem' := (tw_mM mo_base mo_measure mo_size (tw_up mo_kind (Int.toNat mo_size) v1) (tw_up mo_group (Int.toNat mo_size) v2) (tw_up mo_width (Int.toNat mo_size) v3) (tw_up mo_pair (Int.toNat mo_size) v4) mo_known mo_root mo_level mo_type mo_resolved mo_partner mo_top mo_entry mo_override mo_isolate mo_lostIsolates mo_lostEmbeddings mo_openIsolates mo_n mo_seq mo_mark mo_beginning mo_ending mo_embedding mo_list mo_lines mo_starts mo_shownLevels mo_order)) hX twd_mo_add_113 rfl c6 rfl ?_
                        refine tw_aload_n hX twd_mo_add_114 rfl rfl ?_
                        refine tw_dup hX twd_mo_add_115 ?_
                        refine tw_get (kf := 2) hX twd_mo_add_116 twin_mo rfl (by decide) tww_689 rfl rfl rfl ?_
                        refine tw_iconst hX twd_mo_add_119 ⟨by decide, by decide⟩ ?_
                        have c7 := h
                        refine tw_iadd hX twd_mo_add_120 c7 ?_
                        refine tw_put (kf := 2) (mem' := (tw_mM mo_base mo_measure (mo_size + 1) (tw_up mo_kind (Int.toNat mo_size) v1) (tw_up mo_group (Int.toNat mo_size) v2) (tw_up mo_width (Int.toNat mo_size) v3) (tw_up mo_pair (Int.toNat mo_size) v4) mo_known mo_root mo_level mo_type mo_resolved mo_partner mo_top mo_entry mo_override mo_isolate mo_lostIsolates mo_lostEmbeddings mo_openIsolates mo_n mo_seq mo_mark mo_beginning mo_ending mo_embedding mo_list mo_lines mo_starts mo_shownLevels mo_order)) twt_mo hX twd_mo_add_121 twin_mo twtok_mo twnm_mo rfl (by decide) tww_689 rfl rfl rfl (Or.inl rfl) rfl (Nat.le_of_ble_eq_true rfl) rfl ?_
                        refine tw_aload_n hX twd_mo_add_124 rfl rfl ?_
                        refine tw_iconst hX twd_mo_add_125 ⟨by decide, by decide⟩ ?_
                        refine tw_put (kf := 7) (mem' := (tw_mM mo_base mo_measure (mo_size + 1) (tw_up mo_kind (Int.toNat mo_size) v1) (tw_up mo_group (Int.toNat mo_size) v2) (tw_up mo_width (Int.toNat mo_size) v3) (tw_up mo_pair (Int.toNat mo_size) v4) 0 mo_root mo_level mo_type mo_resolved mo_partner mo_top mo_entry mo_override mo_isolate mo_lostIsolates mo_lostEmbeddings mo_openIsolates mo_n mo_seq mo_mark mo_beginning mo_ending mo_embedding mo_list mo_lines mo_starts mo_shownLevels mo_order)) twt_mo hX twd_mo_add_126 twin_mo twtok_mo twnm_mo rfl (by decide) tww_694 rfl rfl rfl (Or.inr ⟨rfl, ⟨by decide, by decide⟩⟩) rfl (Nat.le_of_ble_eq_true rfl) rfl ?_
                        refine tw_iconst hX twd_mo_add_129 ⟨by decide, by decide⟩ ?_
                        exact tw_zret hX twd_mo_add_130 ⟨by decide, by decide⟩ (hK _ _ _ _ _ _ _ (Eq.symm (Eq.trans (if_neg q13) (Eq.trans (if_neg q14) (Eq.trans (if_neg q15) (Eq.trans (if_neg q16) (Eq.trans (if_neg q17) (Eq.trans (if_neg q18) (Eq.trans (if_neg q19) (Eq.trans (if_neg q20) (if_pos q21)))))))))) (Eq.symm (Eq.trans (if_neg q13) (Eq.trans (if_neg q14) (Eq.trans (if_neg q15) (Eq.trans (if_neg q16) (Eq.trans (if_neg q17) (Eq.trans (if_neg q18) (Eq.trans (if_neg q19) (Eq.trans (if_neg q20) (if_pos q21)))))))))) (Eq.symm (Eq.trans (if_neg q13) (Eq.trans (if_neg q14) (Eq.trans (if_neg q15) (Eq.trans (if_neg q16) (Eq.trans (if_neg q17) (Eq.trans (if_neg q18) (Eq.trans (if_neg q19) (Eq.trans (if_neg q20) (if_pos q21)))))))))) (Eq.symm (Eq.trans (if_neg q13) (Eq.trans (if_neg q14) (Eq.trans (if_neg q15) (Eq.trans (if_neg q16) (Eq.trans (if_neg q17) (Eq.trans (if_neg q18) (Eq.trans (if_neg q19) (Eq.trans (if_neg q20) (if_pos q21)))))))))) (Eq.symm (Eq.trans (if_neg q13) (Eq.trans (if_neg q14) (Eq.trans (if_neg q15) (Eq.trans (if_neg q16) (Eq.trans (if_neg q17) (Eq.trans (if_neg q18) (Eq.trans (if_neg q19) (Eq.trans (if_neg q20) (Eq.trans (if_pos q21) (if_pos q22))))))))))) (Eq.symm (Eq.trans (if_neg q13) (Eq.trans (if_neg q14) (Eq.trans (if_neg q15) (Eq.trans (if_neg q16) (Eq.trans (if_neg q17) (Eq.trans (if_neg q18) (Eq.trans (if_neg q19) (Eq.trans (if_neg q20) (Eq.trans (if_pos q21) (if_pos q23))))))))))) (Eq.symm (Eq.trans (if_neg q13) (Eq.trans (if_neg q14) (Eq.trans (if_neg q15) (Eq.trans (if_neg q16) (Eq.trans (if_neg q17) (Eq.trans (if_neg q18) (Eq.trans (if_neg q19) (Eq.trans (if_neg q20) (if_pos q21)))))))))))
                    · have _tw := trivial
                      have h := h.2 q22
                      refine tw_iconst hX twd_mo_add_87 ⟨by decide, by decide⟩ ?_
                      refine tw_goto hX twd_mo_add_88 rfl ?_
                      obtain ⟨c8, h⟩ := h
                      refine tw_iastore (mem' := (tw_mM mo_base mo_measure mo_size (tw_up mo_kind (Int.toNat mo_size) v1) (tw_up mo_group (Int.toNat mo_size) v2) (tw_up mo_width (Int.toNat mo_size) 0) mo_pair mo_known mo_root mo_level mo_type mo_resolved mo_partner mo_top mo_entry mo_override mo_isolate mo_lostIsolates mo_lostEmbeddings mo_openIsolates mo_n mo_seq mo_mark mo_beginning mo_ending mo_embedding mo_list mo_lines mo_starts mo_shownLevels mo_order)) hX twd_mo_add_92 rfl c8 rfl ?_
                      refine tw_aload_n hX twd_mo_add_93 rfl rfl ?_
                      refine tw_get (kf := 6) hX twd_mo_add_94 twin_mo rfl (by decide) tww_693 rfl rfl rfl ?_
                      refine tw_aload_n hX twd_mo_add_97 rfl rfl ?_
                      refine tw_get (kf := 2) hX twd_mo_add_98 twin_mo rfl (by decide) tww_689 rfl rfl rfl ?_
                      refine tw_iload_n hX twd_mo_add_101 rfl rfl ?_
                      refine tw_bipush hX twd_mo_add_102 (by decide +kernel) ⟨by decide, by decide⟩ ?_
                      refine tw_icmp_ne hX twd_mo_add_104 rfl (fun q24 => ?_) (fun q24 => ?_)
                      · have _tw := trivial
                        have h := h.2 q24
                        refine tw_iconst hX twd_mo_add_112 ⟨by decide, by decide⟩ ?_
                        obtain ⟨c9, h⟩ := h
                        refine tw_iastore (mem' := (tw_mM mo_base mo_measure mo_size (tw_up mo_kind (Int.toNat mo_size) v1) (tw_up mo_group (Int.toNat mo_size) v2) (tw_up mo_width (Int.toNat mo_size) 0) (tw_up mo_pair (Int.toNat mo_size) 0) mo_known mo_root mo_level mo_type mo_resolved mo_partner mo_top mo_entry mo_override mo_isolate mo_lostIsolates mo_lostEmbeddings mo_openIsolates mo_n mo_seq mo_mark mo_beginning mo_ending mo_embedding mo_list mo_lines mo_starts mo_shownLevels mo_order)) hX twd_mo_add_113 rfl c9 rfl ?_
                        refine tw_aload_n hX twd_mo_add_114 rfl rfl ?_
                        refine tw_dup hX twd_mo_add_115 ?_
                        refine tw_get (kf := 2) hX twd_mo_add_116 twin_mo rfl (by decide) tww_689 rfl rfl rfl ?_
                        refine tw_iconst hX twd_mo_add_119 ⟨by decide, by decide⟩ ?_
                        have c10 := h
                        refine tw_iadd hX twd_mo_add_120 c10 ?_
                        refine tw_put (kf := 2) (mem' := (tw_mM mo_base mo_measure (mo_size + 1) (tw_up mo_kind (Int.toNat mo_size) v1) (tw_up mo_group (Int.toNat mo_size) v2) (tw_up mo_width (Int.toNat mo_size) 0) (tw_up mo_pair (Int.toNat mo_size) 0) mo_known mo_root mo_level mo_type mo_resolved mo_partner mo_top mo_entry mo_override mo_isolate mo_lostIsolates mo_lostEmbeddings mo_openIsolates mo_n mo_seq mo_mark mo_beginning mo_ending mo_embedding mo_list mo_lines mo_starts mo_shownLevels mo_order)) twt_mo hX twd_mo_add_121 twin_mo twtok_mo twnm_mo rfl (by decide) tww_689 rfl rfl rfl (Or.inl rfl) rfl (Nat.le_of_ble_eq_true rfl) rfl ?_
                        refine tw_aload_n hX twd_mo_add_124 rfl rfl ?_
                        refine tw_iconst hX twd_mo_add_125 ⟨by decide, by decide⟩ ?_
                        refine tw_put (kf := 7) (mem' := (tw_mM mo_base mo_measure (mo_size + 1) (tw_up mo_kind (Int.toNat mo_size) v1) (tw_up mo_group (Int.toNat mo_size) v2) (tw_up mo_width (Int.toNat mo_size) 0) (tw_up mo_pair (Int.toNat mo_size) 0) 0 mo_root mo_level mo_type mo_resolved mo_partner mo_top mo_entry mo_override mo_isolate mo_lostIsolates mo_lostEmbeddings mo_openIsolates mo_n mo_seq mo_mark mo_beginning mo_ending mo_embedding mo_list mo_lines mo_starts mo_shownLevels mo_order)) twt_mo hX twd_mo_add_126 twin_mo twtok_mo twnm_mo rfl (by decide) tww_694 rfl rfl rfl (Or.inr ⟨rfl, ⟨by decide, by decide⟩⟩) rfl (Nat.le_of_ble_eq_true rfl) rfl ?_
                        refine tw_iconst hX twd_mo_add_129 ⟨by decide, by decide⟩ ?_
                        exact tw_zret hX twd_mo_add_130 ⟨by decide, by decide⟩ (hK _ _ _ _ _ _ _ (Eq.symm (Eq.trans (if_neg q13) (Eq.trans (if_neg q14) (Eq.trans (if_neg q15) (Eq.trans (if_neg q16) (Eq.trans (if_neg q17) (Eq.trans (if_neg q18) (Eq.trans (if_neg q19) (Eq.trans (if_neg q20) (if_pos q21)))))))))) (Eq.symm (Eq.trans (if_neg q13) (Eq.trans (if_neg q14) (Eq.trans (if_neg q15) (Eq.trans (if_neg q16) (Eq.trans (if_neg q17) (Eq.trans (if_neg q18) (Eq.trans (if_neg q19) (Eq.trans (if_neg q20) (if_pos q21)))))))))) (Eq.symm (Eq.trans (if_neg q13) (Eq.trans (if_neg q14) (Eq.trans (if_neg q15) (Eq.trans (if_neg q16) (Eq.trans (if_neg q17) (Eq.trans (if_neg q18) (Eq.trans (if_neg q19) (Eq.trans (if_neg q20) (if_pos q21)))))))))) (Eq.symm (Eq.trans (if_neg q13) (Eq.trans (if_neg q14) (Eq.trans (if_neg q15) (Eq.trans (if_neg q16) (Eq.trans (if_neg q17) (Eq.trans (if_neg q18) (Eq.trans (if_neg q19) (Eq.trans (if_neg q20) (if_pos q21)))))))))) (Eq.symm (Eq.trans (if_neg q13) (Eq.trans (if_neg q14) (Eq.trans (if_neg q15) (Eq.trans (if_neg q16) (Eq.trans (if_neg q17) (Eq.trans (if_neg q18) (Eq.trans (if_neg q19) (Eq.trans (if_neg q20) (Eq.trans (if_pos q21) (if_neg q22))))))))))) (Eq.symm (Eq.trans (if_neg q13) (Eq.trans (if_neg q14) (Eq.trans (if_neg q15) (Eq.trans (if_neg q16) (Eq.trans (if_neg q17) (Eq.trans (if_neg q18) (Eq.trans (if_neg q19) (Eq.trans (if_neg q20) (Eq.trans (if_pos q21) (if_neg q24))))))))))) (Eq.symm (Eq.trans (if_neg q13) (Eq.trans (if_neg q14) (Eq.trans (if_neg q15) (Eq.trans (if_neg q16) (Eq.trans (if_neg q17) (Eq.trans (if_neg q18) (Eq.trans (if_neg q19) (Eq.trans (if_neg q20) (if_pos q21)))))))))))
                      · have _tw := trivial
                        have h := h.1 q24
                        refine tw_iload hX twd_mo_add_107 rfl ?_
                        refine tw_goto hX twd_mo_add_109 rfl ?_
                        obtain ⟨c11, h⟩ := h
                        refine tw_iastore (mem' := (tw_mM mo_base mo_measure mo_size (tw_up mo_kind (Int.toNat mo_size) v1) (tw_up mo_group (Int.toNat mo_size) v2) (tw_up mo_width (Int.toNat mo_size) 0) (tw_up mo_pair (Int.toNat mo_size) v4) mo_known mo_root mo_level mo_type mo_resolved mo_partner mo_top mo_entry mo_override mo_isolate mo_lostIsolates mo_lostEmbeddings mo_openIsolates mo_n mo_seq mo_mark mo_beginning mo_ending mo_embedding mo_list mo_lines mo_starts mo_shownLevels mo_order)) hX twd_mo_add_113 rfl c11 rfl ?_
                        refine tw_aload_n hX twd_mo_add_114 rfl rfl ?_
                        refine tw_dup hX twd_mo_add_115 ?_
                        refine tw_get (kf := 2) hX twd_mo_add_116 twin_mo rfl (by decide) tww_689 rfl rfl rfl ?_
                        refine tw_iconst hX twd_mo_add_119 ⟨by decide, by decide⟩ ?_
                        have c12 := h
                        refine tw_iadd hX twd_mo_add_120 c12 ?_
                        refine tw_put (kf := 2) (mem' := (tw_mM mo_base mo_measure (mo_size + 1) (tw_up mo_kind (Int.toNat mo_size) v1) (tw_up mo_group (Int.toNat mo_size) v2) (tw_up mo_width (Int.toNat mo_size) 0) (tw_up mo_pair (Int.toNat mo_size) v4) mo_known mo_root mo_level mo_type mo_resolved mo_partner mo_top mo_entry mo_override mo_isolate mo_lostIsolates mo_lostEmbeddings mo_openIsolates mo_n mo_seq mo_mark mo_beginning mo_ending mo_embedding mo_list mo_lines mo_starts mo_shownLevels mo_order)) twt_mo hX twd_mo_add_121 twin_mo twtok_mo twnm_mo rfl (by decide) tww_689 rfl rfl rfl (Or.inl rfl) rfl (Nat.le_of_ble_eq_true rfl) rfl ?_
                        refine tw_aload_n hX twd_mo_add_124 rfl rfl ?_
                        refine tw_iconst hX twd_mo_add_125 ⟨by decide, by decide⟩ ?_
                        refine tw_put (kf := 7) (mem' := (tw_mM mo_base mo_measure (mo_size + 1) (tw_up mo_kind (Int.toNat mo_size) v1) (tw_up mo_group (Int.toNat mo_size) v2) (tw_up mo_width (Int.toNat mo_size) 0) (tw_up mo_pair (Int.toNat mo_size) v4) 0 mo_root mo_level mo_type mo_resolved mo_partner mo_top mo_entry mo_override mo_isolate mo_lostIsolates mo_lostEmbeddings mo_openIsolates mo_n mo_seq mo_mark mo_beginning mo_ending mo_embedding mo_list mo_lines mo_starts mo_shownLevels mo_order)) twt_mo hX twd_mo_add_126 twin_mo twtok_mo twnm_mo rfl (by decide) tww_694 rfl rfl rfl (Or.inr ⟨rfl, ⟨by decide, by decide⟩⟩) rfl (Nat.le_of_ble_eq_true rfl) rfl ?_
                        refine tw_iconst hX twd_mo_add_129 ⟨by decide, by decide⟩ ?_
                        exact tw_zret hX twd_mo_add_130 ⟨by decide, by decide⟩ (hK _ _ _ _ _ _ _ (Eq.symm (Eq.trans (if_neg q13) (Eq.trans (if_neg q14) (Eq.trans (if_neg q15) (Eq.trans (if_neg q16) (Eq.trans (if_neg q17) (Eq.trans (if_neg q18) (Eq.trans (if_neg q19) (Eq.trans (if_neg q20) (if_pos q21)))))))))) (Eq.symm (Eq.trans (if_neg q13) (Eq.trans (if_neg q14) (Eq.trans (if_neg q15) (Eq.trans (if_neg q16) (Eq.trans (if_neg q17) (Eq.trans (if_neg q18) (Eq.trans (if_neg q19) (Eq.trans (if_neg q20) (if_pos q21)))))))))) (Eq.symm (Eq.trans (if_neg q13) (Eq.trans (if_neg q14) (Eq.trans (if_neg q15) (Eq.trans (if_neg q16) (Eq.trans (if_neg q17) (Eq.trans (if_neg q18) (Eq.trans (if_neg q19) (Eq.trans (if_neg q20) (if_pos q21)))))))))) (Eq.symm (Eq.trans (if_neg q13) (Eq.trans (if_neg q14) (Eq.trans (if_neg q15) (Eq.trans (if_neg q16) (Eq.trans (if_neg q17) (Eq.trans (if_neg q18) (Eq.trans (if_neg q19) (Eq.trans (if_neg q20) (if_pos q21)))))))))) (Eq.symm (Eq.trans (if_neg q13) (Eq.trans (if_neg q14) (Eq.trans (if_neg q15) (Eq.trans (if_neg q16) (Eq.trans (if_neg q17) (Eq.trans (if_neg q18) (Eq.trans (if_neg q19) (Eq.trans (if_neg q20) (Eq.trans (if_pos q21) (if_neg q22))))))))))) (Eq.symm (Eq.trans (if_neg q13) (Eq.trans (if_neg q14) (Eq.trans (if_neg q15) (Eq.trans (if_neg q16) (Eq.trans (if_neg q17) (Eq.trans (if_neg q18) (Eq.trans (if_neg q19) (Eq.trans (if_neg q20) (Eq.trans (if_pos q21) (if_pos q24))))))))))) (Eq.symm (Eq.trans (if_neg q13) (Eq.trans (if_neg q14) (Eq.trans (if_neg q15) (Eq.trans (if_neg q16) (Eq.trans (if_neg q17) (Eq.trans (if_neg q18) (Eq.trans (if_neg q19) (Eq.trans (if_neg q20) (if_pos q21)))))))))))
                  · have _tw := trivial
                    refine tw_iconst hX twd_mo_add_51 ⟨by decide, by decide⟩ ?_
                    exact tw_zret hX twd_mo_add_52 ⟨by decide, by decide⟩ (hK _ _ _ _ _ _ _ (Eq.symm (Eq.trans (if_neg q13) (Eq.trans (if_neg q14) (Eq.trans (if_neg q15) (Eq.trans (if_neg q16) (Eq.trans (if_neg q17) (Eq.trans (if_neg q18) (Eq.trans (if_neg q19) (Eq.trans (if_neg q20) (if_neg q21)))))))))) (Eq.symm (Eq.trans (if_neg q13) (Eq.trans (if_neg q14) (Eq.trans (if_neg q15) (Eq.trans (if_neg q16) (Eq.trans (if_neg q17) (Eq.trans (if_neg q18) (Eq.trans (if_neg q19) (Eq.trans (if_neg q20) (if_neg q21)))))))))) (Eq.symm (Eq.trans (if_neg q13) (Eq.trans (if_neg q14) (Eq.trans (if_neg q15) (Eq.trans (if_neg q16) (Eq.trans (if_neg q17) (Eq.trans (if_neg q18) (Eq.trans (if_neg q19) (Eq.trans (if_neg q20) (if_neg q21)))))))))) (Eq.symm (Eq.trans (if_neg q13) (Eq.trans (if_neg q14) (Eq.trans (if_neg q15) (Eq.trans (if_neg q16) (Eq.trans (if_neg q17) (Eq.trans (if_neg q18) (Eq.trans (if_neg q19) (Eq.trans (if_neg q20) (if_neg q21)))))))))) (Eq.symm (Eq.trans (if_neg q13) (Eq.trans (if_neg q14) (Eq.trans (if_neg q15) (Eq.trans (if_neg q16) (Eq.trans (if_neg q17) (Eq.trans (if_neg q18) (Eq.trans (if_neg q19) (Eq.trans (if_neg q20) (if_neg q21)))))))))) (Eq.symm (Eq.trans (if_neg q13) (Eq.trans (if_neg q14) (Eq.trans (if_neg q15) (Eq.trans (if_neg q16) (Eq.trans (if_neg q17) (Eq.trans (if_neg q18) (Eq.trans (if_neg q19) (Eq.trans (if_neg q20) (if_neg q21)))))))))) (Eq.symm (Eq.trans (if_neg q13) (Eq.trans (if_neg q14) (Eq.trans (if_neg q15) (Eq.trans (if_neg q16) (Eq.trans (if_neg q17) (Eq.trans (if_neg q18) (Eq.trans (if_neg q19) (Eq.trans (if_neg q20) (if_neg q21)))))))))))
def two_mo_drop (mo_size : Int) (mo_known : Int) : Prop := ((¬ mo_size ≤ 0 → ((tw_rg (mo_size - 1)))))
def twr_mo_drop (mo_size : Int) (mo_known : Int) : Int := if mo_size ≤ 0 then 0 else 1
def twu_mo_drop__mo_size (mo_size : Int) (mo_known : Int) : Int := if mo_size ≤ 0 then 0 else (mo_size - 1)
def twu_mo_drop__mo_known (mo_size : Int) (mo_known : Int) : Int := 0
set_option maxRecDepth 100000 in
set_option maxHeartbeats 4000000 in
theorem twc_mo_drop {l : Launch} {D : va_G} {ad : Nat → Nat} {cI cZ : ClassId} {Post : tw_P} {mo_base mo_measure mo_size mo_known mo_root mo_top mo_lostIsolates mo_lostEmbeddings mo_openIsolates mo_n mo_beginning mo_ending mo_embedding mo_lines : Int} {mo_kind mo_group mo_width mo_pair mo_level mo_type mo_resolved mo_partner mo_entry mo_override mo_isolate mo_seq mo_mark mo_list mo_starts mo_shownLevels mo_order : Nat → Int} (h : two_mo_drop mo_size mo_known) (hK : ∀ (z : Int) (n_mo_size : Int) (n_mo_known : Int), z = twr_mo_drop mo_size mo_known → n_mo_size = twu_mo_drop__mo_size mo_size mo_known → n_mo_known = twu_mo_drop__mo_known mo_size mo_known → Post (some z) (tw_mM mo_base mo_measure n_mo_size mo_kind mo_group mo_width mo_pair n_mo_known mo_root mo_level mo_type mo_resolved mo_partner mo_top mo_entry mo_override mo_isolate mo_lostIsolates mo_lostEmbeddings mo_openIsolates mo_n mo_seq mo_mark mo_beginning mo_ending mo_embedding mo_list mo_lines mo_starts mo_shownLevels mo_order)) : tw_ct (tw_YM l D ad cI cZ) twy_mo_drop (Cond.code twy_mo_drop prog_11_method_3_code 2 (some .boolean) :: tw_Wg) 0 [.inr 0] (tw_mM mo_base mo_measure mo_size mo_kind mo_group mo_width mo_pair mo_known mo_root mo_level mo_type mo_resolved mo_partner mo_top mo_entry mo_override mo_isolate mo_lostIsolates mo_lostEmbeddings mo_openIsolates mo_n mo_seq mo_mark mo_beginning mo_ending mo_embedding mo_list mo_lines mo_starts mo_shownLevels mo_order) Post := by
  refine tw_of (own := twR_mo) (L0 := [some (.inr 0), none]) (by decide) rfl rfl (Nat.le_of_ble_eq_true rfl) (fun Z hX => ?_)
  unfold two_mo_drop at h
  refine tw_aload_n hX twd_mo_drop_0 rfl rfl ?_
  refine tw_iconst hX twd_mo_drop_1 ⟨by decide, by decide⟩ ?_
  refine tw_put (kf := 7) (mem' := (tw_mM mo_base mo_measure mo_size mo_kind mo_group mo_width mo_pair 0 mo_root mo_level mo_type mo_resolved mo_partner mo_top mo_entry mo_override mo_isolate mo_lostIsolates mo_lostEmbeddings mo_openIsolates mo_n mo_seq mo_mark mo_beginning mo_ending mo_embedding mo_list mo_lines mo_starts mo_shownLevels mo_order)) twt_mo hX twd_mo_drop_2 twin_mo twtok_mo twnm_mo rfl (by decide) tww_694 rfl rfl rfl (Or.inr ⟨rfl, ⟨by decide, by decide⟩⟩) rfl (Nat.le_of_ble_eq_true rfl) rfl ?_
  refine tw_aload_n hX twd_mo_drop_5 rfl rfl ?_
  refine tw_get (kf := 2) hX twd_mo_drop_6 twin_mo rfl (by decide) tww_689 rfl rfl rfl ?_
  refine tw_if_le hX twd_mo_drop_9 rfl (fun q4 => ?_) (fun q4 => ?_)
  · have _tw := trivial
    refine tw_iconst hX twd_mo_drop_16 ⟨by decide, by decide⟩ ?_
    refine tw_istore_n (L' := [some (.inr 0), some (.inl 0)]) hX twd_mo_drop_17 rfl (by decide) rfl ?_
    refine tw_aload_n hX twd_mo_drop_18 rfl rfl ?_
    refine tw_iload_n hX twd_mo_drop_19 rfl rfl ?_
    refine tw_if_eq hX twd_mo_drop_20 rfl (fun _ => ?_) (fun q1 => absurd q1 (by decide))
    refine tw_iconst hX twd_mo_drop_32 ⟨by decide, by decide⟩ ?_
    refine tw_put (kf := 2) (mem' := (tw_mM mo_base mo_measure 0 mo_kind mo_group mo_width mo_pair 0 mo_root mo_level mo_type mo_resolved mo_partner mo_top mo_entry mo_override mo_isolate mo_lostIsolates mo_lostEmbeddings mo_openIsolates mo_n mo_seq mo_mark mo_beginning mo_ending mo_embedding mo_list mo_lines mo_starts mo_shownLevels mo_order)) twt_mo hX twd_mo_drop_33 twin_mo twtok_mo twnm_mo rfl (by decide) tww_689 rfl rfl rfl (Or.inl rfl) rfl (Nat.le_of_ble_eq_true rfl) rfl ?_
    refine tw_iload_n hX twd_mo_drop_36 rfl rfl ?_
    exact tw_zret hX twd_mo_drop_37 ⟨by decide, by decide⟩ (hK _ _ _ (Eq.symm (if_pos q4)) (Eq.symm (if_pos q4)) (Eq.symm rfl))
  · have _tw := trivial
    have h := h q4
    refine tw_iconst hX twd_mo_drop_12 ⟨by decide, by decide⟩ ?_
    refine tw_goto hX twd_mo_drop_13 rfl ?_
    refine tw_istore_n (L' := [some (.inr 0), some (.inl 1)]) hX twd_mo_drop_17 rfl (by decide) rfl ?_
    refine tw_aload_n hX twd_mo_drop_18 rfl rfl ?_
    refine tw_iload_n hX twd_mo_drop_19 rfl rfl ?_
    refine tw_if_eq hX twd_mo_drop_20 rfl (fun q2 => absurd q2 (by decide)) (fun _ => ?_)
    refine tw_aload_n hX twd_mo_drop_23 rfl rfl ?_
    refine tw_get (kf := 2) hX twd_mo_drop_24 twin_mo rfl (by decide) tww_689 rfl rfl rfl ?_
    refine tw_iconst hX twd_mo_drop_27 ⟨by decide, by decide⟩ ?_
    have c3 := h
    refine tw_isub hX twd_mo_drop_28 c3 ?_
    refine tw_goto hX twd_mo_drop_29 rfl ?_
    refine tw_put (kf := 2) (mem' := (tw_mM mo_base mo_measure (mo_size - 1) mo_kind mo_group mo_width mo_pair 0 mo_root mo_level mo_type mo_resolved mo_partner mo_top mo_entry mo_override mo_isolate mo_lostIsolates mo_lostEmbeddings mo_openIsolates mo_n mo_seq mo_mark mo_beginning mo_ending mo_embedding mo_list mo_lines mo_starts mo_shownLevels mo_order)) twt_mo hX twd_mo_drop_33 twin_mo twtok_mo twnm_mo rfl (by decide) tww_689 rfl rfl rfl (Or.inl rfl) rfl (Nat.le_of_ble_eq_true rfl) rfl ?_
    refine tw_iload_n hX twd_mo_drop_36 rfl rfl ?_
    exact tw_zret hX twd_mo_drop_37 ⟨by decide, by decide⟩ (hK _ _ _ (Eq.symm (if_neg q4)) (Eq.symm (if_neg q4)) (Eq.symm rfl))
def twu_mo_clear__mo_size (mo_size : Int) (mo_known : Int) : Int := 0
def twu_mo_clear__mo_known (mo_size : Int) (mo_known : Int) : Int := 0
set_option maxRecDepth 100000 in
set_option maxHeartbeats 4000000 in
theorem twc_mo_clear {l : Launch} {D : va_G} {ad : Nat → Nat} {cI cZ : ClassId} {Post : tw_P} {mo_base mo_measure mo_size mo_known mo_root mo_top mo_lostIsolates mo_lostEmbeddings mo_openIsolates mo_n mo_beginning mo_ending mo_embedding mo_lines : Int} {mo_kind mo_group mo_width mo_pair mo_level mo_type mo_resolved mo_partner mo_entry mo_override mo_isolate mo_seq mo_mark mo_list mo_starts mo_shownLevels mo_order : Nat → Int} (hK : ∀ (n_mo_size : Int) (n_mo_known : Int), n_mo_size = twu_mo_clear__mo_size mo_size mo_known → n_mo_known = twu_mo_clear__mo_known mo_size mo_known → Post none (tw_mM mo_base mo_measure n_mo_size mo_kind mo_group mo_width mo_pair n_mo_known mo_root mo_level mo_type mo_resolved mo_partner mo_top mo_entry mo_override mo_isolate mo_lostIsolates mo_lostEmbeddings mo_openIsolates mo_n mo_seq mo_mark mo_beginning mo_ending mo_embedding mo_list mo_lines mo_starts mo_shownLevels mo_order)) : tw_ct (tw_YM l D ad cI cZ) twy_mo_clear (Cond.code twy_mo_clear prog_11_method_4_code 1 none :: tw_Wg) 0 [.inr 0] (tw_mM mo_base mo_measure mo_size mo_kind mo_group mo_width mo_pair mo_known mo_root mo_level mo_type mo_resolved mo_partner mo_top mo_entry mo_override mo_isolate mo_lostIsolates mo_lostEmbeddings mo_openIsolates mo_n mo_seq mo_mark mo_beginning mo_ending mo_embedding mo_list mo_lines mo_starts mo_shownLevels mo_order) Post := by
  refine tw_of (own := twR_mo) (L0 := [some (.inr 0)]) (by decide) rfl rfl (Nat.le_of_ble_eq_true rfl) (fun Z hX => ?_)
  refine tw_aload_n hX twd_mo_clear_0 rfl rfl ?_
  refine tw_iconst hX twd_mo_clear_1 ⟨by decide, by decide⟩ ?_
  refine tw_put (kf := 2) (mem' := (tw_mM mo_base mo_measure 0 mo_kind mo_group mo_width mo_pair mo_known mo_root mo_level mo_type mo_resolved mo_partner mo_top mo_entry mo_override mo_isolate mo_lostIsolates mo_lostEmbeddings mo_openIsolates mo_n mo_seq mo_mark mo_beginning mo_ending mo_embedding mo_list mo_lines mo_starts mo_shownLevels mo_order)) twt_mo hX twd_mo_clear_2 twin_mo twtok_mo twnm_mo rfl (by decide) tww_689 rfl rfl rfl (Or.inl rfl) rfl (Nat.le_of_ble_eq_true rfl) rfl ?_
  refine tw_aload_n hX twd_mo_clear_5 rfl rfl ?_
  refine tw_iconst hX twd_mo_clear_6 ⟨by decide, by decide⟩ ?_
  refine tw_put (kf := 7) (mem' := (tw_mM mo_base mo_measure 0 mo_kind mo_group mo_width mo_pair 0 mo_root mo_level mo_type mo_resolved mo_partner mo_top mo_entry mo_override mo_isolate mo_lostIsolates mo_lostEmbeddings mo_openIsolates mo_n mo_seq mo_mark mo_beginning mo_ending mo_embedding mo_list mo_lines mo_starts mo_shownLevels mo_order)) twt_mo hX twd_mo_clear_7 twin_mo twtok_mo twnm_mo rfl (by decide) tww_694 rfl rfl rfl (Or.inr ⟨rfl, ⟨by decide, by decide⟩⟩) rfl (Nat.le_of_ble_eq_true rfl) rfl ?_
  exact tw_vret hX twd_mo_clear_10 (hK _ _ (Eq.symm rfl) (Eq.symm rfl))
def twr_mo_base (v1 : Int) (mo_base : Int) (mo_known : Int) : Int := if v1 < 0 then 0 else (if v1 ≤ 2 then 1 else 0)
def twu_mo_base__mo_base (v1 : Int) (mo_base : Int) (mo_known : Int) : Int := if v1 < 0 then mo_base else (if v1 ≤ 2 then v1 else mo_base)
def twu_mo_base__mo_known (v1 : Int) (mo_base : Int) (mo_known : Int) : Int := if v1 < 0 then mo_known else (if v1 ≤ 2 then 0 else mo_known)
set_option maxRecDepth 100000 in
set_option maxHeartbeats 4000000 in
theorem twc_mo_base {l : Launch} {D : va_G} {ad : Nat → Nat} {cI cZ : ClassId} {Post : tw_P} {v1 : Int} {mo_base mo_measure mo_size mo_known mo_root mo_top mo_lostIsolates mo_lostEmbeddings mo_openIsolates mo_n mo_beginning mo_ending mo_embedding mo_lines : Int} {mo_kind mo_group mo_width mo_pair mo_level mo_type mo_resolved mo_partner mo_entry mo_override mo_isolate mo_seq mo_mark mo_list mo_starts mo_shownLevels mo_order : Nat → Int} (hK : ∀ (z : Int) (n_mo_base : Int) (n_mo_known : Int), z = twr_mo_base v1 mo_base mo_known → n_mo_base = twu_mo_base__mo_base v1 mo_base mo_known → n_mo_known = twu_mo_base__mo_known v1 mo_base mo_known → Post (some z) (tw_mM n_mo_base mo_measure mo_size mo_kind mo_group mo_width mo_pair n_mo_known mo_root mo_level mo_type mo_resolved mo_partner mo_top mo_entry mo_override mo_isolate mo_lostIsolates mo_lostEmbeddings mo_openIsolates mo_n mo_seq mo_mark mo_beginning mo_ending mo_embedding mo_list mo_lines mo_starts mo_shownLevels mo_order)) : tw_ct (tw_YM l D ad cI cZ) twy_mo_base (Cond.code twy_mo_base prog_11_method_5_code 2 (some .boolean) :: tw_Wg) 0 [.inr 0, .inl v1] (tw_mM mo_base mo_measure mo_size mo_kind mo_group mo_width mo_pair mo_known mo_root mo_level mo_type mo_resolved mo_partner mo_top mo_entry mo_override mo_isolate mo_lostIsolates mo_lostEmbeddings mo_openIsolates mo_n mo_seq mo_mark mo_beginning mo_ending mo_embedding mo_list mo_lines mo_starts mo_shownLevels mo_order) Post := by
  refine tw_of (own := twR_mo) (L0 := [some (.inr 0), some (.inl v1)]) (by decide) rfl rfl (Nat.le_of_ble_eq_true rfl) (fun Z hX => ?_)
  refine tw_iload_n hX twd_mo_base_0 rfl rfl ?_
  refine tw_if_lt hX twd_mo_base_1 rfl (fun q1 => ?_) (fun q1 => ?_)
  · have _tw := trivial
    refine tw_iconst hX twd_mo_base_9 ⟨by decide, by decide⟩ ?_
    exact tw_zret hX twd_mo_base_10 ⟨by decide, by decide⟩ (hK _ _ _ (Eq.symm (if_pos q1)) (Eq.symm (if_pos q1)) (Eq.symm (if_pos q1)))
  · have _tw := trivial
    refine tw_iload_n hX twd_mo_base_4 rfl rfl ?_
    refine tw_iconst hX twd_mo_base_5 ⟨by decide, by decide⟩ ?_
    refine tw_icmp_le hX twd_mo_base_6 rfl (fun q2 => ?_) (fun q2 => ?_)
    · have _tw := trivial
      refine tw_aload_n hX twd_mo_base_11 rfl rfl ?_
      refine tw_iload_n hX twd_mo_base_12 rfl rfl ?_
      refine tw_put (kf := 0) (mem' := (tw_mM v1 mo_measure mo_size mo_kind mo_group mo_width mo_pair mo_known mo_root mo_level mo_type mo_resolved mo_partner mo_top mo_entry mo_override mo_isolate mo_lostIsolates mo_lostEmbeddings mo_openIsolates mo_n mo_seq mo_mark mo_beginning mo_ending mo_embedding mo_list mo_lines mo_starts mo_shownLevels mo_order)) twt_mo hX twd_mo_base_13 twin_mo twtok_mo twnm_mo rfl (by decide) tww_687 rfl rfl rfl (Or.inl rfl) rfl (Nat.le_of_ble_eq_true rfl) rfl ?_
      refine tw_aload_n hX twd_mo_base_16 rfl rfl ?_
      refine tw_iconst hX twd_mo_base_17 ⟨by decide, by decide⟩ ?_
      refine tw_put (kf := 7) (mem' := (tw_mM v1 mo_measure mo_size mo_kind mo_group mo_width mo_pair 0 mo_root mo_level mo_type mo_resolved mo_partner mo_top mo_entry mo_override mo_isolate mo_lostIsolates mo_lostEmbeddings mo_openIsolates mo_n mo_seq mo_mark mo_beginning mo_ending mo_embedding mo_list mo_lines mo_starts mo_shownLevels mo_order)) twt_mo hX twd_mo_base_18 twin_mo twtok_mo twnm_mo rfl (by decide) tww_694 rfl rfl rfl (Or.inr ⟨rfl, ⟨by decide, by decide⟩⟩) rfl (Nat.le_of_ble_eq_true rfl) rfl ?_
      refine tw_iconst hX twd_mo_base_21 ⟨by decide, by decide⟩ ?_
      exact tw_zret hX twd_mo_base_22 ⟨by decide, by decide⟩ (hK _ _ _ (Eq.symm (Eq.trans (if_neg q1) (if_pos q2))) (Eq.symm (Eq.trans (if_neg q1) (if_pos q2))) (Eq.symm (Eq.trans (if_neg q1) (if_pos q2))))
    · have _tw := trivial
      refine tw_iconst hX twd_mo_base_9 ⟨by decide, by decide⟩ ?_
      exact tw_zret hX twd_mo_base_10 ⟨by decide, by decide⟩ (hK _ _ _ (Eq.symm (Eq.trans (if_neg q1) (if_neg q2))) (Eq.symm (Eq.trans (if_neg q1) (if_neg q2))) (Eq.symm (Eq.trans (if_neg q1) (if_neg q2))))
def twr_mo_measure (v1 : Int) (mo_measure : Int) (mo_known : Int) : Int := if v1 < 1 then 0 else (if v1 ≤ 100 then 1 else 0)
def twu_mo_measure__mo_measure (v1 : Int) (mo_measure : Int) (mo_known : Int) : Int := if v1 < 1 then mo_measure else (if v1 ≤ 100 then v1 else mo_measure)
def twu_mo_measure__mo_known (v1 : Int) (mo_measure : Int) (mo_known : Int) : Int := if v1 < 1 then mo_known else (if v1 ≤ 100 then 0 else mo_known)
set_option maxRecDepth 100000 in
set_option maxHeartbeats 4000000 in
theorem twc_mo_measure {l : Launch} {D : va_G} {ad : Nat → Nat} {cI cZ : ClassId} {Post : tw_P} {v1 : Int} {mo_base mo_measure mo_size mo_known mo_root mo_top mo_lostIsolates mo_lostEmbeddings mo_openIsolates mo_n mo_beginning mo_ending mo_embedding mo_lines : Int} {mo_kind mo_group mo_width mo_pair mo_level mo_type mo_resolved mo_partner mo_entry mo_override mo_isolate mo_seq mo_mark mo_list mo_starts mo_shownLevels mo_order : Nat → Int} (hK : ∀ (z : Int) (n_mo_measure : Int) (n_mo_known : Int), z = twr_mo_measure v1 mo_measure mo_known → n_mo_measure = twu_mo_measure__mo_measure v1 mo_measure mo_known → n_mo_known = twu_mo_measure__mo_known v1 mo_measure mo_known → Post (some z) (tw_mM mo_base n_mo_measure mo_size mo_kind mo_group mo_width mo_pair n_mo_known mo_root mo_level mo_type mo_resolved mo_partner mo_top mo_entry mo_override mo_isolate mo_lostIsolates mo_lostEmbeddings mo_openIsolates mo_n mo_seq mo_mark mo_beginning mo_ending mo_embedding mo_list mo_lines mo_starts mo_shownLevels mo_order)) : tw_ct (tw_YM l D ad cI cZ) twy_mo_measure (Cond.code twy_mo_measure prog_11_method_6_code 2 (some .boolean) :: tw_Wg) 0 [.inr 0, .inl v1] (tw_mM mo_base mo_measure mo_size mo_kind mo_group mo_width mo_pair mo_known mo_root mo_level mo_type mo_resolved mo_partner mo_top mo_entry mo_override mo_isolate mo_lostIsolates mo_lostEmbeddings mo_openIsolates mo_n mo_seq mo_mark mo_beginning mo_ending mo_embedding mo_list mo_lines mo_starts mo_shownLevels mo_order) Post := by
  refine tw_of (own := twR_mo) (L0 := [some (.inr 0), some (.inl v1)]) (by decide) rfl rfl (Nat.le_of_ble_eq_true rfl) (fun Z hX => ?_)
  refine tw_iload_n hX twd_mo_measure_0 rfl rfl ?_
  refine tw_iconst hX twd_mo_measure_1 ⟨by decide, by decide⟩ ?_
  refine tw_icmp_lt hX twd_mo_measure_2 rfl (fun q1 => ?_) (fun q1 => ?_)
  · have _tw := trivial
    refine tw_iconst hX twd_mo_measure_11 ⟨by decide, by decide⟩ ?_
    exact tw_zret hX twd_mo_measure_12 ⟨by decide, by decide⟩ (hK _ _ _ (Eq.symm (if_pos q1)) (Eq.symm (if_pos q1)) (Eq.symm (if_pos q1)))
  · have _tw := trivial
    refine tw_iload_n hX twd_mo_measure_5 rfl rfl ?_
    refine tw_bipush hX twd_mo_measure_6 (by decide +kernel) ⟨by decide, by decide⟩ ?_
    refine tw_icmp_le hX twd_mo_measure_8 rfl (fun q2 => ?_) (fun q2 => ?_)
    · have _tw := trivial
      refine tw_aload_n hX twd_mo_measure_13 rfl rfl ?_
      refine tw_iload_n hX twd_mo_measure_14 rfl rfl ?_
      refine tw_put (kf := 1) (mem' := (tw_mM mo_base v1 mo_size mo_kind mo_group mo_width mo_pair mo_known mo_root mo_level mo_type mo_resolved mo_partner mo_top mo_entry mo_override mo_isolate mo_lostIsolates mo_lostEmbeddings mo_openIsolates mo_n mo_seq mo_mark mo_beginning mo_ending mo_embedding mo_list mo_lines mo_starts mo_shownLevels mo_order)) twt_mo hX twd_mo_measure_15 twin_mo twtok_mo twnm_mo rfl (by decide) tww_688 rfl rfl rfl (Or.inl rfl) rfl (Nat.le_of_ble_eq_true rfl) rfl ?_
      refine tw_aload_n hX twd_mo_measure_18 rfl rfl ?_
      refine tw_iconst hX twd_mo_measure_19 ⟨by decide, by decide⟩ ?_
      refine tw_put (kf := 7) (mem' := (tw_mM mo_base v1 mo_size mo_kind mo_group mo_width mo_pair 0 mo_root mo_level mo_type mo_resolved mo_partner mo_top mo_entry mo_override mo_isolate mo_lostIsolates mo_lostEmbeddings mo_openIsolates mo_n mo_seq mo_mark mo_beginning mo_ending mo_embedding mo_list mo_lines mo_starts mo_shownLevels mo_order)) twt_mo hX twd_mo_measure_20 twin_mo twtok_mo twnm_mo rfl (by decide) tww_694 rfl rfl rfl (Or.inr ⟨rfl, ⟨by decide, by decide⟩⟩) rfl (Nat.le_of_ble_eq_true rfl) rfl ?_
      refine tw_iconst hX twd_mo_measure_23 ⟨by decide, by decide⟩ ?_
      exact tw_zret hX twd_mo_measure_24 ⟨by decide, by decide⟩ (hK _ _ _ (Eq.symm (Eq.trans (if_neg q1) (if_pos q2))) (Eq.symm (Eq.trans (if_neg q1) (if_pos q2))) (Eq.symm (Eq.trans (if_neg q1) (if_pos q2))))
    · have _tw := trivial
      refine tw_iconst hX twd_mo_measure_11 ⟨by decide, by decide⟩ ?_
      exact tw_zret hX twd_mo_measure_12 ⟨by decide, by decide⟩ (hK _ _ _ (Eq.symm (Eq.trans (if_neg q1) (if_neg q2))) (Eq.symm (Eq.trans (if_neg q1) (if_neg q2))) (Eq.symm (Eq.trans (if_neg q1) (if_neg q2))))
def twr_mo_length (mo_size : Int) : Int := mo_size
set_option maxRecDepth 100000 in
set_option maxHeartbeats 4000000 in
theorem twc_mo_length {l : Launch} {D : va_G} {ad : Nat → Nat} {cI cZ : ClassId} {Post : tw_P} {mo_base mo_measure mo_size mo_known mo_root mo_top mo_lostIsolates mo_lostEmbeddings mo_openIsolates mo_n mo_beginning mo_ending mo_embedding mo_lines : Int} {mo_kind mo_group mo_width mo_pair mo_level mo_type mo_resolved mo_partner mo_entry mo_override mo_isolate mo_seq mo_mark mo_list mo_starts mo_shownLevels mo_order : Nat → Int} (hK : ∀ (z : Int), z = twr_mo_length mo_size → Post (some z) (tw_mM mo_base mo_measure mo_size mo_kind mo_group mo_width mo_pair mo_known mo_root mo_level mo_type mo_resolved mo_partner mo_top mo_entry mo_override mo_isolate mo_lostIsolates mo_lostEmbeddings mo_openIsolates mo_n mo_seq mo_mark mo_beginning mo_ending mo_embedding mo_list mo_lines mo_starts mo_shownLevels mo_order)) : tw_ct (tw_YM l D ad cI cZ) twy_mo_length (Cond.code twy_mo_length prog_11_method_7_code 1 (some .int) :: tw_Wg) 0 [.inr 0] (tw_mM mo_base mo_measure mo_size mo_kind mo_group mo_width mo_pair mo_known mo_root mo_level mo_type mo_resolved mo_partner mo_top mo_entry mo_override mo_isolate mo_lostIsolates mo_lostEmbeddings mo_openIsolates mo_n mo_seq mo_mark mo_beginning mo_ending mo_embedding mo_list mo_lines mo_starts mo_shownLevels mo_order) Post := by
  refine tw_of (own := twR_mo) (L0 := [some (.inr 0)]) (by decide) rfl rfl (Nat.le_of_ble_eq_true rfl) (fun Z hX => ?_)
  refine tw_aload_n hX twd_mo_length_0 rfl rfl ?_
  refine tw_get (kf := 2) hX twd_mo_length_1 twin_mo rfl (by decide) tww_689 rfl rfl rfl ?_
  exact tw_ret hX twd_mo_length_4 (hK _ (Eq.symm rfl))
def two_mo_opener (v1 : Int) (mo_kind : Nat → Int) : Prop := ((0 ≤ v1 ∧ v1 < 64) ∧ (¬ (mo_kind (Int.toNat v1)) < 17 → ((0 ≤ v1 ∧ v1 < 64))))
def twr_mo_opener (v1 : Int) (mo_kind : Nat → Int) : Int := if (mo_kind (Int.toNat v1)) < 17 then 0 else (if 19 < (mo_kind (Int.toNat v1)) then 0 else 1)
set_option maxRecDepth 100000 in
set_option maxHeartbeats 4000000 in
theorem twc_mo_opener {l : Launch} {D : va_G} {ad : Nat → Nat} {cI cZ : ClassId} {Post : tw_P} {v1 : Int} {mo_base mo_measure mo_size mo_known mo_root mo_top mo_lostIsolates mo_lostEmbeddings mo_openIsolates mo_n mo_beginning mo_ending mo_embedding mo_lines : Int} {mo_kind mo_group mo_width mo_pair mo_level mo_type mo_resolved mo_partner mo_entry mo_override mo_isolate mo_seq mo_mark mo_list mo_starts mo_shownLevels mo_order : Nat → Int} (h : two_mo_opener v1 mo_kind) (hK : ∀ (z : Int), z = twr_mo_opener v1 mo_kind → Post (some z) (tw_mM mo_base mo_measure mo_size mo_kind mo_group mo_width mo_pair mo_known mo_root mo_level mo_type mo_resolved mo_partner mo_top mo_entry mo_override mo_isolate mo_lostIsolates mo_lostEmbeddings mo_openIsolates mo_n mo_seq mo_mark mo_beginning mo_ending mo_embedding mo_list mo_lines mo_starts mo_shownLevels mo_order)) : tw_ct (tw_YM l D ad cI cZ) twy_mo_opener (Cond.code twy_mo_opener prog_11_method_8_code 2 (some .boolean) :: tw_Wg) 0 [.inr 0, .inl v1] (tw_mM mo_base mo_measure mo_size mo_kind mo_group mo_width mo_pair mo_known mo_root mo_level mo_type mo_resolved mo_partner mo_top mo_entry mo_override mo_isolate mo_lostIsolates mo_lostEmbeddings mo_openIsolates mo_n mo_seq mo_mark mo_beginning mo_ending mo_embedding mo_list mo_lines mo_starts mo_shownLevels mo_order) Post := by
  refine tw_of (own := twR_mo) (L0 := [some (.inr 0), some (.inl v1)]) (by decide) rfl rfl (Nat.le_of_ble_eq_true rfl) (fun Z hX => ?_)
  unfold two_mo_opener at h
  refine tw_aload_n hX twd_mo_opener_0 rfl rfl ?_
  refine tw_get (kf := 3) hX twd_mo_opener_1 twin_mo rfl (by decide) tww_690 rfl rfl rfl ?_
  refine tw_iload_n hX twd_mo_opener_4 rfl rfl ?_
  obtain ⟨c1, h⟩ := h
  refine tw_iaload hX twd_mo_opener_5 rfl c1 ?_
  refine tw_bipush hX twd_mo_opener_6 (by decide +kernel) ⟨by decide, by decide⟩ ?_
  refine tw_icmp_lt hX twd_mo_opener_8 rfl (fun q3 => ?_) (fun q3 => ?_)
  · have _tw := trivial
    refine tw_iconst hX twd_mo_opener_26 ⟨by decide, by decide⟩ ?_
    exact tw_zret hX twd_mo_opener_27 ⟨by decide, by decide⟩ (hK _ (Eq.symm (if_pos q3)))
  · have _tw := trivial
    have h := h q3
    refine tw_aload_n hX twd_mo_opener_11 rfl rfl ?_
    refine tw_get (kf := 3) hX twd_mo_opener_12 twin_mo rfl (by decide) tww_690 rfl rfl rfl ?_
    refine tw_iload_n hX twd_mo_opener_15 rfl rfl ?_
    have c2 := h
    refine tw_iaload hX twd_mo_opener_16 rfl c2 ?_
    refine tw_bipush hX twd_mo_opener_17 (by decide +kernel) ⟨by decide, by decide⟩ ?_
    refine tw_icmp_gt hX twd_mo_opener_19 rfl (fun q4 => ?_) (fun q4 => ?_)
    · have _tw := trivial
      refine tw_iconst hX twd_mo_opener_26 ⟨by decide, by decide⟩ ?_
      exact tw_zret hX twd_mo_opener_27 ⟨by decide, by decide⟩ (hK _ (Eq.symm (Eq.trans (if_neg q3) (if_pos q4))))
    · have _tw := trivial
      refine tw_iconst hX twd_mo_opener_22 ⟨by decide, by decide⟩ ?_
      refine tw_goto hX twd_mo_opener_23 rfl ?_
      exact tw_zret hX twd_mo_opener_27 ⟨by decide, by decide⟩ (hK _ (Eq.symm (Eq.trans (if_neg q3) (if_neg q4))))
def two_mo_hidden (v1 : Int) (mo_kind : Nat → Int) : Prop := ((0 ≤ v1 ∧ v1 < 64) ∧ (¬ (mo_kind (Int.toNat v1)) < 12 → ((0 ≤ v1 ∧ v1 < 64))))
def twr_mo_hidden (v1 : Int) (mo_kind : Nat → Int) : Int := if (mo_kind (Int.toNat v1)) < 12 then 0 else (if 16 < (mo_kind (Int.toNat v1)) then 0 else 1)
set_option maxRecDepth 100000 in
set_option maxHeartbeats 4000000 in
theorem twc_mo_hidden {l : Launch} {D : va_G} {ad : Nat → Nat} {cI cZ : ClassId} {Post : tw_P} {v1 : Int} {mo_base mo_measure mo_size mo_known mo_root mo_top mo_lostIsolates mo_lostEmbeddings mo_openIsolates mo_n mo_beginning mo_ending mo_embedding mo_lines : Int} {mo_kind mo_group mo_width mo_pair mo_level mo_type mo_resolved mo_partner mo_entry mo_override mo_isolate mo_seq mo_mark mo_list mo_starts mo_shownLevels mo_order : Nat → Int} (h : two_mo_hidden v1 mo_kind) (hK : ∀ (z : Int), z = twr_mo_hidden v1 mo_kind → Post (some z) (tw_mM mo_base mo_measure mo_size mo_kind mo_group mo_width mo_pair mo_known mo_root mo_level mo_type mo_resolved mo_partner mo_top mo_entry mo_override mo_isolate mo_lostIsolates mo_lostEmbeddings mo_openIsolates mo_n mo_seq mo_mark mo_beginning mo_ending mo_embedding mo_list mo_lines mo_starts mo_shownLevels mo_order)) : tw_ct (tw_YM l D ad cI cZ) twy_mo_hidden (Cond.code twy_mo_hidden prog_11_method_9_code 2 (some .boolean) :: tw_Wg) 0 [.inr 0, .inl v1] (tw_mM mo_base mo_measure mo_size mo_kind mo_group mo_width mo_pair mo_known mo_root mo_level mo_type mo_resolved mo_partner mo_top mo_entry mo_override mo_isolate mo_lostIsolates mo_lostEmbeddings mo_openIsolates mo_n mo_seq mo_mark mo_beginning mo_ending mo_embedding mo_list mo_lines mo_starts mo_shownLevels mo_order) Post := by
  refine tw_of (own := twR_mo) (L0 := [some (.inr 0), some (.inl v1)]) (by decide) rfl rfl (Nat.le_of_ble_eq_true rfl) (fun Z hX => ?_)
  unfold two_mo_hidden at h
  refine tw_aload_n hX twd_mo_hidden_0 rfl rfl ?_
  refine tw_get (kf := 3) hX twd_mo_hidden_1 twin_mo rfl (by decide) tww_690 rfl rfl rfl ?_
  refine tw_iload_n hX twd_mo_hidden_4 rfl rfl ?_
  obtain ⟨c1, h⟩ := h
  refine tw_iaload hX twd_mo_hidden_5 rfl c1 ?_
  refine tw_bipush hX twd_mo_hidden_6 (by decide +kernel) ⟨by decide, by decide⟩ ?_
  refine tw_icmp_lt hX twd_mo_hidden_8 rfl (fun q3 => ?_) (fun q3 => ?_)
  · have _tw := trivial
    refine tw_iconst hX twd_mo_hidden_26 ⟨by decide, by decide⟩ ?_
    exact tw_zret hX twd_mo_hidden_27 ⟨by decide, by decide⟩ (hK _ (Eq.symm (if_pos q3)))
  · have _tw := trivial
    have h := h q3
    refine tw_aload_n hX twd_mo_hidden_11 rfl rfl ?_
    refine tw_get (kf := 3) hX twd_mo_hidden_12 twin_mo rfl (by decide) tww_690 rfl rfl rfl ?_
    refine tw_iload_n hX twd_mo_hidden_15 rfl rfl ?_
    have c2 := h
    refine tw_iaload hX twd_mo_hidden_16 rfl c2 ?_
    refine tw_bipush hX twd_mo_hidden_17 (by decide +kernel) ⟨by decide, by decide⟩ ?_
    refine tw_icmp_gt hX twd_mo_hidden_19 rfl (fun q4 => ?_) (fun q4 => ?_)
    · have _tw := trivial
      refine tw_iconst hX twd_mo_hidden_26 ⟨by decide, by decide⟩ ?_
      exact tw_zret hX twd_mo_hidden_27 ⟨by decide, by decide⟩ (hK _ (Eq.symm (Eq.trans (if_neg q3) (if_pos q4))))
    · have _tw := trivial
      refine tw_iconst hX twd_mo_hidden_22 ⟨by decide, by decide⟩ ?_
      refine tw_goto hX twd_mo_hidden_23 rfl ?_
      exact tw_zret hX twd_mo_hidden_27 ⟨by decide, by decide⟩ (hK _ (Eq.symm (Eq.trans (if_neg q3) (if_neg q4))))
def twl_mo_closing_6 (K : Int → Prop) (X68 : Prop) (mo_size : Int) (mo_kind : Nat → Int) : Nat → Int → Int → Prop
  | 0, _, _ => False
  | f + 1, v2, v3 =>
    ((mo_size ≤ v3 →
    X68) ∧
    (¬ mo_size ≤ v3 →
    (0 ≤ v3 ∧ v3 < 64) ∧ (∀ J3 : Prop, (((0 ≤ v3 ∧ v3 < 64) ∧ (((¬ (mo_kind (Int.toNat v3)) = 20 → ((two_mo_opener v3 mo_kind)))) ∧
        (∀ x8 : Int, x8 = (if (mo_kind (Int.toNat v3)) = 20 then (-1) else (if (twr_mo_opener v3 mo_kind) = 0 then 0 else 1)) →
        (tw_rg (v2 + x8)) ∧ (tw_rg (v3 + 1)) ∧ twl_mo_closing_6 K X68 mo_size mo_kind f (v2 + x8) (v3 + 1)))) → J3) →
      (((mo_kind (Int.toNat v3)) = 20 →
      ((v2 = 0 →
        K v3) ∧
        (¬ v2 = 0 →
        J3))) ∧
      (¬ (mo_kind (Int.toNat v3)) = 20 →
      J3)))))
set_option maxRecDepth 100000 in
set_option maxHeartbeats 4000000 in
theorem twt_mo_closing_6 {l : Launch} {D : va_G} {ad : Nat → Nat} {cI cZ : ClassId} {Z : tw_Z} {Post : tw_P} {K : Int → Prop} {X68 : Prop} {mo_base mo_measure mo_size mo_known mo_root mo_top mo_lostIsolates mo_lostEmbeddings mo_openIsolates mo_n mo_beginning mo_ending mo_embedding mo_lines : Int} {mo_kind mo_group mo_width mo_pair mo_level mo_type mo_resolved mo_partner mo_entry mo_override mo_isolate mo_seq mo_mark mo_list mo_starts mo_shownLevels mo_order : Nat → Int} (hX : tw_cx (tw_YM l D ad cI cZ) Z prog_11_method_10_code twR_mo tw_Wg (some .int) 1 4) (hX68 : X68 → tw_rn (tw_YM l D ad cI cZ) Z Post 68 [none, none, none, none] [] (tw_mM mo_base mo_measure mo_size mo_kind mo_group mo_width mo_pair mo_known mo_root mo_level mo_type mo_resolved mo_partner mo_top mo_entry mo_override mo_isolate mo_lostIsolates mo_lostEmbeddings mo_openIsolates mo_n mo_seq mo_mark mo_beginning mo_ending mo_embedding mo_list mo_lines mo_starts mo_shownLevels mo_order)) (hK : ∀ (z : Int), K z → Post (some z) (tw_mM mo_base mo_measure mo_size mo_kind mo_group mo_width mo_pair mo_known mo_root mo_level mo_type mo_resolved mo_partner mo_top mo_entry mo_override mo_isolate mo_lostIsolates mo_lostEmbeddings mo_openIsolates mo_n mo_seq mo_mark mo_beginning mo_ending mo_embedding mo_list mo_lines mo_starts mo_shownLevels mo_order)) : ∀ (f : Nat) (v2 : Int) (v3 : Int), twl_mo_closing_6 K X68 mo_size mo_kind f v2 v3 → tw_rn (tw_YM l D ad cI cZ) Z Post 6 [some (.inr 0), none, some (.inl v2), some (.inl v3)] [] (tw_mM mo_base mo_measure mo_size mo_kind mo_group mo_width mo_pair mo_known mo_root mo_level mo_type mo_resolved mo_partner mo_top mo_entry mo_override mo_isolate mo_lostIsolates mo_lostEmbeddings mo_openIsolates mo_n mo_seq mo_mark mo_beginning mo_ending mo_embedding mo_list mo_lines mo_starts mo_shownLevels mo_order) := by
  intro f
  induction f with
  | zero => intro v2 v3 h; rw [twl_mo_closing_6] at h; exact h.elim
  | succ f ih =>
    intro v2 v3 h
    rw [twl_mo_closing_6] at h
    refine tw_iload_n hX twd_mo_closing_6 rfl rfl ?_
    refine tw_aload_n hX twd_mo_closing_7 rfl rfl ?_
    refine tw_get (kf := 2) hX twd_mo_closing_8 twin_mo rfl (by decide) tww_689 rfl rfl rfl ?_
    refine tw_icmp_ge hX twd_mo_closing_11 rfl (fun q18 => ?_) (fun q18 => ?_)
    · have h := h.1 q18
      refine tw_wk (L' := [none, none, none, none]) (tw_le_n (tw_le_n (tw_le_n (tw_le_n tw_le_0)))) ?_
      exact hX68 h
    · have h := h.2 q18
      refine tw_aload_n hX twd_mo_closing_14 rfl rfl ?_
      refine tw_get (kf := 3) hX twd_mo_closing_15 twin_mo rfl (by decide) tww_690 rfl rfl rfl ?_
      refine tw_iload_n hX twd_mo_closing_18 rfl rfl ?_
      obtain ⟨c2, h⟩ := h
      refine tw_iaload hX twd_mo_closing_19 rfl c2 ?_
      refine tw_bipush hX twd_mo_closing_20 (by decide +kernel) ⟨by decide, by decide⟩ ?_
      have h := h (tw_rn (tw_YM l D ad cI cZ) Z Post 31 [some (.inr 0), none, some (.inl v2), some (.inl v3)] [] (tw_mM mo_base mo_measure mo_size mo_kind mo_group mo_width mo_pair mo_known mo_root mo_level mo_type mo_resolved mo_partner mo_top mo_entry mo_override mo_isolate mo_lostIsolates mo_lostEmbeddings mo_openIsolates mo_n mo_seq mo_mark mo_beginning mo_ending mo_embedding mo_list mo_lines mo_starts mo_shownLevels mo_order)) (by
        intro  h
        refine tw_iload_n hX twd_mo_closing_31 rfl rfl ?_
        refine tw_aload_n hX twd_mo_closing_32 rfl rfl ?_
        refine tw_get (kf := 3) hX twd_mo_closing_33 twin_mo rfl (by decide) tww_690 rfl rfl rfl ?_
        refine tw_iload_n hX twd_mo_closing_36 rfl rfl ?_
        obtain ⟨c4, h⟩ := h
        refine tw_iaload hX twd_mo_closing_37 rfl c4 ?_
        refine tw_bipush hX twd_mo_closing_38 (by decide +kernel) ⟨by decide, by decide⟩ ?_
        obtain ⟨o11, h⟩ := h
        have j12 : ∀ x8 : Int, x8 = (if (mo_kind (Int.toNat v3)) = 20 then (-1) else (if (twr_mo_opener v3 mo_kind) = 0 then 0 else 1)) → tw_rn (tw_YM l D ad cI cZ) Z Post 60 [some (.inr 0), none, none, some (.inl v3)] [.inl x8, .inl v2] (tw_mM mo_base mo_measure mo_size mo_kind mo_group mo_width mo_pair mo_known mo_root mo_level mo_type mo_resolved mo_partner mo_top mo_entry mo_override mo_isolate mo_lostIsolates mo_lostEmbeddings mo_openIsolates mo_n mo_seq mo_mark mo_beginning mo_ending mo_embedding mo_list mo_lines mo_starts mo_shownLevels mo_order) := by
          intro x8 e13
          have h := h x8 e13
          obtain ⟨c9, h⟩ := h
          refine tw_iadd hX twd_mo_closing_60 c9 ?_
          refine tw_istore_n (L' := [some (.inr 0), none, some (.inl (v2 + x8)), some (.inl v3)]) hX twd_mo_closing_61 rfl (by decide) rfl ?_
          obtain ⟨c10, h⟩ := h
          refine tw_iinc (L' := [some (.inr 0), none, some (.inl (v2 + x8)), some (.inl (v3 + 1))]) hX twd_mo_closing_62 rfl (by decide) c10 rfl ?_
          refine tw_goto hX twd_mo_closing_65 rfl ?_
          exact ih _ _ h
        refine tw_icmp_ne hX twd_mo_closing_40 rfl (fun q14 => ?_) (fun q14 => ?_)
        · have _tw := trivial
          have o11 := o11 q14
          refine tw_aload_n hX twd_mo_closing_47 rfl rfl ?_
          refine tw_iload_n hX twd_mo_closing_48 rfl rfl ?_
          have c5 := o11
          refine tw_callV (As := [.inl v3]) (n := 1) hX twd_mo_closing_49 tw_good tww_812 tww_809 tww_811 tww_40 tww_86 twk_mo_opener rfl rfl ⟨by decide, by decide⟩ rfl (Nat.le_of_ble_eq_true rfl) (twc_mo_opener c5 (fun z6 e7 => ?_))
          subst e7
          change tw_rn (tw_YM l D ad cI cZ) Z Post 52 [some (.inr 0), none, some (.inl v2), some (.inl v3)] [.inl (twr_mo_opener v3 mo_kind), .inl v2] (tw_mM mo_base mo_measure mo_size mo_kind mo_group mo_width mo_pair mo_known mo_root mo_level mo_type mo_resolved mo_partner mo_top mo_entry mo_override mo_isolate mo_lostIsolates mo_lostEmbeddings mo_openIsolates mo_n mo_seq mo_mark mo_beginning mo_ending mo_embedding mo_list mo_lines mo_starts mo_shownLevels mo_order)
          refine tw_if_eq hX twd_mo_closing_52 rfl (fun q15 => ?_) (fun q15 => ?_)
          · have _tw := trivial
            refine tw_iconst hX twd_mo_closing_59 ⟨by decide, by decide⟩ ?_
            refine tw_wk (L' := [some (.inr 0), none, none, some (.inl v3)]) (tw_le_s (tw_le_n (tw_le_n (tw_le_s tw_le_0)))) ?_
            exact j12 _ (Eq.symm (Eq.trans (if_neg q14) (if_pos q15)))
          · have _tw := trivial
            refine tw_iconst hX twd_mo_closing_55 ⟨by decide, by decide⟩ ?_
            refine tw_goto hX twd_mo_closing_56 rfl ?_
            refine tw_wk (L' := [some (.inr 0), none, none, some (.inl v3)]) (tw_le_s (tw_le_n (tw_le_n (tw_le_s tw_le_0)))) ?_
            exact j12 _ (Eq.symm (Eq.trans (if_neg q14) (if_neg q15)))
        · have _tw := trivial
          refine tw_iconst hX twd_mo_closing_43 ⟨by decide, by decide⟩ ?_
          refine tw_goto hX twd_mo_closing_44 rfl ?_
          refine tw_wk (L' := [some (.inr 0), none, none, some (.inl v3)]) (tw_le_s (tw_le_n (tw_le_n (tw_le_s tw_le_0)))) ?_
          exact j12 _ (Eq.symm (if_pos q14)))
      refine tw_icmp_ne hX twd_mo_closing_22 rfl (fun q17 => ?_) (fun q17 => ?_)
      · have h := h.2 q17
        exact h
      · have h := h.1 q17
        refine tw_iload_n hX twd_mo_closing_25 rfl rfl ?_
        refine tw_if_ne hX twd_mo_closing_26 rfl (fun q16 => ?_) (fun q16 => ?_)
        · have h := h.2 q16
          exact h
        · have h := h.1 q16
          refine tw_iload_n hX twd_mo_closing_29 rfl rfl ?_
          exact tw_ret hX twd_mo_closing_30 (hK _ h)
def tww_mo_closing (v1 : Int) (mo_size : Int) (mo_kind : Nat → Int) (K : Int → Prop) : Prop :=
  (tw_rg (v1 + 1)) ∧ (∃ f19 : Nat, twl_mo_closing_6 K (K (-1)) mo_size mo_kind f19 0 (v1 + 1))
set_option maxRecDepth 100000 in
set_option maxHeartbeats 4000000 in
theorem twc_mo_closing {l : Launch} {D : va_G} {ad : Nat → Nat} {cI cZ : ClassId} {Post : tw_P} {K : Int → Prop} {v1 : Int} {mo_base mo_measure mo_size mo_known mo_root mo_top mo_lostIsolates mo_lostEmbeddings mo_openIsolates mo_n mo_beginning mo_ending mo_embedding mo_lines : Int} {mo_kind mo_group mo_width mo_pair mo_level mo_type mo_resolved mo_partner mo_entry mo_override mo_isolate mo_seq mo_mark mo_list mo_starts mo_shownLevels mo_order : Nat → Int} (h : tww_mo_closing v1 mo_size mo_kind K) (hK : ∀ (z : Int), K z → Post (some z) (tw_mM mo_base mo_measure mo_size mo_kind mo_group mo_width mo_pair mo_known mo_root mo_level mo_type mo_resolved mo_partner mo_top mo_entry mo_override mo_isolate mo_lostIsolates mo_lostEmbeddings mo_openIsolates mo_n mo_seq mo_mark mo_beginning mo_ending mo_embedding mo_list mo_lines mo_starts mo_shownLevels mo_order)) : tw_ct (tw_YM l D ad cI cZ) twy_mo_closing (Cond.code twy_mo_closing prog_11_method_10_code 4 (some .int) :: tw_Wg) 1 [.inr 0, .inl v1] (tw_mM mo_base mo_measure mo_size mo_kind mo_group mo_width mo_pair mo_known mo_root mo_level mo_type mo_resolved mo_partner mo_top mo_entry mo_override mo_isolate mo_lostIsolates mo_lostEmbeddings mo_openIsolates mo_n mo_seq mo_mark mo_beginning mo_ending mo_embedding mo_list mo_lines mo_starts mo_shownLevels mo_order) Post := by
  refine tw_of (own := twR_mo) (L0 := [some (.inr 0), some (.inl v1), none, none]) (by decide) rfl rfl (Nat.le_of_ble_eq_true rfl) (fun Z hX => ?_)
  unfold tww_mo_closing at h
  refine tw_iconst hX twd_mo_closing_0 ⟨by decide, by decide⟩ ?_
  refine tw_istore_n (L' := [some (.inr 0), some (.inl v1), some (.inl 0), none]) hX twd_mo_closing_1 rfl (by decide) rfl ?_
  refine tw_iload_n hX twd_mo_closing_2 rfl rfl ?_
  refine tw_iconst hX twd_mo_closing_3 ⟨by decide, by decide⟩ ?_
  obtain ⟨c1, h⟩ := h
  refine tw_iadd hX twd_mo_closing_4 c1 ?_
  refine tw_istore_n (L' := [some (.inr 0), some (.inl v1), some (.inl 0), some (.inl (v1 + 1))]) hX twd_mo_closing_5 rfl (by decide) rfl ?_
  obtain ⟨f19, h⟩ := h
  refine tw_wk (L' := [some (.inr 0), none, some (.inl 0), some (.inl (v1 + 1))]) (tw_le_s (tw_le_n (tw_le_s (tw_le_s tw_le_0)))) ?_
  refine twt_mo_closing_6 hX (fun  h => ?_) hK f19 _ _ h
  refine tw_iconst hX twd_mo_closing_68 ⟨by decide, by decide⟩ ?_
  exact tw_ret hX twd_mo_closing_69 (hK _ h)
def twl_mo_match_30 (K : Int → Prop) (X71 : Prop) (v1 : Int) (mo_size : Int) (mo_kind : Nat → Int) : Nat → Int → Prop
  | 0, _ => False
  | f + 1, v2 =>
    ((v1 ≤ v2 →
    X71) ∧
    (¬ v1 ≤ v2 →
    (0 ≤ v1 ∧ v1 < 64) ∧ (((mo_kind (Int.toNat v1)) = 20 →
      (two_mo_opener v2 mo_kind) ∧ (∀ J8 : Prop, (((tw_rg (v2 + 1)) ∧ twl_mo_match_30 K X71 v1 mo_size mo_kind f (v2 + 1)) → J8) →
        (((twr_mo_opener v2 mo_kind) = 0 →
        J8) ∧
        (¬ (twr_mo_opener v2 mo_kind) = 0 →
        tww_mo_closing v2 mo_size mo_kind (fun z10 =>
          ((z10 = v1 →
          K v2) ∧
          (¬ z10 = v1 →
          J8))))))) ∧
      (¬ (mo_kind (Int.toNat v1)) = 20 →
      X71))))
set_option maxRecDepth 100000 in
set_option maxHeartbeats 4000000 in
theorem twt_mo_match_30 {l : Launch} {D : va_G} {ad : Nat → Nat} {cI cZ : ClassId} {Z : tw_Z} {Post : tw_P} {K : Int → Prop} {X71 : Prop} {v1 : Int} {mo_base mo_measure mo_size mo_known mo_root mo_top mo_lostIsolates mo_lostEmbeddings mo_openIsolates mo_n mo_beginning mo_ending mo_embedding mo_lines : Int} {mo_kind mo_group mo_width mo_pair mo_level mo_type mo_resolved mo_partner mo_entry mo_override mo_isolate mo_seq mo_mark mo_list mo_starts mo_shownLevels mo_order : Nat → Int} (hX : tw_cx (tw_YM l D ad cI cZ) Z prog_11_method_11_code twR_mo tw_Wg (some .int) 2 3) (hX71 : X71 → tw_rn (tw_YM l D ad cI cZ) Z Post 71 [none, none, none] [] (tw_mM mo_base mo_measure mo_size mo_kind mo_group mo_width mo_pair mo_known mo_root mo_level mo_type mo_resolved mo_partner mo_top mo_entry mo_override mo_isolate mo_lostIsolates mo_lostEmbeddings mo_openIsolates mo_n mo_seq mo_mark mo_beginning mo_ending mo_embedding mo_list mo_lines mo_starts mo_shownLevels mo_order)) (hK : ∀ (z : Int), K z → Post (some z) (tw_mM mo_base mo_measure mo_size mo_kind mo_group mo_width mo_pair mo_known mo_root mo_level mo_type mo_resolved mo_partner mo_top mo_entry mo_override mo_isolate mo_lostIsolates mo_lostEmbeddings mo_openIsolates mo_n mo_seq mo_mark mo_beginning mo_ending mo_embedding mo_list mo_lines mo_starts mo_shownLevels mo_order)) : ∀ (f : Nat) (v2 : Int), twl_mo_match_30 K X71 v1 mo_size mo_kind f v2 → tw_rn (tw_YM l D ad cI cZ) Z Post 30 [some (.inr 0), some (.inl v1), some (.inl v2)] [] (tw_mM mo_base mo_measure mo_size mo_kind mo_group mo_width mo_pair mo_known mo_root mo_level mo_type mo_resolved mo_partner mo_top mo_entry mo_override mo_isolate mo_lostIsolates mo_lostEmbeddings mo_openIsolates mo_n mo_seq mo_mark mo_beginning mo_ending mo_embedding mo_list mo_lines mo_starts mo_shownLevels mo_order) := by
  intro f
  induction f with
  | zero => intro v2 h; rw [twl_mo_match_30] at h; exact h.elim
  | succ f ih =>
    intro v2 h
    rw [twl_mo_match_30] at h
    refine tw_iload_n hX twd_mo_match_30 rfl rfl ?_
    refine tw_iload_n hX twd_mo_match_31 rfl rfl ?_
    refine tw_icmp_ge hX twd_mo_match_32 rfl (fun q14 => ?_) (fun q14 => ?_)
    · have h := h.1 q14
      refine tw_wk (L' := [none, none, none]) (tw_le_n (tw_le_n (tw_le_n tw_le_0))) ?_
      exact hX71 h
    · have h := h.2 q14
      refine tw_aload_n hX twd_mo_match_35 rfl rfl ?_
      refine tw_get (kf := 3) hX twd_mo_match_36 twin_mo rfl (by decide) tww_690 rfl rfl rfl ?_
      refine tw_iload_n hX twd_mo_match_39 rfl rfl ?_
      obtain ⟨c4, h⟩ := h
      refine tw_iaload hX twd_mo_match_40 rfl c4 ?_
      refine tw_bipush hX twd_mo_match_41 (by decide +kernel) ⟨by decide, by decide⟩ ?_
      refine tw_icmp_ne hX twd_mo_match_43 rfl (fun q13 => ?_) (fun q13 => ?_)
      · have h := h.2 q13
        refine tw_wk (L' := [none, none, none]) (tw_le_n (tw_le_n (tw_le_n tw_le_0))) ?_
        exact hX71 h
      · have h := h.1 q13
        refine tw_aload_n hX twd_mo_match_46 rfl rfl ?_
        refine tw_iload_n hX twd_mo_match_47 rfl rfl ?_
        obtain ⟨c5, h⟩ := h
        refine tw_callV (As := [.inl v2]) (n := 1) hX twd_mo_match_48 tw_good tww_812 tww_809 tww_811 tww_40 tww_86 twk_mo_opener rfl rfl ⟨by decide, by decide⟩ rfl (Nat.le_of_ble_eq_true rfl) (twc_mo_opener c5 (fun z6 e7 => ?_))
        subst e7
        change tw_rn (tw_YM l D ad cI cZ) Z Post 51 [some (.inr 0), some (.inl v1), some (.inl v2)] [.inl (twr_mo_opener v2 mo_kind)] (tw_mM mo_base mo_measure mo_size mo_kind mo_group mo_width mo_pair mo_known mo_root mo_level mo_type mo_resolved mo_partner mo_top mo_entry mo_override mo_isolate mo_lostIsolates mo_lostEmbeddings mo_openIsolates mo_n mo_seq mo_mark mo_beginning mo_ending mo_embedding mo_list mo_lines mo_starts mo_shownLevels mo_order)
        have h := h (tw_rn (tw_YM l D ad cI cZ) Z Post 65 [some (.inr 0), some (.inl v1), some (.inl v2)] [] (tw_mM mo_base mo_measure mo_size mo_kind mo_group mo_width mo_pair mo_known mo_root mo_level mo_type mo_resolved mo_partner mo_top mo_entry mo_override mo_isolate mo_lostIsolates mo_lostEmbeddings mo_openIsolates mo_n mo_seq mo_mark mo_beginning mo_ending mo_embedding mo_list mo_lines mo_starts mo_shownLevels mo_order)) (by
          intro  h
          obtain ⟨c9, h⟩ := h
          refine tw_iinc (L' := [some (.inr 0), some (.inl v1), some (.inl (v2 + 1))]) hX twd_mo_match_65 rfl (by decide) c9 rfl ?_
          refine tw_goto hX twd_mo_match_68 rfl ?_
          exact ih _ h)
        refine tw_if_eq hX twd_mo_match_51 rfl (fun q12 => ?_) (fun q12 => ?_)
        · have h := h.1 q12
          exact h
        · have h := h.2 q12
          refine tw_aload_n hX twd_mo_match_54 rfl rfl ?_
          refine tw_iload_n hX twd_mo_match_55 rfl rfl ?_
          refine tw_callV (As := [.inl v2]) (n := 1) hX twd_mo_match_56 tw_good tww_816 tww_813 tww_815 tww_41 tww_86 twk_mo_closing rfl rfl ⟨by decide, by decide⟩ rfl (Nat.le_of_ble_eq_true rfl) (twc_mo_closing h (fun z10 h => ?_))
          change tw_rn (tw_YM l D ad cI cZ) Z Post 59 [some (.inr 0), some (.inl v1), some (.inl v2)] [.inl z10] (tw_mM mo_base mo_measure mo_size mo_kind mo_group mo_width mo_pair mo_known mo_root mo_level mo_type mo_resolved mo_partner mo_top mo_entry mo_override mo_isolate mo_lostIsolates mo_lostEmbeddings mo_openIsolates mo_n mo_seq mo_mark mo_beginning mo_ending mo_embedding mo_list mo_lines mo_starts mo_shownLevels mo_order)
          refine tw_iload_n hX twd_mo_match_59 rfl rfl ?_
          refine tw_icmp_ne hX twd_mo_match_60 rfl (fun q11 => ?_) (fun q11 => ?_)
          · have h := h.2 q11
            exact h
          · have h := h.1 q11
            refine tw_iload_n hX twd_mo_match_63 rfl rfl ?_
            exact tw_ret hX twd_mo_match_64 (hK _ h)
def tww_mo_match (v1 : Int) (mo_size : Int) (mo_kind : Nat → Int) (K : Int → Prop) : Prop :=
  ((v1 < 0 →
  K (-1)) ∧
  (¬ v1 < 0 →
  ((v1 < mo_size →
    (two_mo_opener v1 mo_kind) ∧ (((twr_mo_opener v1 mo_kind) = 0 →
      (∃ f15 : Nat, twl_mo_match_30 K (K (-1)) v1 mo_size mo_kind f15 0)) ∧
      (¬ (twr_mo_opener v1 mo_kind) = 0 →
      tww_mo_closing v1 mo_size mo_kind (fun z16 =>
        K z16)))) ∧
    (¬ v1 < mo_size →
    K (-1)))))
set_option maxRecDepth 100000 in
set_option maxHeartbeats 4000000 in
theorem twc_mo_match {l : Launch} {D : va_G} {ad : Nat → Nat} {cI cZ : ClassId} {Post : tw_P} {K : Int → Prop} {v1 : Int} {mo_base mo_measure mo_size mo_known mo_root mo_top mo_lostIsolates mo_lostEmbeddings mo_openIsolates mo_n mo_beginning mo_ending mo_embedding mo_lines : Int} {mo_kind mo_group mo_width mo_pair mo_level mo_type mo_resolved mo_partner mo_entry mo_override mo_isolate mo_seq mo_mark mo_list mo_starts mo_shownLevels mo_order : Nat → Int} (h : tww_mo_match v1 mo_size mo_kind K) (hK : ∀ (z : Int), K z → Post (some z) (tw_mM mo_base mo_measure mo_size mo_kind mo_group mo_width mo_pair mo_known mo_root mo_level mo_type mo_resolved mo_partner mo_top mo_entry mo_override mo_isolate mo_lostIsolates mo_lostEmbeddings mo_openIsolates mo_n mo_seq mo_mark mo_beginning mo_ending mo_embedding mo_list mo_lines mo_starts mo_shownLevels mo_order)) : tw_ct (tw_YM l D ad cI cZ) twy_mo_match (Cond.code twy_mo_match prog_11_method_11_code 3 (some .int) :: tw_Wg) 2 [.inr 0, .inl v1] (tw_mM mo_base mo_measure mo_size mo_kind mo_group mo_width mo_pair mo_known mo_root mo_level mo_type mo_resolved mo_partner mo_top mo_entry mo_override mo_isolate mo_lostIsolates mo_lostEmbeddings mo_openIsolates mo_n mo_seq mo_mark mo_beginning mo_ending mo_embedding mo_list mo_lines mo_starts mo_shownLevels mo_order) Post := by
  refine tw_of (own := twR_mo) (L0 := [some (.inr 0), some (.inl v1), none]) (by decide) rfl rfl (Nat.le_of_ble_eq_true rfl) (fun Z hX => ?_)
  unfold tww_mo_match at h
  refine tw_iload_n hX twd_mo_match_0 rfl rfl ?_
  refine tw_if_lt hX twd_mo_match_1 rfl (fun q19 => ?_) (fun q19 => ?_)
  · have h := h.1 q19
    refine tw_iconst hX twd_mo_match_12 ⟨by decide, by decide⟩ ?_
    exact tw_ret hX twd_mo_match_13 (hK _ h)
  · have h := h.2 q19
    refine tw_iload_n hX twd_mo_match_4 rfl rfl ?_
    refine tw_aload_n hX twd_mo_match_5 rfl rfl ?_
    refine tw_get (kf := 2) hX twd_mo_match_6 twin_mo rfl (by decide) tww_689 rfl rfl rfl ?_
    refine tw_icmp_lt hX twd_mo_match_9 rfl (fun q18 => ?_) (fun q18 => ?_)
    · have h := h.1 q18
      refine tw_aload_n hX twd_mo_match_14 rfl rfl ?_
      refine tw_iload_n hX twd_mo_match_15 rfl rfl ?_
      obtain ⟨c1, h⟩ := h
      refine tw_callV (As := [.inl v1]) (n := 1) hX twd_mo_match_16 tw_good tww_812 tww_809 tww_811 tww_40 tww_86 twk_mo_opener rfl rfl ⟨by decide, by decide⟩ rfl (Nat.le_of_ble_eq_true rfl) (twc_mo_opener c1 (fun z2 e3 => ?_))
      subst e3
      change tw_rn (tw_YM l D ad cI cZ) Z Post 19 [some (.inr 0), some (.inl v1), none] [.inl (twr_mo_opener v1 mo_kind)] (tw_mM mo_base mo_measure mo_size mo_kind mo_group mo_width mo_pair mo_known mo_root mo_level mo_type mo_resolved mo_partner mo_top mo_entry mo_override mo_isolate mo_lostIsolates mo_lostEmbeddings mo_openIsolates mo_n mo_seq mo_mark mo_beginning mo_ending mo_embedding mo_list mo_lines mo_starts mo_shownLevels mo_order)
      refine tw_if_eq hX twd_mo_match_19 rfl (fun q17 => ?_) (fun q17 => ?_)
      · have h := h.1 q17
        refine tw_iconst hX twd_mo_match_28 ⟨by decide, by decide⟩ ?_
        refine tw_istore_n (L' := [some (.inr 0), some (.inl v1), some (.inl 0)]) hX twd_mo_match_29 rfl (by decide) rfl ?_
        obtain ⟨f15, h⟩ := h
        refine twt_mo_match_30 hX (fun  h => ?_) hK f15 _ h
        refine tw_iconst hX twd_mo_match_71 ⟨by decide, by decide⟩ ?_
        exact tw_ret hX twd_mo_match_72 (hK _ h)
      · have h := h.2 q17
        refine tw_aload_n hX twd_mo_match_22 rfl rfl ?_
        refine tw_iload_n hX twd_mo_match_23 rfl rfl ?_
        refine tw_callV (As := [.inl v1]) (n := 1) hX twd_mo_match_24 tw_good tww_816 tww_813 tww_815 tww_41 tww_86 twk_mo_closing rfl rfl ⟨by decide, by decide⟩ rfl (Nat.le_of_ble_eq_true rfl) (twc_mo_closing h (fun z16 h => ?_))
        change tw_rn (tw_YM l D ad cI cZ) Z Post 27 [some (.inr 0), some (.inl v1), none] [.inl z16] (tw_mM mo_base mo_measure mo_size mo_kind mo_group mo_width mo_pair mo_known mo_root mo_level mo_type mo_resolved mo_partner mo_top mo_entry mo_override mo_isolate mo_lostIsolates mo_lostEmbeddings mo_openIsolates mo_n mo_seq mo_mark mo_beginning mo_ending mo_embedding mo_list mo_lines mo_starts mo_shownLevels mo_order)
        exact tw_ret hX twd_mo_match_27 (hK _ h)
    · have h := h.2 q18
      refine tw_iconst hX twd_mo_match_12 ⟨by decide, by decide⟩ ?_
      exact tw_ret hX twd_mo_match_13 (hK _ h)
def twl_mo_direction_2 (K : Int → Prop) (X17 : Int → Prop) (X63 : Prop) (v2 : Int) (mo_size : Int) (mo_kind : Nat → Int) : Nat → Int → Prop
  | 0, _ => False
  | f + 1, v3 =>
    ((v2 ≤ v3 →
    X63) ∧
    (¬ v2 ≤ v3 →
    (0 ≤ v3 ∧ v3 < 64) ∧ ((2 < (mo_kind (Int.toNat v3)) →
      (two_mo_opener v3 mo_kind) ∧ (∀ J6 : Int → Prop, (∀ (x5 : Int), ((tw_rg (x5 + 1)) ∧ twl_mo_direction_2 K X17 X63 v2 mo_size mo_kind f (x5 + 1)) → J6 x5) →
        (((twr_mo_opener v3 mo_kind) = 0 →
        J6 v3) ∧
        (¬ (twr_mo_opener v3 mo_kind) = 0 →
        tww_mo_closing v3 mo_size mo_kind (fun z8 =>
          ((0 ≤ z8 →
          J6 z8) ∧
          (¬ 0 ≤ z8 →
          K 0))))))) ∧
      (¬ 2 < (mo_kind (Int.toNat v3)) →
      X17 v3))))
set_option maxRecDepth 100000 in
set_option maxHeartbeats 4000000 in
theorem twt_mo_direction_2 {l : Launch} {D : va_G} {ad : Nat → Nat} {cI cZ : ClassId} {Z : tw_Z} {Post : tw_P} {K : Int → Prop} {X17 : Int → Prop} {X63 : Prop} {v2 : Int} {mo_base mo_measure mo_size mo_known mo_root mo_top mo_lostIsolates mo_lostEmbeddings mo_openIsolates mo_n mo_beginning mo_ending mo_embedding mo_lines : Int} {mo_kind mo_group mo_width mo_pair mo_level mo_type mo_resolved mo_partner mo_entry mo_override mo_isolate mo_seq mo_mark mo_list mo_starts mo_shownLevels mo_order : Nat → Int} (hX : tw_cx (tw_YM l D ad cI cZ) Z prog_11_method_12_code twR_mo tw_Wg (some .int) 2 5) (hX17 : ∀ (v3 : Int), X17 v3 → tw_rn (tw_YM l D ad cI cZ) Z Post 17 [some (.inr 0), none, none, some (.inl v3), none] [] (tw_mM mo_base mo_measure mo_size mo_kind mo_group mo_width mo_pair mo_known mo_root mo_level mo_type mo_resolved mo_partner mo_top mo_entry mo_override mo_isolate mo_lostIsolates mo_lostEmbeddings mo_openIsolates mo_n mo_seq mo_mark mo_beginning mo_ending mo_embedding mo_list mo_lines mo_starts mo_shownLevels mo_order)) (hX63 : X63 → tw_rn (tw_YM l D ad cI cZ) Z Post 63 [none, none, none, none, none] [] (tw_mM mo_base mo_measure mo_size mo_kind mo_group mo_width mo_pair mo_known mo_root mo_level mo_type mo_resolved mo_partner mo_top mo_entry mo_override mo_isolate mo_lostIsolates mo_lostEmbeddings mo_openIsolates mo_n mo_seq mo_mark mo_beginning mo_ending mo_embedding mo_list mo_lines mo_starts mo_shownLevels mo_order)) (hK : ∀ (z : Int), K z → Post (some z) (tw_mM mo_base mo_measure mo_size mo_kind mo_group mo_width mo_pair mo_known mo_root mo_level mo_type mo_resolved mo_partner mo_top mo_entry mo_override mo_isolate mo_lostIsolates mo_lostEmbeddings mo_openIsolates mo_n mo_seq mo_mark mo_beginning mo_ending mo_embedding mo_list mo_lines mo_starts mo_shownLevels mo_order)) : ∀ (f : Nat) (v3 : Int), twl_mo_direction_2 K X17 X63 v2 mo_size mo_kind f v3 → tw_rn (tw_YM l D ad cI cZ) Z Post 2 [some (.inr 0), none, some (.inl v2), some (.inl v3), none] [] (tw_mM mo_base mo_measure mo_size mo_kind mo_group mo_width mo_pair mo_known mo_root mo_level mo_type mo_resolved mo_partner mo_top mo_entry mo_override mo_isolate mo_lostIsolates mo_lostEmbeddings mo_openIsolates mo_n mo_seq mo_mark mo_beginning mo_ending mo_embedding mo_list mo_lines mo_starts mo_shownLevels mo_order) := by
  intro f
  induction f with
  | zero => intro v3 h; rw [twl_mo_direction_2] at h; exact h.elim
  | succ f ih =>
    intro v3 h
    rw [twl_mo_direction_2] at h
    refine tw_iload_n hX twd_mo_direction_2 rfl rfl ?_
    refine tw_iload_n hX twd_mo_direction_3 rfl rfl ?_
    refine tw_icmp_ge hX twd_mo_direction_4 rfl (fun q12 => ?_) (fun q12 => ?_)
    · have h := h.1 q12
      refine tw_wk (L' := [none, none, none, none, none]) (tw_le_n (tw_le_n (tw_le_n (tw_le_n (tw_le_n tw_le_0))))) ?_
      exact hX63 h
    · have h := h.2 q12
      refine tw_aload_n hX twd_mo_direction_7 rfl rfl ?_
      refine tw_get (kf := 3) hX twd_mo_direction_8 twin_mo rfl (by decide) tww_690 rfl rfl rfl ?_
      refine tw_iload_n hX twd_mo_direction_11 rfl rfl ?_
      obtain ⟨c1, h⟩ := h
      refine tw_iaload hX twd_mo_direction_12 rfl c1 ?_
      refine tw_iconst hX twd_mo_direction_13 ⟨by decide, by decide⟩ ?_
      refine tw_icmp_gt hX twd_mo_direction_14 rfl (fun q11 => ?_) (fun q11 => ?_)
      · have h := h.1 q11
        refine tw_aload_n hX twd_mo_direction_32 rfl rfl ?_
        refine tw_iload_n hX twd_mo_direction_33 rfl rfl ?_
        obtain ⟨c2, h⟩ := h
        refine tw_callV (As := [.inl v3]) (n := 1) hX twd_mo_direction_34 tw_good tww_812 tww_809 tww_811 tww_40 tww_86 twk_mo_opener rfl rfl ⟨by decide, by decide⟩ rfl (Nat.le_of_ble_eq_true rfl) (twc_mo_opener c2 (fun z3 e4 => ?_))
        subst e4
        change tw_rn (tw_YM l D ad cI cZ) Z Post 37 [some (.inr 0), none, some (.inl v2), some (.inl v3), none] [.inl (twr_mo_opener v3 mo_kind)] (tw_mM mo_base mo_measure mo_size mo_kind mo_group mo_width mo_pair mo_known mo_root mo_level mo_type mo_resolved mo_partner mo_top mo_entry mo_override mo_isolate mo_lostIsolates mo_lostEmbeddings mo_openIsolates mo_n mo_seq mo_mark mo_beginning mo_ending mo_embedding mo_list mo_lines mo_starts mo_shownLevels mo_order)
        have h := h (fun (x5 : Int) => tw_rn (tw_YM l D ad cI cZ) Z Post 57 [some (.inr 0), none, some (.inl v2), some (.inl x5), none] [] (tw_mM mo_base mo_measure mo_size mo_kind mo_group mo_width mo_pair mo_known mo_root mo_level mo_type mo_resolved mo_partner mo_top mo_entry mo_override mo_isolate mo_lostIsolates mo_lostEmbeddings mo_openIsolates mo_n mo_seq mo_mark mo_beginning mo_ending mo_embedding mo_list mo_lines mo_starts mo_shownLevels mo_order)) (by
          intro x5 h
          obtain ⟨c7, h⟩ := h
          refine tw_iinc (L' := [some (.inr 0), none, some (.inl v2), some (.inl (x5 + 1)), none]) hX twd_mo_direction_57 rfl (by decide) c7 rfl ?_
          refine tw_goto hX twd_mo_direction_60 rfl ?_
          exact ih _ h)
        refine tw_if_eq hX twd_mo_direction_37 rfl (fun q10 => ?_) (fun q10 => ?_)
        · have h := h.1 q10
          exact h
        · have h := h.2 q10
          refine tw_aload_n hX twd_mo_direction_40 rfl rfl ?_
          refine tw_iload_n hX twd_mo_direction_41 rfl rfl ?_
          refine tw_callV (As := [.inl v3]) (n := 1) hX twd_mo_direction_42 tw_good tww_816 tww_813 tww_815 tww_41 tww_86 twk_mo_closing rfl rfl ⟨by decide, by decide⟩ rfl (Nat.le_of_ble_eq_true rfl) (twc_mo_closing h (fun z8 h => ?_))
          change tw_rn (tw_YM l D ad cI cZ) Z Post 45 [some (.inr 0), none, some (.inl v2), some (.inl v3), none] [.inl z8] (tw_mM mo_base mo_measure mo_size mo_kind mo_group mo_width mo_pair mo_known mo_root mo_level mo_type mo_resolved mo_partner mo_top mo_entry mo_override mo_isolate mo_lostIsolates mo_lostEmbeddings mo_openIsolates mo_n mo_seq mo_mark mo_beginning mo_ending mo_embedding mo_list mo_lines mo_starts mo_shownLevels mo_order)
          refine tw_istore (L' := [some (.inr 0), none, some (.inl v2), some (.inl v3), some (.inl z8)]) hX twd_mo_direction_45 (by decide) rfl ?_
          refine tw_iload hX twd_mo_direction_47 rfl ?_
          refine tw_if_ge hX twd_mo_direction_49 rfl (fun q9 => ?_) (fun q9 => ?_)
          · have h := h.1 q9
            refine tw_iload hX twd_mo_direction_54 rfl ?_
            refine tw_istore_n (L' := [some (.inr 0), none, some (.inl v2), some (.inl z8), some (.inl z8)]) hX twd_mo_direction_56 rfl (by decide) rfl ?_
            refine tw_wk (L' := [some (.inr 0), none, some (.inl v2), some (.inl z8), none]) (tw_le_s (tw_le_n (tw_le_s (tw_le_s (tw_le_n tw_le_0))))) ?_
            exact h
          · have h := h.2 q9
            refine tw_iconst hX twd_mo_direction_52 ⟨by decide, by decide⟩ ?_
            exact tw_ret hX twd_mo_direction_53 (hK _ h)
      · have h := h.2 q11
        refine tw_wk (L' := [some (.inr 0), none, none, some (.inl v3), none]) (tw_le_s (tw_le_n (tw_le_n (tw_le_s (tw_le_n tw_le_0))))) ?_
        exact hX17 _ h
def tww_mo_direction (v1 v2 : Int) (mo_size : Int) (mo_kind : Nat → Int) (K : Int → Prop) : Prop :=
  (∃ f16 : Nat, twl_mo_direction_2 K (fun (y13 : Int) =>
  (0 ≤ y13 ∧ y13 < 64) ∧ (((mo_kind (Int.toNat y13)) = 0 →
    K 0) ∧
    (¬ (mo_kind (Int.toNat y13)) = 0 →
    K 1))) (K 0) v2 mo_size mo_kind f16 v1)
set_option maxRecDepth 100000 in
set_option maxHeartbeats 4000000 in
theorem twc_mo_direction {l : Launch} {D : va_G} {ad : Nat → Nat} {cI cZ : ClassId} {Post : tw_P} {K : Int → Prop} {v1 v2 : Int} {mo_base mo_measure mo_size mo_known mo_root mo_top mo_lostIsolates mo_lostEmbeddings mo_openIsolates mo_n mo_beginning mo_ending mo_embedding mo_lines : Int} {mo_kind mo_group mo_width mo_pair mo_level mo_type mo_resolved mo_partner mo_entry mo_override mo_isolate mo_seq mo_mark mo_list mo_starts mo_shownLevels mo_order : Nat → Int} (h : tww_mo_direction v1 v2 mo_size mo_kind K) (hK : ∀ (z : Int), K z → Post (some z) (tw_mM mo_base mo_measure mo_size mo_kind mo_group mo_width mo_pair mo_known mo_root mo_level mo_type mo_resolved mo_partner mo_top mo_entry mo_override mo_isolate mo_lostIsolates mo_lostEmbeddings mo_openIsolates mo_n mo_seq mo_mark mo_beginning mo_ending mo_embedding mo_list mo_lines mo_starts mo_shownLevels mo_order)) : tw_ct (tw_YM l D ad cI cZ) twy_mo_direction (Cond.code twy_mo_direction prog_11_method_12_code 5 (some .int) :: tw_Wg) 2 [.inr 0, .inl v1, .inl v2] (tw_mM mo_base mo_measure mo_size mo_kind mo_group mo_width mo_pair mo_known mo_root mo_level mo_type mo_resolved mo_partner mo_top mo_entry mo_override mo_isolate mo_lostIsolates mo_lostEmbeddings mo_openIsolates mo_n mo_seq mo_mark mo_beginning mo_ending mo_embedding mo_list mo_lines mo_starts mo_shownLevels mo_order) Post := by
  refine tw_of (own := twR_mo) (L0 := [some (.inr 0), some (.inl v1), some (.inl v2), none, none]) (by decide) rfl rfl (Nat.le_of_ble_eq_true rfl) (fun Z hX => ?_)
  unfold tww_mo_direction at h
  refine tw_iload_n hX twd_mo_direction_0 rfl rfl ?_
  refine tw_istore_n (L' := [some (.inr 0), some (.inl v1), some (.inl v2), some (.inl v1), none]) hX twd_mo_direction_1 rfl (by decide) rfl ?_
  obtain ⟨f16, h⟩ := h
  refine tw_wk (L' := [some (.inr 0), none, some (.inl v2), some (.inl v1), none]) (tw_le_s (tw_le_n (tw_le_s (tw_le_s (tw_le_n tw_le_0))))) ?_
  refine twt_mo_direction_2 hX (fun y13 h => ?_) (fun  h => ?_) hK f16 _ h
  · have _tw := trivial
    refine tw_aload_n hX twd_mo_direction_17 rfl rfl ?_
    refine tw_get (kf := 3) hX twd_mo_direction_18 twin_mo rfl (by decide) tww_690 rfl rfl rfl ?_
    refine tw_iload_n hX twd_mo_direction_21 rfl rfl ?_
    obtain ⟨c14, h⟩ := h
    refine tw_iaload hX twd_mo_direction_22 rfl c14 ?_
    refine tw_if_ne hX twd_mo_direction_23 rfl (fun q15 => ?_) (fun q15 => ?_)
    · have h := h.2 q15
      refine tw_iconst hX twd_mo_direction_30 ⟨by decide, by decide⟩ ?_
      exact tw_ret hX twd_mo_direction_31 (hK _ h)
    · have h := h.1 q15
      refine tw_iconst hX twd_mo_direction_26 ⟨by decide, by decide⟩ ?_
      refine tw_goto hX twd_mo_direction_27 rfl ?_
      exact tw_ret hX twd_mo_direction_31 (hK _ h)
  · have _tw := trivial
    refine tw_iconst hX twd_mo_direction_63 ⟨by decide, by decide⟩ ?_
    exact tw_ret hX twd_mo_direction_64 (hK _ h)
def two_mo_put (v1 v2 v3 : Int) (mo_top : Int) (mo_entry : Nat → Int) (mo_override : Nat → Int) (mo_isolate : Nat → Int) : Prop := ((tw_rg (mo_top + 1)) ∧ (0 ≤ (mo_top + 1) ∧ (mo_top + 1) < 8) ∧ (0 ≤ (mo_top + 1) ∧ (mo_top + 1) < 8) ∧ (0 ≤ (mo_top + 1) ∧ (mo_top + 1) < 8) ∧ (0 ≤ v3 ∧ v3 ≤ 1))
def twu_mo_put__mo_top (v1 v2 v3 : Int) (mo_top : Int) (mo_entry : Nat → Int) (mo_override : Nat → Int) (mo_isolate : Nat → Int) : Int := mo_top + 1
def twu_mo_put__mo_entry (v1 v2 v3 : Int) (mo_top : Int) (mo_entry : Nat → Int) (mo_override : Nat → Int) (mo_isolate : Nat → Int) : Nat → Int := tw_up mo_entry (Int.toNat (mo_top + 1)) v1
def twu_mo_put__mo_override (v1 v2 v3 : Int) (mo_top : Int) (mo_entry : Nat → Int) (mo_override : Nat → Int) (mo_isolate : Nat → Int) : Nat → Int := tw_up mo_override (Int.toNat (mo_top + 1)) v2
def twu_mo_put__mo_isolate (v1 v2 v3 : Int) (mo_top : Int) (mo_entry : Nat → Int) (mo_override : Nat → Int) (mo_isolate : Nat → Int) : Nat → Int := tw_up mo_isolate (Int.toNat (mo_top + 1)) v3
set_option maxRecDepth 100000 in
set_option maxHeartbeats 4000000 in
theorem twc_mo_put {l : Launch} {D : va_G} {ad : Nat → Nat} {cI cZ : ClassId} {Post : tw_P} {v1 v2 v3 : Int} {mo_base mo_measure mo_size mo_known mo_root mo_top mo_lostIsolates mo_lostEmbeddings mo_openIsolates mo_n mo_beginning mo_ending mo_embedding mo_lines : Int} {mo_kind mo_group mo_width mo_pair mo_level mo_type mo_resolved mo_partner mo_entry mo_override mo_isolate mo_seq mo_mark mo_list mo_starts mo_shownLevels mo_order : Nat → Int} (h : two_mo_put v1 v2 v3 mo_top mo_entry mo_override mo_isolate) (hK : ∀ (n_mo_top : Int) (n_mo_entry : Nat → Int) (n_mo_override : Nat → Int) (n_mo_isolate : Nat → Int), n_mo_top = twu_mo_put__mo_top v1 v2 v3 mo_top mo_entry mo_override mo_isolate → n_mo_entry = twu_mo_put__mo_entry v1 v2 v3 mo_top mo_entry mo_override mo_isolate → n_mo_override = twu_mo_put__mo_override v1 v2 v3 mo_top mo_entry mo_override mo_isolate → n_mo_isolate = twu_mo_put__mo_isolate v1 v2 v3 mo_top mo_entry mo_override mo_isolate → Post none (tw_mM mo_base mo_measure mo_size mo_kind mo_group mo_width mo_pair mo_known mo_root mo_level mo_type mo_resolved mo_partner n_mo_top n_mo_entry n_mo_override n_mo_isolate mo_lostIsolates mo_lostEmbeddings mo_openIsolates mo_n mo_seq mo_mark mo_beginning mo_ending mo_embedding mo_list mo_lines mo_starts mo_shownLevels mo_order)) : tw_ct (tw_YM l D ad cI cZ) twy_mo_put (Cond.code twy_mo_put prog_11_method_13_code 4 none :: tw_Wg) 0 [.inr 0, .inl v1, .inl v2, .inl v3] (tw_mM mo_base mo_measure mo_size mo_kind mo_group mo_width mo_pair mo_known mo_root mo_level mo_type mo_resolved mo_partner mo_top mo_entry mo_override mo_isolate mo_lostIsolates mo_lostEmbeddings mo_openIsolates mo_n mo_seq mo_mark mo_beginning mo_ending mo_embedding mo_list mo_lines mo_starts mo_shownLevels mo_order) Post := by
  refine tw_of (own := twR_mo) (L0 := [some (.inr 0), some (.inl v1), some (.inl v2), some (.inl v3)]) (by decide) rfl rfl (Nat.le_of_ble_eq_true rfl) (fun Z hX => ?_)
  unfold two_mo_put at h
  refine tw_aload_n hX twd_mo_put_0 rfl rfl ?_
  refine tw_dup hX twd_mo_put_1 ?_
  refine tw_get (kf := 13) hX twd_mo_put_2 twin_mo rfl (by decide) tww_700 rfl rfl rfl ?_
  refine tw_iconst hX twd_mo_put_5 ⟨by decide, by decide⟩ ?_
  obtain ⟨c1, h⟩ := h
  refine tw_iadd hX twd_mo_put_6 c1 ?_
  refine tw_put (kf := 13) (mem' := (tw_mM mo_base mo_measure mo_size mo_kind mo_group mo_width mo_pair mo_known mo_root mo_level mo_type mo_resolved mo_partner (mo_top + 1) mo_entry mo_override mo_isolate mo_lostIsolates mo_lostEmbeddings mo_openIsolates mo_n mo_seq mo_mark mo_beginning mo_ending mo_embedding mo_list mo_lines mo_starts mo_shownLevels mo_order)) twt_mo hX twd_mo_put_7 twin_mo twtok_mo twnm_mo rfl (by decide) tww_700 rfl rfl rfl (Or.inl rfl) rfl (Nat.le_of_ble_eq_true rfl) rfl ?_
  refine tw_aload_n hX twd_mo_put_10 rfl rfl ?_
  refine tw_get (kf := 14) hX twd_mo_put_11 twin_mo rfl (by decide) tww_701 rfl rfl rfl ?_
  refine tw_aload_n hX twd_mo_put_14 rfl rfl ?_
  refine tw_get (kf := 13) hX twd_mo_put_15 twin_mo rfl (by decide) tww_700 rfl rfl rfl ?_
  refine tw_iload_n hX twd_mo_put_18 rfl rfl ?_
  obtain ⟨c2, h⟩ := h
  refine tw_iastore (mem' := (tw_mM mo_base mo_measure mo_size mo_kind mo_group mo_width mo_pair mo_known mo_root mo_level mo_type mo_resolved mo_partner (mo_top + 1) (tw_up mo_entry (Int.toNat (mo_top + 1)) v1) mo_override mo_isolate mo_lostIsolates mo_lostEmbeddings mo_openIsolates mo_n mo_seq mo_mark mo_beginning mo_ending mo_embedding mo_list mo_lines mo_starts mo_shownLevels mo_order)) hX twd_mo_put_19 rfl c2 rfl ?_
  refine tw_aload_n hX twd_mo_put_20 rfl rfl ?_
  refine tw_get (kf := 15) hX twd_mo_put_21 twin_mo rfl (by decide) tww_702 rfl rfl rfl ?_
  refine tw_aload_n hX twd_mo_put_24 rfl rfl ?_
  refine tw_get (kf := 13) hX twd_mo_put_25 twin_mo rfl (by decide) tww_700 rfl rfl rfl ?_
  refine tw_iload_n hX twd_mo_put_28 rfl rfl ?_
  obtain ⟨c3, h⟩ := h
  refine tw_iastore (mem' := (tw_mM mo_base mo_measure mo_size mo_kind mo_group mo_width mo_pair mo_known mo_root mo_level mo_type mo_resolved mo_partner (mo_top + 1) (tw_up mo_entry (Int.toNat (mo_top + 1)) v1) (tw_up mo_override (Int.toNat (mo_top + 1)) v2) mo_isolate mo_lostIsolates mo_lostEmbeddings mo_openIsolates mo_n mo_seq mo_mark mo_beginning mo_ending mo_embedding mo_list mo_lines mo_starts mo_shownLevels mo_order)) hX twd_mo_put_29 rfl c3 rfl ?_
  refine tw_aload_n hX twd_mo_put_30 rfl rfl ?_
  refine tw_get (kf := 16) hX twd_mo_put_31 twin_mo rfl (by decide) tww_703 rfl rfl rfl ?_
  refine tw_aload_n hX twd_mo_put_34 rfl rfl ?_
  refine tw_get (kf := 13) hX twd_mo_put_35 twin_mo rfl (by decide) tww_700 rfl rfl rfl ?_
  refine tw_iload_n hX twd_mo_put_38 rfl rfl ?_
  obtain ⟨c4, h⟩ := h
  have c5 := h
  refine tw_bastore (mem' := (tw_mM mo_base mo_measure mo_size mo_kind mo_group mo_width mo_pair mo_known mo_root mo_level mo_type mo_resolved mo_partner (mo_top + 1) (tw_up mo_entry (Int.toNat (mo_top + 1)) v1) (tw_up mo_override (Int.toNat (mo_top + 1)) v2) (tw_up mo_isolate (Int.toNat (mo_top + 1)) v3) mo_lostIsolates mo_lostEmbeddings mo_openIsolates mo_n mo_seq mo_mark mo_beginning mo_ending mo_embedding mo_list mo_lines mo_starts mo_shownLevels mo_order)) hX twd_mo_put_39 rfl c4 c5 rfl ?_
  exact tw_vret hX twd_mo_put_40 (hK _ _ _ _ (Eq.symm rfl) (Eq.symm rfl) (Eq.symm rfl) (Eq.symm rfl))
def two_mo_next (v1 : Int) (mo_top : Int) (mo_entry : Nat → Int) : Prop := ((0 ≤ mo_top ∧ mo_top < 8) ∧ (tw_rg ((mo_entry (Int.toNat mo_top)) + 1)) ∧ (0 ≤ ((mo_entry (Int.toNat mo_top)) + 1)) ∧ (((((mo_entry (Int.toNat mo_top)) + 1) % 2) = 1 → ((¬ 1 = v1 → ((tw_rg (((mo_entry (Int.toNat mo_top)) + 1) + 1)))))) ∧ (¬ (((mo_entry (Int.toNat mo_top)) + 1) % 2) = 1 → ((¬ 0 = v1 → ((tw_rg (((mo_entry (Int.toNat mo_top)) + 1) + 1))))))))
def twr_mo_next (v1 : Int) (mo_top : Int) (mo_entry : Nat → Int) : Int := if (((mo_entry (Int.toNat mo_top)) + 1) % 2) = 1 then (if 1 = v1 then ((mo_entry (Int.toNat mo_top)) + 1) else (((mo_entry (Int.toNat mo_top)) + 1) + 1)) else (if 0 = v1 then ((mo_entry (Int.toNat mo_top)) + 1) else (((mo_entry (Int.toNat mo_top)) + 1) + 1))
set_option maxRecDepth 100000 in
set_option maxHeartbeats 4000000 in
theorem twc_mo_next {l : Launch} {D : va_G} {ad : Nat → Nat} {cI cZ : ClassId} {Post : tw_P} {v1 : Int} {mo_base mo_measure mo_size mo_known mo_root mo_top mo_lostIsolates mo_lostEmbeddings mo_openIsolates mo_n mo_beginning mo_ending mo_embedding mo_lines : Int} {mo_kind mo_group mo_width mo_pair mo_level mo_type mo_resolved mo_partner mo_entry mo_override mo_isolate mo_seq mo_mark mo_list mo_starts mo_shownLevels mo_order : Nat → Int} (h : two_mo_next v1 mo_top mo_entry) (hK : ∀ (z : Int), z = twr_mo_next v1 mo_top mo_entry → Post (some z) (tw_mM mo_base mo_measure mo_size mo_kind mo_group mo_width mo_pair mo_known mo_root mo_level mo_type mo_resolved mo_partner mo_top mo_entry mo_override mo_isolate mo_lostIsolates mo_lostEmbeddings mo_openIsolates mo_n mo_seq mo_mark mo_beginning mo_ending mo_embedding mo_list mo_lines mo_starts mo_shownLevels mo_order)) : tw_ct (tw_YM l D ad cI cZ) twy_mo_next (Cond.code twy_mo_next prog_11_method_14_code 3 (some .int) :: tw_Wg) 0 [.inr 0, .inl v1] (tw_mM mo_base mo_measure mo_size mo_kind mo_group mo_width mo_pair mo_known mo_root mo_level mo_type mo_resolved mo_partner mo_top mo_entry mo_override mo_isolate mo_lostIsolates mo_lostEmbeddings mo_openIsolates mo_n mo_seq mo_mark mo_beginning mo_ending mo_embedding mo_list mo_lines mo_starts mo_shownLevels mo_order) Post := by
  refine tw_of (own := twR_mo) (L0 := [some (.inr 0), some (.inl v1), none]) (by decide) rfl rfl (Nat.le_of_ble_eq_true rfl) (fun Z hX => ?_)
  unfold two_mo_next at h
  refine tw_aload_n hX twd_mo_next_0 rfl rfl ?_
  refine tw_get (kf := 14) hX twd_mo_next_1 twin_mo rfl (by decide) tww_701 rfl rfl rfl ?_
  refine tw_aload_n hX twd_mo_next_4 rfl rfl ?_
  refine tw_get (kf := 13) hX twd_mo_next_5 twin_mo rfl (by decide) tww_700 rfl rfl rfl ?_
  obtain ⟨c1, h⟩ := h
  refine tw_iaload hX twd_mo_next_8 rfl c1 ?_
  refine tw_iconst hX twd_mo_next_9 ⟨by decide, by decide⟩ ?_
  obtain ⟨c2, h⟩ := h
  refine tw_iadd hX twd_mo_next_10 c2 ?_
  refine tw_istore_n (L' := [some (.inr 0), some (.inl v1), some (.inl ((mo_entry (Int.toNat mo_top)) + 1))]) hX twd_mo_next_11 rfl (by decide) rfl ?_
  refine tw_iload_n hX twd_mo_next_12 rfl rfl ?_
  refine tw_iconst hX twd_mo_next_13 ⟨by decide, by decide⟩ ?_
  obtain ⟨c3, h⟩ := h
  refine tw_irem hX twd_mo_next_14 c3 (by decide) ?_
  refine tw_iconst hX twd_mo_next_15 ⟨by decide, by decide⟩ ?_
  refine tw_icmp_ne hX twd_mo_next_16 rfl (fun q6 => ?_) (fun q6 => ?_)
  · have _tw := trivial
    have h := h.2 q6
    refine tw_iconst hX twd_mo_next_23 ⟨by decide, by decide⟩ ?_
    refine tw_iload_n hX twd_mo_next_24 rfl rfl ?_
    refine tw_icmp_ne hX twd_mo_next_25 rfl (fun q7 => ?_) (fun q7 => ?_)
    · have _tw := trivial
      have h := h q7
      refine tw_iload_n hX twd_mo_next_32 rfl rfl ?_
      refine tw_iconst hX twd_mo_next_33 ⟨by decide, by decide⟩ ?_
      have c4 := h
      refine tw_iadd hX twd_mo_next_34 c4 ?_
      exact tw_ret hX twd_mo_next_35 (hK _ (Eq.symm (Eq.trans (if_neg q6) (if_neg q7))))
    · have _tw := trivial
      refine tw_iload_n hX twd_mo_next_28 rfl rfl ?_
      refine tw_goto hX twd_mo_next_29 rfl ?_
      exact tw_ret hX twd_mo_next_35 (hK _ (Eq.symm (Eq.trans (if_neg q6) (if_pos q7))))
  · have _tw := trivial
    have h := h.1 q6
    refine tw_iconst hX twd_mo_next_19 ⟨by decide, by decide⟩ ?_
    refine tw_goto hX twd_mo_next_20 rfl ?_
    refine tw_iload_n hX twd_mo_next_24 rfl rfl ?_
    refine tw_icmp_ne hX twd_mo_next_25 rfl (fun q8 => ?_) (fun q8 => ?_)
    · have _tw := trivial
      have h := h q8
      refine tw_iload_n hX twd_mo_next_32 rfl rfl ?_
      refine tw_iconst hX twd_mo_next_33 ⟨by decide, by decide⟩ ?_
      have c5 := h
      refine tw_iadd hX twd_mo_next_34 c5 ?_
      exact tw_ret hX twd_mo_next_35 (hK _ (Eq.symm (Eq.trans (if_pos q6) (if_neg q8))))
    · have _tw := trivial
      refine tw_iload_n hX twd_mo_next_28 rfl rfl ?_
      refine tw_goto hX twd_mo_next_29 rfl ?_
      exact tw_ret hX twd_mo_next_35 (hK _ (Eq.symm (Eq.trans (if_pos q6) (if_pos q8))))
def twr_mo_fits (v1 : Int) (mo_lostIsolates : Int) (mo_lostEmbeddings : Int) : Int := if 5 < v1 then 0 else (if mo_lostIsolates = 0 then (if mo_lostEmbeddings = 0 then 1 else 0) else 0)
set_option maxRecDepth 100000 in
set_option maxHeartbeats 4000000 in
theorem twc_mo_fits {l : Launch} {D : va_G} {ad : Nat → Nat} {cI cZ : ClassId} {Post : tw_P} {v1 : Int} {mo_base mo_measure mo_size mo_known mo_root mo_top mo_lostIsolates mo_lostEmbeddings mo_openIsolates mo_n mo_beginning mo_ending mo_embedding mo_lines : Int} {mo_kind mo_group mo_width mo_pair mo_level mo_type mo_resolved mo_partner mo_entry mo_override mo_isolate mo_seq mo_mark mo_list mo_starts mo_shownLevels mo_order : Nat → Int} (hK : ∀ (z : Int), z = twr_mo_fits v1 mo_lostIsolates mo_lostEmbeddings → Post (some z) (tw_mM mo_base mo_measure mo_size mo_kind mo_group mo_width mo_pair mo_known mo_root mo_level mo_type mo_resolved mo_partner mo_top mo_entry mo_override mo_isolate mo_lostIsolates mo_lostEmbeddings mo_openIsolates mo_n mo_seq mo_mark mo_beginning mo_ending mo_embedding mo_list mo_lines mo_starts mo_shownLevels mo_order)) : tw_ct (tw_YM l D ad cI cZ) twy_mo_fits (Cond.code twy_mo_fits prog_11_method_15_code 2 (some .boolean) :: tw_Wg) 0 [.inr 0, .inl v1] (tw_mM mo_base mo_measure mo_size mo_kind mo_group mo_width mo_pair mo_known mo_root mo_level mo_type mo_resolved mo_partner mo_top mo_entry mo_override mo_isolate mo_lostIsolates mo_lostEmbeddings mo_openIsolates mo_n mo_seq mo_mark mo_beginning mo_ending mo_embedding mo_list mo_lines mo_starts mo_shownLevels mo_order) Post := by
  refine tw_of (own := twR_mo) (L0 := [some (.inr 0), some (.inl v1)]) (by decide) rfl rfl (Nat.le_of_ble_eq_true rfl) (fun Z hX => ?_)
  refine tw_iload_n hX twd_mo_fits_0 rfl rfl ?_
  refine tw_iconst hX twd_mo_fits_1 ⟨by decide, by decide⟩ ?_
  refine tw_icmp_gt hX twd_mo_fits_2 rfl (fun q1 => ?_) (fun q1 => ?_)
  · have _tw := trivial
    refine tw_iconst hX twd_mo_fits_23 ⟨by decide, by decide⟩ ?_
    exact tw_zret hX twd_mo_fits_24 ⟨by decide, by decide⟩ (hK _ (Eq.symm (if_pos q1)))
  · have _tw := trivial
    refine tw_aload_n hX twd_mo_fits_5 rfl rfl ?_
    refine tw_get (kf := 17) hX twd_mo_fits_6 twin_mo rfl (by decide) tww_704 rfl rfl rfl ?_
    refine tw_if_ne hX twd_mo_fits_9 rfl (fun q2 => ?_) (fun q2 => ?_)
    · have _tw := trivial
      refine tw_iconst hX twd_mo_fits_23 ⟨by decide, by decide⟩ ?_
      exact tw_zret hX twd_mo_fits_24 ⟨by decide, by decide⟩ (hK _ (Eq.symm (Eq.trans (if_neg q1) (if_neg q2))))
    · have _tw := trivial
      refine tw_aload_n hX twd_mo_fits_12 rfl rfl ?_
      refine tw_get (kf := 18) hX twd_mo_fits_13 twin_mo rfl (by decide) tww_705 rfl rfl rfl ?_
      refine tw_if_ne hX twd_mo_fits_16 rfl (fun q3 => ?_) (fun q3 => ?_)
      · have _tw := trivial
        refine tw_iconst hX twd_mo_fits_23 ⟨by decide, by decide⟩ ?_
        exact tw_zret hX twd_mo_fits_24 ⟨by decide, by decide⟩ (hK _ (Eq.symm (Eq.trans (if_neg q1) (Eq.trans (if_pos q2) (if_neg q3)))))
      · have _tw := trivial
        refine tw_iconst hX twd_mo_fits_19 ⟨by decide, by decide⟩ ?_
        refine tw_goto hX twd_mo_fits_20 rfl ?_
        exact tw_zret hX twd_mo_fits_24 ⟨by decide, by decide⟩ (hK _ (Eq.symm (Eq.trans (if_neg q1) (Eq.trans (if_pos q2) (if_pos q3)))))
def two_mo_settle (v1 : Int) (mo_kind : Nat → Int) (mo_level : Nat → Int) (mo_type : Nat → Int) (mo_top : Int) (mo_entry : Nat → Int) (mo_override : Nat → Int) : Prop := ((0 ≤ mo_top ∧ mo_top < 8) ∧ (0 ≤ v1 ∧ v1 < 64) ∧ (0 ≤ mo_top ∧ mo_top < 8) ∧ (((mo_override (Int.toNat mo_top)) < 0 → ((0 ≤ v1 ∧ v1 < 64) ∧ (0 ≤ v1 ∧ v1 < 64))) ∧ (¬ (mo_override (Int.toNat mo_top)) < 0 → ((0 ≤ mo_top ∧ mo_top < 8) ∧ (0 ≤ v1 ∧ v1 < 64)))))
def twu_mo_settle__mo_level (v1 : Int) (mo_kind : Nat → Int) (mo_level : Nat → Int) (mo_type : Nat → Int) (mo_top : Int) (mo_entry : Nat → Int) (mo_override : Nat → Int) : Nat → Int := tw_up mo_level (Int.toNat v1) (mo_entry (Int.toNat mo_top))
def twu_mo_settle__mo_type (v1 : Int) (mo_kind : Nat → Int) (mo_level : Nat → Int) (mo_type : Nat → Int) (mo_top : Int) (mo_entry : Nat → Int) (mo_override : Nat → Int) : Nat → Int := if (mo_override (Int.toNat mo_top)) < 0 then (tw_up mo_type (Int.toNat v1) (mo_kind (Int.toNat v1))) else (tw_up mo_type (Int.toNat v1) (mo_override (Int.toNat mo_top)))
set_option maxRecDepth 100000 in
set_option maxHeartbeats 4000000 in
theorem twc_mo_settle {l : Launch} {D : va_G} {ad : Nat → Nat} {cI cZ : ClassId} {Post : tw_P} {v1 : Int} {mo_base mo_measure mo_size mo_known mo_root mo_top mo_lostIsolates mo_lostEmbeddings mo_openIsolates mo_n mo_beginning mo_ending mo_embedding mo_lines : Int} {mo_kind mo_group mo_width mo_pair mo_level mo_type mo_resolved mo_partner mo_entry mo_override mo_isolate mo_seq mo_mark mo_list mo_starts mo_shownLevels mo_order : Nat → Int} (h : two_mo_settle v1 mo_kind mo_level mo_type mo_top mo_entry mo_override) (hK : ∀ (n_mo_level : Nat → Int) (n_mo_type : Nat → Int), n_mo_level = twu_mo_settle__mo_level v1 mo_kind mo_level mo_type mo_top mo_entry mo_override → n_mo_type = twu_mo_settle__mo_type v1 mo_kind mo_level mo_type mo_top mo_entry mo_override → Post none (tw_mM mo_base mo_measure mo_size mo_kind mo_group mo_width mo_pair mo_known mo_root n_mo_level n_mo_type mo_resolved mo_partner mo_top mo_entry mo_override mo_isolate mo_lostIsolates mo_lostEmbeddings mo_openIsolates mo_n mo_seq mo_mark mo_beginning mo_ending mo_embedding mo_list mo_lines mo_starts mo_shownLevels mo_order)) : tw_ct (tw_YM l D ad cI cZ) twy_mo_settle (Cond.code twy_mo_settle prog_11_method_16_code 2 none :: tw_Wg) 0 [.inr 0, .inl v1] (tw_mM mo_base mo_measure mo_size mo_kind mo_group mo_width mo_pair mo_known mo_root mo_level mo_type mo_resolved mo_partner mo_top mo_entry mo_override mo_isolate mo_lostIsolates mo_lostEmbeddings mo_openIsolates mo_n mo_seq mo_mark mo_beginning mo_ending mo_embedding mo_list mo_lines mo_starts mo_shownLevels mo_order) Post := by
  refine tw_of (own := twR_mo) (L0 := [some (.inr 0), some (.inl v1)]) (by decide) rfl rfl (Nat.le_of_ble_eq_true rfl) (fun Z hX => ?_)
  unfold two_mo_settle at h
  refine tw_aload_n hX twd_mo_settle_0 rfl rfl ?_
  refine tw_get (kf := 9) hX twd_mo_settle_1 twin_mo rfl (by decide) tww_696 rfl rfl rfl ?_
  refine tw_iload_n hX twd_mo_settle_4 rfl rfl ?_
  refine tw_aload_n hX twd_mo_settle_5 rfl rfl ?_
  refine tw_get (kf := 14) hX twd_mo_settle_6 twin_mo rfl (by decide) tww_701 rfl rfl rfl ?_
  refine tw_aload_n hX twd_mo_settle_9 rfl rfl ?_
  refine tw_get (kf := 13) hX twd_mo_settle_10 twin_mo rfl (by decide) tww_700 rfl rfl rfl ?_
  obtain ⟨c1, h⟩ := h
  refine tw_iaload hX twd_mo_settle_13 rfl c1 ?_
  obtain ⟨c2, h⟩ := h
  refine tw_iastore (mem' := (tw_mM mo_base mo_measure mo_size mo_kind mo_group mo_width mo_pair mo_known mo_root (tw_up mo_level (Int.toNat v1) (mo_entry (Int.toNat mo_top))) mo_type mo_resolved mo_partner mo_top mo_entry mo_override mo_isolate mo_lostIsolates mo_lostEmbeddings mo_openIsolates mo_n mo_seq mo_mark mo_beginning mo_ending mo_embedding mo_list mo_lines mo_starts mo_shownLevels mo_order)) hX twd_mo_settle_14 rfl c2 rfl ?_
  refine tw_aload_n hX twd_mo_settle_15 rfl rfl ?_
  refine tw_get (kf := 10) hX twd_mo_settle_16 twin_mo rfl (by decide) tww_697 rfl rfl rfl ?_
  refine tw_iload_n hX twd_mo_settle_19 rfl rfl ?_
  refine tw_aload_n hX twd_mo_settle_20 rfl rfl ?_
  refine tw_get (kf := 15) hX twd_mo_settle_21 twin_mo rfl (by decide) tww_702 rfl rfl rfl ?_
  refine tw_aload_n hX twd_mo_settle_24 rfl rfl ?_
  refine tw_get (kf := 13) hX twd_mo_settle_25 twin_mo rfl (by decide) tww_700 rfl rfl rfl ?_
  obtain ⟨c3, h⟩ := h
  refine tw_iaload hX twd_mo_settle_28 rfl c3 ?_
  refine tw_if_lt hX twd_mo_settle_29 rfl (fun q8 => ?_) (fun q8 => ?_)
  · have _tw := trivial
    have h := h.1 q8
    refine tw_aload_n hX twd_mo_settle_44 rfl rfl ?_
    refine tw_get (kf := 3) hX twd_mo_settle_45 twin_mo rfl (by decide) tww_690 rfl rfl rfl ?_
    refine tw_iload_n hX twd_mo_settle_48 rfl rfl ?_
    obtain ⟨c4, h⟩ := h
    refine tw_iaload hX twd_mo_settle_49 rfl c4 ?_
    have c5 := h
    refine tw_iastore (mem' := (tw_mM mo_base mo_measure mo_size mo_kind mo_group mo_width mo_pair mo_known mo_root (tw_up mo_level (Int.toNat v1) (mo_entry (Int.toNat mo_top))) (tw_up mo_type (Int.toNat v1) (mo_kind (Int.toNat v1))) mo_resolved mo_partner mo_top mo_entry mo_override mo_isolate mo_lostIsolates mo_lostEmbeddings mo_openIsolates mo_n mo_seq mo_mark mo_beginning mo_ending mo_embedding mo_list mo_lines mo_starts mo_shownLevels mo_order)) hX twd_mo_settle_50 rfl c5 rfl ?_
    exact tw_vret hX twd_mo_settle_51 (hK _ _ (Eq.symm rfl) (Eq.symm (if_pos q8)))
  · have _tw := trivial
    have h := h.2 q8
    refine tw_aload_n hX twd_mo_settle_32 rfl rfl ?_
    refine tw_get (kf := 15) hX twd_mo_settle_33 twin_mo rfl (by decide) tww_702 rfl rfl rfl ?_
    refine tw_aload_n hX twd_mo_settle_36 rfl rfl ?_
    refine tw_get (kf := 13) hX twd_mo_settle_37 twin_mo rfl (by decide) tww_700 rfl rfl rfl ?_
    obtain ⟨c6, h⟩ := h
    refine tw_iaload hX twd_mo_settle_40 rfl c6 ?_
    refine tw_goto hX twd_mo_settle_41 rfl ?_
    have c7 := h
    refine tw_iastore (mem' := (tw_mM mo_base mo_measure mo_size mo_kind mo_group mo_width mo_pair mo_known mo_root (tw_up mo_level (Int.toNat v1) (mo_entry (Int.toNat mo_top))) (tw_up mo_type (Int.toNat v1) (mo_override (Int.toNat mo_top))) mo_resolved mo_partner mo_top mo_entry mo_override mo_isolate mo_lostIsolates mo_lostEmbeddings mo_openIsolates mo_n mo_seq mo_mark mo_beginning mo_ending mo_embedding mo_list mo_lines mo_starts mo_shownLevels mo_order)) hX twd_mo_settle_50 rfl c7 rfl ?_
    exact tw_vret hX twd_mo_settle_51 (hK _ _ (Eq.symm rfl) (Eq.symm (if_neg q8)))
def two_mo_embed (v1 : Int) (mo_top : Int) (mo_entry : Nat → Int) (mo_override : Nat → Int) (mo_isolate : Nat → Int) (mo_lostIsolates : Int) (mo_lostEmbeddings : Int) : Prop := (((v1 = 13 → ((two_mo_next 1 mo_top mo_entry) ∧ (((twr_mo_fits (twr_mo_next 1 mo_top mo_entry) mo_lostIsolates mo_lostEmbeddings) = 0 → ((mo_lostIsolates = 0 → ((tw_rg (mo_lostEmbeddings + 1)))))) ∧ (¬ (twr_mo_fits (twr_mo_next 1 mo_top mo_entry) mo_lostIsolates mo_lostEmbeddings) = 0 → (((v1 = 14 → ((two_mo_put (twr_mo_next 1 mo_top mo_entry) 0 0 mo_top mo_entry mo_override mo_isolate))) ∧ (¬ v1 = 14 → (((v1 = 15 → ((two_mo_put (twr_mo_next 1 mo_top mo_entry) 1 0 mo_top mo_entry mo_override mo_isolate))) ∧ (¬ v1 = 15 → ((two_mo_put (twr_mo_next 1 mo_top mo_entry) (-1) 0 mo_top mo_entry mo_override mo_isolate)))))))))))) ∧ (¬ v1 = 13 → (((v1 = 15 → ((two_mo_next 1 mo_top mo_entry) ∧ (((twr_mo_fits (twr_mo_next 1 mo_top mo_entry) mo_lostIsolates mo_lostEmbeddings) = 0 → ((mo_lostIsolates = 0 → ((tw_rg (mo_lostEmbeddings + 1)))))) ∧ (¬ (twr_mo_fits (twr_mo_next 1 mo_top mo_entry) mo_lostIsolates mo_lostEmbeddings) = 0 → (((v1 = 14 → ((two_mo_put (twr_mo_next 1 mo_top mo_entry) 0 0 mo_top mo_entry mo_override mo_isolate))) ∧ (¬ v1 = 14 → (((v1 = 15 → ((two_mo_put (twr_mo_next 1 mo_top mo_entry) 1 0 mo_top mo_entry mo_override mo_isolate))) ∧ (¬ v1 = 15 → ((two_mo_put (twr_mo_next 1 mo_top mo_entry) (-1) 0 mo_top mo_entry mo_override mo_isolate)))))))))))) ∧ (¬ v1 = 15 → ((two_mo_next 0 mo_top mo_entry) ∧ (((twr_mo_fits (twr_mo_next 0 mo_top mo_entry) mo_lostIsolates mo_lostEmbeddings) = 0 → ((mo_lostIsolates = 0 → ((tw_rg (mo_lostEmbeddings + 1)))))) ∧ (¬ (twr_mo_fits (twr_mo_next 0 mo_top mo_entry) mo_lostIsolates mo_lostEmbeddings) = 0 → (((v1 = 14 → ((two_mo_put (twr_mo_next 0 mo_top mo_entry) 0 0 mo_top mo_entry mo_override mo_isolate))) ∧ (¬ v1 = 14 → (((v1 = 15 → ((two_mo_put (twr_mo_next 0 mo_top mo_entry) 1 0 mo_top mo_entry mo_override mo_isolate))) ∧ (¬ v1 = 15 → ((two_mo_put (twr_mo_next 0 mo_top mo_entry) (-1) 0 mo_top mo_entry mo_override mo_isolate)))))))))))))))))
def twu_mo_embed__mo_top (v1 : Int) (mo_top : Int) (mo_entry : Nat → Int) (mo_override : Nat → Int) (mo_isolate : Nat → Int) (mo_lostIsolates : Int) (mo_lostEmbeddings : Int) : Int := if v1 = 13 then (if (twr_mo_fits (twr_mo_next 1 mo_top mo_entry) mo_lostIsolates mo_lostEmbeddings) = 0 then mo_top else (if v1 = 14 then (twu_mo_put__mo_top (twr_mo_next 1 mo_top mo_entry) 0 0 mo_top mo_entry mo_override mo_isolate) else (if v1 = 15 then (twu_mo_put__mo_top (twr_mo_next 1 mo_top mo_entry) 1 0 mo_top mo_entry mo_override mo_isolate) else (twu_mo_put__mo_top (twr_mo_next 1 mo_top mo_entry) (-1) 0 mo_top mo_entry mo_override mo_isolate)))) else (if v1 = 15 then (if (twr_mo_fits (twr_mo_next 1 mo_top mo_entry) mo_lostIsolates mo_lostEmbeddings) = 0 then mo_top else (if v1 = 14 then (twu_mo_put__mo_top (twr_mo_next 1 mo_top mo_entry) 0 0 mo_top mo_entry mo_override mo_isolate) else (if v1 = 15 then (twu_mo_put__mo_top (twr_mo_next 1 mo_top mo_entry) 1 0 mo_top mo_entry mo_override mo_isolate) else (twu_mo_put__mo_top (twr_mo_next 1 mo_top mo_entry) (-1) 0 mo_top mo_entry mo_override mo_isolate)))) else (if (twr_mo_fits (twr_mo_next 0 mo_top mo_entry) mo_lostIsolates mo_lostEmbeddings) = 0 then mo_top else (if v1 = 14 then (twu_mo_put__mo_top (twr_mo_next 0 mo_top mo_entry) 0 0 mo_top mo_entry mo_override mo_isolate) else (if v1 = 15 then (twu_mo_put__mo_top (twr_mo_next 0 mo_top mo_entry) 1 0 mo_top mo_entry mo_override mo_isolate) else (twu_mo_put__mo_top (twr_mo_next 0 mo_top mo_entry) (-1) 0 mo_top mo_entry mo_override mo_isolate)))))
def twu_mo_embed__mo_entry (v1 : Int) (mo_top : Int) (mo_entry : Nat → Int) (mo_override : Nat → Int) (mo_isolate : Nat → Int) (mo_lostIsolates : Int) (mo_lostEmbeddings : Int) : Nat → Int := if v1 = 13 then (if (twr_mo_fits (twr_mo_next 1 mo_top mo_entry) mo_lostIsolates mo_lostEmbeddings) = 0 then mo_entry else (if v1 = 14 then (twu_mo_put__mo_entry (twr_mo_next 1 mo_top mo_entry) 0 0 mo_top mo_entry mo_override mo_isolate) else (if v1 = 15 then (twu_mo_put__mo_entry (twr_mo_next 1 mo_top mo_entry) 1 0 mo_top mo_entry mo_override mo_isolate) else (twu_mo_put__mo_entry (twr_mo_next 1 mo_top mo_entry) (-1) 0 mo_top mo_entry mo_override mo_isolate)))) else (if v1 = 15 then (if (twr_mo_fits (twr_mo_next 1 mo_top mo_entry) mo_lostIsolates mo_lostEmbeddings) = 0 then mo_entry else (if v1 = 14 then (twu_mo_put__mo_entry (twr_mo_next 1 mo_top mo_entry) 0 0 mo_top mo_entry mo_override mo_isolate) else (if v1 = 15 then (twu_mo_put__mo_entry (twr_mo_next 1 mo_top mo_entry) 1 0 mo_top mo_entry mo_override mo_isolate) else (twu_mo_put__mo_entry (twr_mo_next 1 mo_top mo_entry) (-1) 0 mo_top mo_entry mo_override mo_isolate)))) else (if (twr_mo_fits (twr_mo_next 0 mo_top mo_entry) mo_lostIsolates mo_lostEmbeddings) = 0 then mo_entry else (if v1 = 14 then (twu_mo_put__mo_entry (twr_mo_next 0 mo_top mo_entry) 0 0 mo_top mo_entry mo_override mo_isolate) else (if v1 = 15 then (twu_mo_put__mo_entry (twr_mo_next 0 mo_top mo_entry) 1 0 mo_top mo_entry mo_override mo_isolate) else (twu_mo_put__mo_entry (twr_mo_next 0 mo_top mo_entry) (-1) 0 mo_top mo_entry mo_override mo_isolate)))))
def twu_mo_embed__mo_override (v1 : Int) (mo_top : Int) (mo_entry : Nat → Int) (mo_override : Nat → Int) (mo_isolate : Nat → Int) (mo_lostIsolates : Int) (mo_lostEmbeddings : Int) : Nat → Int := if v1 = 13 then (if (twr_mo_fits (twr_mo_next 1 mo_top mo_entry) mo_lostIsolates mo_lostEmbeddings) = 0 then mo_override else (if v1 = 14 then (twu_mo_put__mo_override (twr_mo_next 1 mo_top mo_entry) 0 0 mo_top mo_entry mo_override mo_isolate) else (if v1 = 15 then (twu_mo_put__mo_override (twr_mo_next 1 mo_top mo_entry) 1 0 mo_top mo_entry mo_override mo_isolate) else (twu_mo_put__mo_override (twr_mo_next 1 mo_top mo_entry) (-1) 0 mo_top mo_entry mo_override mo_isolate)))) else (if v1 = 15 then (if (twr_mo_fits (twr_mo_next 1 mo_top mo_entry) mo_lostIsolates mo_lostEmbeddings) = 0 then mo_override else (if v1 = 14 then (twu_mo_put__mo_override (twr_mo_next 1 mo_top mo_entry) 0 0 mo_top mo_entry mo_override mo_isolate) else (if v1 = 15 then (twu_mo_put__mo_override (twr_mo_next 1 mo_top mo_entry) 1 0 mo_top mo_entry mo_override mo_isolate) else (twu_mo_put__mo_override (twr_mo_next 1 mo_top mo_entry) (-1) 0 mo_top mo_entry mo_override mo_isolate)))) else (if (twr_mo_fits (twr_mo_next 0 mo_top mo_entry) mo_lostIsolates mo_lostEmbeddings) = 0 then mo_override else (if v1 = 14 then (twu_mo_put__mo_override (twr_mo_next 0 mo_top mo_entry) 0 0 mo_top mo_entry mo_override mo_isolate) else (if v1 = 15 then (twu_mo_put__mo_override (twr_mo_next 0 mo_top mo_entry) 1 0 mo_top mo_entry mo_override mo_isolate) else (twu_mo_put__mo_override (twr_mo_next 0 mo_top mo_entry) (-1) 0 mo_top mo_entry mo_override mo_isolate)))))
def twu_mo_embed__mo_isolate (v1 : Int) (mo_top : Int) (mo_entry : Nat → Int) (mo_override : Nat → Int) (mo_isolate : Nat → Int) (mo_lostIsolates : Int) (mo_lostEmbeddings : Int) : Nat → Int := if v1 = 13 then (if (twr_mo_fits (twr_mo_next 1 mo_top mo_entry) mo_lostIsolates mo_lostEmbeddings) = 0 then mo_isolate else (if v1 = 14 then (twu_mo_put__mo_isolate (twr_mo_next 1 mo_top mo_entry) 0 0 mo_top mo_entry mo_override mo_isolate) else (if v1 = 15 then (twu_mo_put__mo_isolate (twr_mo_next 1 mo_top mo_entry) 1 0 mo_top mo_entry mo_override mo_isolate) else (twu_mo_put__mo_isolate (twr_mo_next 1 mo_top mo_entry) (-1) 0 mo_top mo_entry mo_override mo_isolate)))) else (if v1 = 15 then (if (twr_mo_fits (twr_mo_next 1 mo_top mo_entry) mo_lostIsolates mo_lostEmbeddings) = 0 then mo_isolate else (if v1 = 14 then (twu_mo_put__mo_isolate (twr_mo_next 1 mo_top mo_entry) 0 0 mo_top mo_entry mo_override mo_isolate) else (if v1 = 15 then (twu_mo_put__mo_isolate (twr_mo_next 1 mo_top mo_entry) 1 0 mo_top mo_entry mo_override mo_isolate) else (twu_mo_put__mo_isolate (twr_mo_next 1 mo_top mo_entry) (-1) 0 mo_top mo_entry mo_override mo_isolate)))) else (if (twr_mo_fits (twr_mo_next 0 mo_top mo_entry) mo_lostIsolates mo_lostEmbeddings) = 0 then mo_isolate else (if v1 = 14 then (twu_mo_put__mo_isolate (twr_mo_next 0 mo_top mo_entry) 0 0 mo_top mo_entry mo_override mo_isolate) else (if v1 = 15 then (twu_mo_put__mo_isolate (twr_mo_next 0 mo_top mo_entry) 1 0 mo_top mo_entry mo_override mo_isolate) else (twu_mo_put__mo_isolate (twr_mo_next 0 mo_top mo_entry) (-1) 0 mo_top mo_entry mo_override mo_isolate)))))
def twu_mo_embed__mo_lostEmbeddings (v1 : Int) (mo_top : Int) (mo_entry : Nat → Int) (mo_override : Nat → Int) (mo_isolate : Nat → Int) (mo_lostIsolates : Int) (mo_lostEmbeddings : Int) : Int := if v1 = 13 then (if (twr_mo_fits (twr_mo_next 1 mo_top mo_entry) mo_lostIsolates mo_lostEmbeddings) = 0 then (if mo_lostIsolates = 0 then (mo_lostEmbeddings + 1) else mo_lostEmbeddings) else mo_lostEmbeddings) else (if v1 = 15 then (if (twr_mo_fits (twr_mo_next 1 mo_top mo_entry) mo_lostIsolates mo_lostEmbeddings) = 0 then (if mo_lostIsolates = 0 then (mo_lostEmbeddings + 1) else mo_lostEmbeddings) else mo_lostEmbeddings) else (if (twr_mo_fits (twr_mo_next 0 mo_top mo_entry) mo_lostIsolates mo_lostEmbeddings) = 0 then (if mo_lostIsolates = 0 then (mo_lostEmbeddings + 1) else mo_lostEmbeddings) else mo_lostEmbeddings))
set_option maxRecDepth 100000 in
set_option maxHeartbeats 4000000 in
theorem twc_mo_embed {l : Launch} {D : va_G} {ad : Nat → Nat} {cI cZ : ClassId} {Post : tw_P} {v1 : Int} {mo_base mo_measure mo_size mo_known mo_root mo_top mo_lostIsolates mo_lostEmbeddings mo_openIsolates mo_n mo_beginning mo_ending mo_embedding mo_lines : Int} {mo_kind mo_group mo_width mo_pair mo_level mo_type mo_resolved mo_partner mo_entry mo_override mo_isolate mo_seq mo_mark mo_list mo_starts mo_shownLevels mo_order : Nat → Int} (h : two_mo_embed v1 mo_top mo_entry mo_override mo_isolate mo_lostIsolates mo_lostEmbeddings) (hK : ∀ (n_mo_top : Int) (n_mo_entry : Nat → Int) (n_mo_override : Nat → Int) (n_mo_isolate : Nat → Int) (n_mo_lostEmbeddings : Int), n_mo_top = twu_mo_embed__mo_top v1 mo_top mo_entry mo_override mo_isolate mo_lostIsolates mo_lostEmbeddings → n_mo_entry = twu_mo_embed__mo_entry v1 mo_top mo_entry mo_override mo_isolate mo_lostIsolates mo_lostEmbeddings → n_mo_override = twu_mo_embed__mo_override v1 mo_top mo_entry mo_override mo_isolate mo_lostIsolates mo_lostEmbeddings → n_mo_isolate = twu_mo_embed__mo_isolate v1 mo_top mo_entry mo_override mo_isolate mo_lostIsolates mo_lostEmbeddings → n_mo_lostEmbeddings = twu_mo_embed__mo_lostEmbeddings v1 mo_top mo_entry mo_override mo_isolate mo_lostIsolates mo_lostEmbeddings → Post none (tw_mM mo_base mo_measure mo_size mo_kind mo_group mo_width mo_pair mo_known mo_root mo_level mo_type mo_resolved mo_partner n_mo_top n_mo_entry n_mo_override n_mo_isolate mo_lostIsolates n_mo_lostEmbeddings mo_openIsolates mo_n mo_seq mo_mark mo_beginning mo_ending mo_embedding mo_list mo_lines mo_starts mo_shownLevels mo_order)) : tw_ct (tw_YM l D ad cI cZ) twy_mo_embed (Cond.code twy_mo_embed prog_11_method_17_code 3 none :: tw_Wg) 1 [.inr 0, .inl v1] (tw_mM mo_base mo_measure mo_size mo_kind mo_group mo_width mo_pair mo_known mo_root mo_level mo_type mo_resolved mo_partner mo_top mo_entry mo_override mo_isolate mo_lostIsolates mo_lostEmbeddings mo_openIsolates mo_n mo_seq mo_mark mo_beginning mo_ending mo_embedding mo_list mo_lines mo_starts mo_shownLevels mo_order) Post := by
  refine tw_of (own := twR_mo) (L0 := [some (.inr 0), some (.inl v1), none]) (by decide) rfl rfl (Nat.le_of_ble_eq_true rfl) (fun Z hX => ?_)
  unfold two_mo_embed at h
  refine tw_aload_n hX twd_mo_embed_0 rfl rfl ?_
  refine tw_iload_n hX twd_mo_embed_1 rfl rfl ?_
  refine tw_bipush hX twd_mo_embed_2 (by decide +kernel) ⟨by decide, by decide⟩ ?_
  refine tw_icmp_eq hX twd_mo_embed_4 rfl (fun q109 => ?_) (fun q109 => ?_)
  · have _tw := trivial
    have h := h.1 q109
    refine tw_iconst hX twd_mo_embed_13 ⟨by decide, by decide⟩ ?_
    refine tw_goto hX twd_mo_embed_14 rfl ?_
    obtain ⟨c1, h⟩ := h
    refine tw_callV (As := [.inl 1]) (n := 1) hX twd_mo_embed_18 tw_good tww_852 tww_849 tww_851 tww_48 tww_86 twk_mo_next rfl rfl ⟨by decide, by decide⟩ rfl (Nat.le_of_ble_eq_true rfl) (twc_mo_next c1 (fun z2 e3 => ?_))
    subst e3
    change tw_rn (tw_YM l D ad cI cZ) Z Post 21 [some (.inr 0), some (.inl v1), none] [.inl (twr_mo_next 1 mo_top mo_entry)] (tw_mM mo_base mo_measure mo_size mo_kind mo_group mo_width mo_pair mo_known mo_root mo_level mo_type mo_resolved mo_partner mo_top mo_entry mo_override mo_isolate mo_lostIsolates mo_lostEmbeddings mo_openIsolates mo_n mo_seq mo_mark mo_beginning mo_ending mo_embedding mo_list mo_lines mo_starts mo_shownLevels mo_order)
    refine tw_istore_n (L' := [some (.inr 0), some (.inl v1), some (.inl (twr_mo_next 1 mo_top mo_entry))]) hX twd_mo_embed_21 rfl (by decide) rfl ?_
    refine tw_aload_n hX twd_mo_embed_22 rfl rfl ?_
    refine tw_iload_n hX twd_mo_embed_23 rfl rfl ?_
    refine tw_callV (As := [.inl (twr_mo_next 1 mo_top mo_entry)]) (n := 1) hX twd_mo_embed_24 tw_good tww_856 tww_853 tww_855 tww_49 tww_86 twk_mo_fits rfl rfl ⟨by decide, by decide⟩ rfl (Nat.le_of_ble_eq_true rfl) (twc_mo_fits (fun z4 e5 => ?_))
    subst e5
    change tw_rn (tw_YM l D ad cI cZ) Z Post 27 [some (.inr 0), some (.inl v1), some (.inl (twr_mo_next 1 mo_top mo_entry))] [.inl (twr_mo_fits (twr_mo_next 1 mo_top mo_entry) mo_lostIsolates mo_lostEmbeddings)] (tw_mM mo_base mo_measure mo_size mo_kind mo_group mo_width mo_pair mo_known mo_root mo_level mo_type mo_resolved mo_partner mo_top mo_entry mo_override mo_isolate mo_lostIsolates mo_lostEmbeddings mo_openIsolates mo_n mo_seq mo_mark mo_beginning mo_ending mo_embedding mo_list mo_lines mo_starts mo_shownLevels mo_order)
    refine tw_if_eq hX twd_mo_embed_27 rfl (fun q110 => ?_) (fun q110 => ?_)
    · have _tw := trivial
      have h := h.1 q110
      refine tw_aload_n hX twd_mo_embed_60 rfl rfl ?_
      refine tw_get (kf := 17) hX twd_mo_embed_61 twin_mo rfl (by decide) tww_704 rfl rfl rfl ?_
      refine tw_if_ne hX twd_mo_embed_64 rfl (fun q111 => ?_) (fun q111 => ?_)
      · have _tw := trivial
        exact tw_vret hX twd_mo_embed_77 (hK _ _ _ _ _ (Eq.symm (Eq.trans (if_pos q109) (if_pos q110))) (Eq.symm (Eq.trans (if_pos q109) (if_pos q110))) (Eq.symm (Eq.trans (if_pos q109) (if_pos q110))) (Eq.symm (Eq.trans (if_pos q109) (if_pos q110))) (Eq.symm (Eq.trans (if_pos q109) (Eq.trans (if_pos q110) (if_neg q111)))))
      · have _tw := trivial
        have h := h q111
        refine tw_aload_n hX twd_mo_embed_67 rfl rfl ?_
        refine tw_dup hX twd_mo_embed_68 ?_
        refine tw_get (kf := 18) hX twd_mo_embed_69 twin_mo rfl (by decide) tww_705 rfl rfl rfl ?_
        refine tw_iconst hX twd_mo_embed_72 ⟨by decide, by decide⟩ ?_
        have c6 := h
        refine tw_iadd hX twd_mo_embed_73 c6 ?_
        refine tw_put (kf := 18) (mem' := (tw_mM mo_base mo_measure mo_size mo_kind mo_group mo_width mo_pair mo_known mo_root mo_level mo_type mo_resolved mo_partner mo_top mo_entry mo_override mo_isolate mo_lostIsolates (mo_lostEmbeddings + 1) mo_openIsolates mo_n mo_seq mo_mark mo_beginning mo_ending mo_embedding mo_list mo_lines mo_starts mo_shownLevels mo_order)) twt_mo hX twd_mo_embed_74 twin_mo twtok_mo twnm_mo rfl (by decide) tww_705 rfl rfl rfl (Or.inl rfl) rfl (Nat.le_of_ble_eq_true rfl) rfl ?_
        exact tw_vret hX twd_mo_embed_77 (hK _ _ _ _ _ (Eq.symm (Eq.trans (if_pos q109) (if_pos q110))) (Eq.symm (Eq.trans (if_pos q109) (if_pos q110))) (Eq.symm (Eq.trans (if_pos q109) (if_pos q110))) (Eq.symm (Eq.trans (if_pos q109) (if_pos q110))) (Eq.symm (Eq.trans (if_pos q109) (Eq.trans (if_pos q110) (if_pos q111)))))
    · have _tw := trivial
      have h := h.2 q110
      refine tw_aload_n hX twd_mo_embed_30 rfl rfl ?_
      refine tw_iload_n hX twd_mo_embed_31 rfl rfl ?_
      refine tw_iload_n hX twd_mo_embed_32 rfl rfl ?_
      refine tw_bipush hX twd_mo_embed_33 (by decide +kernel) ⟨by decide, by decide⟩ ?_
      refine tw_icmp_ne hX twd_mo_embed_35 rfl (fun q112 => ?_) (fun q112 => ?_)
      · have _tw := trivial
        have h := h.2 q112
        refine tw_iload_n hX twd_mo_embed_42 rfl rfl ?_
        refine tw_bipush hX twd_mo_embed_43 (by decide +kernel) ⟨by decide, by decide⟩ ?_
        refine tw_icmp_ne hX twd_mo_embed_45 rfl (fun q113 => ?_) (fun q113 => ?_)
        · have _tw := trivial
          have h := h.2 q113
          refine tw_iconst hX twd_mo_embed_52 ⟨by decide, by decide⟩ ?_
          refine tw_iconst hX twd_mo_embed_53 ⟨by decide, by decide⟩ ?_
          have c7 := h
          refine tw_callV (As := [.inl (twr_mo_next 1 mo_top mo_entry), .inl ((-1)), .inl 0]) (n := 3) hX twd_mo_embed_54 tw_good tww_844 tww_841 tww_843 tww_46 tww_86 twk_mo_put rfl rfl ⟨by decide, by decide⟩ rfl (Nat.le_of_ble_eq_true rfl) (twc_mo_put c7 (fun w9 w10 w11 w12 e13 e14 e15 e16 => ?_))
          subst e13
          subst e14
          subst e15
          subst e16
          change tw_rn (tw_YM l D ad cI cZ) Z Post 57 [some (.inr 0), some (.inl v1), some (.inl (twr_mo_next 1 mo_top mo_entry))] [] (tw_mM mo_base mo_measure mo_size mo_kind mo_group mo_width mo_pair mo_known mo_root mo_level mo_type mo_resolved mo_partner (twu_mo_put__mo_top (twr_mo_next 1 mo_top mo_entry) (-1) 0 mo_top mo_entry mo_override mo_isolate) (twu_mo_put__mo_entry (twr_mo_next 1 mo_top mo_entry) (-1) 0 mo_top mo_entry mo_override mo_isolate) (twu_mo_put__mo_override (twr_mo_next 1 mo_top mo_entry) (-1) 0 mo_top mo_entry mo_override mo_isolate) (twu_mo_put__mo_isolate (twr_mo_next 1 mo_top mo_entry) (-1) 0 mo_top mo_entry mo_override mo_isolate) mo_lostIsolates mo_lostEmbeddings mo_openIsolates mo_n mo_seq mo_mark mo_beginning mo_ending mo_embedding mo_list mo_lines mo_starts mo_shownLevels mo_order)
          refine tw_goto hX twd_mo_embed_57 rfl ?_
          exact tw_vret hX twd_mo_embed_77 (hK _ _ _ _ _ (Eq.symm (Eq.trans (if_pos q109) (Eq.trans (if_neg q110) (Eq.trans (if_neg q112) (if_neg q113))))) (Eq.symm (Eq.trans (if_pos q109) (Eq.trans (if_neg q110) (Eq.trans (if_neg q112) (if_neg q113))))) (Eq.symm (Eq.trans (if_pos q109) (Eq.trans (if_neg q110) (Eq.trans (if_neg q112) (if_neg q113))))) (Eq.symm (Eq.trans (if_pos q109) (Eq.trans (if_neg q110) (Eq.trans (if_neg q112) (if_neg q113))))) (Eq.symm (Eq.trans (if_pos q109) (if_neg q110))))
        · have _tw := trivial
          have h := h.1 q113
          refine tw_iconst hX twd_mo_embed_48 ⟨by decide, by decide⟩ ?_
          refine tw_goto hX twd_mo_embed_49 rfl ?_
          refine tw_iconst hX twd_mo_embed_53 ⟨by decide, by decide⟩ ?_
          have c17 := h
          refine tw_callV (As := [.inl (twr_mo_next 1 mo_top mo_entry), .inl 1, .inl 0]) (n := 3) hX twd_mo_embed_54 tw_good tww_844 tww_841 tww_843 tww_46 tww_86 twk_mo_put rfl rfl ⟨by decide, by decide⟩ rfl (Nat.le_of_ble_eq_true rfl) (twc_mo_put c17 (fun w19 w20 w21 w22 e23 e24 e25 e26 => ?_))
          subst e23
          subst e24
          subst e25
          subst e26
          change tw_rn (tw_YM l D ad cI cZ) Z Post 57 [some (.inr 0), some (.inl v1), some (.inl (twr_mo_next 1 mo_top mo_entry))] [] (tw_mM mo_base mo_measure mo_size mo_kind mo_group mo_width mo_pair mo_known mo_root mo_level mo_type mo_resolved mo_partner (twu_mo_put__mo_top (twr_mo_next 1 mo_top mo_entry) 1 0 mo_top mo_entry mo_override mo_isolate) (twu_mo_put__mo_entry (twr_mo_next 1 mo_top mo_entry) 1 0 mo_top mo_entry mo_override mo_isolate) (twu_mo_put__mo_override (twr_mo_next 1 mo_top mo_entry) 1 0 mo_top mo_entry mo_override mo_isolate) (twu_mo_put__mo_isolate (twr_mo_next 1 mo_top mo_entry) 1 0 mo_top mo_entry mo_override mo_isolate) mo_lostIsolates mo_lostEmbeddings mo_openIsolates mo_n mo_seq mo_mark mo_beginning mo_ending mo_embedding mo_list mo_lines mo_starts mo_shownLevels mo_order)
          refine tw_goto hX twd_mo_embed_57 rfl ?_
          exact tw_vret hX twd_mo_embed_77 (hK _ _ _ _ _ (Eq.symm (Eq.trans (if_pos q109) (Eq.trans (if_neg q110) (Eq.trans (if_neg q112) (if_pos q113))))) (Eq.symm (Eq.trans (if_pos q109) (Eq.trans (if_neg q110) (Eq.trans (if_neg q112) (if_pos q113))))) (Eq.symm (Eq.trans (if_pos q109) (Eq.trans (if_neg q110) (Eq.trans (if_neg q112) (if_pos q113))))) (Eq.symm (Eq.trans (if_pos q109) (Eq.trans (if_neg q110) (Eq.trans (if_neg q112) (if_pos q113))))) (Eq.symm (Eq.trans (if_pos q109) (if_neg q110))))
      · have _tw := trivial
        have h := h.1 q112
        refine tw_iconst hX twd_mo_embed_38 ⟨by decide, by decide⟩ ?_
        refine tw_goto hX twd_mo_embed_39 rfl ?_
        refine tw_iconst hX twd_mo_embed_53 ⟨by decide, by decide⟩ ?_
        have c27 := h
        refine tw_callV (As := [.inl (twr_mo_next 1 mo_top mo_entry), .inl 0, .inl 0]) (n := 3) hX twd_mo_embed_54 tw_good tww_844 tww_841 tww_843 tww_46 tww_86 twk_mo_put rfl rfl ⟨by decide, by decide⟩ rfl (Nat.le_of_ble_eq_true rfl) (twc_mo_put c27 (fun w29 w30 w31 w32 e33 e34 e35 e36 => ?_))
        subst e33
        subst e34
        subst e35
        subst e36
        change tw_rn (tw_YM l D ad cI cZ) Z Post 57 [some (.inr 0), some (.inl v1), some (.inl (twr_mo_next 1 mo_top mo_entry))] [] (tw_mM mo_base mo_measure mo_size mo_kind mo_group mo_width mo_pair mo_known mo_root mo_level mo_type mo_resolved mo_partner (twu_mo_put__mo_top (twr_mo_next 1 mo_top mo_entry) 0 0 mo_top mo_entry mo_override mo_isolate) (twu_mo_put__mo_entry (twr_mo_next 1 mo_top mo_entry) 0 0 mo_top mo_entry mo_override mo_isolate) (twu_mo_put__mo_override (twr_mo_next 1 mo_top mo_entry) 0 0 mo_top mo_entry mo_override mo_isolate) (twu_mo_put__mo_isolate (twr_mo_next 1 mo_top mo_entry) 0 0 mo_top mo_entry mo_override mo_isolate) mo_lostIsolates mo_lostEmbeddings mo_openIsolates mo_n mo_seq mo_mark mo_beginning mo_ending mo_embedding mo_list mo_lines mo_starts mo_shownLevels mo_order)
        refine tw_goto hX twd_mo_embed_57 rfl ?_
        exact tw_vret hX twd_mo_embed_77 (hK _ _ _ _ _ (Eq.symm (Eq.trans (if_pos q109) (Eq.trans (if_neg q110) (if_pos q112)))) (Eq.symm (Eq.trans (if_pos q109) (Eq.trans (if_neg q110) (if_pos q112)))) (Eq.symm (Eq.trans (if_pos q109) (Eq.trans (if_neg q110) (if_pos q112)))) (Eq.symm (Eq.trans (if_pos q109) (Eq.trans (if_neg q110) (if_pos q112)))) (Eq.symm (Eq.trans (if_pos q109) (if_neg q110))))
  · have _tw := trivial
    have h := h.2 q109
    refine tw_iload_n hX twd_mo_embed_7 rfl rfl ?_
    refine tw_bipush hX twd_mo_embed_8 (by decide +kernel) ⟨by decide, by decide⟩ ?_
    refine tw_icmp_ne hX twd_mo_embed_10 rfl (fun q114 => ?_) (fun q114 => ?_)
    · have _tw := trivial
      have h := h.2 q114
      refine tw_iconst hX twd_mo_embed_17 ⟨by decide, by decide⟩ ?_
      obtain ⟨c37, h⟩ := h
      refine tw_callV (As := [.inl 0]) (n := 1) hX twd_mo_embed_18 tw_good tww_852 tww_849 tww_851 tww_48 tww_86 twk_mo_next rfl rfl ⟨by decide, by decide⟩ rfl (Nat.le_of_ble_eq_true rfl) (twc_mo_next c37 (fun z38 e39 => ?_))
      subst e39
      change tw_rn (tw_YM l D ad cI cZ) Z Post 21 [some (.inr 0), some (.inl v1), none] [.inl (twr_mo_next 0 mo_top mo_entry)] (tw_mM mo_base mo_measure mo_size mo_kind mo_group mo_width mo_pair mo_known mo_root mo_level mo_type mo_resolved mo_partner mo_top mo_entry mo_override mo_isolate mo_lostIsolates mo_lostEmbeddings mo_openIsolates mo_n mo_seq mo_mark mo_beginning mo_ending mo_embedding mo_list mo_lines mo_starts mo_shownLevels mo_order)
      refine tw_istore_n (L' := [some (.inr 0), some (.inl v1), some (.inl (twr_mo_next 0 mo_top mo_entry))]) hX twd_mo_embed_21 rfl (by decide) rfl ?_
      refine tw_aload_n hX twd_mo_embed_22 rfl rfl ?_
      refine tw_iload_n hX twd_mo_embed_23 rfl rfl ?_
      refine tw_callV (As := [.inl (twr_mo_next 0 mo_top mo_entry)]) (n := 1) hX twd_mo_embed_24 tw_good tww_856 tww_853 tww_855 tww_49 tww_86 twk_mo_fits rfl rfl ⟨by decide, by decide⟩ rfl (Nat.le_of_ble_eq_true rfl) (twc_mo_fits (fun z40 e41 => ?_))
      subst e41
      change tw_rn (tw_YM l D ad cI cZ) Z Post 27 [some (.inr 0), some (.inl v1), some (.inl (twr_mo_next 0 mo_top mo_entry))] [.inl (twr_mo_fits (twr_mo_next 0 mo_top mo_entry) mo_lostIsolates mo_lostEmbeddings)] (tw_mM mo_base mo_measure mo_size mo_kind mo_group mo_width mo_pair mo_known mo_root mo_level mo_type mo_resolved mo_partner mo_top mo_entry mo_override mo_isolate mo_lostIsolates mo_lostEmbeddings mo_openIsolates mo_n mo_seq mo_mark mo_beginning mo_ending mo_embedding mo_list mo_lines mo_starts mo_shownLevels mo_order)
      refine tw_if_eq hX twd_mo_embed_27 rfl (fun q115 => ?_) (fun q115 => ?_)
      · have _tw := trivial
        have h := h.1 q115
        refine tw_aload_n hX twd_mo_embed_60 rfl rfl ?_
        refine tw_get (kf := 17) hX twd_mo_embed_61 twin_mo rfl (by decide) tww_704 rfl rfl rfl ?_
        refine tw_if_ne hX twd_mo_embed_64 rfl (fun q116 => ?_) (fun q116 => ?_)
        · have _tw := trivial
          exact tw_vret hX twd_mo_embed_77 (hK _ _ _ _ _ (Eq.symm (Eq.trans (if_neg q109) (Eq.trans (if_neg q114) (if_pos q115)))) (Eq.symm (Eq.trans (if_neg q109) (Eq.trans (if_neg q114) (if_pos q115)))) (Eq.symm (Eq.trans (if_neg q109) (Eq.trans (if_neg q114) (if_pos q115)))) (Eq.symm (Eq.trans (if_neg q109) (Eq.trans (if_neg q114) (if_pos q115)))) (Eq.symm (Eq.trans (if_neg q109) (Eq.trans (if_neg q114) (Eq.trans (if_pos q115) (if_neg q116))))))
        · have _tw := trivial
          have h := h q116
          refine tw_aload_n hX twd_mo_embed_67 rfl rfl ?_
          refine tw_dup hX twd_mo_embed_68 ?_
          refine tw_get (kf := 18) hX twd_mo_embed_69 twin_mo rfl (by decide) tww_705 rfl rfl rfl ?_
          refine tw_iconst hX twd_mo_embed_72 ⟨by decide, by decide⟩ ?_
          have c42 := h
          refine tw_iadd hX twd_mo_embed_73 c42 ?_
          refine tw_put (kf := 18) (mem' := (tw_mM mo_base mo_measure mo_size mo_kind mo_group mo_width mo_pair mo_known mo_root mo_level mo_type mo_resolved mo_partner mo_top mo_entry mo_override mo_isolate mo_lostIsolates (mo_lostEmbeddings + 1) mo_openIsolates mo_n mo_seq mo_mark mo_beginning mo_ending mo_embedding mo_list mo_lines mo_starts mo_shownLevels mo_order)) twt_mo hX twd_mo_embed_74 twin_mo twtok_mo twnm_mo rfl (by decide) tww_705 rfl rfl rfl (Or.inl rfl) rfl (Nat.le_of_ble_eq_true rfl) rfl ?_
          exact tw_vret hX twd_mo_embed_77 (hK _ _ _ _ _ (Eq.symm (Eq.trans (if_neg q109) (Eq.trans (if_neg q114) (if_pos q115)))) (Eq.symm (Eq.trans (if_neg q109) (Eq.trans (if_neg q114) (if_pos q115)))) (Eq.symm (Eq.trans (if_neg q109) (Eq.trans (if_neg q114) (if_pos q115)))) (Eq.symm (Eq.trans (if_neg q109) (Eq.trans (if_neg q114) (if_pos q115)))) (Eq.symm (Eq.trans (if_neg q109) (Eq.trans (if_neg q114) (Eq.trans (if_pos q115) (if_pos q116))))))
      · have _tw := trivial
        have h := h.2 q115
        refine tw_aload_n hX twd_mo_embed_30 rfl rfl ?_
        refine tw_iload_n hX twd_mo_embed_31 rfl rfl ?_
        refine tw_iload_n hX twd_mo_embed_32 rfl rfl ?_
        refine tw_bipush hX twd_mo_embed_33 (by decide +kernel) ⟨by decide, by decide⟩ ?_
        refine tw_icmp_ne hX twd_mo_embed_35 rfl (fun q117 => ?_) (fun q117 => ?_)
        · have _tw := trivial
          have h := h.2 q117
          refine tw_iload_n hX twd_mo_embed_42 rfl rfl ?_
          refine tw_bipush hX twd_mo_embed_43 (by decide +kernel) ⟨by decide, by decide⟩ ?_
          refine tw_icmp_ne hX twd_mo_embed_45 rfl (fun q118 => ?_) (fun q118 => ?_)
          · have _tw := trivial
            have h := h.2 q118
            refine tw_iconst hX twd_mo_embed_52 ⟨by decide, by decide⟩ ?_
            refine tw_iconst hX twd_mo_embed_53 ⟨by decide, by decide⟩ ?_
            have c43 := h
            refine tw_callV (As := [.inl (twr_mo_next 0 mo_top mo_entry), .inl ((-1)), .inl 0]) (n := 3) hX twd_mo_embed_54 tw_good tww_844 tww_841 tww_843 tww_46 tww_86 twk_mo_put rfl rfl ⟨by decide, by decide⟩ rfl (Nat.le_of_ble_eq_true rfl) (twc_mo_put c43 (fun w45 w46 w47 w48 e49 e50 e51 e52 => ?_))
            subst e49
            subst e50
            subst e51
            subst e52
            change tw_rn (tw_YM l D ad cI cZ) Z Post 57 [some (.inr 0), some (.inl v1), some (.inl (twr_mo_next 0 mo_top mo_entry))] [] (tw_mM mo_base mo_measure mo_size mo_kind mo_group mo_width mo_pair mo_known mo_root mo_level mo_type mo_resolved mo_partner (twu_mo_put__mo_top (twr_mo_next 0 mo_top mo_entry) (-1) 0 mo_top mo_entry mo_override mo_isolate) (twu_mo_put__mo_entry (twr_mo_next 0 mo_top mo_entry) (-1) 0 mo_top mo_entry mo_override mo_isolate) (twu_mo_put__mo_override (twr_mo_next 0 mo_top mo_entry) (-1) 0 mo_top mo_entry mo_override mo_isolate) (twu_mo_put__mo_isolate (twr_mo_next 0 mo_top mo_entry) (-1) 0 mo_top mo_entry mo_override mo_isolate) mo_lostIsolates mo_lostEmbeddings mo_openIsolates mo_n mo_seq mo_mark mo_beginning mo_ending mo_embedding mo_list mo_lines mo_starts mo_shownLevels mo_order)
            refine tw_goto hX twd_mo_embed_57 rfl ?_
            exact tw_vret hX twd_mo_embed_77 (hK _ _ _ _ _ (Eq.symm (Eq.trans (if_neg q109) (Eq.trans (if_neg q114) (Eq.trans (if_neg q115) (Eq.trans (if_neg q117) (if_neg q118)))))) (Eq.symm (Eq.trans (if_neg q109) (Eq.trans (if_neg q114) (Eq.trans (if_neg q115) (Eq.trans (if_neg q117) (if_neg q118)))))) (Eq.symm (Eq.trans (if_neg q109) (Eq.trans (if_neg q114) (Eq.trans (if_neg q115) (Eq.trans (if_neg q117) (if_neg q118)))))) (Eq.symm (Eq.trans (if_neg q109) (Eq.trans (if_neg q114) (Eq.trans (if_neg q115) (Eq.trans (if_neg q117) (if_neg q118)))))) (Eq.symm (Eq.trans (if_neg q109) (Eq.trans (if_neg q114) (if_neg q115)))))
          · have _tw := trivial
            have h := h.1 q118
            refine tw_iconst hX twd_mo_embed_48 ⟨by decide, by decide⟩ ?_
            refine tw_goto hX twd_mo_embed_49 rfl ?_
            refine tw_iconst hX twd_mo_embed_53 ⟨by decide, by decide⟩ ?_
            have c53 := h
            refine tw_callV (As := [.inl (twr_mo_next 0 mo_top mo_entry), .inl 1, .inl 0]) (n := 3) hX twd_mo_embed_54 tw_good tww_844 tww_841 tww_843 tww_46 tww_86 twk_mo_put rfl rfl ⟨by decide, by decide⟩ rfl (Nat.le_of_ble_eq_true rfl) (twc_mo_put c53 (fun w55 w56 w57 w58 e59 e60 e61 e62 => ?_))
            subst e59
            subst e60
            subst e61
            subst e62
            change tw_rn (tw_YM l D ad cI cZ) Z Post 57 [some (.inr 0), some (.inl v1), some (.inl (twr_mo_next 0 mo_top mo_entry))] [] (tw_mM mo_base mo_measure mo_size mo_kind mo_group mo_width mo_pair mo_known mo_root mo_level mo_type mo_resolved mo_partner (twu_mo_put__mo_top (twr_mo_next 0 mo_top mo_entry) 1 0 mo_top mo_entry mo_override mo_isolate) (twu_mo_put__mo_entry (twr_mo_next 0 mo_top mo_entry) 1 0 mo_top mo_entry mo_override mo_isolate) (twu_mo_put__mo_override (twr_mo_next 0 mo_top mo_entry) 1 0 mo_top mo_entry mo_override mo_isolate) (twu_mo_put__mo_isolate (twr_mo_next 0 mo_top mo_entry) 1 0 mo_top mo_entry mo_override mo_isolate) mo_lostIsolates mo_lostEmbeddings mo_openIsolates mo_n mo_seq mo_mark mo_beginning mo_ending mo_embedding mo_list mo_lines mo_starts mo_shownLevels mo_order)
            refine tw_goto hX twd_mo_embed_57 rfl ?_
            exact tw_vret hX twd_mo_embed_77 (hK _ _ _ _ _ (Eq.symm (Eq.trans (if_neg q109) (Eq.trans (if_neg q114) (Eq.trans (if_neg q115) (Eq.trans (if_neg q117) (if_pos q118)))))) (Eq.symm (Eq.trans (if_neg q109) (Eq.trans (if_neg q114) (Eq.trans (if_neg q115) (Eq.trans (if_neg q117) (if_pos q118)))))) (Eq.symm (Eq.trans (if_neg q109) (Eq.trans (if_neg q114) (Eq.trans (if_neg q115) (Eq.trans (if_neg q117) (if_pos q118)))))) (Eq.symm (Eq.trans (if_neg q109) (Eq.trans (if_neg q114) (Eq.trans (if_neg q115) (Eq.trans (if_neg q117) (if_pos q118)))))) (Eq.symm (Eq.trans (if_neg q109) (Eq.trans (if_neg q114) (if_neg q115)))))
        · have _tw := trivial
          have h := h.1 q117
          refine tw_iconst hX twd_mo_embed_38 ⟨by decide, by decide⟩ ?_
          refine tw_goto hX twd_mo_embed_39 rfl ?_
          refine tw_iconst hX twd_mo_embed_53 ⟨by decide, by decide⟩ ?_
          have c63 := h
          refine tw_callV (As := [.inl (twr_mo_next 0 mo_top mo_entry), .inl 0, .inl 0]) (n := 3) hX twd_mo_embed_54 tw_good tww_844 tww_841 tww_843 tww_46 tww_86 twk_mo_put rfl rfl ⟨by decide, by decide⟩ rfl (Nat.le_of_ble_eq_true rfl) (twc_mo_put c63 (fun w65 w66 w67 w68 e69 e70 e71 e72 => ?_))
          subst e69
          subst e70
          subst e71
          subst e72
          change tw_rn (tw_YM l D ad cI cZ) Z Post 57 [some (.inr 0), some (.inl v1), some (.inl (twr_mo_next 0 mo_top mo_entry))] [] (tw_mM mo_base mo_measure mo_size mo_kind mo_group mo_width mo_pair mo_known mo_root mo_level mo_type mo_resolved mo_partner (twu_mo_put__mo_top (twr_mo_next 0 mo_top mo_entry) 0 0 mo_top mo_entry mo_override mo_isolate) (twu_mo_put__mo_entry (twr_mo_next 0 mo_top mo_entry) 0 0 mo_top mo_entry mo_override mo_isolate) (twu_mo_put__mo_override (twr_mo_next 0 mo_top mo_entry) 0 0 mo_top mo_entry mo_override mo_isolate) (twu_mo_put__mo_isolate (twr_mo_next 0 mo_top mo_entry) 0 0 mo_top mo_entry mo_override mo_isolate) mo_lostIsolates mo_lostEmbeddings mo_openIsolates mo_n mo_seq mo_mark mo_beginning mo_ending mo_embedding mo_list mo_lines mo_starts mo_shownLevels mo_order)
          refine tw_goto hX twd_mo_embed_57 rfl ?_
          exact tw_vret hX twd_mo_embed_77 (hK _ _ _ _ _ (Eq.symm (Eq.trans (if_neg q109) (Eq.trans (if_neg q114) (Eq.trans (if_neg q115) (if_pos q117))))) (Eq.symm (Eq.trans (if_neg q109) (Eq.trans (if_neg q114) (Eq.trans (if_neg q115) (if_pos q117))))) (Eq.symm (Eq.trans (if_neg q109) (Eq.trans (if_neg q114) (Eq.trans (if_neg q115) (if_pos q117))))) (Eq.symm (Eq.trans (if_neg q109) (Eq.trans (if_neg q114) (Eq.trans (if_neg q115) (if_pos q117))))) (Eq.symm (Eq.trans (if_neg q109) (Eq.trans (if_neg q114) (if_neg q115)))))
    · have _tw := trivial
      have h := h.1 q114
      refine tw_iconst hX twd_mo_embed_13 ⟨by decide, by decide⟩ ?_
      refine tw_goto hX twd_mo_embed_14 rfl ?_
      obtain ⟨c73, h⟩ := h
      refine tw_callV (As := [.inl 1]) (n := 1) hX twd_mo_embed_18 tw_good tww_852 tww_849 tww_851 tww_48 tww_86 twk_mo_next rfl rfl ⟨by decide, by decide⟩ rfl (Nat.le_of_ble_eq_true rfl) (twc_mo_next c73 (fun z74 e75 => ?_))
      subst e75
      change tw_rn (tw_YM l D ad cI cZ) Z Post 21 [some (.inr 0), some (.inl v1), none] [.inl (twr_mo_next 1 mo_top mo_entry)] (tw_mM mo_base mo_measure mo_size mo_kind mo_group mo_width mo_pair mo_known mo_root mo_level mo_type mo_resolved mo_partner mo_top mo_entry mo_override mo_isolate mo_lostIsolates mo_lostEmbeddings mo_openIsolates mo_n mo_seq mo_mark mo_beginning mo_ending mo_embedding mo_list mo_lines mo_starts mo_shownLevels mo_order)
      refine tw_istore_n (L' := [some (.inr 0), some (.inl v1), some (.inl (twr_mo_next 1 mo_top mo_entry))]) hX twd_mo_embed_21 rfl (by decide) rfl ?_
      refine tw_aload_n hX twd_mo_embed_22 rfl rfl ?_
      refine tw_iload_n hX twd_mo_embed_23 rfl rfl ?_
      refine tw_callV (As := [.inl (twr_mo_next 1 mo_top mo_entry)]) (n := 1) hX twd_mo_embed_24 tw_good tww_856 tww_853 tww_855 tww_49 tww_86 twk_mo_fits rfl rfl ⟨by decide, by decide⟩ rfl (Nat.le_of_ble_eq_true rfl) (twc_mo_fits (fun z76 e77 => ?_))
      subst e77
      change tw_rn (tw_YM l D ad cI cZ) Z Post 27 [some (.inr 0), some (.inl v1), some (.inl (twr_mo_next 1 mo_top mo_entry))] [.inl (twr_mo_fits (twr_mo_next 1 mo_top mo_entry) mo_lostIsolates mo_lostEmbeddings)] (tw_mM mo_base mo_measure mo_size mo_kind mo_group mo_width mo_pair mo_known mo_root mo_level mo_type mo_resolved mo_partner mo_top mo_entry mo_override mo_isolate mo_lostIsolates mo_lostEmbeddings mo_openIsolates mo_n mo_seq mo_mark mo_beginning mo_ending mo_embedding mo_list mo_lines mo_starts mo_shownLevels mo_order)
      refine tw_if_eq hX twd_mo_embed_27 rfl (fun q119 => ?_) (fun q119 => ?_)
      · have _tw := trivial
        have h := h.1 q119
        refine tw_aload_n hX twd_mo_embed_60 rfl rfl ?_
        refine tw_get (kf := 17) hX twd_mo_embed_61 twin_mo rfl (by decide) tww_704 rfl rfl rfl ?_
        refine tw_if_ne hX twd_mo_embed_64 rfl (fun q120 => ?_) (fun q120 => ?_)
        · have _tw := trivial
          exact tw_vret hX twd_mo_embed_77 (hK _ _ _ _ _ (Eq.symm (Eq.trans (if_neg q109) (Eq.trans (if_pos q114) (if_pos q119)))) (Eq.symm (Eq.trans (if_neg q109) (Eq.trans (if_pos q114) (if_pos q119)))) (Eq.symm (Eq.trans (if_neg q109) (Eq.trans (if_pos q114) (if_pos q119)))) (Eq.symm (Eq.trans (if_neg q109) (Eq.trans (if_pos q114) (if_pos q119)))) (Eq.symm (Eq.trans (if_neg q109) (Eq.trans (if_pos q114) (Eq.trans (if_pos q119) (if_neg q120))))))
        · have _tw := trivial
          have h := h q120
          refine tw_aload_n hX twd_mo_embed_67 rfl rfl ?_
          refine tw_dup hX twd_mo_embed_68 ?_
          refine tw_get (kf := 18) hX twd_mo_embed_69 twin_mo rfl (by decide) tww_705 rfl rfl rfl ?_
          refine tw_iconst hX twd_mo_embed_72 ⟨by decide, by decide⟩ ?_
          have c78 := h
          refine tw_iadd hX twd_mo_embed_73 c78 ?_
          refine tw_put (kf := 18) (mem' := (tw_mM mo_base mo_measure mo_size mo_kind mo_group mo_width mo_pair mo_known mo_root mo_level mo_type mo_resolved mo_partner mo_top mo_entry mo_override mo_isolate mo_lostIsolates (mo_lostEmbeddings + 1) mo_openIsolates mo_n mo_seq mo_mark mo_beginning mo_ending mo_embedding mo_list mo_lines mo_starts mo_shownLevels mo_order)) twt_mo hX twd_mo_embed_74 twin_mo twtok_mo twnm_mo rfl (by decide) tww_705 rfl rfl rfl (Or.inl rfl) rfl (Nat.le_of_ble_eq_true rfl) rfl ?_
          exact tw_vret hX twd_mo_embed_77 (hK _ _ _ _ _ (Eq.symm (Eq.trans (if_neg q109) (Eq.trans (if_pos q114) (if_pos q119)))) (Eq.symm (Eq.trans (if_neg q109) (Eq.trans (if_pos q114) (if_pos q119)))) (Eq.symm (Eq.trans (if_neg q109) (Eq.trans (if_pos q114) (if_pos q119)))) (Eq.symm (Eq.trans (if_neg q109) (Eq.trans (if_pos q114) (if_pos q119)))) (Eq.symm (Eq.trans (if_neg q109) (Eq.trans (if_pos q114) (Eq.trans (if_pos q119) (if_pos q120))))))
      · have _tw := trivial
        have h := h.2 q119
        refine tw_aload_n hX twd_mo_embed_30 rfl rfl ?_
        refine tw_iload_n hX twd_mo_embed_31 rfl rfl ?_
        refine tw_iload_n hX twd_mo_embed_32 rfl rfl ?_
        refine tw_bipush hX twd_mo_embed_33 (by decide +kernel) ⟨by decide, by decide⟩ ?_
        refine tw_icmp_ne hX twd_mo_embed_35 rfl (fun q121 => ?_) (fun q121 => ?_)
        · have _tw := trivial
          have h := h.2 q121
          refine tw_iload_n hX twd_mo_embed_42 rfl rfl ?_
          refine tw_bipush hX twd_mo_embed_43 (by decide +kernel) ⟨by decide, by decide⟩ ?_
          refine tw_icmp_ne hX twd_mo_embed_45 rfl (fun q122 => ?_) (fun q122 => ?_)
          · have _tw := trivial
            have h := h.2 q122
            refine tw_iconst hX twd_mo_embed_52 ⟨by decide, by decide⟩ ?_
            refine tw_iconst hX twd_mo_embed_53 ⟨by decide, by decide⟩ ?_
            have c79 := h
            refine tw_callV (As := [.inl (twr_mo_next 1 mo_top mo_entry), .inl ((-1)), .inl 0]) (n := 3) hX twd_mo_embed_54 tw_good tww_844 tww_841 tww_843 tww_46 tww_86 twk_mo_put rfl rfl ⟨by decide, by decide⟩ rfl (Nat.le_of_ble_eq_true rfl) (twc_mo_put c79 (fun w81 w82 w83 w84 e85 e86 e87 e88 => ?_))
            subst e85
            subst e86
            subst e87
            subst e88
            change tw_rn (tw_YM l D ad cI cZ) Z Post 57 [some (.inr 0), some (.inl v1), some (.inl (twr_mo_next 1 mo_top mo_entry))] [] (tw_mM mo_base mo_measure mo_size mo_kind mo_group mo_width mo_pair mo_known mo_root mo_level mo_type mo_resolved mo_partner (twu_mo_put__mo_top (twr_mo_next 1 mo_top mo_entry) (-1) 0 mo_top mo_entry mo_override mo_isolate) (twu_mo_put__mo_entry (twr_mo_next 1 mo_top mo_entry) (-1) 0 mo_top mo_entry mo_override mo_isolate) (twu_mo_put__mo_override (twr_mo_next 1 mo_top mo_entry) (-1) 0 mo_top mo_entry mo_override mo_isolate) (twu_mo_put__mo_isolate (twr_mo_next 1 mo_top mo_entry) (-1) 0 mo_top mo_entry mo_override mo_isolate) mo_lostIsolates mo_lostEmbeddings mo_openIsolates mo_n mo_seq mo_mark mo_beginning mo_ending mo_embedding mo_list mo_lines mo_starts mo_shownLevels mo_order)
            refine tw_goto hX twd_mo_embed_57 rfl ?_
            exact tw_vret hX twd_mo_embed_77 (hK _ _ _ _ _ (Eq.symm (Eq.trans (if_neg q109) (Eq.trans (if_pos q114) (Eq.trans (if_neg q119) (Eq.trans (if_neg q121) (if_neg q122)))))) (Eq.symm (Eq.trans (if_neg q109) (Eq.trans (if_pos q114) (Eq.trans (if_neg q119) (Eq.trans (if_neg q121) (if_neg q122)))))) (Eq.symm (Eq.trans (if_neg q109) (Eq.trans (if_pos q114) (Eq.trans (if_neg q119) (Eq.trans (if_neg q121) (if_neg q122)))))) (Eq.symm (Eq.trans (if_neg q109) (Eq.trans (if_pos q114) (Eq.trans (if_neg q119) (Eq.trans (if_neg q121) (if_neg q122)))))) (Eq.symm (Eq.trans (if_neg q109) (Eq.trans (if_pos q114) (if_neg q119)))))
          · have _tw := trivial
            have h := h.1 q122
            refine tw_iconst hX twd_mo_embed_48 ⟨by decide, by decide⟩ ?_
            refine tw_goto hX twd_mo_embed_49 rfl ?_
            refine tw_iconst hX twd_mo_embed_53 ⟨by decide, by decide⟩ ?_
            have c89 := h
            refine tw_callV (As := [.inl (twr_mo_next 1 mo_top mo_entry), .inl 1, .inl 0]) (n := 3) hX twd_mo_embed_54 tw_good tww_844 tww_841 tww_843 tww_46 tww_86 twk_mo_put rfl rfl ⟨by decide, by decide⟩ rfl (Nat.le_of_ble_eq_true rfl) (twc_mo_put c89 (fun w91 w92 w93 w94 e95 e96 e97 e98 => ?_))
            subst e95
            subst e96
            subst e97
            subst e98
            change tw_rn (tw_YM l D ad cI cZ) Z Post 57 [some (.inr 0), some (.inl v1), some (.inl (twr_mo_next 1 mo_top mo_entry))] [] (tw_mM mo_base mo_measure mo_size mo_kind mo_group mo_width mo_pair mo_known mo_root mo_level mo_type mo_resolved mo_partner (twu_mo_put__mo_top (twr_mo_next 1 mo_top mo_entry) 1 0 mo_top mo_entry mo_override mo_isolate) (twu_mo_put__mo_entry (twr_mo_next 1 mo_top mo_entry) 1 0 mo_top mo_entry mo_override mo_isolate) (twu_mo_put__mo_override (twr_mo_next 1 mo_top mo_entry) 1 0 mo_top mo_entry mo_override mo_isolate) (twu_mo_put__mo_isolate (twr_mo_next 1 mo_top mo_entry) 1 0 mo_top mo_entry mo_override mo_isolate) mo_lostIsolates mo_lostEmbeddings mo_openIsolates mo_n mo_seq mo_mark mo_beginning mo_ending mo_embedding mo_list mo_lines mo_starts mo_shownLevels mo_order)
            refine tw_goto hX twd_mo_embed_57 rfl ?_
            exact tw_vret hX twd_mo_embed_77 (hK _ _ _ _ _ (Eq.symm (Eq.trans (if_neg q109) (Eq.trans (if_pos q114) (Eq.trans (if_neg q119) (Eq.trans (if_neg q121) (if_pos q122)))))) (Eq.symm (Eq.trans (if_neg q109) (Eq.trans (if_pos q114) (Eq.trans (if_neg q119) (Eq.trans (if_neg q121) (if_pos q122)))))) (Eq.symm (Eq.trans (if_neg q109) (Eq.trans (if_pos q114) (Eq.trans (if_neg q119) (Eq.trans (if_neg q121) (if_pos q122)))))) (Eq.symm (Eq.trans (if_neg q109) (Eq.trans (if_pos q114) (Eq.trans (if_neg q119) (Eq.trans (if_neg q121) (if_pos q122)))))) (Eq.symm (Eq.trans (if_neg q109) (Eq.trans (if_pos q114) (if_neg q119)))))
        · have _tw := trivial
          have h := h.1 q121
          refine tw_iconst hX twd_mo_embed_38 ⟨by decide, by decide⟩ ?_
          refine tw_goto hX twd_mo_embed_39 rfl ?_
          refine tw_iconst hX twd_mo_embed_53 ⟨by decide, by decide⟩ ?_
          have c99 := h
          refine tw_callV (As := [.inl (twr_mo_next 1 mo_top mo_entry), .inl 0, .inl 0]) (n := 3) hX twd_mo_embed_54 tw_good tww_844 tww_841 tww_843 tww_46 tww_86 twk_mo_put rfl rfl ⟨by decide, by decide⟩ rfl (Nat.le_of_ble_eq_true rfl) (twc_mo_put c99 (fun w101 w102 w103 w104 e105 e106 e107 e108 => ?_))
          subst e105
          subst e106
          subst e107
          subst e108
          change tw_rn (tw_YM l D ad cI cZ) Z Post 57 [some (.inr 0), some (.inl v1), some (.inl (twr_mo_next 1 mo_top mo_entry))] [] (tw_mM mo_base mo_measure mo_size mo_kind mo_group mo_width mo_pair mo_known mo_root mo_level mo_type mo_resolved mo_partner (twu_mo_put__mo_top (twr_mo_next 1 mo_top mo_entry) 0 0 mo_top mo_entry mo_override mo_isolate) (twu_mo_put__mo_entry (twr_mo_next 1 mo_top mo_entry) 0 0 mo_top mo_entry mo_override mo_isolate) (twu_mo_put__mo_override (twr_mo_next 1 mo_top mo_entry) 0 0 mo_top mo_entry mo_override mo_isolate) (twu_mo_put__mo_isolate (twr_mo_next 1 mo_top mo_entry) 0 0 mo_top mo_entry mo_override mo_isolate) mo_lostIsolates mo_lostEmbeddings mo_openIsolates mo_n mo_seq mo_mark mo_beginning mo_ending mo_embedding mo_list mo_lines mo_starts mo_shownLevels mo_order)
          refine tw_goto hX twd_mo_embed_57 rfl ?_
          exact tw_vret hX twd_mo_embed_77 (hK _ _ _ _ _ (Eq.symm (Eq.trans (if_neg q109) (Eq.trans (if_pos q114) (Eq.trans (if_neg q119) (if_pos q121))))) (Eq.symm (Eq.trans (if_neg q109) (Eq.trans (if_pos q114) (Eq.trans (if_neg q119) (if_pos q121))))) (Eq.symm (Eq.trans (if_neg q109) (Eq.trans (if_pos q114) (Eq.trans (if_neg q119) (if_pos q121))))) (Eq.symm (Eq.trans (if_neg q109) (Eq.trans (if_pos q114) (Eq.trans (if_neg q119) (if_pos q121))))) (Eq.symm (Eq.trans (if_neg q109) (Eq.trans (if_pos q114) (if_neg q119)))))
def tww_mo_isolateAt (v1 : Int) (mo_size : Int) (mo_kind : Nat → Int) (mo_level : Nat → Int) (mo_type : Nat → Int) (mo_top : Int) (mo_entry : Nat → Int) (mo_override : Nat → Int) (mo_isolate : Nat → Int) (mo_lostIsolates : Int) (mo_lostEmbeddings : Int) (mo_openIsolates : Int) (K : (Nat → Int) → (Nat → Int) → Int → (Nat → Int) → (Nat → Int) → (Nat → Int) → Int → Int → Prop) : Prop :=
  (two_mo_settle v1 mo_kind mo_level mo_type mo_top mo_entry mo_override) ∧ tww_mo_closing v1 mo_size mo_kind (fun z7 =>
  (0 ≤ v1 ∧ v1 < 64) ∧ (∀ J12 : Int → (Nat → Int) → (Nat → Int) → Prop, (∀ (x9 : Int) (x_10_mo_level : Nat → Int) (x_11_mo_type : Nat → Int), ((two_mo_next x9 mo_top mo_entry) ∧ (((twr_mo_fits (twr_mo_next x9 mo_top mo_entry) mo_lostIsolates mo_lostEmbeddings) = 0 →
    (tw_rg (mo_lostIsolates + 1)) ∧ K x_10_mo_level x_11_mo_type mo_top mo_entry mo_override mo_isolate (mo_lostIsolates + 1) mo_openIsolates) ∧
    (¬ (twr_mo_fits (twr_mo_next x9 mo_top mo_entry) mo_lostIsolates mo_lostEmbeddings) = 0 →
    (tw_rg (mo_openIsolates + 1)) ∧ (two_mo_put (twr_mo_next x9 mo_top mo_entry) (-1) 1 mo_top mo_entry mo_override mo_isolate) ∧ K x_10_mo_level x_11_mo_type (twu_mo_put__mo_top (twr_mo_next x9 mo_top mo_entry) (-1) 1 mo_top mo_entry mo_override mo_isolate) (twu_mo_put__mo_entry (twr_mo_next x9 mo_top mo_entry) (-1) 1 mo_top mo_entry mo_override mo_isolate) (twu_mo_put__mo_override (twr_mo_next x9 mo_top mo_entry) (-1) 1 mo_top mo_entry mo_override mo_isolate) (twu_mo_put__mo_isolate (twr_mo_next x9 mo_top mo_entry) (-1) 1 mo_top mo_entry mo_override mo_isolate) mo_lostIsolates (mo_openIsolates + 1)))) → J12 x9 x_10_mo_level x_11_mo_type) →
  ∀ J33 : (Nat → Int) → (Nat → Int) → Prop, (∀ (x_31_mo_level : Nat → Int) (x_32_mo_type : Nat → Int), (J12 1 x_31_mo_level x_32_mo_type) → J33 x_31_mo_level x_32_mo_type) →
  (((mo_kind (Int.toNat v1)) = 18 →
  J33 (twu_mo_settle__mo_level v1 mo_kind mo_level mo_type mo_top mo_entry mo_override) (twu_mo_settle__mo_type v1 mo_kind mo_level mo_type mo_top mo_entry mo_override)) ∧
  (¬ (mo_kind (Int.toNat v1)) = 18 →
  (0 ≤ v1 ∧ v1 < 64) ∧ (∀ J35 : Prop, ((J12 0 (twu_mo_settle__mo_level v1 mo_kind mo_level mo_type mo_top mo_entry mo_override) (twu_mo_settle__mo_type v1 mo_kind mo_level mo_type mo_top mo_entry mo_override)) → J35) →
    (((mo_kind (Int.toNat v1)) = 19 →
    (tw_rg (v1 + 1)) ∧ (∀ x37 : Int, x37 = (if 0 ≤ z7 then z7 else mo_size) →
      tww_mo_direction (v1 + 1) x37 mo_size mo_kind (fun z38 =>
        ((z38 = 1 →
        J33 (twu_mo_settle__mo_level v1 mo_kind mo_level mo_type mo_top mo_entry mo_override) (twu_mo_settle__mo_type v1 mo_kind mo_level mo_type mo_top mo_entry mo_override)) ∧
        (¬ z38 = 1 →
        J35))))) ∧
    (¬ (mo_kind (Int.toNat v1)) = 19 →
    J35)))))))
set_option maxRecDepth 100000 in
set_option maxHeartbeats 4000000 in
theorem twc_mo_isolateAt {l : Launch} {D : va_G} {ad : Nat → Nat} {cI cZ : ClassId} {Post : tw_P} {K : (Nat → Int) → (Nat → Int) → Int → (Nat → Int) → (Nat → Int) → (Nat → Int) → Int → Int → Prop} {v1 : Int} {mo_base mo_measure mo_size mo_known mo_root mo_top mo_lostIsolates mo_lostEmbeddings mo_openIsolates mo_n mo_beginning mo_ending mo_embedding mo_lines : Int} {mo_kind mo_group mo_width mo_pair mo_level mo_type mo_resolved mo_partner mo_entry mo_override mo_isolate mo_seq mo_mark mo_list mo_starts mo_shownLevels mo_order : Nat → Int} (h : tww_mo_isolateAt v1 mo_size mo_kind mo_level mo_type mo_top mo_entry mo_override mo_isolate mo_lostIsolates mo_lostEmbeddings mo_openIsolates K) (hK : ∀ (n_mo_level : Nat → Int) (n_mo_type : Nat → Int) (n_mo_top : Int) (n_mo_entry : Nat → Int) (n_mo_override : Nat → Int) (n_mo_isolate : Nat → Int) (n_mo_lostIsolates : Int) (n_mo_openIsolates : Int), K n_mo_level n_mo_type n_mo_top n_mo_entry n_mo_override n_mo_isolate n_mo_lostIsolates n_mo_openIsolates → Post none (tw_mM mo_base mo_measure mo_size mo_kind mo_group mo_width mo_pair mo_known mo_root n_mo_level n_mo_type mo_resolved mo_partner n_mo_top n_mo_entry n_mo_override n_mo_isolate n_mo_lostIsolates mo_lostEmbeddings n_mo_openIsolates mo_n mo_seq mo_mark mo_beginning mo_ending mo_embedding mo_list mo_lines mo_starts mo_shownLevels mo_order)) : tw_ct (tw_YM l D ad cI cZ) twy_mo_isolateAt (Cond.code twy_mo_isolateAt prog_11_method_18_code 5 none :: tw_Wg) 3 [.inr 0, .inl v1] (tw_mM mo_base mo_measure mo_size mo_kind mo_group mo_width mo_pair mo_known mo_root mo_level mo_type mo_resolved mo_partner mo_top mo_entry mo_override mo_isolate mo_lostIsolates mo_lostEmbeddings mo_openIsolates mo_n mo_seq mo_mark mo_beginning mo_ending mo_embedding mo_list mo_lines mo_starts mo_shownLevels mo_order) Post := by
  refine tw_of (own := twR_mo) (L0 := [some (.inr 0), some (.inl v1), none, none, none]) (by decide) rfl rfl (Nat.le_of_ble_eq_true rfl) (fun Z hX => ?_)
  unfold tww_mo_isolateAt at h
  refine tw_aload_n hX twd_mo_isolateAt_0 rfl rfl ?_
  refine tw_iload_n hX twd_mo_isolateAt_1 rfl rfl ?_
  obtain ⟨c1, h⟩ := h
  refine tw_callV (As := [.inl v1]) (n := 1) hX twd_mo_isolateAt_2 tw_good tww_868 tww_865 tww_867 tww_52 tww_86 twk_mo_settle rfl rfl ⟨by decide, by decide⟩ rfl (Nat.le_of_ble_eq_true rfl) (twc_mo_settle c1 (fun w3 w4 e5 e6 => ?_))
  subst e5
  subst e6
  change tw_rn (tw_YM l D ad cI cZ) Z Post 5 [some (.inr 0), some (.inl v1), none, none, none] [] (tw_mM mo_base mo_measure mo_size mo_kind mo_group mo_width mo_pair mo_known mo_root (twu_mo_settle__mo_level v1 mo_kind mo_level mo_type mo_top mo_entry mo_override) (twu_mo_settle__mo_type v1 mo_kind mo_level mo_type mo_top mo_entry mo_override) mo_resolved mo_partner mo_top mo_entry mo_override mo_isolate mo_lostIsolates mo_lostEmbeddings mo_openIsolates mo_n mo_seq mo_mark mo_beginning mo_ending mo_embedding mo_list mo_lines mo_starts mo_shownLevels mo_order)
  refine tw_aload_n hX twd_mo_isolateAt_5 rfl rfl ?_
  refine tw_iload_n hX twd_mo_isolateAt_6 rfl rfl ?_
  refine tw_callV (As := [.inl v1]) (n := 1) hX twd_mo_isolateAt_7 tw_good tww_816 tww_813 tww_815 tww_41 tww_86 twk_mo_closing rfl rfl ⟨by decide, by decide⟩ rfl (Nat.le_of_ble_eq_true rfl) (twc_mo_closing h (fun z7 h => ?_))
  change tw_rn (tw_YM l D ad cI cZ) Z Post 10 [some (.inr 0), some (.inl v1), none, none, none] [.inl z7] (tw_mM mo_base mo_measure mo_size mo_kind mo_group mo_width mo_pair mo_known mo_root (twu_mo_settle__mo_level v1 mo_kind mo_level mo_type mo_top mo_entry mo_override) (twu_mo_settle__mo_type v1 mo_kind mo_level mo_type mo_top mo_entry mo_override) mo_resolved mo_partner mo_top mo_entry mo_override mo_isolate mo_lostIsolates mo_lostEmbeddings mo_openIsolates mo_n mo_seq mo_mark mo_beginning mo_ending mo_embedding mo_list mo_lines mo_starts mo_shownLevels mo_order)
  refine tw_istore_n (L' := [some (.inr 0), some (.inl v1), some (.inl z7), none, none]) hX twd_mo_isolateAt_10 rfl (by decide) rfl ?_
  refine tw_aload_n hX twd_mo_isolateAt_11 rfl rfl ?_
  refine tw_get (kf := 3) hX twd_mo_isolateAt_12 twin_mo rfl (by decide) tww_690 rfl rfl rfl ?_
  refine tw_iload_n hX twd_mo_isolateAt_15 rfl rfl ?_
  obtain ⟨c8, h⟩ := h
  refine tw_iaload hX twd_mo_isolateAt_16 rfl c8 ?_
  refine tw_bipush hX twd_mo_isolateAt_17 (by decide +kernel) ⟨by decide, by decide⟩ ?_
  have h := h (fun (x9 : Int) (x_10_mo_level : Nat → Int) (x_11_mo_type : Nat → Int) => tw_rn (tw_YM l D ad cI cZ) Z Post 61 [some (.inr 0), none, none, none, none] [.inl x9] (tw_mM mo_base mo_measure mo_size mo_kind mo_group mo_width mo_pair mo_known mo_root x_10_mo_level x_11_mo_type mo_resolved mo_partner mo_top mo_entry mo_override mo_isolate mo_lostIsolates mo_lostEmbeddings mo_openIsolates mo_n mo_seq mo_mark mo_beginning mo_ending mo_embedding mo_list mo_lines mo_starts mo_shownLevels mo_order)) (by
    intro x9 x_10_mo_level x_11_mo_type h
    refine tw_istore_n (L' := [some (.inr 0), none, none, some (.inl x9), none]) hX twd_mo_isolateAt_61 rfl (by decide) rfl ?_
    refine tw_aload_n hX twd_mo_isolateAt_62 rfl rfl ?_
    refine tw_iload_n hX twd_mo_isolateAt_63 rfl rfl ?_
    obtain ⟨c13, h⟩ := h
    refine tw_callV (As := [.inl x9]) (n := 1) hX twd_mo_isolateAt_64 tw_good tww_852 tww_849 tww_851 tww_48 tww_86 twk_mo_next rfl rfl ⟨by decide, by decide⟩ rfl (Nat.le_of_ble_eq_true rfl) (twc_mo_next c13 (fun z14 e15 => ?_))
    subst e15
    change tw_rn (tw_YM l D ad cI cZ) Z Post 67 [some (.inr 0), none, none, some (.inl x9), none] [.inl (twr_mo_next x9 mo_top mo_entry)] (tw_mM mo_base mo_measure mo_size mo_kind mo_group mo_width mo_pair mo_known mo_root x_10_mo_level x_11_mo_type mo_resolved mo_partner mo_top mo_entry mo_override mo_isolate mo_lostIsolates mo_lostEmbeddings mo_openIsolates mo_n mo_seq mo_mark mo_beginning mo_ending mo_embedding mo_list mo_lines mo_starts mo_shownLevels mo_order)
    refine tw_istore (L' := [some (.inr 0), none, none, some (.inl x9), some (.inl (twr_mo_next x9 mo_top mo_entry))]) hX twd_mo_isolateAt_67 (by decide) rfl ?_
    refine tw_aload_n hX twd_mo_isolateAt_69 rfl rfl ?_
    refine tw_iload hX twd_mo_isolateAt_70 rfl ?_
    refine tw_callV (As := [.inl (twr_mo_next x9 mo_top mo_entry)]) (n := 1) hX twd_mo_isolateAt_72 tw_good tww_856 tww_853 tww_855 tww_49 tww_86 twk_mo_fits rfl rfl ⟨by decide, by decide⟩ rfl (Nat.le_of_ble_eq_true rfl) (twc_mo_fits (fun z16 e17 => ?_))
    subst e17
    change tw_rn (tw_YM l D ad cI cZ) Z Post 75 [some (.inr 0), none, none, some (.inl x9), some (.inl (twr_mo_next x9 mo_top mo_entry))] [.inl (twr_mo_fits (twr_mo_next x9 mo_top mo_entry) mo_lostIsolates mo_lostEmbeddings)] (tw_mM mo_base mo_measure mo_size mo_kind mo_group mo_width mo_pair mo_known mo_root x_10_mo_level x_11_mo_type mo_resolved mo_partner mo_top mo_entry mo_override mo_isolate mo_lostIsolates mo_lostEmbeddings mo_openIsolates mo_n mo_seq mo_mark mo_beginning mo_ending mo_embedding mo_list mo_lines mo_starts mo_shownLevels mo_order)
    refine tw_if_eq hX twd_mo_isolateAt_75 rfl (fun q30 => ?_) (fun q30 => ?_)
    · have h := h.1 q30
      refine tw_aload_n hX twd_mo_isolateAt_99 rfl rfl ?_
      refine tw_dup hX twd_mo_isolateAt_100 ?_
      refine tw_get (kf := 17) hX twd_mo_isolateAt_101 twin_mo rfl (by decide) tww_704 rfl rfl rfl ?_
      refine tw_iconst hX twd_mo_isolateAt_104 ⟨by decide, by decide⟩ ?_
      obtain ⟨c18, h⟩ := h
      refine tw_iadd hX twd_mo_isolateAt_105 c18 ?_
      refine tw_put (kf := 17) (mem' := (tw_mM mo_base mo_measure mo_size mo_kind mo_group mo_width mo_pair mo_known mo_root x_10_mo_level x_11_mo_type mo_resolved mo_partner mo_top mo_entry mo_override mo_isolate (mo_lostIsolates + 1) mo_lostEmbeddings mo_openIsolates mo_n mo_seq mo_mark mo_beginning mo_ending mo_embedding mo_list mo_lines mo_starts mo_shownLevels mo_order)) twt_mo hX twd_mo_isolateAt_106 twin_mo twtok_mo twnm_mo rfl (by decide) tww_704 rfl rfl rfl (Or.inl rfl) rfl (Nat.le_of_ble_eq_true rfl) rfl ?_
      exact tw_vret hX twd_mo_isolateAt_109 (hK _ _ _ _ _ _ _ _ h)
    · have h := h.2 q30
      refine tw_aload_n hX twd_mo_isolateAt_78 rfl rfl ?_
      refine tw_dup hX twd_mo_isolateAt_79 ?_
      refine tw_get (kf := 19) hX twd_mo_isolateAt_80 twin_mo rfl (by decide) tww_706 rfl rfl rfl ?_
      refine tw_iconst hX twd_mo_isolateAt_83 ⟨by decide, by decide⟩ ?_
      obtain ⟨c19, h⟩ := h
      refine tw_iadd hX twd_mo_isolateAt_84 c19 ?_
      refine tw_put (kf := 19) (mem' := (tw_mM mo_base mo_measure mo_size mo_kind mo_group mo_width mo_pair mo_known mo_root x_10_mo_level x_11_mo_type mo_resolved mo_partner mo_top mo_entry mo_override mo_isolate mo_lostIsolates mo_lostEmbeddings (mo_openIsolates + 1) mo_n mo_seq mo_mark mo_beginning mo_ending mo_embedding mo_list mo_lines mo_starts mo_shownLevels mo_order)) twt_mo hX twd_mo_isolateAt_85 twin_mo twtok_mo twnm_mo rfl (by decide) tww_706 rfl rfl rfl (Or.inl rfl) rfl (Nat.le_of_ble_eq_true rfl) rfl ?_
      refine tw_aload_n hX twd_mo_isolateAt_88 rfl rfl ?_
      refine tw_iload hX twd_mo_isolateAt_89 rfl ?_
      refine tw_iconst hX twd_mo_isolateAt_91 ⟨by decide, by decide⟩ ?_
      refine tw_iconst hX twd_mo_isolateAt_92 ⟨by decide, by decide⟩ ?_
      obtain ⟨c20, h⟩ := h
      refine tw_callV (As := [.inl (twr_mo_next x9 mo_top mo_entry), .inl ((-1)), .inl 1]) (n := 3) hX twd_mo_isolateAt_93 tw_good tww_844 tww_841 tww_843 tww_46 tww_86 twk_mo_put rfl rfl ⟨by decide, by decide⟩ rfl (Nat.le_of_ble_eq_true rfl) (twc_mo_put c20 (fun w22 w23 w24 w25 e26 e27 e28 e29 => ?_))
      subst e26
      subst e27
      subst e28
      subst e29
      change tw_rn (tw_YM l D ad cI cZ) Z Post 96 [some (.inr 0), none, none, some (.inl x9), some (.inl (twr_mo_next x9 mo_top mo_entry))] [] (tw_mM mo_base mo_measure mo_size mo_kind mo_group mo_width mo_pair mo_known mo_root x_10_mo_level x_11_mo_type mo_resolved mo_partner (twu_mo_put__mo_top (twr_mo_next x9 mo_top mo_entry) (-1) 1 mo_top mo_entry mo_override mo_isolate) (twu_mo_put__mo_entry (twr_mo_next x9 mo_top mo_entry) (-1) 1 mo_top mo_entry mo_override mo_isolate) (twu_mo_put__mo_override (twr_mo_next x9 mo_top mo_entry) (-1) 1 mo_top mo_entry mo_override mo_isolate) (twu_mo_put__mo_isolate (twr_mo_next x9 mo_top mo_entry) (-1) 1 mo_top mo_entry mo_override mo_isolate) mo_lostIsolates mo_lostEmbeddings (mo_openIsolates + 1) mo_n mo_seq mo_mark mo_beginning mo_ending mo_embedding mo_list mo_lines mo_starts mo_shownLevels mo_order)
      refine tw_goto hX twd_mo_isolateAt_96 rfl ?_
      exact tw_vret hX twd_mo_isolateAt_109 (hK _ _ _ _ _ _ _ _ h))
  have h := h (fun (x_31_mo_level : Nat → Int) (x_32_mo_type : Nat → Int) => tw_rn (tw_YM l D ad cI cZ) Z Post 56 [some (.inr 0), none, none, none, none] [] (tw_mM mo_base mo_measure mo_size mo_kind mo_group mo_width mo_pair mo_known mo_root x_31_mo_level x_32_mo_type mo_resolved mo_partner mo_top mo_entry mo_override mo_isolate mo_lostIsolates mo_lostEmbeddings mo_openIsolates mo_n mo_seq mo_mark mo_beginning mo_ending mo_embedding mo_list mo_lines mo_starts mo_shownLevels mo_order)) (by
    intro x_31_mo_level x_32_mo_type h
    refine tw_iconst hX twd_mo_isolateAt_56 ⟨by decide, by decide⟩ ?_
    refine tw_goto hX twd_mo_isolateAt_57 rfl ?_
    exact h)
  refine tw_icmp_eq hX twd_mo_isolateAt_19 rfl (fun q44 => ?_) (fun q44 => ?_)
  · have h := h.1 q44
    refine tw_wk (L' := [some (.inr 0), none, none, none, none]) (tw_le_s (tw_le_n (tw_le_n (tw_le_n (tw_le_n tw_le_0))))) ?_
    exact h
  · have h := h.2 q44
    refine tw_aload_n hX twd_mo_isolateAt_22 rfl rfl ?_
    refine tw_get (kf := 3) hX twd_mo_isolateAt_23 twin_mo rfl (by decide) tww_690 rfl rfl rfl ?_
    refine tw_iload_n hX twd_mo_isolateAt_26 rfl rfl ?_
    obtain ⟨c34, h⟩ := h
    refine tw_iaload hX twd_mo_isolateAt_27 rfl c34 ?_
    refine tw_bipush hX twd_mo_isolateAt_28 (by decide +kernel) ⟨by decide, by decide⟩ ?_
    have h := h (tw_rn (tw_YM l D ad cI cZ) Z Post 60 [some (.inr 0), none, none, none, none] [] (tw_mM mo_base mo_measure mo_size mo_kind mo_group mo_width mo_pair mo_known mo_root (twu_mo_settle__mo_level v1 mo_kind mo_level mo_type mo_top mo_entry mo_override) (twu_mo_settle__mo_type v1 mo_kind mo_level mo_type mo_top mo_entry mo_override) mo_resolved mo_partner mo_top mo_entry mo_override mo_isolate mo_lostIsolates mo_lostEmbeddings mo_openIsolates mo_n mo_seq mo_mark mo_beginning mo_ending mo_embedding mo_list mo_lines mo_starts mo_shownLevels mo_order)) (by
      intro  h
      refine tw_iconst hX twd_mo_isolateAt_60 ⟨by decide, by decide⟩ ?_
      exact h)
    refine tw_icmp_ne hX twd_mo_isolateAt_30 rfl (fun q43 => ?_) (fun q43 => ?_)
    · have h := h.2 q43
      refine tw_wk (L' := [some (.inr 0), none, none, none, none]) (tw_le_s (tw_le_n (tw_le_n (tw_le_n (tw_le_n tw_le_0))))) ?_
      exact h
    · have h := h.1 q43
      refine tw_aload_n hX twd_mo_isolateAt_33 rfl rfl ?_
      refine tw_iload_n hX twd_mo_isolateAt_34 rfl rfl ?_
      refine tw_iconst hX twd_mo_isolateAt_35 ⟨by decide, by decide⟩ ?_
      obtain ⟨c36, h⟩ := h
      refine tw_iadd hX twd_mo_isolateAt_36 c36 ?_
      refine tw_iload_n hX twd_mo_isolateAt_37 rfl rfl ?_
      have j40 : ∀ x37 : Int, x37 = (if 0 ≤ z7 then z7 else mo_size) → tw_rn (tw_YM l D ad cI cZ) Z Post 49 [some (.inr 0), none, none, none, none] [.inl x37, .inl (v1 + 1), .inr 0] (tw_mM mo_base mo_measure mo_size mo_kind mo_group mo_width mo_pair mo_known mo_root (twu_mo_settle__mo_level v1 mo_kind mo_level mo_type mo_top mo_entry mo_override) (twu_mo_settle__mo_type v1 mo_kind mo_level mo_type mo_top mo_entry mo_override) mo_resolved mo_partner mo_top mo_entry mo_override mo_isolate mo_lostIsolates mo_lostEmbeddings mo_openIsolates mo_n mo_seq mo_mark mo_beginning mo_ending mo_embedding mo_list mo_lines mo_starts mo_shownLevels mo_order) := by
        intro x37 e41
        have h := h x37 e41
        refine tw_callV (As := [.inl (v1 + 1), .inl x37]) (n := 2) hX twd_mo_isolateAt_49 tw_good tww_840 tww_837 tww_839 tww_45 tww_86 twk_mo_direction rfl rfl ⟨by decide, by decide⟩ rfl (Nat.le_of_ble_eq_true rfl) (twc_mo_direction h (fun z38 h => ?_))
        change tw_rn (tw_YM l D ad cI cZ) Z Post 52 [some (.inr 0), none, none, none, none] [.inl z38] (tw_mM mo_base mo_measure mo_size mo_kind mo_group mo_width mo_pair mo_known mo_root (twu_mo_settle__mo_level v1 mo_kind mo_level mo_type mo_top mo_entry mo_override) (twu_mo_settle__mo_type v1 mo_kind mo_level mo_type mo_top mo_entry mo_override) mo_resolved mo_partner mo_top mo_entry mo_override mo_isolate mo_lostIsolates mo_lostEmbeddings mo_openIsolates mo_n mo_seq mo_mark mo_beginning mo_ending mo_embedding mo_list mo_lines mo_starts mo_shownLevels mo_order)
        refine tw_iconst hX twd_mo_isolateAt_52 ⟨by decide, by decide⟩ ?_
        refine tw_icmp_ne hX twd_mo_isolateAt_53 rfl (fun q39 => ?_) (fun q39 => ?_)
        · have h := h.2 q39
          exact h
        · have h := h.1 q39
          exact h
      refine tw_if_ge hX twd_mo_isolateAt_38 rfl (fun q42 => ?_) (fun q42 => ?_)
      · have _tw := trivial
        refine tw_iload_n hX twd_mo_isolateAt_48 rfl rfl ?_
        refine tw_wk (L' := [some (.inr 0), none, none, none, none]) (tw_le_s (tw_le_n (tw_le_n (tw_le_n (tw_le_n tw_le_0))))) ?_
        exact j40 _ (Eq.symm (if_pos q42))
      · have _tw := trivial
        refine tw_aload_n hX twd_mo_isolateAt_41 rfl rfl ?_
        refine tw_get (kf := 2) hX twd_mo_isolateAt_42 twin_mo rfl (by decide) tww_689 rfl rfl rfl ?_
        refine tw_goto hX twd_mo_isolateAt_45 rfl ?_
        refine tw_wk (L' := [some (.inr 0), none, none, none, none]) (tw_le_s (tw_le_n (tw_le_n (tw_le_n (tw_le_n tw_le_0))))) ?_
        exact j40 _ (Eq.symm (if_neg q42))
def twl_mo_leave_32 (X64 : Int → Prop) (v1 : Int) (mo_kind : Nat → Int) (mo_level : Nat → Int) (mo_type : Nat → Int) (mo_entry : Nat → Int) (mo_override : Nat → Int) (mo_isolate : Nat → Int) (mo_lostIsolates : Int) (mo_lostEmbeddings : Int) (mo_openIsolates : Int) : Nat → Int → Prop
  | 0, _ => False
  | f + 1, mo_top =>
    ((mo_top ≤ 0 →
    X64 mo_top) ∧
    (¬ mo_top ≤ 0 →
    (0 ≤ mo_top ∧ mo_top < 8) ∧ (((mo_isolate (Int.toNat mo_top)) = 0 →
      (tw_rg (mo_top - 1)) ∧ twl_mo_leave_32 X64 v1 mo_kind mo_level mo_type mo_entry mo_override mo_isolate mo_lostIsolates mo_lostEmbeddings mo_openIsolates f (mo_top - 1)) ∧
      (¬ (mo_isolate (Int.toNat mo_top)) = 0 →
      X64 mo_top))))
set_option maxRecDepth 100000 in
set_option maxHeartbeats 4000000 in
theorem twt_mo_leave_32 {l : Launch} {D : va_G} {ad : Nat → Nat} {cI cZ : ClassId} {Z : tw_Z} {Post : tw_P} {X64 : Int → Prop} {v1 : Int} {mo_base mo_measure mo_size mo_known mo_root mo_lostIsolates mo_lostEmbeddings mo_openIsolates mo_n mo_beginning mo_ending mo_embedding mo_lines : Int} {mo_kind mo_group mo_width mo_pair mo_level mo_type mo_resolved mo_partner mo_entry mo_override mo_isolate mo_seq mo_mark mo_list mo_starts mo_shownLevels mo_order : Nat → Int} (hX : tw_cx (tw_YM l D ad cI cZ) Z prog_11_method_19_code twR_mo tw_Wg none 1 2) (hX64 : ∀ (mo_top : Int), X64 mo_top → tw_rn (tw_YM l D ad cI cZ) Z Post 64 [some (.inr 0), some (.inl v1)] [] (tw_mM mo_base mo_measure mo_size mo_kind mo_group mo_width mo_pair mo_known mo_root mo_level mo_type mo_resolved mo_partner mo_top mo_entry mo_override mo_isolate mo_lostIsolates mo_lostEmbeddings mo_openIsolates mo_n mo_seq mo_mark mo_beginning mo_ending mo_embedding mo_list mo_lines mo_starts mo_shownLevels mo_order)) : ∀ (f : Nat) (mo_top : Int), twl_mo_leave_32 X64 v1 mo_kind mo_level mo_type mo_entry mo_override mo_isolate mo_lostIsolates mo_lostEmbeddings mo_openIsolates f mo_top → tw_rn (tw_YM l D ad cI cZ) Z Post 32 [some (.inr 0), some (.inl v1)] [] (tw_mM mo_base mo_measure mo_size mo_kind mo_group mo_width mo_pair mo_known mo_root mo_level mo_type mo_resolved mo_partner mo_top mo_entry mo_override mo_isolate mo_lostIsolates mo_lostEmbeddings mo_openIsolates mo_n mo_seq mo_mark mo_beginning mo_ending mo_embedding mo_list mo_lines mo_starts mo_shownLevels mo_order) := by
  intro f
  induction f with
  | zero => intro mo_top h; rw [twl_mo_leave_32] at h; exact h.elim
  | succ f ih =>
    intro mo_top h
    rw [twl_mo_leave_32] at h
    refine tw_aload_n hX twd_mo_leave_32 rfl rfl ?_
    refine tw_get (kf := 13) hX twd_mo_leave_33 twin_mo rfl (by decide) tww_700 rfl rfl rfl ?_
    refine tw_if_le hX twd_mo_leave_36 rfl (fun q15 => ?_) (fun q15 => ?_)
    · have h := h.1 q15
      exact hX64 _ h
    · have h := h.2 q15
      refine tw_aload_n hX twd_mo_leave_39 rfl rfl ?_
      refine tw_get (kf := 16) hX twd_mo_leave_40 twin_mo rfl (by decide) tww_703 rfl rfl rfl ?_
      refine tw_aload_n hX twd_mo_leave_43 rfl rfl ?_
      refine tw_get (kf := 13) hX twd_mo_leave_44 twin_mo rfl (by decide) tww_700 rfl rfl rfl ?_
      obtain ⟨c12, h⟩ := h
      refine tw_baload hX twd_mo_leave_47 rfl c12 ?_
      refine tw_if_ne hX twd_mo_leave_48 rfl (fun q14 => ?_) (fun q14 => ?_)
      · have h := h.2 q14
        exact hX64 _ h
      · have h := h.1 q14
        refine tw_aload_n hX twd_mo_leave_51 rfl rfl ?_
        refine tw_dup hX twd_mo_leave_52 ?_
        refine tw_get (kf := 13) hX twd_mo_leave_53 twin_mo rfl (by decide) tww_700 rfl rfl rfl ?_
        refine tw_iconst hX twd_mo_leave_56 ⟨by decide, by decide⟩ ?_
        obtain ⟨c13, h⟩ := h
        refine tw_isub hX twd_mo_leave_57 c13 ?_
        refine tw_put (kf := 13) (mem' := (tw_mM mo_base mo_measure mo_size mo_kind mo_group mo_width mo_pair mo_known mo_root mo_level mo_type mo_resolved mo_partner (mo_top - 1) mo_entry mo_override mo_isolate mo_lostIsolates mo_lostEmbeddings mo_openIsolates mo_n mo_seq mo_mark mo_beginning mo_ending mo_embedding mo_list mo_lines mo_starts mo_shownLevels mo_order)) twt_mo hX twd_mo_leave_58 twin_mo twtok_mo twnm_mo rfl (by decide) tww_700 rfl rfl rfl (Or.inl rfl) rfl (Nat.le_of_ble_eq_true rfl) rfl ?_
        refine tw_goto hX twd_mo_leave_61 rfl ?_
        exact ih _ h
def tww_mo_leave (v1 : Int) (mo_kind : Nat → Int) (mo_level : Nat → Int) (mo_type : Nat → Int) (mo_top : Int) (mo_entry : Nat → Int) (mo_override : Nat → Int) (mo_isolate : Nat → Int) (mo_lostIsolates : Int) (mo_lostEmbeddings : Int) (mo_openIsolates : Int) (K : (Nat → Int) → (Nat → Int) → Int → Int → Int → Int → Prop) : Prop :=
  (∀ J5 : Int → Int → Int → Int → Prop, (∀ (x_1_mo_top : Int) (x_2_mo_lostIsolates : Int) (x_3_mo_lostEmbeddings : Int) (x_4_mo_openIsolates : Int), ((two_mo_settle v1 mo_kind mo_level mo_type x_1_mo_top mo_entry mo_override) ∧ K (twu_mo_settle__mo_level v1 mo_kind mo_level mo_type x_1_mo_top mo_entry mo_override) (twu_mo_settle__mo_type v1 mo_kind mo_level mo_type x_1_mo_top mo_entry mo_override) x_1_mo_top x_2_mo_lostIsolates x_3_mo_lostEmbeddings x_4_mo_openIsolates) → J5 x_1_mo_top x_2_mo_lostIsolates x_3_mo_lostEmbeddings x_4_mo_openIsolates) →
  ((mo_lostIsolates ≤ 0 →
  ((mo_openIsolates ≤ 0 →
    J5 mo_top mo_lostIsolates mo_lostEmbeddings mo_openIsolates) ∧
    (¬ mo_openIsolates ≤ 0 →
    (∃ f19 : Nat, twl_mo_leave_32 (fun (y16_mo_top : Int) =>
      (tw_rg (y16_mo_top - 1)) ∧ (tw_rg (mo_openIsolates - 1)) ∧ J5 (y16_mo_top - 1) mo_lostIsolates 0 (mo_openIsolates - 1)) v1 mo_kind mo_level mo_type mo_entry mo_override mo_isolate mo_lostIsolates 0 mo_openIsolates f19 mo_top)))) ∧
  (¬ mo_lostIsolates ≤ 0 →
  (tw_rg (mo_lostIsolates - 1)) ∧ J5 mo_top (mo_lostIsolates - 1) mo_lostEmbeddings mo_openIsolates)))
set_option maxRecDepth 100000 in
set_option maxHeartbeats 4000000 in
theorem twc_mo_leave {l : Launch} {D : va_G} {ad : Nat → Nat} {cI cZ : ClassId} {Post : tw_P} {K : (Nat → Int) → (Nat → Int) → Int → Int → Int → Int → Prop} {v1 : Int} {mo_base mo_measure mo_size mo_known mo_root mo_top mo_lostIsolates mo_lostEmbeddings mo_openIsolates mo_n mo_beginning mo_ending mo_embedding mo_lines : Int} {mo_kind mo_group mo_width mo_pair mo_level mo_type mo_resolved mo_partner mo_entry mo_override mo_isolate mo_seq mo_mark mo_list mo_starts mo_shownLevels mo_order : Nat → Int} (h : tww_mo_leave v1 mo_kind mo_level mo_type mo_top mo_entry mo_override mo_isolate mo_lostIsolates mo_lostEmbeddings mo_openIsolates K) (hK : ∀ (n_mo_level : Nat → Int) (n_mo_type : Nat → Int) (n_mo_top : Int) (n_mo_lostIsolates : Int) (n_mo_lostEmbeddings : Int) (n_mo_openIsolates : Int), K n_mo_level n_mo_type n_mo_top n_mo_lostIsolates n_mo_lostEmbeddings n_mo_openIsolates → Post none (tw_mM mo_base mo_measure mo_size mo_kind mo_group mo_width mo_pair mo_known mo_root n_mo_level n_mo_type mo_resolved mo_partner n_mo_top mo_entry mo_override mo_isolate n_mo_lostIsolates n_mo_lostEmbeddings n_mo_openIsolates mo_n mo_seq mo_mark mo_beginning mo_ending mo_embedding mo_list mo_lines mo_starts mo_shownLevels mo_order)) : tw_ct (tw_YM l D ad cI cZ) twy_mo_leave (Cond.code twy_mo_leave prog_11_method_19_code 2 none :: tw_Wg) 1 [.inr 0, .inl v1] (tw_mM mo_base mo_measure mo_size mo_kind mo_group mo_width mo_pair mo_known mo_root mo_level mo_type mo_resolved mo_partner mo_top mo_entry mo_override mo_isolate mo_lostIsolates mo_lostEmbeddings mo_openIsolates mo_n mo_seq mo_mark mo_beginning mo_ending mo_embedding mo_list mo_lines mo_starts mo_shownLevels mo_order) Post := by
  refine tw_of (own := twR_mo) (L0 := [some (.inr 0), some (.inl v1)]) (by decide) rfl rfl (Nat.le_of_ble_eq_true rfl) (fun Z hX => ?_)
  unfold tww_mo_leave at h
  refine tw_aload_n hX twd_mo_leave_0 rfl rfl ?_
  refine tw_get (kf := 17) hX twd_mo_leave_1 twin_mo rfl (by decide) tww_704 rfl rfl rfl ?_
  have h := h (fun (x_1_mo_top : Int) (x_2_mo_lostIsolates : Int) (x_3_mo_lostEmbeddings : Int) (x_4_mo_openIsolates : Int) => tw_rn (tw_YM l D ad cI cZ) Z Post 84 [some (.inr 0), some (.inl v1)] [] (tw_mM mo_base mo_measure mo_size mo_kind mo_group mo_width mo_pair mo_known mo_root mo_level mo_type mo_resolved mo_partner x_1_mo_top mo_entry mo_override mo_isolate x_2_mo_lostIsolates x_3_mo_lostEmbeddings x_4_mo_openIsolates mo_n mo_seq mo_mark mo_beginning mo_ending mo_embedding mo_list mo_lines mo_starts mo_shownLevels mo_order)) (by
    intro x_1_mo_top x_2_mo_lostIsolates x_3_mo_lostEmbeddings x_4_mo_openIsolates h
    refine tw_aload_n hX twd_mo_leave_84 rfl rfl ?_
    refine tw_iload_n hX twd_mo_leave_85 rfl rfl ?_
    obtain ⟨c6, h⟩ := h
    refine tw_callV (As := [.inl v1]) (n := 1) hX twd_mo_leave_86 tw_good tww_868 tww_865 tww_867 tww_52 tww_86 twk_mo_settle rfl rfl ⟨by decide, by decide⟩ rfl (Nat.le_of_ble_eq_true rfl) (twc_mo_settle c6 (fun w8 w9 e10 e11 => ?_))
    subst e10
    subst e11
    change tw_rn (tw_YM l D ad cI cZ) Z Post 89 [some (.inr 0), some (.inl v1)] [] (tw_mM mo_base mo_measure mo_size mo_kind mo_group mo_width mo_pair mo_known mo_root (twu_mo_settle__mo_level v1 mo_kind mo_level mo_type x_1_mo_top mo_entry mo_override) (twu_mo_settle__mo_type v1 mo_kind mo_level mo_type x_1_mo_top mo_entry mo_override) mo_resolved mo_partner x_1_mo_top mo_entry mo_override mo_isolate x_2_mo_lostIsolates x_3_mo_lostEmbeddings x_4_mo_openIsolates mo_n mo_seq mo_mark mo_beginning mo_ending mo_embedding mo_list mo_lines mo_starts mo_shownLevels mo_order)
    exact tw_vret hX twd_mo_leave_89 (hK _ _ _ _ _ _ h))
  refine tw_if_le hX twd_mo_leave_4 rfl (fun q22 => ?_) (fun q22 => ?_)
  · have h := h.1 q22
    refine tw_aload_n hX twd_mo_leave_20 rfl rfl ?_
    refine tw_get (kf := 19) hX twd_mo_leave_21 twin_mo rfl (by decide) tww_706 rfl rfl rfl ?_
    refine tw_if_le hX twd_mo_leave_24 rfl (fun q20 => ?_) (fun q20 => ?_)
    · have h := h.1 q20
      exact h
    · have h := h.2 q20
      refine tw_aload_n hX twd_mo_leave_27 rfl rfl ?_
      refine tw_iconst hX twd_mo_leave_28 ⟨by decide, by decide⟩ ?_
      refine tw_put (kf := 18) (mem' := (tw_mM mo_base mo_measure mo_size mo_kind mo_group mo_width mo_pair mo_known mo_root mo_level mo_type mo_resolved mo_partner mo_top mo_entry mo_override mo_isolate mo_lostIsolates 0 mo_openIsolates mo_n mo_seq mo_mark mo_beginning mo_ending mo_embedding mo_list mo_lines mo_starts mo_shownLevels mo_order)) twt_mo hX twd_mo_leave_29 twin_mo twtok_mo twnm_mo rfl (by decide) tww_705 rfl rfl rfl (Or.inl rfl) rfl (Nat.le_of_ble_eq_true rfl) rfl ?_
      obtain ⟨f19, h⟩ := h
      refine twt_mo_leave_32 hX (fun y16_mo_top h => ?_) f19 _ h
      refine tw_aload_n hX twd_mo_leave_64 rfl rfl ?_
      refine tw_dup hX twd_mo_leave_65 ?_
      refine tw_get (kf := 13) hX twd_mo_leave_66 twin_mo rfl (by decide) tww_700 rfl rfl rfl ?_
      refine tw_iconst hX twd_mo_leave_69 ⟨by decide, by decide⟩ ?_
      obtain ⟨c17, h⟩ := h
      refine tw_isub hX twd_mo_leave_70 c17 ?_
      refine tw_put (kf := 13) (mem' := (tw_mM mo_base mo_measure mo_size mo_kind mo_group mo_width mo_pair mo_known mo_root mo_level mo_type mo_resolved mo_partner (y16_mo_top - 1) mo_entry mo_override mo_isolate mo_lostIsolates 0 mo_openIsolates mo_n mo_seq mo_mark mo_beginning mo_ending mo_embedding mo_list mo_lines mo_starts mo_shownLevels mo_order)) twt_mo hX twd_mo_leave_71 twin_mo twtok_mo twnm_mo rfl (by decide) tww_700 rfl rfl rfl (Or.inl rfl) rfl (Nat.le_of_ble_eq_true rfl) rfl ?_
      refine tw_aload_n hX twd_mo_leave_74 rfl rfl ?_
      refine tw_dup hX twd_mo_leave_75 ?_
      refine tw_get (kf := 19) hX twd_mo_leave_76 twin_mo rfl (by decide) tww_706 rfl rfl rfl ?_
      refine tw_iconst hX twd_mo_leave_79 ⟨by decide, by decide⟩ ?_
      obtain ⟨c18, h⟩ := h
      refine tw_isub hX twd_mo_leave_80 c18 ?_
      refine tw_put (kf := 19) (mem' := (tw_mM mo_base mo_measure mo_size mo_kind mo_group mo_width mo_pair mo_known mo_root mo_level mo_type mo_resolved mo_partner (y16_mo_top - 1) mo_entry mo_override mo_isolate mo_lostIsolates 0 (mo_openIsolates - 1) mo_n mo_seq mo_mark mo_beginning mo_ending mo_embedding mo_list mo_lines mo_starts mo_shownLevels mo_order)) twt_mo hX twd_mo_leave_81 twin_mo twtok_mo twnm_mo rfl (by decide) tww_706 rfl rfl rfl (Or.inl rfl) rfl (Nat.le_of_ble_eq_true rfl) rfl ?_
      exact h
  · have h := h.2 q22
    refine tw_aload_n hX twd_mo_leave_7 rfl rfl ?_
    refine tw_dup hX twd_mo_leave_8 ?_
    refine tw_get (kf := 17) hX twd_mo_leave_9 twin_mo rfl (by decide) tww_704 rfl rfl rfl ?_
    refine tw_iconst hX twd_mo_leave_12 ⟨by decide, by decide⟩ ?_
    obtain ⟨c21, h⟩ := h
    refine tw_isub hX twd_mo_leave_13 c21 ?_
    refine tw_put (kf := 17) (mem' := (tw_mM mo_base mo_measure mo_size mo_kind mo_group mo_width mo_pair mo_known mo_root mo_level mo_type mo_resolved mo_partner mo_top mo_entry mo_override mo_isolate (mo_lostIsolates - 1) mo_lostEmbeddings mo_openIsolates mo_n mo_seq mo_mark mo_beginning mo_ending mo_embedding mo_list mo_lines mo_starts mo_shownLevels mo_order)) twt_mo hX twd_mo_leave_14 twin_mo twtok_mo twnm_mo rfl (by decide) tww_704 rfl rfl rfl (Or.inl rfl) rfl (Nat.le_of_ble_eq_true rfl) rfl ?_
    refine tw_goto hX twd_mo_leave_17 rfl ?_
    exact h
def two_mo_pop (mo_top : Int) (mo_isolate : Nat → Int) (mo_lostIsolates : Int) (mo_lostEmbeddings : Int) : Prop := ((mo_lostIsolates ≤ 0 → (((mo_lostEmbeddings ≤ 0 → ((¬ mo_top ≤ 0 → ((0 ≤ mo_top ∧ mo_top < 8) ∧ ((mo_isolate (Int.toNat mo_top)) = 0 → ((tw_rg (mo_top - 1)))))))) ∧ (¬ mo_lostEmbeddings ≤ 0 → ((tw_rg (mo_lostEmbeddings - 1))))))))
def twu_mo_pop__mo_top (mo_top : Int) (mo_isolate : Nat → Int) (mo_lostIsolates : Int) (mo_lostEmbeddings : Int) : Int := if mo_lostIsolates ≤ 0 then (if mo_lostEmbeddings ≤ 0 then (if mo_top ≤ 0 then mo_top else (if (mo_isolate (Int.toNat mo_top)) = 0 then (mo_top - 1) else mo_top)) else mo_top) else mo_top
def twu_mo_pop__mo_lostEmbeddings (mo_top : Int) (mo_isolate : Nat → Int) (mo_lostIsolates : Int) (mo_lostEmbeddings : Int) : Int := if mo_lostIsolates ≤ 0 then (if mo_lostEmbeddings ≤ 0 then mo_lostEmbeddings else (mo_lostEmbeddings - 1)) else mo_lostEmbeddings
set_option maxRecDepth 100000 in
set_option maxHeartbeats 4000000 in
theorem twc_mo_pop {l : Launch} {D : va_G} {ad : Nat → Nat} {cI cZ : ClassId} {Post : tw_P} {mo_base mo_measure mo_size mo_known mo_root mo_top mo_lostIsolates mo_lostEmbeddings mo_openIsolates mo_n mo_beginning mo_ending mo_embedding mo_lines : Int} {mo_kind mo_group mo_width mo_pair mo_level mo_type mo_resolved mo_partner mo_entry mo_override mo_isolate mo_seq mo_mark mo_list mo_starts mo_shownLevels mo_order : Nat → Int} (h : two_mo_pop mo_top mo_isolate mo_lostIsolates mo_lostEmbeddings) (hK : ∀ (n_mo_top : Int) (n_mo_lostEmbeddings : Int), n_mo_top = twu_mo_pop__mo_top mo_top mo_isolate mo_lostIsolates mo_lostEmbeddings → n_mo_lostEmbeddings = twu_mo_pop__mo_lostEmbeddings mo_top mo_isolate mo_lostIsolates mo_lostEmbeddings → Post none (tw_mM mo_base mo_measure mo_size mo_kind mo_group mo_width mo_pair mo_known mo_root mo_level mo_type mo_resolved mo_partner n_mo_top mo_entry mo_override mo_isolate mo_lostIsolates n_mo_lostEmbeddings mo_openIsolates mo_n mo_seq mo_mark mo_beginning mo_ending mo_embedding mo_list mo_lines mo_starts mo_shownLevels mo_order)) : tw_ct (tw_YM l D ad cI cZ) twy_mo_pop (Cond.code twy_mo_pop prog_11_method_20_code 1 none :: tw_Wg) 0 [.inr 0] (tw_mM mo_base mo_measure mo_size mo_kind mo_group mo_width mo_pair mo_known mo_root mo_level mo_type mo_resolved mo_partner mo_top mo_entry mo_override mo_isolate mo_lostIsolates mo_lostEmbeddings mo_openIsolates mo_n mo_seq mo_mark mo_beginning mo_ending mo_embedding mo_list mo_lines mo_starts mo_shownLevels mo_order) Post := by
  refine tw_of (own := twR_mo) (L0 := [some (.inr 0)]) (by decide) rfl rfl (Nat.le_of_ble_eq_true rfl) (fun Z hX => ?_)
  unfold two_mo_pop at h
  refine tw_aload_n hX twd_mo_pop_0 rfl rfl ?_
  refine tw_get (kf := 17) hX twd_mo_pop_1 twin_mo rfl (by decide) tww_704 rfl rfl rfl ?_
  refine tw_if_le hX twd_mo_pop_4 rfl (fun q4 => ?_) (fun q4 => ?_)
  · have _tw := trivial
    have h := h q4
    refine tw_aload_n hX twd_mo_pop_8 rfl rfl ?_
    refine tw_get (kf := 18) hX twd_mo_pop_9 twin_mo rfl (by decide) tww_705 rfl rfl rfl ?_
    refine tw_if_le hX twd_mo_pop_12 rfl (fun q5 => ?_) (fun q5 => ?_)
    · have _tw := trivial
      have h := h.1 q5
      refine tw_aload_n hX twd_mo_pop_28 rfl rfl ?_
      refine tw_get (kf := 13) hX twd_mo_pop_29 twin_mo rfl (by decide) tww_700 rfl rfl rfl ?_
      refine tw_if_le hX twd_mo_pop_32 rfl (fun q6 => ?_) (fun q6 => ?_)
      · have _tw := trivial
        exact tw_vret hX twd_mo_pop_57 (hK _ _ (Eq.symm (Eq.trans (if_pos q4) (Eq.trans (if_pos q5) (if_pos q6)))) (Eq.symm (Eq.trans (if_pos q4) (if_pos q5))))
      · have _tw := trivial
        have h := h q6
        refine tw_aload_n hX twd_mo_pop_35 rfl rfl ?_
        refine tw_get (kf := 16) hX twd_mo_pop_36 twin_mo rfl (by decide) tww_703 rfl rfl rfl ?_
        refine tw_aload_n hX twd_mo_pop_39 rfl rfl ?_
        refine tw_get (kf := 13) hX twd_mo_pop_40 twin_mo rfl (by decide) tww_700 rfl rfl rfl ?_
        obtain ⟨c1, h⟩ := h
        refine tw_baload hX twd_mo_pop_43 rfl c1 ?_
        refine tw_if_ne hX twd_mo_pop_44 rfl (fun q7 => ?_) (fun q7 => ?_)
        · have _tw := trivial
          exact tw_vret hX twd_mo_pop_57 (hK _ _ (Eq.symm (Eq.trans (if_pos q4) (Eq.trans (if_pos q5) (Eq.trans (if_neg q6) (if_neg q7))))) (Eq.symm (Eq.trans (if_pos q4) (if_pos q5))))
        · have _tw := trivial
          have h := h q7
          refine tw_aload_n hX twd_mo_pop_47 rfl rfl ?_
          refine tw_dup hX twd_mo_pop_48 ?_
          refine tw_get (kf := 13) hX twd_mo_pop_49 twin_mo rfl (by decide) tww_700 rfl rfl rfl ?_
          refine tw_iconst hX twd_mo_pop_52 ⟨by decide, by decide⟩ ?_
          have c2 := h
          refine tw_isub hX twd_mo_pop_53 c2 ?_
          refine tw_put (kf := 13) (mem' := (tw_mM mo_base mo_measure mo_size mo_kind mo_group mo_width mo_pair mo_known mo_root mo_level mo_type mo_resolved mo_partner (mo_top - 1) mo_entry mo_override mo_isolate mo_lostIsolates mo_lostEmbeddings mo_openIsolates mo_n mo_seq mo_mark mo_beginning mo_ending mo_embedding mo_list mo_lines mo_starts mo_shownLevels mo_order)) twt_mo hX twd_mo_pop_54 twin_mo twtok_mo twnm_mo rfl (by decide) tww_700 rfl rfl rfl (Or.inl rfl) rfl (Nat.le_of_ble_eq_true rfl) rfl ?_
          exact tw_vret hX twd_mo_pop_57 (hK _ _ (Eq.symm (Eq.trans (if_pos q4) (Eq.trans (if_pos q5) (Eq.trans (if_neg q6) (if_pos q7))))) (Eq.symm (Eq.trans (if_pos q4) (if_pos q5))))
    · have _tw := trivial
      have h := h.2 q5
      refine tw_aload_n hX twd_mo_pop_15 rfl rfl ?_
      refine tw_dup hX twd_mo_pop_16 ?_
      refine tw_get (kf := 18) hX twd_mo_pop_17 twin_mo rfl (by decide) tww_705 rfl rfl rfl ?_
      refine tw_iconst hX twd_mo_pop_20 ⟨by decide, by decide⟩ ?_
      have c3 := h
      refine tw_isub hX twd_mo_pop_21 c3 ?_
      refine tw_put (kf := 18) (mem' := (tw_mM mo_base mo_measure mo_size mo_kind mo_group mo_width mo_pair mo_known mo_root mo_level mo_type mo_resolved mo_partner mo_top mo_entry mo_override mo_isolate mo_lostIsolates (mo_lostEmbeddings - 1) mo_openIsolates mo_n mo_seq mo_mark mo_beginning mo_ending mo_embedding mo_list mo_lines mo_starts mo_shownLevels mo_order)) twt_mo hX twd_mo_pop_22 twin_mo twtok_mo twnm_mo rfl (by decide) tww_705 rfl rfl rfl (Or.inl rfl) rfl (Nat.le_of_ble_eq_true rfl) rfl ?_
      refine tw_goto hX twd_mo_pop_25 rfl ?_
      exact tw_vret hX twd_mo_pop_57 (hK _ _ (Eq.symm (Eq.trans (if_pos q4) (if_neg q5))) (Eq.symm (Eq.trans (if_pos q4) (if_neg q5))))
  · have _tw := trivial
    exact tw_vret hX twd_mo_pop_7 (hK _ _ (Eq.symm (if_neg q4)) (Eq.symm (if_neg q4)))
def twl_mo_explicit_60 (X163 : (Nat → Int) → (Nat → Int) → (Nat → Int) → Int → (Nat → Int) → (Nat → Int) → (Nat → Int) → Int → Int → Int → Prop) (mo_base : Int) (mo_size : Int) (mo_kind : Nat → Int) (mo_root : Int) : Nat → Int → (Nat → Int) → (Nat → Int) → (Nat → Int) → Int → (Nat → Int) → (Nat → Int) → (Nat → Int) → Int → Int → Int → Prop
  | 0, _, _, _, _, _, _, _, _, _, _, _ => False
  | f + 1, v1, mo_level, mo_type, mo_partner, mo_top, mo_entry, mo_override, mo_isolate, mo_lostIsolates, mo_lostEmbeddings, mo_openIsolates =>
    ((mo_size ≤ v1 →
    X163 mo_level mo_type mo_partner mo_top mo_entry mo_override mo_isolate mo_lostIsolates mo_lostEmbeddings mo_openIsolates) ∧
    (¬ mo_size ≤ v1 →
    (0 ≤ v1 ∧ v1 < 64) ∧ (0 ≤ v1 ∧ v1 < 64) ∧ (0 ≤ v1 ∧ v1 < 64) ∧ (∀ J26 : (Nat → Int) → (Nat → Int) → (Nat → Int) → Int → (Nat → Int) → (Nat → Int) → (Nat → Int) → Int → Int → Int → Prop, (∀ (x_16_mo_level : Nat → Int) (x_17_mo_type : Nat → Int) (x_18_mo_partner : Nat → Int) (x_19_mo_top : Int) (x_20_mo_entry : Nat → Int) (x_21_mo_override : Nat → Int) (x_22_mo_isolate : Nat → Int) (x_23_mo_lostIsolates : Int) (x_24_mo_lostEmbeddings : Int) (x_25_mo_openIsolates : Int), ((tw_rg (v1 + 1)) ∧ twl_mo_explicit_60 X163 mo_base mo_size mo_kind mo_root f (v1 + 1) x_16_mo_level x_17_mo_type x_18_mo_partner x_19_mo_top x_20_mo_entry x_21_mo_override x_22_mo_isolate x_23_mo_lostIsolates x_24_mo_lostEmbeddings x_25_mo_openIsolates) → J26 x_16_mo_level x_17_mo_type x_18_mo_partner x_19_mo_top x_20_mo_entry x_21_mo_override x_22_mo_isolate x_23_mo_lostIsolates x_24_mo_lostEmbeddings x_25_mo_openIsolates) →
      ∀ J36 : Int → (Nat → Int) → (Nat → Int) → Int → (Nat → Int) → (Nat → Int) → (Nat → Int) → Int → Prop, (∀ (x28 : Int) (x_29_mo_type : Nat → Int) (x_30_mo_partner : Nat → Int) (x_31_mo_top : Int) (x_32_mo_entry : Nat → Int) (x_33_mo_override : Nat → Int) (x_34_mo_isolate : Nat → Int) (x_35_mo_lostEmbeddings : Int), (((x28 = 16 →
        (two_mo_pop x_31_mo_top x_34_mo_isolate mo_lostIsolates x_35_mo_lostEmbeddings) ∧ J26 mo_level x_29_mo_type x_30_mo_partner (twu_mo_pop__mo_top x_31_mo_top x_34_mo_isolate mo_lostIsolates x_35_mo_lostEmbeddings) x_32_mo_entry x_33_mo_override x_34_mo_isolate mo_lostIsolates (twu_mo_pop__mo_lostEmbeddings x_31_mo_top x_34_mo_isolate mo_lostIsolates x_35_mo_lostEmbeddings) mo_openIsolates) ∧
        (¬ x28 = 16 →
        (two_mo_opener v1 mo_kind) ∧ (((twr_mo_opener v1 mo_kind) = 0 →
          ((x28 = 20 →
            tww_mo_leave v1 mo_kind mo_level x_29_mo_type x_31_mo_top x_32_mo_entry x_33_mo_override x_34_mo_isolate mo_lostIsolates x_35_mo_lostEmbeddings mo_openIsolates (fun m_46_mo_level m_47_mo_type m_48_mo_top m_49_mo_lostIsolates m_50_mo_lostEmbeddings m_51_mo_openIsolates =>
              J26 m_46_mo_level m_47_mo_type x_30_mo_partner m_48_mo_top x_32_mo_entry x_33_mo_override x_34_mo_isolate m_49_mo_lostIsolates m_50_mo_lostEmbeddings m_51_mo_openIsolates)) ∧
            (¬ x28 = 20 →
            (two_mo_settle v1 mo_kind mo_level x_29_mo_type x_31_mo_top x_32_mo_entry x_33_mo_override) ∧ J26 (twu_mo_settle__mo_level v1 mo_kind mo_level x_29_mo_type x_31_mo_top x_32_mo_entry x_33_mo_override) (twu_mo_settle__mo_type v1 mo_kind mo_level x_29_mo_type x_31_mo_top x_32_mo_entry x_33_mo_override) x_30_mo_partner x_31_mo_top x_32_mo_entry x_33_mo_override x_34_mo_isolate mo_lostIsolates x_35_mo_lostEmbeddings mo_openIsolates))) ∧
          (¬ (twr_mo_opener v1 mo_kind) = 0 →
          tww_mo_isolateAt v1 mo_size mo_kind mo_level x_29_mo_type x_31_mo_top x_32_mo_entry x_33_mo_override x_34_mo_isolate mo_lostIsolates x_35_mo_lostEmbeddings mo_openIsolates (fun m_53_mo_level m_54_mo_type m_55_mo_top m_56_mo_entry m_57_mo_override m_58_mo_isolate m_59_mo_lostIsolates m_60_mo_openIsolates =>
            J26 m_53_mo_level m_54_mo_type x_30_mo_partner m_55_mo_top m_56_mo_entry m_57_mo_override m_58_mo_isolate m_59_mo_lostIsolates x_35_mo_lostEmbeddings m_60_mo_openIsolates)))))) → J36 x28 x_29_mo_type x_30_mo_partner x_31_mo_top x_32_mo_entry x_33_mo_override x_34_mo_isolate x_35_mo_lostEmbeddings) →
      (((mo_kind (Int.toNat v1)) < 12 →
      J36 (mo_kind (Int.toNat v1)) (tw_up mo_type (Int.toNat v1) (-1)) (tw_up mo_partner (Int.toNat v1) (-1)) mo_top mo_entry mo_override mo_isolate mo_lostEmbeddings) ∧
      (¬ (mo_kind (Int.toNat v1)) < 12 →
      ((15 < (mo_kind (Int.toNat v1)) →
        J36 (mo_kind (Int.toNat v1)) (tw_up mo_type (Int.toNat v1) (-1)) (tw_up mo_partner (Int.toNat v1) (-1)) mo_top mo_entry mo_override mo_isolate mo_lostEmbeddings) ∧
        (¬ 15 < (mo_kind (Int.toNat v1)) →
        (two_mo_embed (mo_kind (Int.toNat v1)) mo_top mo_entry mo_override mo_isolate mo_lostIsolates mo_lostEmbeddings) ∧ J26 mo_level (tw_up mo_type (Int.toNat v1) (-1)) (tw_up mo_partner (Int.toNat v1) (-1)) (twu_mo_embed__mo_top (mo_kind (Int.toNat v1)) mo_top mo_entry mo_override mo_isolate mo_lostIsolates mo_lostEmbeddings) (twu_mo_embed__mo_entry (mo_kind (Int.toNat v1)) mo_top mo_entry mo_override mo_isolate mo_lostIsolates mo_lostEmbeddings) (twu_mo_embed__mo_override (mo_kind (Int.toNat v1)) mo_top mo_entry mo_override mo_isolate mo_lostIsolates mo_lostEmbeddings) (twu_mo_embed__mo_isolate (mo_kind (Int.toNat v1)) mo_top mo_entry mo_override mo_isolate mo_lostIsolates mo_lostEmbeddings) mo_lostIsolates (twu_mo_embed__mo_lostEmbeddings (mo_kind (Int.toNat v1)) mo_top mo_entry mo_override mo_isolate mo_lostIsolates mo_lostEmbeddings) mo_openIsolates)))))))
set_option maxRecDepth 100000 in
set_option maxHeartbeats 4000000 in
theorem twt_mo_explicit_60 {l : Launch} {D : va_G} {ad : Nat → Nat} {cI cZ : ClassId} {Z : tw_Z} {Post : tw_P} {X163 : (Nat → Int) → (Nat → Int) → (Nat → Int) → Int → (Nat → Int) → (Nat → Int) → (Nat → Int) → Int → Int → Int → Prop} {mo_base mo_measure mo_size mo_known mo_root mo_n mo_beginning mo_ending mo_embedding mo_lines : Int} {mo_kind mo_group mo_width mo_pair mo_resolved mo_seq mo_mark mo_list mo_starts mo_shownLevels mo_order : Nat → Int} (hX : tw_cx (tw_YM l D ad cI cZ) Z prog_11_method_21_code twR_mo tw_Wg none 4 3) (hX163 : ∀ (mo_level : Nat → Int) (mo_type : Nat → Int) (mo_partner : Nat → Int) (mo_top : Int) (mo_entry : Nat → Int) (mo_override : Nat → Int) (mo_isolate : Nat → Int) (mo_lostIsolates : Int) (mo_lostEmbeddings : Int) (mo_openIsolates : Int), X163 mo_level mo_type mo_partner mo_top mo_entry mo_override mo_isolate mo_lostIsolates mo_lostEmbeddings mo_openIsolates → tw_rn (tw_YM l D ad cI cZ) Z Post 163 [none, none, none] [] (tw_mM mo_base mo_measure mo_size mo_kind mo_group mo_width mo_pair mo_known mo_root mo_level mo_type mo_resolved mo_partner mo_top mo_entry mo_override mo_isolate mo_lostIsolates mo_lostEmbeddings mo_openIsolates mo_n mo_seq mo_mark mo_beginning mo_ending mo_embedding mo_list mo_lines mo_starts mo_shownLevels mo_order)) : ∀ (f : Nat) (v1 : Int) (mo_level : Nat → Int) (mo_type : Nat → Int) (mo_partner : Nat → Int) (mo_top : Int) (mo_entry : Nat → Int) (mo_override : Nat → Int) (mo_isolate : Nat → Int) (mo_lostIsolates : Int) (mo_lostEmbeddings : Int) (mo_openIsolates : Int), twl_mo_explicit_60 X163 mo_base mo_size mo_kind mo_root f v1 mo_level mo_type mo_partner mo_top mo_entry mo_override mo_isolate mo_lostIsolates mo_lostEmbeddings mo_openIsolates → tw_rn (tw_YM l D ad cI cZ) Z Post 60 [some (.inr 0), some (.inl v1), none] [] (tw_mM mo_base mo_measure mo_size mo_kind mo_group mo_width mo_pair mo_known mo_root mo_level mo_type mo_resolved mo_partner mo_top mo_entry mo_override mo_isolate mo_lostIsolates mo_lostEmbeddings mo_openIsolates mo_n mo_seq mo_mark mo_beginning mo_ending mo_embedding mo_list mo_lines mo_starts mo_shownLevels mo_order) := by
  intro f
  induction f with
  | zero => intro v1 mo_level mo_type mo_partner mo_top mo_entry mo_override mo_isolate mo_lostIsolates mo_lostEmbeddings mo_openIsolates h; rw [twl_mo_explicit_60] at h; exact h.elim
  | succ f ih =>
    intro v1 mo_level mo_type mo_partner mo_top mo_entry mo_override mo_isolate mo_lostIsolates mo_lostEmbeddings mo_openIsolates h
    rw [twl_mo_explicit_60] at h
    refine tw_iload_n hX twd_mo_explicit_60 rfl rfl ?_
    refine tw_aload_n hX twd_mo_explicit_61 rfl rfl ?_
    refine tw_get (kf := 2) hX twd_mo_explicit_62 twin_mo rfl (by decide) tww_689 rfl rfl rfl ?_
    refine tw_icmp_ge hX twd_mo_explicit_65 rfl (fun q83 => ?_) (fun q83 => ?_)
    · have h := h.1 q83
      refine tw_wk (L' := [none, none, none]) (tw_le_n (tw_le_n (tw_le_n tw_le_0))) ?_
      exact hX163 _ _ _ _ _ _ _ _ _ _ h
    · have h := h.2 q83
      refine tw_aload_n hX twd_mo_explicit_68 rfl rfl ?_
      refine tw_get (kf := 3) hX twd_mo_explicit_69 twin_mo rfl (by decide) tww_690 rfl rfl rfl ?_
      refine tw_iload_n hX twd_mo_explicit_72 rfl rfl ?_
      obtain ⟨c13, h⟩ := h
      refine tw_iaload hX twd_mo_explicit_73 rfl c13 ?_
      refine tw_istore_n (L' := [some (.inr 0), some (.inl v1), some (.inl (mo_kind (Int.toNat v1)))]) hX twd_mo_explicit_74 rfl (by decide) rfl ?_
      refine tw_aload_n hX twd_mo_explicit_75 rfl rfl ?_
      refine tw_get (kf := 10) hX twd_mo_explicit_76 twin_mo rfl (by decide) tww_697 rfl rfl rfl ?_
      refine tw_iload_n hX twd_mo_explicit_79 rfl rfl ?_
      refine tw_iconst hX twd_mo_explicit_80 ⟨by decide, by decide⟩ ?_
      obtain ⟨c14, h⟩ := h
      refine tw_iastore (mem' := (tw_mM mo_base mo_measure mo_size mo_kind mo_group mo_width mo_pair mo_known mo_root mo_level (tw_up mo_type (Int.toNat v1) (-1)) mo_resolved mo_partner mo_top mo_entry mo_override mo_isolate mo_lostIsolates mo_lostEmbeddings mo_openIsolates mo_n mo_seq mo_mark mo_beginning mo_ending mo_embedding mo_list mo_lines mo_starts mo_shownLevels mo_order)) hX twd_mo_explicit_81 rfl c14 rfl ?_
      refine tw_aload_n hX twd_mo_explicit_82 rfl rfl ?_
      refine tw_get (kf := 12) hX twd_mo_explicit_83 twin_mo rfl (by decide) tww_699 rfl rfl rfl ?_
      refine tw_iload_n hX twd_mo_explicit_86 rfl rfl ?_
      refine tw_iconst hX twd_mo_explicit_87 ⟨by decide, by decide⟩ ?_
      obtain ⟨c15, h⟩ := h
      refine tw_iastore (mem' := (tw_mM mo_base mo_measure mo_size mo_kind mo_group mo_width mo_pair mo_known mo_root mo_level (tw_up mo_type (Int.toNat v1) (-1)) mo_resolved (tw_up mo_partner (Int.toNat v1) (-1)) mo_top mo_entry mo_override mo_isolate mo_lostIsolates mo_lostEmbeddings mo_openIsolates mo_n mo_seq mo_mark mo_beginning mo_ending mo_embedding mo_list mo_lines mo_starts mo_shownLevels mo_order)) hX twd_mo_explicit_88 rfl c15 rfl ?_
      refine tw_iload_n hX twd_mo_explicit_89 rfl rfl ?_
      refine tw_bipush hX twd_mo_explicit_90 (by decide +kernel) ⟨by decide, by decide⟩ ?_
      have h := h (fun (x_16_mo_level : Nat → Int) (x_17_mo_type : Nat → Int) (x_18_mo_partner : Nat → Int) (x_19_mo_top : Int) (x_20_mo_entry : Nat → Int) (x_21_mo_override : Nat → Int) (x_22_mo_isolate : Nat → Int) (x_23_mo_lostIsolates : Int) (x_24_mo_lostEmbeddings : Int) (x_25_mo_openIsolates : Int) => tw_rn (tw_YM l D ad cI cZ) Z Post 157 [some (.inr 0), some (.inl v1), none] [] (tw_mM mo_base mo_measure mo_size mo_kind mo_group mo_width mo_pair mo_known mo_root x_16_mo_level x_17_mo_type mo_resolved x_18_mo_partner x_19_mo_top x_20_mo_entry x_21_mo_override x_22_mo_isolate x_23_mo_lostIsolates x_24_mo_lostEmbeddings x_25_mo_openIsolates mo_n mo_seq mo_mark mo_beginning mo_ending mo_embedding mo_list mo_lines mo_starts mo_shownLevels mo_order)) (by
        intro x_16_mo_level x_17_mo_type x_18_mo_partner x_19_mo_top x_20_mo_entry x_21_mo_override x_22_mo_isolate x_23_mo_lostIsolates x_24_mo_lostEmbeddings x_25_mo_openIsolates h
        obtain ⟨c27, h⟩ := h
        refine tw_iinc (L' := [some (.inr 0), some (.inl (v1 + 1)), none]) hX twd_mo_explicit_157 rfl (by decide) c27 rfl ?_
        refine tw_goto hX twd_mo_explicit_160 rfl ?_
        exact ih _ _ _ _ _ _ _ _ _ _ _ h)
      have h := h (fun (x28 : Int) (x_29_mo_type : Nat → Int) (x_30_mo_partner : Nat → Int) (x_31_mo_top : Int) (x_32_mo_entry : Nat → Int) (x_33_mo_override : Nat → Int) (x_34_mo_isolate : Nat → Int) (x_35_mo_lostEmbeddings : Int) => tw_rn (tw_YM l D ad cI cZ) Z Post 109 [some (.inr 0), some (.inl v1), some (.inl x28)] [] (tw_mM mo_base mo_measure mo_size mo_kind mo_group mo_width mo_pair mo_known mo_root mo_level x_29_mo_type mo_resolved x_30_mo_partner x_31_mo_top x_32_mo_entry x_33_mo_override x_34_mo_isolate mo_lostIsolates x_35_mo_lostEmbeddings mo_openIsolates mo_n mo_seq mo_mark mo_beginning mo_ending mo_embedding mo_list mo_lines mo_starts mo_shownLevels mo_order)) (by
        intro x28 x_29_mo_type x_30_mo_partner x_31_mo_top x_32_mo_entry x_33_mo_override x_34_mo_isolate x_35_mo_lostEmbeddings h
        refine tw_iload_n hX twd_mo_explicit_109 rfl rfl ?_
        refine tw_bipush hX twd_mo_explicit_110 (by decide +kernel) ⟨by decide, by decide⟩ ?_
        refine tw_icmp_ne hX twd_mo_explicit_112 rfl (fun q68 => ?_) (fun q68 => ?_)
        · have h := h.2 q68
          refine tw_aload_n hX twd_mo_explicit_122 rfl rfl ?_
          refine tw_iload_n hX twd_mo_explicit_123 rfl rfl ?_
          obtain ⟨c37, h⟩ := h
          refine tw_callV (As := [.inl v1]) (n := 1) hX twd_mo_explicit_124 tw_good tww_812 tww_809 tww_811 tww_40 tww_86 twk_mo_opener rfl rfl ⟨by decide, by decide⟩ rfl (Nat.le_of_ble_eq_true rfl) (twc_mo_opener c37 (fun z38 e39 => ?_))
          subst e39
          change tw_rn (tw_YM l D ad cI cZ) Z Post 127 [some (.inr 0), some (.inl v1), some (.inl x28)] [.inl (twr_mo_opener v1 mo_kind)] (tw_mM mo_base mo_measure mo_size mo_kind mo_group mo_width mo_pair mo_known mo_root mo_level x_29_mo_type mo_resolved x_30_mo_partner x_31_mo_top x_32_mo_entry x_33_mo_override x_34_mo_isolate mo_lostIsolates x_35_mo_lostEmbeddings mo_openIsolates mo_n mo_seq mo_mark mo_beginning mo_ending mo_embedding mo_list mo_lines mo_starts mo_shownLevels mo_order)
          refine tw_if_eq hX twd_mo_explicit_127 rfl (fun q61 => ?_) (fun q61 => ?_)
          · have h := h.1 q61
            refine tw_iload_n hX twd_mo_explicit_138 rfl rfl ?_
            refine tw_bipush hX twd_mo_explicit_139 (by decide +kernel) ⟨by decide, by decide⟩ ?_
            refine tw_icmp_ne hX twd_mo_explicit_141 rfl (fun q52 => ?_) (fun q52 => ?_)
            · have h := h.2 q52
              refine tw_aload_n hX twd_mo_explicit_152 rfl rfl ?_
              refine tw_iload_n hX twd_mo_explicit_153 rfl rfl ?_
              obtain ⟨c40, h⟩ := h
              refine tw_callV (As := [.inl v1]) (n := 1) hX twd_mo_explicit_154 tw_good tww_868 tww_865 tww_867 tww_52 tww_86 twk_mo_settle rfl rfl ⟨by decide, by decide⟩ rfl (Nat.le_of_ble_eq_true rfl) (twc_mo_settle c40 (fun w42 w43 e44 e45 => ?_))
              subst e44
              subst e45
              change tw_rn (tw_YM l D ad cI cZ) Z Post 157 [some (.inr 0), some (.inl v1), some (.inl x28)] [] (tw_mM mo_base mo_measure mo_size mo_kind mo_group mo_width mo_pair mo_known mo_root (twu_mo_settle__mo_level v1 mo_kind mo_level x_29_mo_type x_31_mo_top x_32_mo_entry x_33_mo_override) (twu_mo_settle__mo_type v1 mo_kind mo_level x_29_mo_type x_31_mo_top x_32_mo_entry x_33_mo_override) mo_resolved x_30_mo_partner x_31_mo_top x_32_mo_entry x_33_mo_override x_34_mo_isolate mo_lostIsolates x_35_mo_lostEmbeddings mo_openIsolates mo_n mo_seq mo_mark mo_beginning mo_ending mo_embedding mo_list mo_lines mo_starts mo_shownLevels mo_order)
              refine tw_wk (L' := [some (.inr 0), some (.inl v1), none]) (tw_le_s (tw_le_s (tw_le_n tw_le_0))) ?_
              exact h
            · have h := h.1 q52
              refine tw_aload_n hX twd_mo_explicit_144 rfl rfl ?_
              refine tw_iload_n hX twd_mo_explicit_145 rfl rfl ?_
              refine tw_callV (As := [.inl v1]) (n := 1) hX twd_mo_explicit_146 tw_good tww_872 tww_869 tww_871 tww_53 tww_86 twk_mo_leave rfl rfl ⟨by decide, by decide⟩ rfl (Nat.le_of_ble_eq_true rfl) (twc_mo_leave h (fun m_46_mo_level m_47_mo_type m_48_mo_top m_49_mo_lostIsolates m_50_mo_lostEmbeddings m_51_mo_openIsolates h => ?_))
              change tw_rn (tw_YM l D ad cI cZ) Z Post 149 [some (.inr 0), some (.inl v1), some (.inl x28)] [] (tw_mM mo_base mo_measure mo_size mo_kind mo_group mo_width mo_pair mo_known mo_root m_46_mo_level m_47_mo_type mo_resolved x_30_mo_partner m_48_mo_top x_32_mo_entry x_33_mo_override x_34_mo_isolate m_49_mo_lostIsolates m_50_mo_lostEmbeddings m_51_mo_openIsolates mo_n mo_seq mo_mark mo_beginning mo_ending mo_embedding mo_list mo_lines mo_starts mo_shownLevels mo_order)
              refine tw_goto hX twd_mo_explicit_149 rfl ?_
              refine tw_wk (L' := [some (.inr 0), some (.inl v1), none]) (tw_le_s (tw_le_s (tw_le_n tw_le_0))) ?_
              exact h
          · have h := h.2 q61
            refine tw_aload_n hX twd_mo_explicit_130 rfl rfl ?_
            refine tw_iload_n hX twd_mo_explicit_131 rfl rfl ?_
            refine tw_callV (As := [.inl v1]) (n := 1) hX twd_mo_explicit_132 tw_good tww_864 tww_861 tww_863 tww_51 tww_86 twk_mo_isolateAt rfl rfl ⟨by decide, by decide⟩ rfl (Nat.le_of_ble_eq_true rfl) (twc_mo_isolateAt h (fun m_53_mo_level m_54_mo_type m_55_mo_top m_56_mo_entry m_57_mo_override m_58_mo_isolate m_59_mo_lostIsolates m_60_mo_openIsolates h => ?_))
            change tw_rn (tw_YM l D ad cI cZ) Z Post 135 [some (.inr 0), some (.inl v1), some (.inl x28)] [] (tw_mM mo_base mo_measure mo_size mo_kind mo_group mo_width mo_pair mo_known mo_root m_53_mo_level m_54_mo_type mo_resolved x_30_mo_partner m_55_mo_top m_56_mo_entry m_57_mo_override m_58_mo_isolate m_59_mo_lostIsolates x_35_mo_lostEmbeddings m_60_mo_openIsolates mo_n mo_seq mo_mark mo_beginning mo_ending mo_embedding mo_list mo_lines mo_starts mo_shownLevels mo_order)
            refine tw_goto hX twd_mo_explicit_135 rfl ?_
            refine tw_wk (L' := [some (.inr 0), some (.inl v1), none]) (tw_le_s (tw_le_s (tw_le_n tw_le_0))) ?_
            exact h
        · have h := h.1 q68
          refine tw_aload_n hX twd_mo_explicit_115 rfl rfl ?_
          obtain ⟨c62, h⟩ := h
          refine tw_callV (As := []) (n := 0) hX twd_mo_explicit_116 tw_good tww_860 tww_857 tww_859 tww_50 tww_86 twk_mo_pop rfl rfl ⟨by decide, by decide⟩ rfl (Nat.le_of_ble_eq_true rfl) (twc_mo_pop c62 (fun w64 w65 e66 e67 => ?_))
          subst e66
          subst e67
          change tw_rn (tw_YM l D ad cI cZ) Z Post 119 [some (.inr 0), some (.inl v1), some (.inl x28)] [] (tw_mM mo_base mo_measure mo_size mo_kind mo_group mo_width mo_pair mo_known mo_root mo_level x_29_mo_type mo_resolved x_30_mo_partner (twu_mo_pop__mo_top x_31_mo_top x_34_mo_isolate mo_lostIsolates x_35_mo_lostEmbeddings) x_32_mo_entry x_33_mo_override x_34_mo_isolate mo_lostIsolates (twu_mo_pop__mo_lostEmbeddings x_31_mo_top x_34_mo_isolate mo_lostIsolates x_35_mo_lostEmbeddings) mo_openIsolates mo_n mo_seq mo_mark mo_beginning mo_ending mo_embedding mo_list mo_lines mo_starts mo_shownLevels mo_order)
          refine tw_goto hX twd_mo_explicit_119 rfl ?_
          refine tw_wk (L' := [some (.inr 0), some (.inl v1), none]) (tw_le_s (tw_le_s (tw_le_n tw_le_0))) ?_
          exact h)
      refine tw_icmp_lt hX twd_mo_explicit_92 rfl (fun q82 => ?_) (fun q82 => ?_)
      · have h := h.1 q82
        exact h
      · have h := h.2 q82
        refine tw_iload_n hX twd_mo_explicit_95 rfl rfl ?_
        refine tw_bipush hX twd_mo_explicit_96 (by decide +kernel) ⟨by decide, by decide⟩ ?_
        refine tw_icmp_gt hX twd_mo_explicit_98 rfl (fun q81 => ?_) (fun q81 => ?_)
        · have h := h.1 q81
          exact h
        · have h := h.2 q81
          refine tw_aload_n hX twd_mo_explicit_101 rfl rfl ?_
          refine tw_iload_n hX twd_mo_explicit_102 rfl rfl ?_
          obtain ⟨c69, h⟩ := h
          refine tw_callV (As := [.inl (mo_kind (Int.toNat v1))]) (n := 1) hX twd_mo_explicit_103 tw_good tww_848 tww_845 tww_847 tww_47 tww_86 twk_mo_embed rfl rfl ⟨by decide, by decide⟩ rfl (Nat.le_of_ble_eq_true rfl) (twc_mo_embed c69 (fun w71 w72 w73 w74 w75 e76 e77 e78 e79 e80 => ?_))
          subst e76
          subst e77
          subst e78
          subst e79
          subst e80
          change tw_rn (tw_YM l D ad cI cZ) Z Post 106 [some (.inr 0), some (.inl v1), some (.inl (mo_kind (Int.toNat v1)))] [] (tw_mM mo_base mo_measure mo_size mo_kind mo_group mo_width mo_pair mo_known mo_root mo_level (tw_up mo_type (Int.toNat v1) (-1)) mo_resolved (tw_up mo_partner (Int.toNat v1) (-1)) (twu_mo_embed__mo_top (mo_kind (Int.toNat v1)) mo_top mo_entry mo_override mo_isolate mo_lostIsolates mo_lostEmbeddings) (twu_mo_embed__mo_entry (mo_kind (Int.toNat v1)) mo_top mo_entry mo_override mo_isolate mo_lostIsolates mo_lostEmbeddings) (twu_mo_embed__mo_override (mo_kind (Int.toNat v1)) mo_top mo_entry mo_override mo_isolate mo_lostIsolates mo_lostEmbeddings) (twu_mo_embed__mo_isolate (mo_kind (Int.toNat v1)) mo_top mo_entry mo_override mo_isolate mo_lostIsolates mo_lostEmbeddings) mo_lostIsolates (twu_mo_embed__mo_lostEmbeddings (mo_kind (Int.toNat v1)) mo_top mo_entry mo_override mo_isolate mo_lostIsolates mo_lostEmbeddings) mo_openIsolates mo_n mo_seq mo_mark mo_beginning mo_ending mo_embedding mo_list mo_lines mo_starts mo_shownLevels mo_order)
          refine tw_goto hX twd_mo_explicit_106 rfl ?_
          refine tw_wk (L' := [some (.inr 0), some (.inl v1), none]) (tw_le_s (tw_le_s (tw_le_n tw_le_0))) ?_
          exact h
def tww_mo_explicit (mo_base : Int) (mo_size : Int) (mo_kind : Nat → Int) (mo_root : Int) (mo_level : Nat → Int) (mo_type : Nat → Int) (mo_partner : Nat → Int) (mo_top : Int) (mo_entry : Nat → Int) (mo_override : Nat → Int) (mo_isolate : Nat → Int) (mo_lostIsolates : Int) (mo_lostEmbeddings : Int) (mo_openIsolates : Int) (K : Int → (Nat → Int) → (Nat → Int) → (Nat → Int) → Int → (Nat → Int) → (Nat → Int) → (Nat → Int) → Int → Int → Int → Prop) : Prop :=
  (∀ J2 : Int → Prop, (∀ (x1 : Int), ((two_mo_put x1 (-1) 0 (-1) mo_entry mo_override mo_isolate) ∧ (∃ f94 : Nat, twl_mo_explicit_60 (fun (y84_mo_level : Nat → Int) (y85_mo_type : Nat → Int) (y86_mo_partner : Nat → Int) (y87_mo_top : Int) (y88_mo_entry : Nat → Int) (y89_mo_override : Nat → Int) (y90_mo_isolate : Nat → Int) (y91_mo_lostIsolates : Int) (y92_mo_lostEmbeddings : Int) (y93_mo_openIsolates : Int) =>
    K x1 y84_mo_level y85_mo_type y86_mo_partner y87_mo_top y88_mo_entry y89_mo_override y90_mo_isolate y91_mo_lostIsolates y92_mo_lostEmbeddings y93_mo_openIsolates) mo_base mo_size mo_kind x1 f94 0 mo_level mo_type mo_partner (twu_mo_put__mo_top x1 (-1) 0 (-1) mo_entry mo_override mo_isolate) (twu_mo_put__mo_entry x1 (-1) 0 (-1) mo_entry mo_override mo_isolate) (twu_mo_put__mo_override x1 (-1) 0 (-1) mo_entry mo_override mo_isolate) (twu_mo_put__mo_isolate x1 (-1) 0 (-1) mo_entry mo_override mo_isolate) 0 0 0)) → J2 x1) →
  ((2 ≤ mo_base →
  tww_mo_direction 0 mo_size mo_size mo_kind (fun z95 =>
    J2 z95)) ∧
  (¬ 2 ≤ mo_base →
  J2 mo_base)))
set_option maxRecDepth 100000 in
set_option maxHeartbeats 4000000 in
theorem twc_mo_explicit {l : Launch} {D : va_G} {ad : Nat → Nat} {cI cZ : ClassId} {Post : tw_P} {K : Int → (Nat → Int) → (Nat → Int) → (Nat → Int) → Int → (Nat → Int) → (Nat → Int) → (Nat → Int) → Int → Int → Int → Prop} {mo_base mo_measure mo_size mo_known mo_root mo_top mo_lostIsolates mo_lostEmbeddings mo_openIsolates mo_n mo_beginning mo_ending mo_embedding mo_lines : Int} {mo_kind mo_group mo_width mo_pair mo_level mo_type mo_resolved mo_partner mo_entry mo_override mo_isolate mo_seq mo_mark mo_list mo_starts mo_shownLevels mo_order : Nat → Int} (h : tww_mo_explicit mo_base mo_size mo_kind mo_root mo_level mo_type mo_partner mo_top mo_entry mo_override mo_isolate mo_lostIsolates mo_lostEmbeddings mo_openIsolates K) (hK : ∀ (n_mo_root : Int) (n_mo_level : Nat → Int) (n_mo_type : Nat → Int) (n_mo_partner : Nat → Int) (n_mo_top : Int) (n_mo_entry : Nat → Int) (n_mo_override : Nat → Int) (n_mo_isolate : Nat → Int) (n_mo_lostIsolates : Int) (n_mo_lostEmbeddings : Int) (n_mo_openIsolates : Int), K n_mo_root n_mo_level n_mo_type n_mo_partner n_mo_top n_mo_entry n_mo_override n_mo_isolate n_mo_lostIsolates n_mo_lostEmbeddings n_mo_openIsolates → Post none (tw_mM mo_base mo_measure mo_size mo_kind mo_group mo_width mo_pair mo_known n_mo_root n_mo_level n_mo_type mo_resolved n_mo_partner n_mo_top n_mo_entry n_mo_override n_mo_isolate n_mo_lostIsolates n_mo_lostEmbeddings n_mo_openIsolates mo_n mo_seq mo_mark mo_beginning mo_ending mo_embedding mo_list mo_lines mo_starts mo_shownLevels mo_order)) : tw_ct (tw_YM l D ad cI cZ) twy_mo_explicit (Cond.code twy_mo_explicit prog_11_method_21_code 3 none :: tw_Wg) 4 [.inr 0] (tw_mM mo_base mo_measure mo_size mo_kind mo_group mo_width mo_pair mo_known mo_root mo_level mo_type mo_resolved mo_partner mo_top mo_entry mo_override mo_isolate mo_lostIsolates mo_lostEmbeddings mo_openIsolates mo_n mo_seq mo_mark mo_beginning mo_ending mo_embedding mo_list mo_lines mo_starts mo_shownLevels mo_order) Post := by
  refine tw_of (own := twR_mo) (L0 := [some (.inr 0), none, none]) (by decide) rfl rfl (Nat.le_of_ble_eq_true rfl) (fun Z hX => ?_)
  unfold tww_mo_explicit at h
  refine tw_aload_n hX twd_mo_explicit_0 rfl rfl ?_
  refine tw_aload_n hX twd_mo_explicit_1 rfl rfl ?_
  refine tw_get (kf := 0) hX twd_mo_explicit_2 twin_mo rfl (by decide) tww_687 rfl rfl rfl ?_
  refine tw_iconst hX twd_mo_explicit_5 ⟨by decide, by decide⟩ ?_
  have h := h (fun (x1 : Int) => tw_rn (tw_YM l D ad cI cZ) Z Post 25 [some (.inr 0), none, none] [.inl x1, .inr 0] (tw_mM mo_base mo_measure mo_size mo_kind mo_group mo_width mo_pair mo_known mo_root mo_level mo_type mo_resolved mo_partner mo_top mo_entry mo_override mo_isolate mo_lostIsolates mo_lostEmbeddings mo_openIsolates mo_n mo_seq mo_mark mo_beginning mo_ending mo_embedding mo_list mo_lines mo_starts mo_shownLevels mo_order)) (by
    intro x1 h
    refine tw_put (kf := 8) (mem' := (tw_mM mo_base mo_measure mo_size mo_kind mo_group mo_width mo_pair mo_known x1 mo_level mo_type mo_resolved mo_partner mo_top mo_entry mo_override mo_isolate mo_lostIsolates mo_lostEmbeddings mo_openIsolates mo_n mo_seq mo_mark mo_beginning mo_ending mo_embedding mo_list mo_lines mo_starts mo_shownLevels mo_order)) twt_mo hX twd_mo_explicit_25 twin_mo twtok_mo twnm_mo rfl (by decide) tww_695 rfl rfl rfl (Or.inl rfl) rfl (Nat.le_of_ble_eq_true rfl) rfl ?_
    refine tw_aload_n hX twd_mo_explicit_28 rfl rfl ?_
    refine tw_iconst hX twd_mo_explicit_29 ⟨by decide, by decide⟩ ?_
    refine tw_put (kf := 13) (mem' := (tw_mM mo_base mo_measure mo_size mo_kind mo_group mo_width mo_pair mo_known x1 mo_level mo_type mo_resolved mo_partner (-1) mo_entry mo_override mo_isolate mo_lostIsolates mo_lostEmbeddings mo_openIsolates mo_n mo_seq mo_mark mo_beginning mo_ending mo_embedding mo_list mo_lines mo_starts mo_shownLevels mo_order)) twt_mo hX twd_mo_explicit_30 twin_mo twtok_mo twnm_mo rfl (by decide) tww_700 rfl rfl rfl (Or.inl rfl) rfl (Nat.le_of_ble_eq_true rfl) rfl ?_
    refine tw_aload_n hX twd_mo_explicit_33 rfl rfl ?_
    refine tw_aload_n hX twd_mo_explicit_34 rfl rfl ?_
    refine tw_get (kf := 8) hX twd_mo_explicit_35 twin_mo rfl (by decide) tww_695 rfl rfl rfl ?_
    refine tw_iconst hX twd_mo_explicit_38 ⟨by decide, by decide⟩ ?_
    refine tw_iconst hX twd_mo_explicit_39 ⟨by decide, by decide⟩ ?_
    obtain ⟨c3, h⟩ := h
    refine tw_callV (As := [.inl x1, .inl ((-1)), .inl 0]) (n := 3) hX twd_mo_explicit_40 tw_good tww_844 tww_841 tww_843 tww_46 tww_86 twk_mo_put rfl rfl ⟨by decide, by decide⟩ rfl (Nat.le_of_ble_eq_true rfl) (twc_mo_put c3 (fun w5 w6 w7 w8 e9 e10 e11 e12 => ?_))
    subst e9
    subst e10
    subst e11
    subst e12
    change tw_rn (tw_YM l D ad cI cZ) Z Post 43 [some (.inr 0), none, none] [] (tw_mM mo_base mo_measure mo_size mo_kind mo_group mo_width mo_pair mo_known x1 mo_level mo_type mo_resolved mo_partner (twu_mo_put__mo_top x1 (-1) 0 (-1) mo_entry mo_override mo_isolate) (twu_mo_put__mo_entry x1 (-1) 0 (-1) mo_entry mo_override mo_isolate) (twu_mo_put__mo_override x1 (-1) 0 (-1) mo_entry mo_override mo_isolate) (twu_mo_put__mo_isolate x1 (-1) 0 (-1) mo_entry mo_override mo_isolate) mo_lostIsolates mo_lostEmbeddings mo_openIsolates mo_n mo_seq mo_mark mo_beginning mo_ending mo_embedding mo_list mo_lines mo_starts mo_shownLevels mo_order)
    refine tw_aload_n hX twd_mo_explicit_43 rfl rfl ?_
    refine tw_iconst hX twd_mo_explicit_44 ⟨by decide, by decide⟩ ?_
    refine tw_put (kf := 17) (mem' := (tw_mM mo_base mo_measure mo_size mo_kind mo_group mo_width mo_pair mo_known x1 mo_level mo_type mo_resolved mo_partner (twu_mo_put__mo_top x1 (-1) 0 (-1) mo_entry mo_override mo_isolate) (twu_mo_put__mo_entry x1 (-1) 0 (-1) mo_entry mo_override mo_isolate) (twu_mo_put__mo_override x1 (-1) 0 (-1) mo_entry mo_override mo_isolate) (twu_mo_put__mo_isolate x1 (-1) 0 (-1) mo_entry mo_override mo_isolate) 0 mo_lostEmbeddings mo_openIsolates mo_n mo_seq mo_mark mo_beginning mo_ending mo_embedding mo_list mo_lines mo_starts mo_shownLevels mo_order)) twt_mo hX twd_mo_explicit_45 twin_mo twtok_mo twnm_mo rfl (by decide) tww_704 rfl rfl rfl (Or.inl rfl) rfl (Nat.le_of_ble_eq_true rfl) rfl ?_
    refine tw_aload_n hX twd_mo_explicit_48 rfl rfl ?_
    refine tw_iconst hX twd_mo_explicit_49 ⟨by decide, by decide⟩ ?_
    refine tw_put (kf := 18) (mem' := (tw_mM mo_base mo_measure mo_size mo_kind mo_group mo_width mo_pair mo_known x1 mo_level mo_type mo_resolved mo_partner (twu_mo_put__mo_top x1 (-1) 0 (-1) mo_entry mo_override mo_isolate) (twu_mo_put__mo_entry x1 (-1) 0 (-1) mo_entry mo_override mo_isolate) (twu_mo_put__mo_override x1 (-1) 0 (-1) mo_entry mo_override mo_isolate) (twu_mo_put__mo_isolate x1 (-1) 0 (-1) mo_entry mo_override mo_isolate) 0 0 mo_openIsolates mo_n mo_seq mo_mark mo_beginning mo_ending mo_embedding mo_list mo_lines mo_starts mo_shownLevels mo_order)) twt_mo hX twd_mo_explicit_50 twin_mo twtok_mo twnm_mo rfl (by decide) tww_705 rfl rfl rfl (Or.inl rfl) rfl (Nat.le_of_ble_eq_true rfl) rfl ?_
    refine tw_aload_n hX twd_mo_explicit_53 rfl rfl ?_
    refine tw_iconst hX twd_mo_explicit_54 ⟨by decide, by decide⟩ ?_
    refine tw_put (kf := 19) (mem' := (tw_mM mo_base mo_measure mo_size mo_kind mo_group mo_width mo_pair mo_known x1 mo_level mo_type mo_resolved mo_partner (twu_mo_put__mo_top x1 (-1) 0 (-1) mo_entry mo_override mo_isolate) (twu_mo_put__mo_entry x1 (-1) 0 (-1) mo_entry mo_override mo_isolate) (twu_mo_put__mo_override x1 (-1) 0 (-1) mo_entry mo_override mo_isolate) (twu_mo_put__mo_isolate x1 (-1) 0 (-1) mo_entry mo_override mo_isolate) 0 0 0 mo_n mo_seq mo_mark mo_beginning mo_ending mo_embedding mo_list mo_lines mo_starts mo_shownLevels mo_order)) twt_mo hX twd_mo_explicit_55 twin_mo twtok_mo twnm_mo rfl (by decide) tww_706 rfl rfl rfl (Or.inl rfl) rfl (Nat.le_of_ble_eq_true rfl) rfl ?_
    refine tw_iconst hX twd_mo_explicit_58 ⟨by decide, by decide⟩ ?_
    refine tw_istore_n (L' := [some (.inr 0), some (.inl 0), none]) hX twd_mo_explicit_59 rfl (by decide) rfl ?_
    obtain ⟨f94, h⟩ := h
    refine twt_mo_explicit_60 hX (fun y84_mo_level y85_mo_type y86_mo_partner y87_mo_top y88_mo_entry y89_mo_override y90_mo_isolate y91_mo_lostIsolates y92_mo_lostEmbeddings y93_mo_openIsolates h => ?_) f94 _ _ _ _ _ _ _ _ _ _ _ h
    exact tw_vret hX twd_mo_explicit_163 (hK _ _ _ _ _ _ _ _ _ _ _ h))
  refine tw_icmp_ge hX twd_mo_explicit_6 rfl (fun q96 => ?_) (fun q96 => ?_)
  · have h := h.1 q96
    refine tw_aload_n hX twd_mo_explicit_16 rfl rfl ?_
    refine tw_iconst hX twd_mo_explicit_17 ⟨by decide, by decide⟩ ?_
    refine tw_aload_n hX twd_mo_explicit_18 rfl rfl ?_
    refine tw_get (kf := 2) hX twd_mo_explicit_19 twin_mo rfl (by decide) tww_689 rfl rfl rfl ?_
    refine tw_callV (As := [.inl 0, .inl mo_size]) (n := 2) hX twd_mo_explicit_22 tw_good tww_840 tww_837 tww_839 tww_45 tww_86 twk_mo_direction rfl rfl ⟨by decide, by decide⟩ rfl (Nat.le_of_ble_eq_true rfl) (twc_mo_direction h (fun z95 h => ?_))
    change tw_rn (tw_YM l D ad cI cZ) Z Post 25 [some (.inr 0), none, none] [.inl z95, .inr 0] (tw_mM mo_base mo_measure mo_size mo_kind mo_group mo_width mo_pair mo_known mo_root mo_level mo_type mo_resolved mo_partner mo_top mo_entry mo_override mo_isolate mo_lostIsolates mo_lostEmbeddings mo_openIsolates mo_n mo_seq mo_mark mo_beginning mo_ending mo_embedding mo_list mo_lines mo_starts mo_shownLevels mo_order)
    exact h
  · have h := h.2 q96
    refine tw_aload_n hX twd_mo_explicit_9 rfl rfl ?_
    refine tw_get (kf := 0) hX twd_mo_explicit_10 twin_mo rfl (by decide) tww_687 rfl rfl rfl ?_
    refine tw_goto hX twd_mo_explicit_13 rfl ?_
    exact h
