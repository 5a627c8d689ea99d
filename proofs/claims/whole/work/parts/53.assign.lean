/-! pure: explicit levels and types, first side -/
def wan (k : Nat → Int) (n i : Nat) : Int := if k i = 18 then 1 else if k i = 19 then dr k n ((if clo k n i = -1 then n else (clo k n i).toNat) - (i + 1)) 0 (i + 1) else 0
def ste (k : Nat → Int) (n i : Nat) (S : St) : St := if k i = 20 then eis S else if k i = 16 then eem S else if 12 ≤ k i ∧ k i ≤ 15 then emb (k i) S else if op k i then isl (wan k n i) S else S
def sts (k : Nat → Int) (n : Nat) (b : Int) : Nat → St
  | 0 => ([(b, -1, 0)], 0, 0)
  | i + 1 => ste k n i (sts k n b i)
theorem sts_s (k : Nat → Int) (n : Nat) (b : Int) (i : Nat) : sts k n b (i + 1) = ste k n i (sts k n b i) := rfl
def sat (k : Nat → Int) (n : Nat) (b : Int) (i : Nat) : St := if k i = 20 then eis (sts k n b i) else sts k n b i
def lv (k : Nat → Int) (n : Nat) (b : Int) (i : Nat) : Int := (tp (sat k n b i).1).1
def ty (k : Nat → Int) (n : Nat) (b : Int) (i : Nat) : Int := if (tp (sat k n b i).1).2.1 = -1 then k i else (tp (sat k n b i).1).2.1
theorem ih_y {x : Int} (h : 12 ≤ x ∧ x ≤ 16) : ¬ twr_tl_isHidden x = 0 := by
  unfold twr_tl_isHidden
  rw [if_neg (by omega), if_neg (by omega)]
  decide
theorem ih_n {x : Int} (h : ¬ (12 ≤ x ∧ x ≤ 16)) : twr_tl_isHidden x = 0 := by
  unfold twr_tl_isHidden
  by_cases g : x < 12
  · rw [if_pos g]
  · rw [if_neg g, if_pos (by omega)]
theorem wan_01 (k : Nat → Int) (n i : Nat) : wan k n i = 0 ∨ wan k n i = 1 := by
  unfold wan
  split
  · exact Or.inr rfl
  · split
    · exact dr_01 k n _ _ _
    · exact Or.inl rfl
section ASG
variable {k M : Nat → Int} {n : Nat} {b : Int}
theorem q_want (hn : n ≤ 64) (hM : ∀ j, j < n → op k j → M j = clo k n j) {i : Nat} (hi : i < n) (ho : op k i) {K : Int → Prop} (hK : K (wan k n i)) : tww_ex_wantsOdd i k n M K := by
  refine ⟨⟨by omega, by omega⟩, ?_⟩
  rw [tn]
  unfold wan at hK
  by_cases a : k i = 19
  · refine ⟨fun _ => ⟨⟨by omega, by omega⟩, fun x hx => ⟨⟨by omega, by omega⟩, ?_⟩⟩, fun y => absurd a y⟩
    rw [if_neg (by omega), if_pos a] at hK
    rw [hM i hi ho] at hx
    have d01 := dr_01 k n ((if clo k n i = -1 then n else (clo k n i).toNat) - (i + 1)) 0 (i + 1)
    have fin : ∀ d : Int, d = 0 ∨ d = 1 → K d → ((d = 1 → K 1) ∧ (¬ d = 1 → K 0)) := fun d h1 h2 => ⟨fun y => y ▸ h2, fun y => by
      rcases h1 with z | z
      · rw [z] at h2; exact h2
      · exact absurd z y⟩
    have hf := fin _ d01 hK
    rcases clo_b (k := k) (n := n) (i := i) hi with z | ⟨j, z, h1, h2, _⟩
    · rw [if_pos z] at hx hf
      rw [hx, sc]
      exact q_dir hn (by omega) (Nat.le_refl _) hM hf
    · rw [if_neg (by omega), z] at hx
      rw [if_neg (by omega), z, tn] at hf
      rw [hx, sc]
      exact q_dir hn (by omega) (by omega) hM hf
  · refine ⟨fun y => absurd y a, fun _ => ⟨⟨by omega, by omega⟩, fun c => ?_, fun c => ?_⟩⟩
    · rw [if_pos c] at hK
      exact hK
    · rw [if_neg c, if_neg a] at hK
      exact hK
theorem p_asg (hn : n ≤ 64) (hM : ∀ j, j < n → op k j → M j = clo k n j) {X : (Nat → Int) → (Nat → Int) → (Nat → Int) → (Nat → Int) → (Nat → Int) → Int → Int → Int → Int → Prop} (hX : ∀ L T E O I la li le oi, (∀ j, j < n → ¬ hid k j → L j = lv k n b j ∧ T j = ty k n b j) → X L T E O I la li le oi) : ∀ (m i : Nat) (L T E O I : Nat → Int) (la li le oi : Int), i + m = n → CI (sts k n b i) i E O I la li le oi → (∀ j, j < i → ¬ hid k j → L j = lv k n b j ∧ T j = ty k n b j) → twl_ex_assign_8 X k n M (m + 1) i L T E O I la li le oi := by
  intro m
  induction m with
  | zero =>
    intro i L T E O I la li le oi hi hc hL
    rw [twl_ex_assign_8]
    have : i = n := by omega
    subst this
    exact ⟨fun _ => hX _ _ _ _ _ _ _ _ _ hL, fun g => absurd (Int.le_refl _) g⟩
  | succ m ih =>
    intro i L T E O I la0 li0 le0 oi0 hi hc0 hL
    rw [twl_ex_assign_8]
    refine ⟨fun g => absurd g (by omega), fun _ => ⟨⟨by omega, by omega⟩, fun J22 hJ22 => ?_⟩⟩
    rw [tn]
    have j22 : ∀ la li le oi, CI (sat k n b i) i E O I la li le oi → J22 (k i) la li le oi := fun la li le oi hc => hJ22 _ _ _ _ _ (by
      have hb := CI_bd hc
      by_cases h16 : k i = 16
      · have hh : hid k i := ⟨by omega, by omega⟩
        have es : sat k n b i = sts k n b i := if_neg (by omega)
        have hce := c_eem hc (by omega)
        refine ⟨⟨fun _ => hce.1, fun y => absurd h16 y⟩, ?_⟩
        intro L2 hL2 T2 hT2 E2 hE2 O2 hO2 I2 hI2 la2 hla2 le2 hle2 J64 hJ64
        rw [if_pos h16] at hL2 hT2 hE2 hO2 hI2 hla2 hle2
        refine ⟨fun _ => hJ64 _ _ _ _ _ _ ⟨⟨by omega, by omega⟩, ?_⟩, fun y => absurd (io_n (by omega)) y⟩
        rw [hL2, hT2, hE2, hO2, hI2, hla2, hle2, sc]
        have e1 : sts k n b (i + 1) = eem (sat k n b i) := by
          rw [sts_s, es]
          unfold ste
          rw [if_neg (by omega), if_pos h16]
        refine ih (i + 1) _ _ _ _ _ _ _ _ _ (by omega) (by rw [e1]; exact CI_m hce.2) (fun j hj hv => ?_)
        by_cases z : j = i
        · subst z; exact absurd hh hv
        · exact hL j (by omega) hv
      · by_cases hh : hid k i
        · have es : sat k n b i = sts k n b i := if_neg (by omega)
          have hce := c_emb (k i) hc (by omega)
          have hy := ih_y hh
          refine ⟨⟨fun y => absurd y h16, fun _ => ⟨fun y => absurd y hy, fun _ => hce.1⟩⟩, ?_⟩
          intro L2 hL2 T2 hT2 E2 hE2 O2 hO2 I2 hI2 la2 hla2 le2 hle2 J64 hJ64
          rw [if_neg h16, if_neg hy] at hL2 hT2 hE2 hO2 hI2 hla2 hle2
          refine ⟨fun _ => hJ64 _ _ _ _ _ _ ⟨⟨by omega, by omega⟩, ?_⟩, fun y => absurd (io_n (by omega)) y⟩
          rw [hL2, hT2, hE2, hO2, hI2, hla2, hle2, sc]
          have e1 : sts k n b (i + 1) = emb (k i) (sat k n b i) := by
            rw [sts_s, es]
            unfold ste
            rw [if_neg (by omega), if_neg h16, if_pos ⟨hh.1, by omega⟩]
          refine ih (i + 1) _ _ _ _ _ _ _ _ _ (by omega) (by rw [e1]; exact hce.2) (fun j hj hv => ?_)
          by_cases z : j = i
          · subst z; exact absurd hh hv
          · exact hL j (by omega) hv
        · have hy := ih_n hh
          refine ⟨⟨fun y => absurd y h16, fun _ => ⟨fun _ => ⟨⟨hb.1, hb.2.1⟩, ⟨by omega, by omega⟩, ⟨hb.1, hb.2.1⟩, fun _ => ⟨by omega, by omega⟩, fun _ => ⟨⟨hb.1, hb.2.1⟩, ⟨by omega, by omega⟩⟩⟩, fun y => absurd hy y⟩⟩, ?_⟩
          intro L2 hL2 T2 hT2 E2 hE2 O2 hO2 I2 hI2 la2 hla2 le2 hle2 J64 hJ64
          rw [if_neg h16, if_pos hy] at hL2 hT2 hE2 hO2 hI2 hla2 hle2
          have hL3 : ∀ j, j < i + 1 → ¬ hid k j → L2 j = lv k n b j ∧ T2 j = ty k n b j := by
            intro j hj hv
            rw [hL2, hT2]
            unfold twu_ex_give__ex_levels twu_ex_give__ex_types
            rw [tn]
            by_cases z : j = i
            · subst z
              rw [up_at]
              refine ⟨hb.2.2.2.2.1, ?_⟩
              unfold ty
              rw [hb.2.2.2.2.2.1]
              by_cases y : (tp (sat k n b j).1).2.1 = -1
              · rw [if_pos y, if_pos y, up_at]
              · rw [if_neg y, if_neg y, up_at]
            · rw [up_ne _ _ z]
              refine ⟨(hL j (by omega) hv).1, ?_⟩
              by_cases y : O la.toNat = -1
              · rw [if_pos y, up_ne _ _ z]; exact (hL j (by omega) hv).2
              · rw [if_neg y, up_ne _ _ z]; exact (hL j (by omega) hv).2
          by_cases ho : op k i
          · have e1 : sts k n b (i + 1) = isl (wan k n i) (sat k n b i) := by
              have es : sat k n b i = sts k n b i := if_neg (by omega)
              rw [sts_s, es]
              unfold ste
              rw [if_neg (by omega), if_neg h16, if_neg (by omega), if_pos ho]
            rw [hE2, hO2, hI2, hla2, hle2] at *
            have hci := c_isl (wan k n i) hc (by omega)
            refine ⟨fun y => absurd y (io_y ho), fun _ => q_want hn hM (by omega) ho ⟨hci.1, hJ64 _ _ _ _ _ _ ⟨⟨by omega, by omega⟩, ?_⟩⟩⟩
            rw [sc]
            exact ih (i + 1) _ _ _ _ _ _ _ _ _ (by omega) (by rw [e1]; exact hci.2) hL3
          · have e1 : sts k n b (i + 1) = sat k n b i := by
              rw [sts_s]
              unfold ste sat
              by_cases y : k i = 20
              · rw [if_pos y, if_pos y]
              · rw [if_neg y, if_neg y, if_neg h16, if_neg (by omega), if_neg ho]
            rw [hE2, hO2, hI2, hla2, hle2] at *
            refine ⟨fun _ => hJ64 _ _ _ _ _ _ ⟨⟨by omega, by omega⟩, ?_⟩, fun y => absurd (io_n ho) y⟩
            rw [sc]
            exact ih (i + 1) _ _ _ _ _ _ _ _ _ (by omega) (by rw [e1]; exact CI_m hc) hL3)
    by_cases h20 : k i = 20
    · refine ⟨fun _ => c_eis hc0 (by omega) (fun la li le oi hc => j22 la li le oi ?_), fun y => absurd h20 y⟩
      unfold sat
      rw [if_pos h20]
      exact hc
    · refine ⟨fun y => absurd y h20, fun _ => j22 _ _ _ _ ?_⟩
      unfold sat
      rw [if_neg h20]
      exact hc0
theorem CI_0 (hb : b = 0 ∨ b = 1) {E O I : Nat → Int} (h1 : E 0 = b) (h2 : O 0 = -1) (h3 : I 0 = 0) : CI (sts k n b 0) 0 E O I 0 0 0 0 :=
  ⟨(b, -1, 0), [], 0, 0, rfl, rfl, rfl, rfl, rfl, ⟨h1, h2, h3, True.intro⟩, ⟨by show (0 : Int) ≤ b; omega, by show b ≤ 5; omega, fun _ => rfl, Or.inl rfl, Or.inl rfl, Or.inl rfl, True.intro⟩, Nat.le_refl _⟩
theorem q_asg (hn : n ≤ 64) (hb : b = 0 ∨ b = 1) (hM : ∀ j, j < n → op k j → M j = clo k n j) {L T E O I : Nat → Int} {la li le oi : Int} {K : (Nat → Int) → (Nat → Int) → (Nat → Int) → (Nat → Int) → (Nat → Int) → Int → Int → Int → Int → Prop} (hK : ∀ L T E O I la li le oi, (∀ j, j < n → ¬ hid k j → L j = lv k n b j ∧ T j = ty k n b j) → K L T E O I la li le oi) : tww_ex_assign b k n M L T E O I la li le oi K :=
  ⟨n + 1, p_asg hn hM (X := fun a b c d e f g h i => K a b c d e f g h i) hK n 0 _ _ _ _ _ _ _ _ _ (by omega) (CI_0 hb (up_at _ _ _) (up_at _ _ _) (up_at _ _ _)) (fun j hj => absurd hj (by omega))⟩
def rut (k : Nat → Int) (n : Nat) (a : Int) : Int := if a = 2 then dr k n n 0 0 else a
theorem rut_01 {k : Nat → Int} {n : Nat} {a : Int} (h : 0 ≤ a ∧ a ≤ 2) : rut k n a = 0 ∨ rut k n a = 1 := by
  unfold rut
  split
  · exact dr_01 k n _ _ _
  · omega
theorem mt_op {k : Nat → Int} {n j : Nat} (h : op k j) : mt k n j = clo k n j := if_pos h
theorem q_marks (hn : n ≤ 64) {a : Int} (ha : 0 ≤ a ∧ a ≤ 2) {M W L T E O I : Nat → Int} {op0 la li le oi : Int} {K : (Nat → Int) → (Nat → Int) → Int → (Nat → Int) → (Nat → Int) → (Nat → Int) → (Nat → Int) → (Nat → Int) → Int → Int → Int → Int → Prop} (hK : ∀ M W L T E O I la li le oi, (∀ j, j < n → M j = mt k n j) → (∀ j, j < n → ¬ hid k j → L j = lv k n (rut k n a) j ∧ T j = ty k n (rut k n a) j) → K M W (rut k n a) L T E O I la li le oi) : tww_le_readMarks k n a M W op0 L T E O I la li le oi K := by
  refine q_find hn (fun M1 W1 h1 J6 hJ6 => ?_)
  have hM : ∀ j, j < n → op k j → M1 j = clo k n j := fun j hj ho => (h1 j hj).trans (mt_op ho)
  have j6 : J6 M1 W1 (rut k n a) := hJ6 _ _ _ (q_asg hn (rut_01 ha) hM (fun L T E O I la li le oi h2 => hK _ _ _ _ _ _ _ _ _ _ _ h1 h2))
  refine ⟨fun z => ?_, fun z => ?_⟩
  · have e : rut k n a = dr k n n 0 0 := if_pos z
    rw [e] at j6
    exact q_dir (a := 0) hn (Nat.zero_le _) (Nat.le_refl _) hM j6
  · have e : rut k n a = a := if_neg z
    rw [e] at j6
    exact j6
end ASG
