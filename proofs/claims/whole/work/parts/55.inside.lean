/-! pure: levels inside of isolates -/
section INS
variable {k : Nat → Int} {n : Nat} {b : Int}
theorem CI_eis {S : St} {m : Nat} {E O I : Nat → Int} {la li le oi : Int} (h : CI S m E O I la li le oi) : ∃ la li le oi, CI (eis S) m E O I la li le oi := by
  have h0 := h
  obtain ⟨x, r, a, c, rfl, rfl, rfl, rfl, rfl, h1, h2, h3⟩ := h
  by_cases z1 : 0 < a
  · have e : eis (x :: r, a, c) = (x :: r, a - 1, c) := by
      unfold eis
      rw [if_pos (show 0 < ((x :: r, a, c) : St).2.1 from z1)]
    rw [e]
    exact ⟨_, _, _, _, x, r, a - 1, c, rfl, rfl, rfl, rfl, rfl, h1, h2, by omega⟩
  · by_cases z2 : iso (x :: r) = 0
    · have e : eis (x :: r, a, c) = (x :: r, a, c) := by
        unfold eis
        rw [if_neg (show ¬ 0 < ((x :: r, a, c) : St).2.1 from z1), if_pos (show iso ((x :: r, a, c) : St).1 = 0 from z2)]
      rw [e]
      exact ⟨_, _, _, _, h0⟩
    · have e : eis (x :: r, a, c) = (popi (x :: r), 0, 0) := by
        unfold eis
        rw [if_neg (show ¬ 0 < ((x :: r, a, c) : St).2.1 from z1), if_neg (show ¬ iso ((x :: r, a, c) : St).1 = 0 from z2)]
      obtain ⟨y, s, e1, e2, e3, e4⟩ := popi_ok h2 (by omega)
      have hrp := rep_popi h1
      rw [e1] at hrp
      rw [e, e1]
      exact ⟨_, _, _, _, y, s, 0, 0, rfl, rfl, rfl, rfl, rfl, hrp, e2, by omega⟩
theorem CI_all (hb : b = 0 ∨ b = 1) : ∀ i, i ≤ 64 → ∃ E O I la li le oi, CI (sts k n b i) i E O I la li le oi := by
  intro i
  induction i with
  | zero => intro _; exact ⟨fun _ => b, fun _ => -1, fun _ => 0, _, _, _, _, CI_0 hb rfl rfl rfl⟩
  | succ i ih =>
    intro hi
    obtain ⟨E, O, I, la, li, le, oi, h⟩ := ih (by omega)
    rw [sts_s]
    unfold ste
    by_cases h1 : k i = 20
    · rw [if_pos h1]
      obtain ⟨la, li, le, oi, h⟩ := CI_eis h
      exact ⟨_, _, _, _, _, _, _, CI_m h⟩
    · rw [if_neg h1]
      by_cases h2 : k i = 16
      · rw [if_pos h2]
        exact ⟨_, _, _, _, _, _, _, CI_m (c_eem h (by omega)).2⟩
      · rw [if_neg h2]
        by_cases h3 : 12 ≤ k i ∧ k i ≤ 15
        · rw [if_pos h3]
          exact ⟨_, _, _, _, _, _, _, (c_emb (k i) h (by omega)).2⟩
        · rw [if_neg h3]
          by_cases h4 : op k i
          · rw [if_pos h4]
            exact ⟨_, _, _, _, _, _, _, (c_isl _ h (by omega)).2⟩
          · rw [if_neg h4]
            exact ⟨_, _, _, _, _, _, _, CI_m h⟩
theorem CI_sat (hb : b = 0 ∨ b = 1) {i : Nat} (hi : i ≤ 64) : ∃ E O I la li le oi, CI (sat k n b i) i E O I la li le oi := by
  obtain ⟨E, O, I, la, li, le, oi, h⟩ := CI_all (k := k) (n := n) hb i hi
  unfold sat
  by_cases h1 : k i = 20
  · rw [if_pos h1]
    obtain ⟨la, li, le, oi, h⟩ := CI_eis h
    exact ⟨_, _, _, _, _, _, _, h⟩
  · rw [if_neg h1]
    exact ⟨_, _, _, _, _, _, _, h⟩
theorem CI_sok {S : St} {m : Nat} {E O I : Nat → Int} {la li le oi : Int} (h : CI S m E O I la li le oi) : sok S.1 := by
  obtain ⟨x, r, a, c, rfl, _, _, _, _, _, h2, _⟩ := h
  exact h2
theorem lv_b (hb : b = 0 ∨ b = 1) {i : Nat} (hi : i ≤ 64) : 0 ≤ lv k n b i ∧ lv k n b i ≤ 5 := by
  obtain ⟨E, O, I, la, li, le, oi, h⟩ := CI_sat (k := k) (n := n) hb hi
  have := CI_bd h
  unfold lv
  omega
theorem ty_b (hb : b = 0 ∨ b = 1) {i : Nat} (hi : i ≤ 64) (hk : 0 ≤ k i ∧ k i ≤ 20) (hv : ¬ hid k i) : 0 ≤ ty k n b i ∧ ty k n b i ≤ 20 ∧ ¬ (12 ≤ ty k n b i ∧ ty k n b i ≤ 16) := by
  obtain ⟨E, O, I, la, li, le, oi, h⟩ := CI_sat (k := k) (n := n) hb hi
  have := CI_bd h
  unfold ty
  split
  · exact ⟨hk.1, hk.2, hv⟩
  · omega
theorem iso_app (p t : List En) : iso (p ++ t) = iso p + iso t := by
  induction p with
  | nil => show iso t = 0 + iso t; omega
  | cons x r ih =>
    show iso (x :: (r ++ t)) = _
    rw [iso_s, iso_s, ih]
    split <;> omega
theorem popi_0 {p : List En} {e : En} {t : List En} (h : iso p = 0) (he : ¬ e.2.2 = 0) : popi (p ++ e :: t) = t := by
  induction p with
  | nil => show popi (e :: t) = t; rw [popi_s, if_neg he]
  | cons x r ih =>
    rw [iso_s] at h
    by_cases z : x.2.2 = 0
    · rw [if_pos z] at h
      show popi (x :: (r ++ e :: t)) = t
      rw [popi_s, if_pos z, ih h]
    · rw [if_neg z] at h
      omega
theorem popi_p {p t : List En} (h : 0 < iso p) : popi (p ++ t) = popi p ++ t ∧ iso (popi p) + 1 = iso p := by
  induction p with
  | nil => exact absurd h (by decide)
  | cons x r ih =>
    show popi (x :: (r ++ t)) = _ ∧ _
    rw [iso_s] at h ⊢
    rw [popi_s, popi_s]
    by_cases z : x.2.2 = 0
    · rw [if_pos z] at h ⊢
      rw [if_pos z, if_pos z]
      exact ih h
    · rw [if_neg z, if_neg z, if_neg z]
      exact ⟨rfl, rfl⟩
theorem tp_app {p : List En} {e : En} {t : List En} (h : sok (p ++ e :: t)) : e.1 ≤ (tp (p ++ e :: t)).1 := by
  induction p with
  | nil => exact Int.le_refl _
  | cons x r ih =>
    have h2 : sok (x :: (r ++ e :: t)) := h
    have h3 := ih h2.2.2.2.2.2.2
    rcases h2.2.2.2.2.2.1 with z | z
    · exact absurd z (by simp)
    · show e.1 ≤ x.1
      omega
theorem lv_O {q : Nat} {t : List En} {a0 : Nat} : ∀ (m i d : Nat), i + m = n → cl k m d i = q → (sts k n b i).1 = t → (sts k n b i).2.1 = a0 + 1 + d → lv k n b q = (tp t).1 ∧ ∀ j, i ≤ j → j < q → ¬ hid k j → lv k n b j = (tp t).1 := by
  intro m
  induction m with
  | zero =>
    intro i d _ h
    have : (-1 : Int) = q := h
    omega
  | succ m ih =>
    intro i d hi hcl hS hli
    rw [cl_s] at hcl
    have fin : ∀ d2, cl k m d2 (i + 1) = q → (sts k n b (i + 1)).1 = t → (sts k n b (i + 1)).2.1 = a0 + 1 + d2 → (¬ hid k i → lv k n b i = (tp t).1) → lv k n b q = (tp t).1 ∧ ∀ j, i ≤ j → j < q → ¬ hid k j → lv k n b j = (tp t).1 := fun d2 h1 h2 h3 h4 => by
      have := ih (i + 1) d2 (by omega) h1 h2 h3
      refine ⟨this.1, fun j hj1 hj2 hv => ?_⟩
      by_cases z : j = i
      · subst z; exact h4 hv
      · exact this.2 j (by omega) hj2 hv
    have hp : 0 < (sts k n b i).2.1 := by omega
    by_cases h20 : k i = 20
    · rw [if_pos h20] at hcl
      have e1 : eis (sts k n b i) = ((sts k n b i).1, (sts k n b i).2.1 - 1, (sts k n b i).2.2) := if_pos hp
      have e2 : lv k n b i = (tp t).1 := by
        unfold lv sat
        rw [if_pos h20, e1, hS]
      by_cases z : d = 0
      · rw [if_pos z] at hcl
        have : i = q := by omega
        subst this
        exact ⟨e2, fun j h1 h2 => absurd h1 (by omega)⟩
      · rw [if_neg z] at hcl
        have e3 : sts k n b (i + 1) = eis (sts k n b i) := by
          rw [sts_s]
          unfold ste
          rw [if_pos h20]
        refine fin _ hcl ?_ ?_ (fun _ => e2)
        · rw [e3, e1]; exact hS
        · rw [e3, e1]
          show (sts k n b i).2.1 - 1 = a0 + 1 + (d - 1)
          omega
    · rw [if_neg h20] at hcl
      have e2 : lv k n b i = (tp t).1 := by
        unfold lv sat
        rw [if_neg h20, hS]
      have nf : ∀ v, ¬ ft (sts k n b i) v := fun v hv => by
        have := hv.2.1
        omega
      by_cases h4 : op k i
      · rw [if_pos h4] at hcl
        have e3 : sts k n b (i + 1) = ((sts k n b i).1, (sts k n b i).2.1 + 1, (sts k n b i).2.2) := by
          rw [sts_s]
          unfold ste isl
          rw [if_neg h20, if_neg (by omega), if_neg (by omega), if_pos h4, if_neg (nf _)]
        refine fin _ hcl ?_ ?_ (fun _ => e2)
        · rw [e3]; exact hS
        · rw [e3]
          show (sts k n b i).2.1 + 1 = a0 + 1 + (d + 1)
          omega
      · rw [if_neg h4] at hcl
        have e3 : sts k n b (i + 1) = sts k n b i := by
          rw [sts_s]
          unfold ste eem emb
          rw [if_neg h20]
          by_cases h2 : k i = 16
          · rw [if_pos h2, if_pos hp]
          · rw [if_neg h2]
            by_cases h3 : 12 ≤ k i ∧ k i ≤ 15
            · rw [if_pos h3, if_neg (nf _), if_neg (by omega)]
            · rw [if_neg h3, if_neg h4]
        refine fin _ hcl ?_ ?_ (fun _ => e2)
        · rw [e3]; exact hS
        · rw [e3]; exact hli
theorem lv_F (hb : b = 0 ∨ b = 1) (hn : n ≤ 64) {q : Nat} {t : List En} {e : En} (he : ¬ e.2.2 = 0) (het : (tp t).1 < e.1) : ∀ (m i d : Nat) (p : List En), i + m = n → cl k m d i = q → (sts k n b i).1 = p ++ e :: t → iso p + (sts k n b i).2.1 = d → lv k n b q = (tp t).1 ∧ ∀ j, i ≤ j → j < q → ¬ hid k j → (tp t).1 < lv k n b j := by
  intro m
  induction m with
  | zero =>
    intro i d _ _ h
    have : (-1 : Int) = q := h
    omega
  | succ m ih =>
    intro i d p hi hcl hS hli
    rw [cl_s] at hcl
    have hlt : ∀ p2, (sat k n b i).1 = p2 ++ e :: t → (tp t).1 < lv k n b i := fun p2 h => by
      obtain ⟨_, _, _, _, _, _, _, hci⟩ := CI_sat (k := k) (n := n) hb (show i ≤ 64 by omega)
      have hs := CI_sok hci
      unfold lv
      rw [h] at hs ⊢
      have := tp_app hs
      omega
    have fin : ∀ d2 p2, cl k m d2 (i + 1) = q → (sts k n b (i + 1)).1 = p2 ++ e :: t → iso p2 + (sts k n b (i + 1)).2.1 = d2 → (∃ p3, (sat k n b i).1 = p3 ++ e :: t) → lv k n b q = (tp t).1 ∧ ∀ j, i ≤ j → j < q → ¬ hid k j → (tp t).1 < lv k n b j := fun d2 p2 h1 h2 h3 h4 => by
      have := ih (i + 1) d2 p2 (by omega) h1 h2 h3
      refine ⟨this.1, fun j hj1 hj2 hv => ?_⟩
      by_cases z : j = i
      · subst z
        obtain ⟨p3, h5⟩ := h4
        exact hlt p3 h5
      · exact this.2 j (by omega) hj2 hv
    by_cases h20 : k i = 20
    · rw [if_pos h20] at hcl
      have es : sat k n b i = eis (sts k n b i) := if_pos h20
      have e3 : sts k n b (i + 1) = eis (sts k n b i) := by
        rw [sts_s]
        unfold ste
        rw [if_pos h20]
      have hiso : ¬ iso (sts k n b i).1 = 0 := by
        rw [hS, iso_app, iso_s, if_neg he]
        omega
      by_cases z : d = 0
      · rw [if_pos z] at hcl
        have hq : i = q := by omega
        subst hq
        refine ⟨?_, fun j h1 h2 => absurd h1 (by omega)⟩
        have e1 : eis (sts k n b i) = (popi (sts k n b i).1, 0, 0) := by
          unfold eis
          rw [if_neg (by omega), if_neg hiso]
        unfold lv
        rw [es, e1, hS]
        show (tp (popi (p ++ e :: t))).1 = (tp t).1
        rw [popi_0 (by omega) he]
      · rw [if_neg z] at hcl
        by_cases y : 0 < (sts k n b i).2.1
        · have e1 : eis (sts k n b i) = ((sts k n b i).1, (sts k n b i).2.1 - 1, (sts k n b i).2.2) := if_pos y
          refine fin _ p hcl ?_ ?_ ⟨p, ?_⟩
          · rw [e3, e1]; exact hS
          · rw [e3, e1]
            show iso p + ((sts k n b i).2.1 - 1) = d - 1
            omega
          · rw [es, e1]; exact hS
        · have e1 : eis (sts k n b i) = (popi (sts k n b i).1, 0, 0) := by
            unfold eis
            rw [if_neg y, if_neg hiso]
          have hpp := popi_p (p := p) (t := e :: t) (by omega)
          refine fin _ (popi p) hcl ?_ ?_ ⟨popi p, ?_⟩
          · rw [e3, e1, hS]; exact hpp.1
          · rw [e3, e1]
            show iso (popi p) + 0 = d - 1
            have := hpp.2
            omega
          · rw [es, e1, hS]; exact hpp.1
    · rw [if_neg h20] at hcl
      have es : sat k n b i = sts k n b i := if_neg h20
      have hx : ∃ p3, (sat k n b i).1 = p3 ++ e :: t := ⟨p, by rw [es]; exact hS⟩
      by_cases h4 : op k i
      · rw [if_pos h4] at hcl
        have e3 : sts k n b (i + 1) = isl (wan k n i) (sts k n b i) := by
          rw [sts_s]
          unfold ste
          rw [if_neg h20, if_neg (by omega), if_neg (by omega), if_pos h4]
        unfold isl at e3
        by_cases f : ft (sts k n b i) (nxl (wan k n i) (tp (sts k n b i).1).1)
        · rw [if_pos f] at e3
          refine fin _ ((nxl (wan k n i) (tp (sts k n b i).1).1, -1, 1) :: p) hcl ?_ ?_ hx
          · rw [e3]
            show (nxl (wan k n i) (tp (sts k n b i).1).1, -1, 1) :: (sts k n b i).1 = (nxl (wan k n i) (tp (sts k n b i).1).1, -1, 1) :: (p ++ e :: t)
            rw [hS]
          · rw [e3]
            rw [iso_s, if_neg (show ¬ (1 : Int) = 0 by decide)]
            show iso p + 1 + (sts k n b i).2.1 = d + 1
            omega
        · rw [if_neg f] at e3
          refine fin _ p hcl ?_ ?_ hx
          · rw [e3]; exact hS
          · rw [e3]
            show iso p + ((sts k n b i).2.1 + 1) = d + 1
            omega
      · rw [if_neg h4] at hcl
        have e3 : sts k n b (i + 1) = if k i = 16 then eem (sts k n b i) else if 12 ≤ k i ∧ k i ≤ 15 then emb (k i) (sts k n b i) else sts k n b i := by
          rw [sts_s]
          unfold ste
          rw [if_neg h20, if_neg h4]
        by_cases h2 : k i = 16
        · rw [if_pos h2] at e3
          unfold eem at e3
          by_cases y1 : 0 < (sts k n b i).2.1
          · rw [if_pos y1] at e3
            exact fin _ p hcl (by rw [e3]; exact hS) (by rw [e3]; exact hli) hx
          · rw [if_neg y1] at e3
            by_cases y2 : 0 < (sts k n b i).2.2
            · rw [if_pos y2] at e3
              exact fin _ p hcl (by rw [e3]; exact hS) (by rw [e3]; exact hli) hx
            · rw [if_neg y2] at e3
              by_cases y3 : 1 < (sts k n b i).1.length ∧ (tp (sts k n b i).1).2.2 = 0
              · rw [if_pos y3] at e3
                cases p with
                | nil =>
                  rw [hS] at y3
                  exact absurd y3.2 he
                | cons x p2 =>
                  have y4 : x.2.2 = 0 := by
                    have := y3.2
                    rw [hS] at this
                    exact this
                  rw [iso_s, if_pos y4] at hli
                  refine fin _ p2 hcl ?_ ?_ hx
                  · rw [e3, hS]; rfl
                  · rw [e3]; exact hli
              · rw [if_neg y3] at e3
                exact fin _ p hcl (by rw [e3]; exact hS) (by rw [e3]; exact hli) hx
        · rw [if_neg h2] at e3
          by_cases h3 : 12 ≤ k i ∧ k i ≤ 15
          · rw [if_pos h3] at e3
            unfold emb at e3
            by_cases f : ft (sts k n b i) (nxl (wo (k i)) (tp (sts k n b i).1).1)
            · rw [if_pos f] at e3
              refine fin _ ((nxl (wo (k i)) (tp (sts k n b i).1).1, twr_ex_overrideOf (k i), 0) :: p) hcl ?_ ?_ hx
              · rw [e3]
                show _ :: (sts k n b i).1 = _ :: (p ++ e :: t)
                rw [hS]
              · rw [e3]
                rw [iso_s, if_pos rfl]
                exact hli
            · rw [if_neg f] at e3
              by_cases y : (sts k n b i).2.1 = 0
              · rw [if_pos y] at e3
                exact fin _ p hcl (by rw [e3]; exact hS) (by rw [e3]; exact hli) hx
              · rw [if_neg y] at e3
                exact fin _ p hcl (by rw [e3]; exact hS) (by rw [e3]; exact hli) hx
          · rw [if_neg h3] at e3
            exact fin _ p hcl (by rw [e3]; exact hS) (by rw [e3]; exact hli) hx
theorem lv_in (hb : b = 0 ∨ b = 1) (hn : n ≤ 64) {o q : Nat} (ho : op k o) (hon : o < n) (hq : clo k n o = q) : lv k n b q = lv k n b o ∧ ((∀ j, o < j → j < q → ¬ hid k j → lv k n b o < lv k n b j) ∨ (∀ j, o < j → j < q → ¬ hid k j → lv k n b j = lv k n b o)) := by
  have h20 : ¬ k o = 20 := by omega
  have e0 : lv k n b o = (tp (sts k n b o).1).1 := by
    unfold lv sat
    rw [if_neg h20]
  have e3 : sts k n b (o + 1) = isl (wan k n o) (sts k n b o) := by
    rw [sts_s]
    unfold ste
    rw [if_neg h20, if_neg (by omega), if_neg (by omega), if_pos ho]
  unfold isl at e3
  unfold clo at hq
  rw [e0]
  by_cases f : ft (sts k n b o) (nxl (wan k n o) (tp (sts k n b o).1).1)
  · rw [if_pos f] at e3
    have := lv_F (k := k) (n := n) (b := b) hb hn (q := q) (t := (sts k n b o).1) (e := (nxl (wan k n o) (tp (sts k n b o).1).1, -1, 1)) (show ¬ (1 : Int) = 0 by decide) nxl_b.1 (n - (o + 1)) (o + 1) 0 [] (by omega) hq (by rw [e3]; rfl) (by rw [e3]; show 0 + (sts k n b o).2.1 = 0; rw [f.2.1])
    exact ⟨this.1, Or.inl (fun j h1 h2 hv => this.2 j (by omega) h2 hv)⟩
  · rw [if_neg f] at e3
    have := lv_O (k := k) (n := n) (b := b) (q := q) (t := (sts k n b o).1) (a0 := (sts k n b o).2.1) (n - (o + 1)) (o + 1) 0 (by omega) hq (by rw [e3]) (by rw [e3])
    exact ⟨this.1, Or.inr (fun j h1 h2 hv => this.2 j (by omega) h2 hv)⟩
end INS
