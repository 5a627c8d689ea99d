/-! pure: explicit levels and types, second side -/
section MEX
variable {S : St} {m : Nat} {E O I : Nat → Int} {la li le oi : Int}
theorem m_eem (h : CI S m E O I la li le oi) (hm : m ≤ 64) : two_mo_pop la I li le ∧ CI (eem S) m E O I (twu_mo_pop__mo_top la I li le) li (twu_mo_pop__mo_lostEmbeddings la I li le) oi := by
  have hb := CI_bd h
  exact ⟨fun _ => ⟨fun _ _ => ⟨⟨by omega, by omega⟩, fun _ => ⟨by omega, by omega⟩⟩, fun _ => ⟨by omega, by omega⟩⟩, (c_eem h hm).2⟩
theorem m_nl {w : Int} (hw : w = 0 ∨ w = 1) (h : CI S m E O I la li le oi) : two_mo_next w la E ∧ twr_mo_next w la E = nxl w (tp S.1).1 := by
  have hb := CI_bd h
  refine ⟨⟨⟨hb.1, by omega⟩, ⟨by omega, by omega⟩, by omega, fun _ _ => ⟨by omega, by omega⟩, fun _ _ => ⟨by omega, by omega⟩⟩, ?_⟩
  unfold twr_mo_next nxl
  rw [hb.2.2.2.2.1]
  by_cases z : ((tp S.1).1 + 1) % 2 = 1
  · rw [if_pos z, z]
  · rw [if_neg z, show ((tp S.1).1 + 1) % 2 = 0 by omega]
theorem m_push {x : En} {r : List En} {a b : Nat} (w q c : Int) (hm : a + b ≤ m) (h1 : rep E O I (x :: r)) (h2 : sok (x :: r)) (hv : nxl w x.1 ≤ 5) (hb : q = -1 ∨ q = 0 ∨ q = 1) (hc : c = 0 ∨ c = 1) : two_mo_put (nxl w x.1) q c (r.length : Int) E O I ∧ CI ((nxl w x.1, q, c) :: x :: r, a, b) m (twu_mo_put__mo_entry (nxl w x.1) q c (r.length : Int) E O I) (twu_mo_put__mo_override (nxl w x.1) q c (r.length : Int) E O I) (twu_mo_put__mo_isolate (nxl w x.1) q c (r.length : Int) E O I) (twu_mo_put__mo_top (nxl w x.1) q c (r.length : Int) E O I) a b (iso ((nxl w x.1, q, c) :: x :: r)) := by
  have hp := push_ok h2 hv hb hc
  refine ⟨⟨⟨by omega, by omega⟩, ⟨by omega, by omega⟩, ⟨by omega, by omega⟩, ⟨by omega, by omega⟩, by omega⟩, ?_⟩
  exact ⟨_, x :: r, a, b, rfl, rfl, rfl, rfl, rfl, rep_push h1, hp.1, hm⟩
def emb2 (w v : Int) (S : St) : St := if ft S (nxl w (tp S.1).1) then ((nxl w (tp S.1).1, v, 0) :: S.1, S.2.1, S.2.2) else if S.2.1 = 0 then (S.1, S.2.1, S.2.2 + 1) else S
theorem m_emb2 (w v : Int) (hw : w = 0 ∨ w = 1) (hv : v = -1 ∨ v = 0 ∨ v = 1) (h : CI S m E O I la li le oi) (hm : m < 64) : ((two_mo_next w la E) ∧ (((twr_mo_fits (twr_mo_next w la E) li le) = 0 → ((li = 0 → ((tw_rg (le + 1)))))) ∧ (¬ (twr_mo_fits (twr_mo_next w la E) li le) = 0 → ((two_mo_put (twr_mo_next w la E) v 0 la E O I))))) ∧ CI (emb2 w v S) (m + 1) (if (twr_mo_fits (twr_mo_next w la E) li le) = 0 then E else (twu_mo_put__mo_entry (twr_mo_next w la E) v 0 la E O I)) (if (twr_mo_fits (twr_mo_next w la E) li le) = 0 then O else (twu_mo_put__mo_override (twr_mo_next w la E) v 0 la E O I)) (if (twr_mo_fits (twr_mo_next w la E) li le) = 0 then I else (twu_mo_put__mo_isolate (twr_mo_next w la E) v 0 la E O I)) (if (twr_mo_fits (twr_mo_next w la E) li le) = 0 then la else (twu_mo_put__mo_top (twr_mo_next w la E) v 0 la E O I)) li (if (twr_mo_fits (twr_mo_next w la E) li le) = 0 then (if li = 0 then (le + 1) else le) else le) oi := by
  have hb := CI_bd h
  have hn := m_nl hw h
  have h0 := h
  obtain ⟨x, r, a, c, rfl, rfl, rfl, rfl, rfl, h1, h2, h3⟩ := h
  have hn2 : twr_mo_next w r.length E = nxl w x.1 := hn.2
  rw [hn2]
  by_cases z : nxl w x.1 ≤ 5 ∧ a = 0 ∧ c = 0
  · have hp := m_push (m := m) (a := a) (b := c) w v 0 h3 h1 h2 z.1 hv (Or.inl rfl)
    have f : ¬ twr_mo_fits (nxl w x.1) a c = 0 := fit_y z
    refine ⟨⟨hn.1, fun y => absurd y f, fun _ => hp.1⟩, ?_⟩
    rw [if_neg f, if_neg f, if_neg f, if_neg f, if_neg f]
    have e : emb2 w v (x :: r, a, c) = ((nxl w x.1, v, 0) :: x :: r, a, c) := if_pos z
    rw [e]
    exact CI_m hp.2
  · have f : twr_mo_fits (nxl w x.1) a c = 0 := fit_n z
    refine ⟨⟨hn.1, fun _ _ => ⟨by omega, by omega⟩, fun y => absurd f y⟩, ?_⟩
    rw [if_pos f, if_pos f, if_pos f, if_pos f, if_pos f]
    have e : emb2 w v (x :: r, a, c) = if a = 0 then (x :: r, a, c + 1) else (x :: r, a, c) := if_neg z
    rw [e]
    by_cases y : a = 0
    · rw [if_pos y, if_pos (by omega)]
      exact ⟨x, r, a, c + 1, rfl, rfl, rfl, rfl, rfl, h1, h2, by omega⟩
    · rw [if_neg y, if_neg (by omega)]
      exact CI_m h0
theorem m_emb {q : Int} (hq : q = 12 ∨ q = 13 ∨ q = 14 ∨ q = 15) (h : CI S m E O I la li le oi) (hm : m < 64) : two_mo_embed q la E O I li le ∧ CI (emb q S) (m + 1) (twu_mo_embed__mo_entry q la E O I li le) (twu_mo_embed__mo_override q la E O I li le) (twu_mo_embed__mo_isolate q la E O I li le) (twu_mo_embed__mo_top q la E O I li le) li (twu_mo_embed__mo_lostEmbeddings q la E O I li le) oi := by
  rcases hq with rfl | rfl | rfl | rfl
  · have hc := m_emb2 0 (-1) (Or.inl rfl) (Or.inl rfl) h hm
    refine ⟨⟨fun y => absurd y (by decide), fun _ => ⟨fun y => absurd y (by decide), fun _ => ⟨hc.1.1, hc.1.2.1, fun y => ⟨fun _ => hc.1.2.2 y, fun _ => ⟨fun _ => hc.1.2.2 y, fun _ => hc.1.2.2 y⟩⟩⟩⟩⟩, ?_⟩
    exact hc.2
  · have hc := m_emb2 1 (-1) (Or.inr rfl) (Or.inl rfl) h hm
    refine ⟨⟨fun _ => ⟨hc.1.1, hc.1.2.1, fun y => ⟨fun _ => hc.1.2.2 y, fun _ => ⟨fun _ => hc.1.2.2 y, fun _ => hc.1.2.2 y⟩⟩⟩, fun y => absurd rfl y⟩, ?_⟩
    exact hc.2
  · have hc := m_emb2 0 0 (Or.inl rfl) (Or.inr (Or.inl rfl)) h hm
    refine ⟨⟨fun y => absurd y (by decide), fun _ => ⟨fun y => absurd y (by decide), fun _ => ⟨hc.1.1, hc.1.2.1, fun y => ⟨fun _ => hc.1.2.2 y, fun _ => ⟨fun _ => hc.1.2.2 y, fun _ => hc.1.2.2 y⟩⟩⟩⟩⟩, ?_⟩
    exact hc.2
  · have hc := m_emb2 1 1 (Or.inr rfl) (Or.inr (Or.inr rfl)) h hm
    refine ⟨⟨fun y => absurd y (by decide), fun _ => ⟨fun _ => ⟨hc.1.1, hc.1.2.1, fun y => ⟨fun _ => hc.1.2.2 y, fun _ => ⟨fun _ => hc.1.2.2 y, fun _ => hc.1.2.2 y⟩⟩⟩, fun y => absurd rfl y⟩⟩, ?_⟩
    exact hc.2
theorem p_mleave {X : Int → Prop} {v d1 d2 d3 : Int} {k L T : Nat → Int} : ∀ st : List En, rep E O I st → sok st → 0 < iso st → (∀ y s, popi st = y :: s → X ((y :: s).length : Int)) → ∃ f : Nat, twl_mo_leave_32 X v k L T E O I d1 d2 d3 f ((st.length : Int) - 1) := by
  intro st
  induction st with
  | nil => intro _ _ h; exact absurd h (by decide)
  | cons x r ih =>
    intro h1 h2 h3 hX
    have b1 := h2.1
    have b2 := h2.2.1
    have e : (((x :: r).length : Nat) : Int) - 1 = r.length := by show ((r.length : Int) + 1) - 1 = _; omega
    rw [e]
    rw [popi_s] at hX
    rw [iso_s] at h3
    have hr : r ≠ [] := fun z => by
      subst z
      rw [if_pos (h2.2.2.1 rfl)] at h3
      exact absurd h3 (by decide)
    have hl : 0 < r.length := by
      cases r with
      | nil => exact absurd rfl hr
      | cons y s => exact Nat.succ_pos _
    by_cases z : x.2.2 = 0
    · rw [if_pos z] at hX h3
      obtain ⟨f, hf⟩ := ih h1.2.2.2 h2.2.2.2.2.2.2 h3 hX
      refine ⟨f + 1, ?_⟩
      rw [twl_mo_leave_32]
      rw [tn, h1.2.2.1]
      exact ⟨fun y => absurd y (by omega), fun _ => ⟨⟨by omega, by omega⟩, fun _ => ⟨⟨by omega, by omega⟩, hf⟩, fun y => absurd z y⟩⟩
    · rw [if_neg z] at hX
      refine ⟨1, ?_⟩
      rw [twl_mo_leave_32]
      rw [tn, h1.2.2.1]
      refine ⟨fun y => absurd y (by omega), fun _ => ⟨⟨by omega, by omega⟩, fun y => absurd y z, fun _ => ?_⟩⟩
      cases r with
      | nil => exact absurd rfl hr
      | cons y s => exact hX y s rfl
theorem m_set {i : Nat} {k L T : Nat → Int} (h : CI S m E O I la li le oi) (hi : i < 64) : two_mo_settle i k L T la E O ∧ twu_mo_settle__mo_level i k L T la E O = tw_up L i (tp S.1).1 ∧ twu_mo_settle__mo_type i k L T la E O = tw_up T i (if (tp S.1).2.1 = -1 then k i else (tp S.1).2.1) := by
  have hb := CI_bd h
  refine ⟨⟨⟨hb.1, by omega⟩, ⟨by omega, by omega⟩, ⟨hb.1, by omega⟩, fun _ => ⟨⟨by omega, by omega⟩, ⟨by omega, by omega⟩⟩, fun _ => ⟨⟨hb.1, by omega⟩, ⟨by omega, by omega⟩⟩⟩, ?_, ?_⟩
  · unfold twu_mo_settle__mo_level
    rw [tn, hb.2.2.2.2.1]
  · unfold twu_mo_settle__mo_type
    rw [tn]
    have h7 := hb.2.2.2.2.2.2.1
    rw [hb.2.2.2.2.2.1] at h7 ⊢
    by_cases y : (tp S.1).2.1 = -1
    · rw [if_pos y, if_pos (by omega)]
    · rw [if_neg y, if_neg (by omega)]
theorem m_leave {i : Nat} {k L T : Nat → Int} {K : (Nat → Int) → (Nat → Int) → Int → Int → Int → Int → Prop} (h : CI S m E O I la li le oi) (hm : m ≤ 64) (hi : i < 64) (hK : ∀ la li le oi, CI (eis S) m E O I la li le oi → K (tw_up L i (tp (eis S).1).1) (tw_up T i (if (tp (eis S).1).2.1 = -1 then k i else (tp (eis S).1).2.1)) la li le oi) : tww_mo_leave i k L T la E O I li le oi K := by
  intro J5 hJ5
  have j5 : ∀ la li le oi, CI (eis S) m E O I la li le oi → J5 la li le oi := fun la li le oi hc => hJ5 _ _ _ _ (by
    have hs := m_set (k := k) (L := L) (T := T) hc hi
    rw [hs.2.1, hs.2.2]
    exact ⟨hs.1, hK _ _ _ _ hc⟩)
  have hb := CI_bd h
  have h0 := h
  obtain ⟨x, r, a, c, rfl, rfl, rfl, rfl, rfl, h1, h2, h3⟩ := h
  refine ⟨fun y1 => ⟨fun y2 => j5 _ _ _ _ ?_, fun y2 => ?_⟩, fun y1 => ⟨⟨by omega, by omega⟩, j5 _ _ _ _ ?_⟩⟩
  · have e : eis (x :: r, a, c) = (x :: r, a, c) := by
      unfold eis
      rw [if_neg (by show ¬ 0 < a; omega), if_pos (by show iso (x :: r) = 0; omega)]
    rw [e]
    exact h0
  · have e : eis (x :: r, a, c) = (popi (x :: r), 0, 0) := by
      unfold eis
      rw [if_neg (by show ¬ 0 < a; omega), if_neg (by show ¬ iso (x :: r) = 0; omega)]
    obtain ⟨y, s, e1, e2, e3, e4⟩ := popi_ok h2 (by omega)
    rw [e, e1] at j5
    have b1 := e2.1
    have b2 := e2.2.1
    have hg := p_mleave (X := fun (y16_mo_top : Int) => (tw_rg (y16_mo_top - 1)) ∧ (tw_rg (((iso (x :: r) : Nat) : Int) - 1)) ∧ J5 (y16_mo_top - 1) (a : Int) 0 (((iso (x :: r) : Nat) : Int) - 1)) (v := (i : Int)) (k := k) (L := L) (T := T) (d1 := (a : Int)) (d2 := 0) (d3 := ((iso (x :: r) : Nat) : Int)) (x :: r) h1 h2 (by omega) (fun y' s' e' => by
      rw [e1] at e'
      have e5 : (y' :: s').length = s.length + 1 := by rw [← e']; rfl
      rw [e5]
      refine ⟨⟨by omega, by omega⟩, ⟨by omega, by omega⟩, j5 _ _ _ _ ?_⟩
      have hrp := rep_popi h1
      rw [e1] at hrp
      exact ⟨y, s, 0, 0, rfl, by omega, by omega, rfl, by omega, hrp, e2, by omega⟩)
    have e6 : (((x :: r).length : Nat) : Int) - 1 = r.length := by show ((r.length : Int) + 1) - 1 = _; omega
    rw [e6] at hg
    exact hg
  · have e : eis (x :: r, a, c) = (x :: r, a - 1, c) := by
      unfold eis
      rw [if_pos (by show 0 < a; omega)]
    rw [e]
    exact ⟨x, r, a - 1, c, rfl, rfl, by omega, rfl, rfl, h1, h2, by omega⟩
theorem m_isl {k L T : Nat → Int} {n i : Nat} (hn : n ≤ 64) (hi : i < n) (hk : ∀ j, j < n → 0 ≤ k j) (ho : op k i) {K : (Nat → Int) → (Nat → Int) → Int → (Nat → Int) → (Nat → Int) → (Nat → Int) → Int → Int → Prop} (h : CI S m E O I la li le oi) (hm : m < 64) (hK : ∀ la E O I li oi, CI (isl (wan k n i) S) (m + 1) E O I la li le oi → K (tw_up L i (tp S.1).1) (tw_up T i (if (tp S.1).2.1 = -1 then k i else (tp S.1).2.1)) la E O I li oi) : tww_mo_isolateAt i n k L T la E O I li le oi K := by
  have hs := m_set (k := k) (L := L) (T := T) h (show i < 64 by omega)
  refine ⟨hs.1, q_clo hn hi ⟨⟨by omega, by omega⟩, fun J12 hJ12 J33 hJ33 => ?_⟩⟩
  rw [hs.2.1, hs.2.2, tn]
  have hw := wan_01 k n i
  have j12 : ∀ w : Int, w = wan k n i → J12 w (tw_up L i (tp S.1).1) (tw_up T i (if (tp S.1).2.1 = -1 then k i else (tp S.1).2.1)) := fun w e => hJ12 _ _ _ (by
    have hb := CI_bd h
    have hn2 := m_nl (w := w) (by omega) h
    rw [hn2.2]
    refine ⟨hn2.1, ?_⟩
    rw [← e] at hK
    obtain ⟨x, r, a, c, rfl, rfl, rfl, rfl, rfl, h1, h2, h3⟩ := h
    have et : (tp ((x :: r, a, c) : St).1).1 = x.1 := rfl
    by_cases z : nxl w x.1 ≤ 5 ∧ a = 0 ∧ c = 0
    · have hp := m_push (m := m) (a := a) (b := c) w (-1) 1 h3 h1 h2 z.1 (Or.inl rfl) (Or.inr rfl)
      have f : ¬ twr_mo_fits (nxl w x.1) a c = 0 := fit_y z
      have e : isl w (x :: r, a, c) = ((nxl w x.1, -1, 1) :: x :: r, a, c) := if_pos z
      rw [e] at hK
      exact ⟨fun y => absurd y f, fun _ => ⟨⟨by omega, by omega⟩, hp.1, hK _ _ _ _ _ _ (CI_m hp.2)⟩⟩
    · have f : twr_mo_fits (nxl w x.1) a c = 0 := fit_n z
      have e : isl w (x :: r, a, c) = (x :: r, a + 1, c) := if_neg z
      rw [e] at hK
      exact ⟨fun _ => ⟨⟨by omega, by omega⟩, hK _ _ _ _ _ _ ⟨x, r, a + 1, c, rfl, rfl, rfl, rfl, rfl, h1, h2, by omega⟩⟩, fun y => absurd f y⟩)
  unfold wan at j12
  refine ⟨fun a => hJ33 _ _ (j12 1 (by rw [if_pos a])), fun a => ⟨⟨by omega, by omega⟩, fun J35 hJ35 => ⟨fun c => ⟨⟨by omega, by omega⟩, fun x hx => ?_⟩, fun c => hJ35 (j12 0 (by rw [if_neg a, if_neg c]))⟩⟩⟩
  rw [if_neg a, if_pos c] at j12
  have d01 := dr_01 k n ((if clo k n i = -1 then n else (clo k n i).toNat) - (i + 1)) 0 (i + 1)
  have fin : ∀ d : Int, d = dr k n ((if clo k n i = -1 then n else (clo k n i).toNat) - (i + 1)) 0 (i + 1) → ((d = 1 → J33 (tw_up L i (tp S.1).1) (tw_up T i (if (tp S.1).2.1 = -1 then k i else (tp S.1).2.1))) ∧ (¬ d = 1 → J35)) := fun d hd => ⟨fun y => hJ33 _ _ (j12 1 (y ▸ hd)), fun y => hJ35 (j12 0 (by omega))⟩
  rcases clo_b (k := k) (n := n) (i := i) hi with z | ⟨j, z, h1, h2, _⟩
  · rw [if_pos z] at fin
    rw [z, if_neg (by decide)] at hx
    rw [hx, sc]
    exact q_mdir hn (by omega) (Nat.le_refl _) hk (fin _ rfl)
  · rw [if_neg (by omega), z, tn] at fin
    rw [z, if_pos (by omega)] at hx
    rw [hx, sc]
    exact q_mdir hn (by omega) (by omega) hk (fin _ rfl)
end MEX
section MEXP
variable {k : Nat → Int} {n : Nat} {b : Int}
def LT (k : Nat → Int) (n : Nat) (b : Int) (i : Nat) (L T P : Nat → Int) : Prop := (∀ j, j < i → (¬ hid k j → L j = lv k n b j ∧ T j = ty k n b j) ∧ (hid k j → T j = -1) ∧ P j = -1) ∧ ∀ j, j < 64 → 0 ≤ L j ∧ L j ≤ 5
theorem LT_up {i : Nat} {L T P : Nat → Int} (h : LT k n b i L T P) (hl : 0 ≤ lv k n b i ∧ lv k n b i ≤ 5) (hv : ¬ hid k i) : LT k n b (i + 1) (tw_up L i (lv k n b i)) (tw_up (tw_up T i (-1)) i (ty k n b i)) (tw_up P i (-1)) := by
  refine ⟨fun j hj => ?_, fun j hj => ?_⟩
  · by_cases z : j = i
    · subst z
      rw [up_at, up_at, up_at]
      exact ⟨fun _ => ⟨rfl, rfl⟩, fun y => absurd y hv, rfl⟩
    · rw [up_ne _ _ z, up_ne _ _ z, up_ne _ _ z, up_ne _ _ z]
      exact h.1 j (by omega)
  · by_cases z : j = i
    · subst z
      rw [up_at]
      exact hl
    · rw [up_ne _ _ z]
      exact h.2 j hj
theorem LT_hid {i : Nat} {L T P : Nat → Int} (h : LT k n b i L T P) (hv : hid k i) : LT k n b (i + 1) L (tw_up T i (-1)) (tw_up P i (-1)) := by
  refine ⟨fun j hj => ?_, h.2⟩
  by_cases z : j = i
  · subst z
    rw [up_at, up_at]
    exact ⟨fun y => absurd hv y, fun _ => rfl, rfl⟩
  · rw [up_ne _ _ z, up_ne _ _ z]
    exact h.1 j (by omega)
theorem p_exp (hn : n ≤ 64) (hk : ∀ j, j < n → 0 ≤ k j) {bs : Int} {X : (Nat → Int) → (Nat → Int) → (Nat → Int) → Int → (Nat → Int) → (Nat → Int) → (Nat → Int) → Int → Int → Int → Prop} (hX : ∀ L T P la E O I li le oi, LT k n b n L T P → X L T P la E O I li le oi) : ∀ (m i : Nat) (L T P E O I : Nat → Int) (la li le oi : Int), i + m = n → CI (sts k n b i) i E O I la li le oi → LT k n b i L T P → twl_mo_explicit_60 X bs n k b (m + 1) i L T P la E O I li le oi := by
  intro m
  induction m with
  | zero =>
    intro i L T P E O I la li le oi hi hc hL
    rw [twl_mo_explicit_60]
    have : i = n := by omega
    subst this
    exact ⟨fun _ => hX _ _ _ _ _ _ _ _ _ _ hL, fun g => absurd (Int.le_refl _) g⟩
  | succ m ih =>
    intro i L T P E O I la li le oi hi hc hL
    rw [twl_mo_explicit_60]
    refine ⟨fun g => absurd g (by omega), fun _ => ⟨⟨by omega, by omega⟩, ⟨by omega, by omega⟩, ⟨by omega, by omega⟩, fun J26 hJ26 J36 hJ36 => ?_⟩⟩
    rw [tn]
    have j26 : ∀ L2 T2 P2 la2 E2 O2 I2 li2 le2 oi2, CI (sts k n b (i + 1)) (i + 1) E2 O2 I2 la2 li2 le2 oi2 → LT k n b (i + 1) L2 T2 P2 → J26 L2 T2 P2 la2 E2 O2 I2 li2 le2 oi2 := fun L2 T2 P2 la2 E2 O2 I2 li2 le2 oi2 h1 h2 => hJ26 _ _ _ _ _ _ _ _ _ _ (by
      refine ⟨⟨by omega, by omega⟩, ?_⟩
      rw [sc]
      exact ih (i + 1) _ _ _ _ _ _ _ _ _ _ (by omega) h1 h2)
    have es : ¬ k i = 20 → sat k n b i = sts k n b i := fun y => if_neg y
    have es2 : k i = 20 → sat k n b i = eis (sts k n b i) := fun y => if_pos y
    have j36 : ¬ (12 ≤ k i ∧ k i ≤ 15) → J36 (k i) (tw_up T i (-1)) (tw_up P i (-1)) la E O I le := fun hne => hJ36 _ _ _ _ _ _ _ _ (by
      refine ⟨fun h16 => ?_, fun h16 => ⟨mo_k k (by omega), fun g => ⟨fun h20 => ?_, fun h20 => ?_⟩, fun g => ?_⟩⟩
      · have hce := m_eem hc (by omega)
        refine ⟨hce.1, j26 _ _ _ _ _ _ _ _ _ _ ?_ (LT_hid hL ⟨by omega, by omega⟩)⟩
        rw [sts_s]
        unfold ste
        rw [if_neg (by omega), if_pos h16]
        exact CI_m hce.2
      · refine m_leave hc (by omega) (by omega) (fun la li le oi hc2 => ?_)
        refine j26 _ _ _ _ _ _ _ _ _ _ ?_ ?_
        · rw [sts_s]
          unfold ste
          rw [if_pos h20]
          exact CI_m hc2
        · have hb2 := CI_bd hc2
          have hu := LT_up hL (i := i) (by unfold lv; rw [es2 h20]; omega) (fun y => absurd y.2 (by omega))
          unfold lv ty at hu
          rw [es2 h20] at hu
          exact hu
      · have hs := m_set (k := k) (L := L) (T := tw_up T i (-1)) hc (show i < 64 by omega)
        rw [hs.2.1, hs.2.2]
        have ho : ¬ op k i := fun z => mo_y z g
        refine ⟨hs.1, j26 _ _ _ _ _ _ _ _ _ _ ?_ ?_⟩
        · rw [sts_s]
          unfold ste
          rw [if_neg h20, if_neg h16, if_neg hne, if_neg ho]
          exact CI_m hc
        · have hb2 := CI_bd hc
          have hu := LT_up hL (i := i) (by unfold lv; rw [es h20]; omega) (fun y => hne ⟨y.1, by omega⟩)
          unfold lv ty at hu
          rw [es h20] at hu
          exact hu
      · have ho : op k i := Classical.byContradiction (fun z => g (mo_n z))
        have h20 : ¬ k i = 20 := by omega
        refine m_isl hn (by omega) hk ho hc (by omega) (fun la E O I li oi hc2 => ?_)
        refine j26 _ _ _ _ _ _ _ _ _ _ ?_ ?_
        · rw [sts_s]
          unfold ste
          rw [if_neg h20, if_neg h16, if_neg hne, if_pos ho]
          exact hc2
        · have hb2 := CI_bd hc
          have hu := LT_up hL (i := i) (by unfold lv; rw [es h20]; omega) (fun y => hne ⟨y.1, by omega⟩)
          unfold lv ty at hu
          rw [es h20] at hu
          exact hu)
    refine ⟨fun a => j36 (by omega), fun a => ⟨fun c => j36 (by omega), fun c => ?_⟩⟩
    have hce := m_emb (q := k i) (by omega) hc (by omega)
    refine ⟨hce.1, j26 _ _ _ _ _ _ _ _ _ _ ?_ (LT_hid hL ⟨by omega, by omega⟩)⟩
    rw [sts_s]
    unfold ste
    rw [if_neg (by omega), if_neg (by omega), if_pos ⟨by omega, by omega⟩]
    exact hce.2
theorem q_exp (hn : n ≤ 64) (hk : ∀ j, j < n → 0 ≤ k j) {a r0 : Int} (ha : 0 ≤ a ∧ a ≤ 2) {L T P E O I : Nat → Int} {la li le oi : Int} (hL0 : ∀ j, j < 64 → 0 ≤ L j ∧ L j ≤ 5) {K : Int → (Nat → Int) → (Nat → Int) → (Nat → Int) → Int → (Nat → Int) → (Nat → Int) → (Nat → Int) → Int → Int → Int → Prop} (hK : ∀ L T P la E O I li le oi, LT k n (rut k n a) n L T P → K (rut k n a) L T P la E O I li le oi) : tww_mo_explicit a n k r0 L T P la E O I li le oi K := by
  intro J2 hJ2
  have j2 : J2 (rut k n a) := hJ2 _ (by
    refine ⟨⟨⟨by decide, by decide⟩, ⟨by decide, by decide⟩, ⟨by decide, by decide⟩, ⟨by decide, by decide⟩, by decide⟩, n + 1, ?_⟩
    exact p_exp hn hk (fun L T P la E O I li le oi h => hK _ _ _ _ _ _ _ _ _ _ h) n 0 _ _ _ _ _ _ _ _ _ _ (by omega) (CI_0 (rut_01 ha) (up_at _ _ _) (up_at _ _ _) (up_at _ _ _)) ⟨fun j hj => absurd hj (by omega), hL0⟩)
  refine ⟨fun z => ?_, fun z => ?_⟩
  · have e : rut k n a = dr k n n 0 0 := if_pos (by omega)
    rw [e] at j2
    exact q_mdir (a := 0) hn (Nat.zero_le _) (Nat.le_refl _) hk j2
  · have e : rut k n a = a := if_neg (by omega)
    rw [e] at j2
    exact j2
end MEXP
