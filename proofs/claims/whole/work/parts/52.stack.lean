/-! pure: the stack of explicit marks, its steps on both sides -/
abbrev En := Int × Int × Int
abbrev St := List En × Nat × Nat
abbrev hid (k : Nat → Int) (i : Nat) : Prop := 12 ≤ k i ∧ k i ≤ 16
def tp : List En → En
  | [] => (0, -1, 0)
  | x :: _ => x
def iso : List En → Nat
  | [] => 0
  | x :: r => if x.2.2 = 0 then iso r else iso r + 1
theorem iso_s (x : En) (r : List En) : iso (x :: r) = if x.2.2 = 0 then iso r else iso r + 1 := rfl
def popi : List En → List En
  | [] => []
  | x :: r => if x.2.2 = 0 then popi r else r
theorem popi_s (x : En) (r : List En) : popi (x :: r) = if x.2.2 = 0 then popi r else r := rfl
def rep (E O I : Nat → Int) : List En → Prop
  | [] => True
  | x :: r => E r.length = x.1 ∧ O r.length = x.2.1 ∧ I r.length = x.2.2 ∧ rep E O I r
def sok : List En → Prop
  | [] => True
  | x :: r => (r.length : Int) ≤ x.1 ∧ x.1 ≤ 5 ∧ (r = [] → x.2.2 = 0) ∧ (x.2.2 = 0 ∨ x.2.2 = 1) ∧ (x.2.1 = -1 ∨ x.2.1 = 0 ∨ x.2.1 = 1) ∧ (r = [] ∨ (tp r).1 < x.1) ∧ sok r
def nxl (w l : Int) : Int := if (l + 1) % 2 = w then l + 1 else l + 1 + 1
abbrev ft (S : St) (v : Int) : Prop := v ≤ 5 ∧ S.2.1 = 0 ∧ S.2.2 = 0
def wo (q : Int) : Int := if q = 13 then 1 else if q = 15 then 1 else 0
def eis (S : St) : St := if 0 < S.2.1 then (S.1, S.2.1 - 1, S.2.2) else if iso S.1 = 0 then S else (popi S.1, 0, 0)
def eem (S : St) : St := if 0 < S.2.1 then S else if 0 < S.2.2 then (S.1, S.2.1, S.2.2 - 1) else if 1 < S.1.length ∧ (tp S.1).2.2 = 0 then (S.1.tail, S.2.1, S.2.2) else S
def emb (q : Int) (S : St) : St := if ft S (nxl (wo q) (tp S.1).1) then ((nxl (wo q) (tp S.1).1, twr_ex_overrideOf q, 0) :: S.1, S.2.1, S.2.2) else if S.2.1 = 0 then (S.1, S.2.1, S.2.2 + 1) else S
def isl (w : Int) (S : St) : St := if ft S (nxl w (tp S.1).1) then ((nxl w (tp S.1).1, -1, 1) :: S.1, S.2.1, S.2.2) else (S.1, S.2.1 + 1, S.2.2)
def CI (S : St) (m : Nat) (E O I : Nat → Int) (la li le oi : Int) : Prop := ∃ x r, ∃ a c : Nat, S = (x :: r, a, c) ∧ la = (r.length : Int) ∧ li = (a : Int) ∧ le = (c : Int) ∧ oi = (iso (x :: r) : Int) ∧ rep E O I (x :: r) ∧ sok (x :: r) ∧ a + c ≤ m
theorem rep_up {E O I : Nat → Int} {a b c : Int} {q : Nat} : ∀ st : List En, st.length ≤ q → rep E O I st → rep (tw_up E q a) (tw_up O q b) (tw_up I q c) st := by
  intro st
  induction st with
  | nil => intro _ _; exact True.intro
  | cons x r ih =>
    intro h1 h2
    have h3 : r.length + 1 ≤ q := h1
    refine ⟨?_, ?_, ?_, ih (by omega) h2.2.2.2⟩
    · rw [up_ne _ _ (by omega)]; exact h2.1
    · rw [up_ne _ _ (by omega)]; exact h2.2.1
    · rw [up_ne _ _ (by omega)]; exact h2.2.2.1
theorem rep_push {E O I : Nat → Int} {a b c : Int} {st : List En} (h : rep E O I st) : rep (tw_up E st.length a) (tw_up O st.length b) (tw_up I st.length c) ((a, b, c) :: st) :=
  ⟨up_at _ _ _, up_at _ _ _, up_at _ _ _, rep_up st (Nat.le_refl _) h⟩
theorem nxl_b {w l : Int} : l < nxl w l ∧ nxl w l ≤ l + 2 := by
  unfold nxl
  split <;> omega
theorem iso_len {x : En} {r : List En} (h : sok (x :: r)) : iso (x :: r) ≤ r.length := by
  induction r generalizing x with
  | nil =>
    rw [iso_s, if_pos (h.2.2.1 rfl)]
    exact Nat.le_refl _
  | cons y s ih =>
    rw [iso_s]
    have := ih h.2.2.2.2.2.2
    show _ ≤ s.length + 1
    split <;> omega
theorem popi_ok {st : List En} (h : sok st) (hi : 0 < iso st) : ∃ y s, popi st = y :: s ∧ sok (y :: s) ∧ iso (y :: s) + 1 = iso st ∧ y.1 < (tp st).1 := by
  induction st with
  | nil => exact absurd hi (by decide)
  | cons x r ih =>
    rw [popi_s]
    rw [iso_s] at hi ⊢
    by_cases z : x.2.2 = 0
    · rw [if_pos z] at hi ⊢
      rw [if_pos z]
      obtain ⟨y, s, e1, e2, e3, e4⟩ := ih h.2.2.2.2.2.2 hi
      refine ⟨y, s, e1, e2, e3, ?_⟩
      rcases h.2.2.2.2.2.1 with e | e
      · subst e
        exact absurd hi (by decide)
      · show y.1 < x.1
        omega
    · rw [if_neg z, if_neg z]
      cases r with
      | nil => exact absurd (h.2.2.1 rfl) z
      | cons y s =>
        refine ⟨y, s, rfl, h.2.2.2.2.2.2, rfl, ?_⟩
        rcases h.2.2.2.2.2.1 with e | e
        · exact absurd e (by simp)
        · exact e
theorem rep_popi {E O I : Nat → Int} {st : List En} (h : rep E O I st) : rep E O I (popi st) := by
  induction st with
  | nil => exact h
  | cons x r ih =>
    rw [popi_s]
    split
    · exact ih h.2.2.2
    · exact h.2.2.2
section STK
variable {S : St} {m : Nat} {E O I : Nat → Int} {la li le oi : Int}
theorem CI_bd (h : CI S m E O I la li le oi) : 0 ≤ la ∧ la < 6 ∧ 0 ≤ E la.toNat ∧ E la.toNat ≤ 5 ∧ E la.toNat = (tp S.1).1 ∧ O la.toNat = (tp S.1).2.1 ∧ (O la.toNat = -1 ∨ O la.toNat = 0 ∨ O la.toNat = 1) ∧ 0 ≤ li ∧ li ≤ m ∧ 0 ≤ le ∧ le ≤ m ∧ 0 ≤ oi ∧ oi ≤ 5 := by
  obtain ⟨x, r, a, c, rfl, rfl, rfl, rfl, rfl, h1, h2, h3⟩ := h
  have b1 := h2.1
  have b2 := h2.2.1
  have b3 := iso_len h2
  rw [tn, h1.1, h1.2.1]
  refine ⟨by omega, by omega, by omega, by omega, rfl, rfl, h2.2.2.2.2.1, by omega, by omega, by omega, by omega, by omega, by omega⟩
theorem CI_m (h : CI S m E O I la li le oi) : CI S (m + 1) E O I la li le oi := by
  obtain ⟨x, r, a, c, h1, h2, h3, h4, h5, h6, h7, h8⟩ := h
  exact ⟨x, r, a, c, h1, h2, h3, h4, h5, h6, h7, by omega⟩
theorem c_eem (h : CI S m E O I la li le oi) (hm : m ≤ 64) : two_ex_endEmbedding I la li le ∧ CI (eem S) m E O I (twu_ex_endEmbedding__ex_last I la li le) li (twu_ex_endEmbedding__ex_lostEmbeddings I la li le) oi := by
  have hb := CI_bd h
  refine ⟨fun _ => ⟨fun _ _ => ⟨⟨by omega, by omega⟩, fun _ => ⟨by omega, by omega⟩⟩, fun _ => ⟨by omega, by omega⟩⟩, ?_⟩
  have h0 := h
  obtain ⟨x, r, a, c, rfl, rfl, rfl, rfl, rfl, h1, h2, h3⟩ := h
  have ee : eem (x :: r, a, c) = if 0 < a then (x :: r, a, c) else if 0 < c then (x :: r, a, c - 1) else if 1 < (x :: r).length ∧ x.2.2 = 0 then (r, a, c) else (x :: r, a, c) := rfl
  rw [ee]
  unfold twu_ex_endEmbedding__ex_last twu_ex_endEmbedding__ex_lostEmbeddings
  by_cases z1 : 0 < a
  · have g1 : ¬ (a : Int) ≤ 0 := by omega
    rw [if_pos z1, if_neg g1, if_neg g1]
    exact h0
  · have g1 : (a : Int) ≤ 0 := by omega
    rw [if_neg z1, if_pos g1, if_pos g1]
    by_cases z2 : 0 < c
    · have g2 : ¬ (c : Int) ≤ 0 := by omega
      rw [if_pos z2, if_neg g2, if_neg g2]
      exact ⟨x, r, a, c - 1, rfl, rfl, rfl, by omega, rfl, h1, h2, by omega⟩
    · have g2 : (c : Int) ≤ 0 := by omega
      rw [if_neg z2, if_pos g2, if_pos g2, tn, h1.2.2.1]
      cases r with
      | nil =>
        have g5 : ¬ (1 < [x].length ∧ x.2.2 = 0) := fun z => absurd z.1 (by show ¬ 1 < 1; decide)
        have g6 : ((([] : List En).length : Nat) : Int) ≤ 0 := Int.le_refl _
        rw [if_neg g5, if_pos g6]
        exact h0
      | cons y s =>
        have e : (((y :: s).length : Nat) : Int) = s.length + 1 := rfl
        have g3 : ¬ (((y :: s).length : Nat) : Int) ≤ 0 := by omega
        rw [if_neg g3]
        by_cases z3 : x.2.2 = 0
        · have g : 1 < (x :: y :: s).length ∧ x.2.2 = 0 := ⟨by show 1 < s.length + 1 + 1; omega, z3⟩
          rw [if_pos g, if_pos z3]
          refine ⟨y, s, a, c, rfl, by omega, rfl, rfl, ?_, h1.2.2.2, h2.2.2.2.2.2.2, h3⟩
          rw [iso_s, if_pos z3]
        · rw [if_neg (fun z => z3 z.2), if_neg z3]
          exact h0
theorem fit_y {v : Int} {a c : Nat} (h : v ≤ 5 ∧ a = 0 ∧ c = 0) : ¬ twr_ex_fits v a c = 0 := by
  unfold twr_ex_fits
  rw [if_neg (by omega), if_pos (by omega), if_pos (by omega)]
  decide
theorem fit_n {v : Int} {a c : Nat} (h : ¬ (v ≤ 5 ∧ a = 0 ∧ c = 0)) : twr_ex_fits v a c = 0 := by
  unfold twr_ex_fits
  by_cases z : 5 < v
  · rw [if_pos z]
  · rw [if_neg z]
    by_cases y : a = 0
    · rw [if_pos (by omega), if_neg (by omega)]
    · rw [if_neg (by omega)]
theorem odd_e (l : Int) : twr_tl_isOdd l = l % 2 := by
  unfold twr_tl_isOdd
  split <;> omega
theorem c_nl (w : Int) (h : CI S m E O I la li le oi) : two_ex_nextLevel w E la ∧ twr_ex_nextLevel w E la = nxl w (tp S.1).1 := by
  have hb := CI_bd h
  refine ⟨⟨⟨hb.1, hb.2.1⟩, ⟨by omega, by omega⟩, (by show (0 : Int) ≤ _; omega), fun _ => ⟨by omega, by omega⟩⟩, ?_⟩
  unfold twr_ex_nextLevel nxl
  rw [odd_e, hb.2.2.2.2.1]
theorem push_ok {x : En} {r : List En} {w b c : Int} (h : sok (x :: r)) (hv : nxl w x.1 ≤ 5) (hb : b = -1 ∨ b = 0 ∨ b = 1) (hc : c = 0 ∨ c = 1) : sok ((nxl w x.1, b, c) :: x :: r) ∧ r.length < 5 := by
  have b1 := h.1
  have b2 := nxl_b (w := w) (l := x.1)
  have e : (((x :: r).length : Nat) : Int) = r.length + 1 := rfl
  refine ⟨⟨?_, hv, fun z => absurd z (by simp), hc, hb, Or.inr b2.1, h⟩, by omega⟩
  rw [e]
  show (r.length : Int) + 1 ≤ nxl w x.1
  omega
theorem c_push {x : En} {r : List En} {a b : Nat} (w q c : Int) (hm : a + b ≤ m) (h1 : rep E O I (x :: r)) (h2 : sok (x :: r)) (hv : nxl w x.1 ≤ 5) (hb : q = -1 ∨ q = 0 ∨ q = 1) (hc : c = 0 ∨ c = 1) : two_ex_push (nxl w x.1) q c E O I (r.length : Int) ∧ CI ((nxl w x.1, q, c) :: x :: r, a, b) m (twu_ex_push__ex_entryLevels (nxl w x.1) q c E O I (r.length : Int)) (twu_ex_push__ex_entryOverrides (nxl w x.1) q c E O I (r.length : Int)) (twu_ex_push__ex_entryIsolates (nxl w x.1) q c E O I (r.length : Int)) (twu_ex_push__ex_last (nxl w x.1) q c E O I (r.length : Int)) a b (iso ((nxl w x.1, q, c) :: x :: r)) := by
  have hp := push_ok h2 hv hb hc
  unfold two_ex_push twu_ex_push__ex_entryLevels twu_ex_push__ex_entryOverrides twu_ex_push__ex_entryIsolates twu_ex_push__ex_last
  refine ⟨fun _ => ⟨⟨by omega, by omega⟩, ⟨by omega, by omega⟩, ⟨by omega, by omega⟩, ⟨by omega, by omega⟩, by omega⟩, ?_⟩
  rw [if_neg (by omega), if_neg (by omega), if_neg (by omega), if_neg (by omega), tn1]
  exact ⟨_, x :: r, a, b, rfl, rfl, rfl, rfl, rfl, rep_push h1, hp.1, hm⟩
theorem ovr_b (q : Int) : twr_ex_overrideOf q = -1 ∨ twr_ex_overrideOf q = 0 ∨ twr_ex_overrideOf q = 1 := by
  unfold twr_ex_overrideOf
  split
  · omega
  · split <;> omega
theorem c_emb (q : Int) (h : CI S m E O I la li le oi) (hm : m < 64) : two_ex_beginEmbedding q E O I la li le ∧ CI (emb q S) (m + 1) (twu_ex_beginEmbedding__ex_entryLevels q E O I la li le) (twu_ex_beginEmbedding__ex_entryOverrides q E O I la li le) (twu_ex_beginEmbedding__ex_entryIsolates q E O I la li le) (twu_ex_beginEmbedding__ex_last q E O I la li le) li (twu_ex_beginEmbedding__ex_lostEmbeddings q E O I la li le) oi := by
  have hb := CI_bd h
  have hn := c_nl (wo q) h
  have h0 := h
  obtain ⟨x, r, a, c, rfl, rfl, rfl, rfl, rfl, h1, h2, h3⟩ := h
  have hn2 : twr_ex_nextLevel (wo q) E r.length = nxl (wo q) x.1 := hn.2
  have core : ∀ w : Int, wo q = w → ((two_ex_nextLevel w E r.length) ∧ (((twr_ex_fits (twr_ex_nextLevel w E r.length) a c) = 0 → (((a : Int) = 0 → ((tw_rg ((c : Int) + 1)))))) ∧ (¬ (twr_ex_fits (twr_ex_nextLevel w E r.length) a c) = 0 → ((two_ex_push (twr_ex_nextLevel w E r.length) (twr_ex_overrideOf q) 0 E O I r.length))))) ∧ CI (emb q (x :: r, a, c)) (m + 1) (if (twr_ex_fits (twr_ex_nextLevel w E r.length) a c) = 0 then E else (twu_ex_push__ex_entryLevels (twr_ex_nextLevel w E r.length) (twr_ex_overrideOf q) 0 E O I r.length)) (if (twr_ex_fits (twr_ex_nextLevel w E r.length) a c) = 0 then O else (twu_ex_push__ex_entryOverrides (twr_ex_nextLevel w E r.length) (twr_ex_overrideOf q) 0 E O I r.length)) (if (twr_ex_fits (twr_ex_nextLevel w E r.length) a c) = 0 then I else (twu_ex_push__ex_entryIsolates (twr_ex_nextLevel w E r.length) (twr_ex_overrideOf q) 0 E O I r.length)) (if (twr_ex_fits (twr_ex_nextLevel w E r.length) a c) = 0 then (r.length : Int) else (twu_ex_push__ex_last (twr_ex_nextLevel w E r.length) (twr_ex_overrideOf q) 0 E O I r.length)) a (if (twr_ex_fits (twr_ex_nextLevel w E r.length) a c) = 0 then (if (a : Int) = 0 then ((c : Int) + 1) else c) else c) (iso (x :: r)) := by
    intro w hw
    subst hw
    rw [hn2]
    by_cases z : nxl (wo q) x.1 ≤ 5 ∧ a = 0 ∧ c = 0
    · have hp := c_push (m := m) (a := a) (b := c) (wo q) (twr_ex_overrideOf q) 0 h3 h1 h2 z.1 (ovr_b q) (Or.inl rfl)
      have f := fit_y z
      refine ⟨⟨hn.1, fun y => absurd y f, fun _ => hp.1⟩, ?_⟩
      rw [if_neg f, if_neg f, if_neg f, if_neg f, if_neg f]
      have e : emb q (x :: r, a, c) = ((nxl (wo q) x.1, twr_ex_overrideOf q, 0) :: x :: r, a, c) := if_pos z
      rw [e]
      exact CI_m hp.2
    · have f := fit_n z
      refine ⟨⟨hn.1, fun _ _ => ⟨by omega, by omega⟩, fun y => absurd f y⟩, ?_⟩
      rw [if_pos f, if_pos f, if_pos f, if_pos f, if_pos f]
      have e : emb q (x :: r, a, c) = if a = 0 then (x :: r, a, c + 1) else (x :: r, a, c) := if_neg z
      rw [e]
      by_cases y : a = 0
      · rw [if_pos y, if_pos (by omega)]
        exact ⟨x, r, a, c + 1, rfl, rfl, rfl, rfl, rfl, h1, h2, by omega⟩
      · rw [if_neg y, if_neg (by omega)]
        exact CI_m h0
  unfold two_ex_beginEmbedding twu_ex_beginEmbedding__ex_entryLevels twu_ex_beginEmbedding__ex_entryOverrides twu_ex_beginEmbedding__ex_entryIsolates twu_ex_beginEmbedding__ex_last twu_ex_beginEmbedding__ex_lostEmbeddings
  by_cases q1 : q = 13
  · have c1 := core 1 (by unfold wo; rw [if_pos q1])
    refine ⟨⟨fun _ => c1.1, fun y => absurd q1 y⟩, ?_⟩
    rw [if_pos q1, if_pos q1, if_pos q1, if_pos q1, if_pos q1]
    exact c1.2
  · by_cases q2 : q = 15
    · have c1 := core 1 (by unfold wo; rw [if_neg q1, if_pos q2])
      refine ⟨⟨fun y => absurd y q1, fun _ => ⟨fun _ => c1.1, fun y => absurd q2 y⟩⟩, ?_⟩
      rw [if_neg q1, if_neg q1, if_neg q1, if_neg q1, if_neg q1, if_pos q2, if_pos q2, if_pos q2, if_pos q2, if_pos q2]
      exact c1.2
    · have c1 := core 0 (by unfold wo; rw [if_neg q1, if_neg q2])
      refine ⟨⟨fun y => absurd y q1, fun _ => ⟨fun y => absurd y q2, fun _ => c1.1⟩⟩, ?_⟩
      rw [if_neg q1, if_neg q1, if_neg q1, if_neg q1, if_neg q1, if_neg q2, if_neg q2, if_neg q2, if_neg q2, if_neg q2]
      exact c1.2
theorem c_isl (w : Int) (h : CI S m E O I la li le oi) (hm : m < 64) : two_ex_beginIsolate w E O I la li le oi ∧ CI (isl w S) (m + 1) (twu_ex_beginIsolate__ex_entryLevels w E O I la li le oi) (twu_ex_beginIsolate__ex_entryOverrides w E O I la li le oi) (twu_ex_beginIsolate__ex_entryIsolates w E O I la li le oi) (twu_ex_beginIsolate__ex_last w E O I la li le oi) (twu_ex_beginIsolate__ex_lostIsolates w E O I la li le oi) le (twu_ex_beginIsolate__ex_openIsolates w E O I la li le oi) := by
  have hb := CI_bd h
  have hn := c_nl w h
  obtain ⟨x, r, a, c, rfl, rfl, rfl, rfl, rfl, h1, h2, h3⟩ := h
  have hn2 : twr_ex_nextLevel w E r.length = nxl w x.1 := hn.2
  unfold two_ex_beginIsolate twu_ex_beginIsolate__ex_entryLevels twu_ex_beginIsolate__ex_entryOverrides twu_ex_beginIsolate__ex_entryIsolates twu_ex_beginIsolate__ex_last twu_ex_beginIsolate__ex_lostIsolates twu_ex_beginIsolate__ex_openIsolates
  rw [hn2]
  by_cases z : nxl w x.1 ≤ 5 ∧ a = 0 ∧ c = 0
  · have hp := c_push (m := m) (a := a) (b := c) w (-1) 1 h3 h1 h2 z.1 (Or.inl rfl) (Or.inr rfl)
    have f := fit_y z
    refine ⟨⟨hn.1, fun y => absurd y f, fun _ => ⟨⟨by omega, by omega⟩, hp.1⟩⟩, ?_⟩
    rw [if_neg f, if_neg f, if_neg f, if_neg f, if_neg f, if_neg f]
    have e : isl w (x :: r, a, c) = ((nxl w x.1, -1, 1) :: x :: r, a, c) := if_pos z
    rw [e]
    exact CI_m hp.2
  · have f := fit_n z
    refine ⟨⟨hn.1, fun _ => ⟨by omega, by omega⟩, fun y => absurd f y⟩, ?_⟩
    rw [if_pos f, if_pos f, if_pos f, if_pos f, if_pos f, if_pos f]
    have e : isl w (x :: r, a, c) = (x :: r, a + 1, c) := if_neg z
    rw [e]
    exact ⟨x, r, a + 1, c, rfl, rfl, rfl, rfl, rfl, h1, h2, by omega⟩
theorem p_eis {X : Int → Prop} {d1 d2 d3 : Int} : ∀ st : List En, rep E O I st → sok st → 0 < iso st → (∀ y s, popi st = y :: s → X ((y :: s).length : Int)) → ∃ f : Nat, twl_ex_endIsolate_37 X I d1 d2 d3 f ((st.length : Int) - 1) ((st.length : Int) - 1) := by
  intro st
  induction st with
  | nil => intro _ _ h; exact absurd h (by decide)
  | cons x r ih =>
    intro h1 h2 h3 hX
    have b1 := h2.1
    have b2 := h2.2.1
    have e : (((x :: r).length : Nat) : Int) - 1 = r.length := by show ((r.length : Int) + 1) - 1 = _; omega
    rw [e]
    rw [popi_s] at hX
    rw [iso_s] at h3
    have hr : r ≠ [] := fun z => by
      subst z
      rw [if_pos (h2.2.2.1 rfl)] at h3
      exact absurd h3 (by decide)
    have hl : 0 < r.length := by
      cases r with
      | nil => exact absurd rfl hr
      | cons y s => exact Nat.succ_pos _
    by_cases z : x.2.2 = 0
    · rw [if_pos z] at hX h3
      obtain ⟨f, hf⟩ := ih h1.2.2.2 h2.2.2.2.2.2.2 h3 hX
      refine ⟨f + 1, ?_⟩
      rw [twl_ex_endIsolate_37]
      rw [tn, h1.2.2.1]
      refine ⟨fun y => absurd y (by omega), fun _ => ⟨⟨by omega, by omega⟩, fun _ => ⟨⟨by omega, by omega⟩, ⟨by omega, by omega⟩, hf⟩, fun y => absurd z y⟩⟩
    · rw [if_neg z] at hX
      refine ⟨1, ?_⟩
      rw [twl_ex_endIsolate_37]
      rw [tn, h1.2.2.1]
      refine ⟨fun y => absurd y (by omega), fun _ => ⟨⟨by omega, by omega⟩, fun y => absurd y z, fun _ => ?_⟩⟩
      cases r with
      | nil => exact absurd rfl hr
      | cons y s => exact hX y s rfl
theorem c_eis {K : Int → Int → Int → Int → Prop} (h : CI S m E O I la li le oi) (hm : m ≤ 64) (hK : ∀ la li le oi, CI (eis S) m E O I la li le oi → K la li le oi) : tww_ex_endIsolate I la li le oi K := by
  have hb := CI_bd h
  have h0 := h
  obtain ⟨x, r, a, c, rfl, rfl, rfl, rfl, rfl, h1, h2, h3⟩ := h
  refine ⟨fun y1 => ⟨fun y2 => hK _ _ _ _ ?_, fun y2 => ?_⟩, fun y1 => ⟨⟨by omega, by omega⟩, hK _ _ _ _ ?_⟩⟩
  · have e : eis (x :: r, a, c) = (x :: r, a, c) := by
      unfold eis
      rw [if_neg (by show ¬ 0 < a; omega), if_pos (by show iso (x :: r) = 0; omega)]
    rw [e]
    exact h0
  · have e : eis (x :: r, a, c) = (popi (x :: r), 0, 0) := by
      unfold eis
      rw [if_neg (by show ¬ 0 < a; omega), if_neg (by show ¬ iso (x :: r) = 0; omega)]
    obtain ⟨y, s, e1, e2, e3, e4⟩ := popi_ok h2 (by omega)
    rw [e, e1] at hK
    have b1 := e2.1
    have b2 := e2.2.1
    have hg := p_eis (X := fun (y6_ex_last : Int) => (((¬ y6_ex_last ≤ 0 → ((tw_rg (y6_ex_last - 1))))) ∧ (∀ x_8_ex_last : Int, x_8_ex_last = (if y6_ex_last ≤ 0 then y6_ex_last else (y6_ex_last - 1)) → (tw_rg (((iso (x :: r) : Nat) : Int) - 1)) ∧ K x_8_ex_last (a : Int) 0 (((iso (x :: r) : Nat) : Int) - 1)))) (d1 := (a : Int)) (d2 := 0) (d3 := ((iso (x :: r) : Nat) : Int)) (x :: r) h1 h2 (by omega) (fun y' s' e' => by
      rw [e1] at e'
      have e5 : (y' :: s').length = s.length + 1 := by rw [← e']; rfl
      rw [e5]
      refine ⟨fun _ => ⟨by omega, by omega⟩, fun v hv => ⟨⟨by omega, by omega⟩, hK _ _ _ _ ?_⟩⟩
      rw [if_neg (by omega)] at hv
      have hrp := rep_popi h1
      rw [e1] at hrp
      exact ⟨y, s, 0, 0, rfl, by omega, by omega, rfl, by omega, hrp, e2, by omega⟩)
    have e6 : (((x :: r).length : Nat) : Int) - 1 = r.length := by show ((r.length : Int) + 1) - 1 = _; omega
    rw [e6] at hg
    exact hg
  · have e : eis (x :: r, a, c) = (x :: r, a - 1, c) := by
      unfold eis
      rw [if_pos (by show 0 < a; omega)]
    rw [e]
    exact ⟨x, r, a - 1, c, rfl, rfl, by omega, rfl, rfl, h1, h2, by omega⟩
end STK
