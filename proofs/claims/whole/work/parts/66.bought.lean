/-! BOUGHT: two courses, one with more bottles -/
def E9 (X X' : Abs) : Prop := X'.1 = X.1 ∧ X'.2.2 = X.2.2 ∧ ∀ c, c ≠ 9 → X'.2.1 c = X.2.1 c
theorem E9.X {X X' : Abs} (h : E9 X X') : smX X X' := ⟨h.1, h.2.1, fun c _ b => h.2.2 c b⟩
theorem E9.u {X X' : Abs} {c j v : Nat} (h : E9 X X') : E9 (aU X c j v) (aU X' c j v) := ⟨h.1, h.2.1, fun c' hc => by
  funext j'
  show (if c' = c ∧ j' = j then v else X'.2.1 c' j') = (if c' = c ∧ j' = j then v else X.2.1 c' j')
  rw [h.2.2 c' hc]⟩
theorem E9.ad {X X' : Abs} {s k v : Nat} (h : E9 X X') : E9 (adS X s k v) (adS X' s k v) := by
  unfold adS
  rw [h.2.2 6 (by omega)]
  exact h.u
theorem E9.u9 {X X' : Abs} {j v j' v' : Nat} (h : E9 X X') : E9 (aU X 9 j v) (aU X' 9 j' v') := ⟨h.1, h.2.1, fun c' hc => by rw [aU_ne hc, aU_ne hc]; exact h.2.2 c' hc⟩
theorem E9.snd {X X' : Abs} {b cm b' cm' : Nat} (h : E9 X X') : E9 (sndA X b cm) (sndA X' b' cm') := by
  unfold sndA
  by_cases z : b = 0
  · rw [if_pos z]
    split
    · exact h
    · exact ⟨h.1, h.2.1, fun c' hc => by rw [aU_ne hc]; exact h.2.2 c' hc⟩
  · rw [if_neg z]
    split
    · exact ⟨h.1, h.2.1, fun c' hc => by rw [aU_ne hc]; exact h.2.2 c' hc⟩
    · exact h.u9
theorem E9.hnd {A0 X X' : Abs} {s o cm um : Nat} (h : E9 X X') : E9 (hnd A0 (hnd0 X s o cm) s cm um) (hnd A0 (hnd0 X' s o cm) s cm um) := h.ad.ad.ad.ad.ad.ad.ad.ad.ad.ad.ad
theorem srv_6 {tk : Nat} {T : Tr} {s s' : Nat} : (srv tk T s).1.2.1 6 (11 * s' + 2) = T.1.2.1 6 (11 * s' + 2) + (if s' = s then ordN T.1 s (T.1.2.1 26 0) tk - cmN T s tk else 0) := by
  have e : (sndA T.1 (by_ T s) (cmN T s tk)).2.1 6 = T.1.2.1 6 := by
    unfold sndA
    split
    · rfl
    · exact aU_ne (by omega)
  have ne : ∀ (A : Abs) (k v : Nat), k < 11 → k ≠ 2 → (adS A s k v).2.1 6 (11 * s' + 2) = A.2.1 6 (11 * s' + 2) := fun A k v hk h2 => by
    unfold adS; rw [aU_at, if_neg (fun q => by omega)]
  have eq : ∀ (A : Abs) (v : Nat), (adS A s 2 v).2.1 6 (11 * s' + 2) = A.2.1 6 (11 * s' + 2) + (if s' = s then v else 0) := fun A v => by
    unfold adS; rw [aU_at]
    by_cases q : s' = s
    · rw [if_pos ⟨rfl, by omega⟩, if_pos q, q]
    · rw [if_neg (fun y => q (by omega)), if_neg q]; rfl
  show (hnd _ _ _ _ _).2.1 6 (11 * s' + 2) = _
  unfold hnd hnd1 hnd0
  rw [ne _ 10 _ (by omega) (by omega), ne _ 9 _ (by omega) (by omega), ne _ 8 _ (by omega) (by omega), ne _ 7 _ (by omega) (by omega), ne _ 6 _ (by omega) (by omega), ne _ 5 _ (by omega) (by omega), ne _ 4 _ (by omega) (by omega), ne _ 3 _ (by omega) (by omega), eq, ne _ 1 _ (by omega) (by omega), ne _ 0 _ (by omega) (by omega), e]
/-- the courses run beside one another, the second with dl bottles less -/
def Sh (b dl : Nat) (T T' : Tr) : Prop := E9 T.1 T'.1 ∧ (∀ j, j ≠ b → T'.1.2.1 9 j = T.1.2.1 9 j) ∧ T.1.2.1 9 b = T'.1.2.1 9 b + dl ∧ T'.2.1 = T.2.1 ∧ T'.2.2.1 = T.2.2.1 ∧ T'.2.2.2.1 = T.2.2.2.1 ∧ ∃ lo, T.2.2.2.2 b = nI lo ∧ dl ≤ lo ∧ lo ≤ 20000
theorem lwU_at {T : Tr} {by' cm b lo : Nat} (h : T.2.2.2.2 b = nI lo) (h1 : lo ≤ 20000) (h2 : T.1.2.1 9 b ≤ 20000) : lwU T by' cm b = nI (if by' = b + 1 then min (T.1.2.1 9 b - cm) lo else lo) := by
  unfold lwU
  by_cases q : by' = b + 1
  · rw [if_pos (show by' ≠ 0 ∧ b = by' - 1 by omega), if_pos q, h, min_i (by omega) (by omega)]
  · rw [if_neg (show ¬ (by' ≠ 0 ∧ b = by' - 1) by omega), if_neg q, h]
theorem sh_srv {b dl s tk : Nat} {T T' : Tr} (h : Sh b dl T T') (hb : T.1.2.1 9 b ≤ 20000) : Sh b dl (srv tk T s) (srv tk T' s) ∨ (by_ T s = b + 1 ∧ T'.1.2.1 6 (11 * s + 2) < (srv tk T' s).1.2.1 6 (11 * s + 2) ∧ ∃ lo, (srv tk T s).2.2.2.2 b = nI lo ∧ lo < dl) := by
  obtain ⟨e, h1, h2, h3, h4, h5, lo, l1, l2, l3⟩ := h
  have eb : by_ T' s = by_ T s := by
    unfold by_
    rw [e.1, e.2.2 0 (by omega), wn_X e.X]
  have eo : ordN T'.1 s (T'.1.2.1 26 0) tk = ordN T.1 s (T.1.2.1 26 0) tk := by
    rw [e.2.2 26 (by omega), ordN_X e.X]
  have el : (srv tk T s).2.2.2.2 b = nI (if by_ T s = b + 1 then min (T.1.2.1 9 b - cmN T s tk) lo else lo) := lwU_at l1 l3 hb
  have same : cmN T' s tk = cmN T s tk → (by_ T s = b + 1 → cmN T s tk + dl ≤ T.1.2.1 9 b) → Sh b dl (srv tk T s) (srv tk T' s) := by
    intro ec hle
    refine ⟨?_, fun j hj => ?_, ?_, ?_, ?_, ?_, ?_⟩
    · show E9 (hnd _ _ _ _ _) (hnd _ _ _ _ _)
      rw [eo, ec, (hnd_of e.X).1]
      exact E9.hnd e.snd
    · rw [srv_9, srv_9, eb, ec, h1 j hj]
    · rw [srv_9, srv_9, eb, ec]
      by_cases q : by_ T s ≠ 0 ∧ b = by_ T s - 1
      · rw [if_pos q, if_pos q]
        have := hle (by omega)
        omega
      · rw [if_neg q, if_neg q]; exact h2
    · show (fun j => if by_ T' s ≠ 0 ∧ j = by_ T' s - 1 then T'.2.1 j - cmN T' s tk else T'.2.1 j) = (fun j => if by_ T s ≠ 0 ∧ j = by_ T s - 1 then T.2.1 j - cmN T s tk else T.2.1 j)
      rw [eb, ec, h3]
    · show (fun j => if by_ T' s ≠ 0 ∧ j = by_ T' s - 1 then T'.2.2.1 j + bkN T'.1 s (cmN T' s tk) else T'.2.2.1 j) = (fun j => if by_ T s ≠ 0 ∧ j = by_ T s - 1 then T.2.2.1 j + bkN T.1 s (cmN T s tk) else T.2.2.1 j)
      rw [eb, ec, h4, (hnd_of (um := 0) (A := T.1) e.X).2]
    · show T'.2.2.2.1 - cmN T' s tk = T.2.2.2.1 - cmN T s tk
      rw [ec, h5]
    · refine ⟨_, el, ?_, ?_⟩
      · split
        · rename_i q; have := hle q; omega
        · exact l2
      · split <;> omega
  by_cases q : by_ T s = b + 1
  · have c1 : cmN T s tk = min (min (ordN T.1 s (T.1.2.1 26 0) tk) T.2.2.2.1) (min (T.2.1 b) (T.1.2.1 9 b)) := by
      unfold cmN; rw [if_neg (by omega), show by_ T s - 1 = b by omega]
    have c2 : cmN T' s tk = min (min (ordN T.1 s (T.1.2.1 26 0) tk) T.2.2.2.1) (min (T.2.1 b) (T'.1.2.1 9 b)) := by
      unfold cmN; rw [if_neg (by omega), eb, show by_ T s - 1 = b by omega, eo, h3, h5]
    by_cases z : cmN T s tk + dl ≤ T.1.2.1 9 b
    · exact Or.inl (same (by omega) (fun _ => z))
    · refine Or.inr ⟨q, ?_, _, el, ?_⟩
      · rw [srv_6, if_pos rfl, eo]
        omega
      · rw [if_pos q]; omega
  · refine Or.inl (same ?_ (fun y => absurd y q))
    unfold cmN
    rw [eb, eo, h3, h5]
    by_cases z : by_ T s = 0
    · rw [if_pos z, if_pos z]
    · rw [if_neg z, if_neg z, h1 _ (by omega)]
/-- the second course wants, and the first had less than that left -/
def Dv (b dl : Nat) (A : Abs) (lw : Nat → Int32) (U : Abs) : Prop := (∃ s, s < A.1 0 ∧ wn A (A.2.1 0 s) (A.1 1) = b + 1 ∧ A.2.1 6 (11 * s + 2) < U.2.1 6 (11 * s + 2)) ∧ ∃ lo, lw b = nI lo ∧ lo < dl
theorem lw_srv {b dl s tk : Nat} {T : Tr} (hb : T.1.2.1 9 b ≤ 20000) (hd : dl ≤ 20000) (h : ∃ lo, T.2.2.2.2 b = nI lo ∧ lo < dl) : ∃ lo, (srv tk T s).2.2.2.2 b = nI lo ∧ lo < dl := by
  obtain ⟨lo, l1, l2⟩ := h
  refine ⟨_, lwU_at l1 (by omega) hb, ?_⟩
  split <;> omega
theorem lw_srvs {b dl tk : Nat} {A0 : Abs} {T : Tr} (ht : trOK A0 T) (g : paOK A0) (hb : b < A0.1 1) (hd : dl ≤ 20000) (h : ∃ lo, T.2.2.2.2 b = nI lo ∧ lo < dl) : ∀ s, s ≤ A0.1 0 → ∃ lo, (srvs tk T s).2.2.2.2 b = nI lo ∧ lo < dl := by
  intro s
  induction s with
  | zero => intro _; exact h
  | succ s ih =>
    intro hs
    have ok := srvs_OK (tk := tk) ht g s (by omega)
    have := (ok.2.1 b hb).1
    have := (g.2.2.2.2.2.1 b hb).1
    exact lw_srv (by omega) hd (ih (by omega))
/-- the same schools through a day -/
theorem sh_srvs {b dl tk : Nat} {A0 : Abs} {T T' : Tr} (h : Sh b dl T T') (ht : trOK A0 T) (g : paOK A0) (hb : b < A0.1 1) (hd : dl ≤ 20000) : ∀ s, s ≤ A0.1 0 → Sh b dl (srvs tk T s) (srvs tk T' s) ∨ ((∃ s', s' < A0.1 0 ∧ wn A0 (A0.2.1 0 s') (A0.1 1) = b + 1 ∧ T'.1.2.1 6 (11 * s' + 2) < (srvs tk T' s).1.2.1 6 (11 * s' + 2)) ∧ ∃ lo, (srvs tk T s).2.2.2.2 b = nI lo ∧ lo < dl) := by
  intro s
  induction s with
  | zero => intro _; exact Or.inl h
  | succ s ih =>
    intro hs
    have ok := srvs_OK (tk := tk) ht g s (by omega)
    have b1 := (ok.2.1 b hb).1
    have b2 := (g.2.2.2.2.2.1 b hb).1
    have hb' : (srvs tk T s).1.2.1 9 b ≤ 20000 := by omega
    rcases ih (by omega) with i | ⟨⟨s', i1, i2, i3⟩, i4⟩
    · rcases sh_srv (tk := tk) (s := s) i hb' with j | ⟨j1, j2, j3⟩
      · exact Or.inl j
      · refine Or.inr ⟨⟨s, by omega, ?_, ?_⟩, j3⟩
        · unfold by_ at j1
          rw [ok.1.1, ok.1.2.2 0 (by omega) (by omega), wn_X ok.1] at j1
          exact j1
        · exact Nat.lt_of_le_of_lt (srvs_le s) j2
    · exact Or.inr ⟨⟨s', i1, i2, Nat.lt_of_lt_of_le i3 srv_le⟩, lw_srv hb' hd i4⟩
/-- between days -/
def Dh (b dl : Nat) (p p' : Abs × (Nat → Int32)) : Prop := E9 p.1 p'.1 ∧ (∀ j, j ≠ b → p'.1.2.1 9 j = p.1.2.1 9 j) ∧ p.1.2.1 9 b = p'.1.2.1 9 b + dl ∧ ∃ lo, p.2 b = nI lo ∧ dl ≤ lo ∧ lo ≤ 20000
theorem dh_day {b dl tk : Nat} {p p' : Abs × (Nat → Int32)} (h : Dh b dl p p') (g : paOK p.1) (hb : b < p.1.1 1) (hd : dl ≤ 20000) : Dh b dl (day1 tk p) (day1 tk p') ∨ ((∃ s, s < p.1.1 0 ∧ wn p.1 (p.1.2.1 0 s) (p.1.1 1) = b + 1 ∧ p'.1.2.1 6 (11 * s + 2) < (day1 tk p').1.2.1 6 (11 * s + 2)) ∧ ∃ lo, (day1 tk p).2 b = nI lo ∧ lo < dl) := by
  obtain ⟨e, h1, h2, h3⟩ := h
  have e26 : p'.1.2.1 26 0 = p.1.2.1 26 0 := by rw [e.2.2 26 (by omega)]
  have e0 : p'.1.1 0 = p.1.1 0 := by rw [e.1]
  unfold day1
  rw [e26, e0]
  by_cases q : p.1.2.1 26 0 % 7 < 5
  · rw [if_pos q, if_pos q]
    have o : Sh b dl (opn p.1 p.2) (opn p'.1 p'.2) := by
      refine ⟨e, h1, h2, ?_, rfl, ?_, h3⟩
      · show p'.1.2.1 10 = p.1.2.1 10
        exact e.2.2 10 (by omega)
      · show p'.1.2.1 12 (3 * mo p'.1 + 2) = p.1.2.1 12 (3 * mo p.1 + 2)
        unfold mo
        rw [e26, e.2.2 12 (by omega)]
    rcases sh_srvs (tk := tk) o (opn_OK g) g hb hd (p.1.1 0) (Nat.le_refl _) with i | ⟨⟨s, i1, i2, i3⟩, i4⟩
    · obtain ⟨f, f1, f2, f3, f4, f5, f6⟩ := i
      have ok := srvs_OK (tk := tk) (opn_OK (lw := p.2) g) g (p.1.1 0) (Nat.le_refl _)
      have n1 : (srvs tk (opn p.1 p.2) (p.1.1 0)).1.1 1 = p.1.1 1 := by rw [ok.1.1]
      refine Or.inl ⟨⟨f.1, f.2.1, fun c hc => ?_⟩, fun j hj => ?_, ?_, f6⟩
      · show (nxA (clA _ _)).2.1 c = (nxA (clA _ _)).2.1 c
        by_cases z : c = 26
        · rw [z]
          funext j
          unfold nxA
          rw [aU_at, aU_at, clA_ne (by omega), clA_ne (by omega), f.2.2 26 (by omega)]
        · rw [nxA_ne z, nxA_ne z, clA_ne hc, clA_ne hc]; exact f.2.2 c hc
      · show (nxA (clA _ _)).2.1 9 j = (nxA (clA _ _)).2.1 9 j
        rw [nxA_ne (by omega), nxA_ne (by omega)]
        show (if 9 = 9 ∧ j < _ then _ else _) = (if 9 = 9 ∧ j < _ then _ else _)
        rw [f.1, f1 j hj, f4]
      · show (nxA (clA _ _)).2.1 9 b = (nxA (clA _ _)).2.1 9 b + dl
        rw [nxA_ne (by omega), nxA_ne (by omega), clA_9 (by omega), clA_9 (by rw [f.1]; omega), f2, f4]
        omega
    · refine Or.inr ⟨⟨s, i1, i2, ?_⟩, i4⟩
      show _ < (nxA (clA _ _)).2.1 6 (11 * s + 2)
      rw [nxA_ne (by omega), clA_ne (by omega)]
      exact i3
  · rw [if_neg q, if_neg q]
    refine Or.inl ⟨⟨e.1, e.2.1, fun c hc => ?_⟩, fun j hj => ?_, ?_, h3⟩
    · show (nxA _).2.1 c = (nxA _).2.1 c
      by_cases z : c = 26
      · rw [z]
        funext j
        unfold nxA
        rw [aU_at, aU_at, e.2.2 26 (by omega)]
      · rw [nxA_ne z, nxA_ne z]; exact e.2.2 c hc
    · show (nxA _).2.1 9 j = (nxA _).2.1 9 j
      rw [nxA_ne (by omega), nxA_ne (by omega)]; exact h1 j hj
    · show (nxA _).2.1 9 b = (nxA _).2.1 9 b + dl
      rw [nxA_ne (by omega), nxA_ne (by omega)]; exact h2
theorem lw_day {b dl tk : Nat} {p : Abs × (Nat → Int32)} (g : paOK p.1) (hb : b < p.1.1 1) (hd : dl ≤ 20000) (h : ∃ lo, p.2 b = nI lo ∧ lo < dl) : ∃ lo, (day1 tk p).2 b = nI lo ∧ lo < dl := by
  unfold day1
  split
  · exact lw_srvs (T := opn p.1 p.2) (opn_OK g) g hb hd h _ (Nat.le_refl _)
  · exact h
theorem dh_days {b dl tk : Nat} {p p' : Abs × (Nat → Int32)} (h : Dh b dl p p') (g : paOK p.1) (hb : b < p.1.1 1) (hd : dl ≤ 20000) : ∀ n, p.1.2.1 26 0 + n ≤ 400 → Dh b dl (days tk p n) (days tk p' n) ∨ ((∃ s, s < p.1.1 0 ∧ wn p.1 (p.1.2.1 0 s) (p.1.1 1) = b + 1 ∧ p'.1.2.1 6 (11 * s + 2) < (days tk p' n).1.2.1 6 (11 * s + 2)) ∧ ∃ lo, (days tk p n).2 b = nI lo ∧ lo < dl) := by
  intro n
  induction n with
  | zero => intro _; exact Or.inl h
  | succ n ih =>
    intro hn
    obtain ⟨y1, y2, y3⟩ := days_Y (tk := tk) g n (by omega)
    have c1 : (days tk p n).1.1 1 = p.1.1 1 := by rw [y1.1]
    have c0 : (days tk p n).1.1 0 = p.1.1 0 := by rw [y1.1]
    rcases ih (by omega) with i | ⟨⟨s, i1, i2, i3⟩, i4⟩
    · rcases dh_day (tk := tk) i y3 (by omega) hd with j | ⟨⟨s, j1, j2, j3⟩, j4⟩
      · exact Or.inl j
      · refine Or.inr ⟨⟨s, by omega, ?_, Nat.lt_of_le_of_lt (days_le n) j3⟩, j4⟩
        have wY : ∀ sh m, wn (days tk p n).1 sh m = wn p.1 sh m := by
          intro sh m
          induction m with
          | zero => rfl
          | succ m im => rw [wn_s, wn_s, im, y1.2.2.1 11 (by omega) (by omega) (by omega)]
        rw [wY, c1, y1.2.2.1 0 (by omega) (by omega) (by omega)] at j2
        exact j2
    · exact Or.inr ⟨⟨s, i1, i2, Nat.lt_of_lt_of_le i3 day1_le⟩, lw_day y3 (by omega) hd i4⟩
/-- m bottles more -/
def mor (A : Abs) (b m : Nat) : Abs := aU A 9 b (A.2.1 9 b + m)
def runN (A : Abs) (b m n : Nat) : Abs × (Nat → Int32) := days 0 (mor A b m, fun _ => nI (A.2.1 9 b + m)) n
/-- no school of a shire that the dairy won wants -/
def enN (A : Abs) (b m n : Nat) : Prop := ∀ s, s < A.1 0 → wn A (A.2.1 0 s) (A.1 1) = b + 1 → (runN A b m n).1.2.1 6 (11 * s + 2) = A.2.1 6 (11 * s + 2)
theorem mor_pa {A : Abs} {b m : Nat} (h : Wf A) (hb : b < A.1 1) (hm : m ≤ 1000) : paOK (mor A b m) := by
  have g := h.pa
  obtain ⟨g1, g2, g3, g4, g5, g6, g7⟩ := g
  have x : smX A (mor A b m) := smX.u9
  refine ⟨acOK_X x g1, bids_X x g2, g3, by rw [x.2.2 26 (by omega) (by omega)]; exact g4, by rw [x.2.2 3 (by omega) (by omega), x.2.2 4 (by omega) (by omega)]; exact g5, fun d hd => ?_, by rw [x.2.2 12 (by omega) (by omega)]; exact g7⟩
  rw [x.2.2 10 (by omega) (by omega)]
  have hd' : d < A.1 1 := hd
  have w := (h.2.2.2.2.2.2.2.1 d hd').2.2.1
  have wb := (h.2.2.2.2.2.2.2.1 b hb).2.2.1
  refine ⟨?_, (g6 d hd').2⟩
  unfold mor
  rw [aU_at]
  split <;> omega
theorem en_iff {A : Abs} {b m n : Nat} (h : Wf A) (hb : b < A.1 1) (hm : m ≤ 1000) (hn : A.2.1 26 0 + n ≤ 400) : ∃ lo, (runN A b 1000 n).2 b = nI lo ∧ lo ≤ 20000 ∧ (enN A b m n ↔ (1000 ≤ m + lo ∧ enN A b 1000 n)) := by
  have wb := (h.2.2.2.2.2.2.2.1 b hb).2.2.1
  have e26 : (mor A b 1000).2.1 26 0 = A.2.1 26 0 := by unfold mor; rw [aU_ne (by omega)]
  have e6 : ∀ m, (mor A b m).2.1 6 = A.2.1 6 := fun m => by unfold mor; rw [aU_ne (by omega)]
  have e0 : ∀ m, (mor A b m).2.1 0 = A.2.1 0 := fun m => by unfold mor; rw [aU_ne (by omega)]
  have ew : ∀ m sh k, wn (mor A b m) sh k = wn A sh k := fun m sh k => wn_X smX.u9
  have start : Dh b (1000 - m) (mor A b 1000, fun _ => nI (A.2.1 9 b + 1000)) (mor A b m, fun _ => nI (A.2.1 9 b + m)) := by
    refine ⟨⟨rfl, rfl, fun c hc => ?_⟩, fun j hj => ?_, ?_, A.2.1 9 b + 1000, rfl, by omega, by omega⟩
    · show (mor A b m).2.1 c = (mor A b 1000).2.1 c
      unfold mor; rw [aU_ne hc, aU_ne hc]
    · show (mor A b m).2.1 9 j = (mor A b 1000).2.1 9 j
      unfold mor; rw [aU_at, aU_at, if_neg (fun y => hj y.2), if_neg (fun y => hj y.2)]
    · show (mor A b 1000).2.1 9 b = (mor A b m).2.1 9 b + (1000 - m)
      unfold mor; rw [aU_at, aU_at, if_pos ⟨rfl, rfl⟩, if_pos ⟨rfl, rfl⟩]; omega
  rcases dh_days (tk := 0) start (mor_pa h hb (Nat.le_refl _)) hb (by omega) n (by show (mor A b 1000).2.1 26 0 + n ≤ 400; omega) with i | ⟨⟨s, i1, i2, i3⟩, lo, i4, i5⟩
  · obtain ⟨f, -, -, lo, l1, l2, l3⟩ := i
    refine ⟨lo, l1, l3, ?_⟩
    have es : (runN A b m n).1.2.1 6 = (runN A b 1000 n).1.2.1 6 := f.2.2 6 (by omega)
    unfold enN
    rw [es]
    exact ⟨fun y => ⟨by omega, y⟩, fun y => y.2⟩
  · refine ⟨lo, i4, by omega, ⟨fun y => ?_, fun y => by omega⟩⟩
    have i2' : wn A (A.2.1 0 s) (A.1 1) = b + 1 := by
      have : wn (mor A b 1000) ((mor A b 1000).2.1 0 s) (A.1 1) = b + 1 := i2
      rw [ew, e0] at this
      exact this
    have i3' : A.2.1 6 (11 * s + 2) < (runN A b m n).1.2.1 6 (11 * s + 2) := by
      have : (mor A b m).2.1 6 (11 * s + 2) < (runN A b m n).1.2.1 6 (11 * s + 2) := i3
      rw [e6] at this
      exact this
    have := y s i1 i2'
    omega
