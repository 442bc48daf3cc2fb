/-! A DAY GOES BY: what it does -/
/-- the same but for sums and bottles -/
def smX (A B : Abs) : Prop := B.1 = A.1 ∧ B.2.2 = A.2.2 ∧ ∀ c, c ≠ 6 → c ≠ 9 → B.2.1 c = A.2.1 c
theorem smX.rf {A : Abs} : smX A A := ⟨rfl, rfl, fun _ _ _ => rfl⟩
theorem smX.tr {A B C : Abs} (h : smX A B) (g : smX B C) : smX A C := ⟨g.1.trans h.1, g.2.1.trans h.2.1, fun c a b => (g.2.2 c a b).trans (h.2.2 c a b)⟩
theorem smX.u6 {A : Abs} {j v : Nat} : smX A (aU A 6 j v) := ⟨rfl, rfl, fun c a _ => aU_ne a⟩
theorem smX.u9 {A : Abs} {j v : Nat} : smX A (aU A 9 j v) := ⟨rfl, rfl, fun c _ a => aU_ne a⟩
theorem frN_X {A B : Abs} (h : ∀ c, 17 ≤ c → c ≤ 20 → B.2.1 c = A.2.1 c) {p sh d n : Nat} : frN B p sh d n = frN A p sh d n := by
  induction n with
  | zero => rfl
  | succ n ih => unfold frN; rw [ih, h 17 (by omega) (by omega), h 18 (by omega) (by omega), h 19 (by omega) (by omega), h 20 (by omega) (by omega)]
theorem cn_X {A B : Abs} (h : ∀ c, 13 ≤ c → c ≤ 16 → B.2.1 c = A.2.1 c) {s age d kn k : Nat} : cn B s age d kn k = cn A s age d kn k := by
  induction k with
  | zero => rfl
  | succ k ih => rw [cn_s, cn_s, ih, h 13 (by omega) (by omega), h 14 (by omega) (by omega), h 15 (by omega) (by omega), hr_up (h 13 (by omega) (by omega)) (h 16 (by omega) (by omega))]
theorem hld_X {A B : Abs} (h : smX A B) {p s age d : Nat} : hld B p s age d = hld A p s age d := by
  have hf : fld B = fld A := by
    funext s age d k
    unfold fld hs3
    rw [h.1, h.2.2 0 (by omega) (by omega), h.2.2 12 (by omega) (by omega), h.2.2 1 (by omega) (by omega), h.2.2 2 (by omega) (by omega), cn_X (fun c a b => h.2.2 c (by omega) (by omega)), cn_X (fun c a b => h.2.2 c (by omega) (by omega)), cn_X (fun c a b => h.2.2 c (by omega) (by omega))]
  unfold hld
  rw [h.1, h.2.1, h.2.2 0 (by omega) (by omega), frN_X (fun c a b => h.2.2 c (by omega) (by omega)), hf]
theorem ordN_X {A B : Abs} (h : smX A B) {s d tk : Nat} : ordN B s d tk = ordN A s d tk := by
  have ho : ∀ g, oa B s d tk g = oa A s d tk g := by
    intro g
    unfold oa
    rw [hld_X h, h.1, cn_X (fun c a b => h.2.2 c (by omega) (by omega))]
  unfold ordN
  rw [ho, ho, ho]
theorem wn_X {A B : Abs} (h : smX A B) {sh n : Nat} : wn B sh n = wn A sh n := by
  induction n with
  | zero => rfl
  | succ n ih => rw [wn_s, wn_s, ih, h.2.2 11 (by omega) (by omega)]
/-- what is asked of a state in which days go by -/
def paOK (A : Abs) : Prop := acOK A ∧ bidsOK A ∧ A.1 1 ≤ 5 ∧ A.2.1 26 0 ≤ 400 ∧ (∀ s, s < A.1 0 → A.2.1 3 s ≤ 100 ∧ A.2.1 4 s ≤ 100) ∧ (∀ d, d < A.1 1 → A.2.1 9 d ≤ 20000 ∧ A.2.1 10 d ≤ 9999) ∧ ∀ m, m < 12 → A.2.1 12 (3 * m) ≤ 100 ∧ A.2.1 12 (3 * m + 1) ≤ 99 ∧ A.2.1 12 (3 * m + 2) ≤ 99999
theorem acOK_X {A B : Abs} (h : smX A B) (g : acOK A) : acOK B := by
  unfold acOK headOK actOK at g ⊢
  rw [h.1, h.2.2 13 (by omega) (by omega), h.2.2 14 (by omega) (by omega), h.2.2 15 (by omega) (by omega), h.2.2 16 (by omega) (by omega), h.2.2 17 (by omega) (by omega), h.2.2 18 (by omega) (by omega), h.2.2 19 (by omega) (by omega), h.2.2 20 (by omega) (by omega), h.2.2 21 (by omega) (by omega), h.2.2 0 (by omega) (by omega)]
  exact g
theorem bids_X {A B : Abs} (h : smX A B) (g : bidsOK A) : bidsOK B := by
  unfold bidsOK at g ⊢
  rw [h.1, h.2.2 11 (by omega) (by omega)]
  exact g
theorem LK_X {A B : Abs} (h : smX A B) (g : LK A) : LK B := by
  unfold LK letOK tx at g ⊢
  rw [h.1, h.2.1, h.2.2 21 (by omega) (by omega), h.2.2 22 (by omega) (by omega), h.2.2 20 (by omega) (by omega)]
  exact g
theorem RMf_X {M : Mem} {A B : Abs} (h : smX A B) (g : RMf M A) : RMf M B := by
  obtain ⟨fd, f1, f2, f3⟩ := g
  exact ⟨fd, f1, f2, fun z p sh hp hsh => by rw [f3 z p sh hp hsh, h.1, frN_X (fun c a b => h.2.2 c (by omega) (by omega))]⟩
theorem Wf.pa {A : Abs} (h : Wf A) : paOK A := by
  obtain ⟨h0, h1, h2, h3, h4, h5, h6, h7, h8, -⟩ := id h
  exact ⟨h.ac, h.bids, h1, h5, fun s hs => ⟨(h6 s hs).2.2.2.1, (h6 s hs).2.2.2.2.1⟩, fun d hd => ⟨by have := (h7 d hd).2.2.1; omega, (h7 d hd).2.2.2.2.1⟩, h8⟩
def adS (A : Abs) (s k v : Nat) : Abs := aU A 6 (11 * s + k) (A.2.1 6 (11 * s + k) + v)
theorem adS_X {A : Abs} {s k v : Nat} : smX A (adS A s k v) := smX.u6
theorem adS_0 {A : Abs} {s k : Nat} : adS A s k 0 = A := by
  unfold adS aU
  have : (fun c' j' => if c' = 6 ∧ j' = 11 * s + k then A.2.1 6 (11 * s + k) + 0 else A.2.1 c' j') = A.2.1 := by
    funext c' j'
    by_cases q : c' = 6 ∧ j' = 11 * s + k
    · rw [if_pos q, q.1, q.2]; rfl
    · rw [if_neg q]
  rw [this]
/-- the price of a shire -/
def prc (A : Abs) (sh : Nat) : Nat := if wn A sh (A.1 1) = 0 then 0 else A.2.1 11 (4 * (wn A sh (A.1 1) - 1) + sh) - 1
theorem prc_X {A B : Abs} (h : smX A B) {sh : Nat} : prc B sh = prc A sh := by
  unfold prc
  rw [wn_X h, h.1, h.2.2 11 (by omega) (by omega)]
def mo (A : Abs) : Nat := A.2.1 26 0 / 30 % 12
def buN (A : Abs) (cm : Nat) : Nat := cm * A.2.1 12 (3 * mo A) / 100
def rfN (A : Abs) (s cm : Nat) : Nat := if 20 ≤ A.2.1 12 (3 * mo A + 1) ∧ hld A 1 s 0 (A.2.1 26 0) = true then cm - buN A cm else 0
def gvN (A : Abs) (s cm : Nat) : Nat := cm - buN A cm - rfN A s cm
def lfN (A : Abs) (s cm : Nat) : Nat := gvN A s cm * A.2.1 3 s / 100
def gnN (A : Abs) (s cm : Nat) : Nat := gvN A s cm * A.2.1 4 s / 100
def owN (A : Abs) (s cm : Nat) : Nat := if 0 < gnN A s cm ∧ hld A 2 s 0 (A.2.1 26 0) = true then gnN A s cm else 0
def pyN (A : Abs) (s cm um : Nat) : Nat := pd 1 (gvN A s cm - lfN A s cm) (prc A (A.2.1 0 s)) + pd 3 (lfN A s cm) (prc A (A.2.1 0 s)) + pd 4 (rfN A s cm) (prc A (A.2.1 0 s)) + pd 5 (buN A cm) (prc A (A.2.1 0 s)) + pd 6 um (prc A (A.2.1 0 s))
def bkN (A : Abs) (s cm : Nat) : Nat := rfN A s cm + gvN A s cm - gnN A s cm
/-- bottles are handed out: the sums, out of the numbers of A0 -/
def hnd1 (A0 A : Abs) (s cm : Nat) : Abs := adS (adS (adS (adS (adS (adS A s 3 (buN A0 cm)) s 4 (rfN A0 s cm)) s 5 (gvN A0 s cm)) s 6 (lfN A0 s cm)) s 7 (gvN A0 s cm - gnN A0 s cm)) s 8 (gnN A0 s cm)
def hnd (A0 A : Abs) (s cm um : Nat) : Abs := adS (adS (hnd1 A0 A s cm) s 9 (owN A0 s cm)) s 10 (pyN A0 s cm um)
def hnd0 (A : Abs) (s o cm : Nat) : Abs := adS (adS (adS A s 0 o) s 1 cm) s 2 (o - cm)
theorem hnd_X {A0 A : Abs} {s cm um : Nat} : smX A (hnd A0 A s cm um) := (((((((adS_X.tr adS_X).tr adS_X).tr adS_X).tr adS_X).tr adS_X).tr adS_X).tr adS_X)
theorem hnd0_X {A : Abs} {s o cm : Nat} : smX A (hnd0 A s o cm) := (adS_X.tr adS_X).tr adS_X
theorem hnd_of {A0 B0 A : Abs} (h : smX A0 B0) {s cm um : Nat} : hnd B0 A s cm um = hnd A0 A s cm um ∧ bkN B0 s cm = bkN A0 s cm := by
  have m : mo B0 = mo A0 := by unfold mo; rw [h.2.2 26 (by omega) (by omega)]
  have b : buN B0 = buN A0 := by funext cm; unfold buN; rw [m, h.2.2 12 (by omega) (by omega)]
  have r : rfN B0 = rfN A0 := by funext s cm; unfold rfN; rw [m, b, hld_X h, h.2.2 12 (by omega) (by omega), h.2.2 26 (by omega) (by omega)]
  have g : gvN B0 = gvN A0 := by funext s cm; unfold gvN; rw [b, r]
  have l : lfN B0 = lfN A0 := by funext s cm; unfold lfN; rw [g, h.2.2 3 (by omega) (by omega)]
  have n : gnN B0 = gnN A0 := by funext s cm; unfold gnN; rw [g, h.2.2 4 (by omega) (by omega)]
  have o : owN B0 = owN A0 := by funext s cm; unfold owN; rw [n, hld_X h, h.2.2 26 (by omega) (by omega)]
  have p : pyN B0 = pyN A0 := by funext s cm um; unfold pyN; rw [g, l, r, b, prc_X h, h.2.2 0 (by omega) (by omega)]
  unfold hnd hnd1 bkN
  rw [b, r, g, l, n, o, p]
  exact ⟨rfl, rfl⟩
/-- a course: the state, caps left, what comes again, cows left, lowest stocks -/
abbrev Tr : Type := Abs × (Nat → Nat) × (Nat → Nat) × Nat × (Nat → Int32)
def by_ (T : Tr) (s : Nat) : Nat := wn T.1 (T.1.2.1 0 s) (T.1.1 1)
def cmN (T : Tr) (s tk : Nat) : Nat := if by_ T s = 0 then 0 else min (min (ordN T.1 s (T.1.2.1 26 0) tk) T.2.2.2.1) (min (T.2.1 (by_ T s - 1)) (T.1.2.1 9 (by_ T s - 1)))
def sndA (A : Abs) (b cm : Nat) : Abs := if b = 0 then A else aU A 9 (b - 1) (A.2.1 9 (b - 1) - cm)
theorem sndA_X {A : Abs} {b cm : Nat} : smX A (sndA A b cm) := by
  unfold sndA
  split
  · exact smX.rf
  · exact smX.u9
def lwU (T : Tr) (b cm : Nat) : Nat → Int32 := fun j => if b ≠ 0 ∧ j = b - 1 then (if nI (T.1.2.1 9 j - cm) < T.2.2.2.2 j then nI (T.1.2.1 9 j - cm) else T.2.2.2.2 j) else T.2.2.2.2 j
def srv (tk : Nat) (T : Tr) (s : Nat) : Tr :=
  (hnd T.1 (hnd0 (sndA T.1 (by_ T s) (cmN T s tk)) s (ordN T.1 s (T.1.2.1 26 0) tk) (cmN T s tk)) s (cmN T s tk) (ordN T.1 s (T.1.2.1 26 0) tk - cmN T s tk),
   (fun j => if by_ T s ≠ 0 ∧ j = by_ T s - 1 then T.2.1 j - cmN T s tk else T.2.1 j),
   (fun j => if by_ T s ≠ 0 ∧ j = by_ T s - 1 then T.2.2.1 j + bkN T.1 s (cmN T s tk) else T.2.2.1 j),
   T.2.2.2.1 - cmN T s tk, lwU T (by_ T s) (cmN T s tk))
def srvs (tk : Nat) (T : Tr) : Nat → Tr
  | 0 => T
  | s + 1 => srv tk (srvs tk T s) s
def opn (A : Abs) (lw : Nat → Int32) : Tr := (A, A.2.1 10, (fun _ => 0), A.2.1 12 (3 * mo A + 2), lw)
def clA (A : Abs) (r : Nat → Nat) : Abs := (A.1, (fun c j => if c = 9 ∧ j < A.1 1 then A.2.1 9 j + r j else A.2.1 c j), A.2.2)
def nxA (A : Abs) : Abs := aU A 26 0 (A.2.1 26 0 + 1)
def day1 (tk : Nat) (p : Abs × (Nat → Int32)) : Abs × (Nat → Int32) :=
  if p.1.2.1 26 0 % 7 < 5 then (nxA (clA (srvs tk (opn p.1 p.2) (p.1.1 0)).1 (srvs tk (opn p.1 p.2) (p.1.1 0)).2.2.1), (srvs tk (opn p.1 p.2) (p.1.1 0)).2.2.2.2) else (nxA p.1, p.2)
def days (tk : Nat) (p : Abs × (Nat → Int32)) : Nat → Abs × (Nat → Int32)
  | 0 => p
  | n + 1 => day1 tk (days tk p n)
/-! bounds -/
theorem buN_le {A : Abs} (h : paOK A) {cm : Nat} : buN A cm ≤ cm := by
  have hm : mo A < 12 := Nat.mod_lt _ (by omega)
  have h2 := (h.2.2.2.2.2.2 _ hm).1
  have h3 : cm * A.2.1 12 (3 * mo A) ≤ cm * 100 := Nat.mul_le_mul_left cm h2
  unfold buN
  omega
theorem rfN_le {A : Abs} {s cm : Nat} : rfN A s cm ≤ cm - buN A cm := by
  unfold rfN
  split
  · exact Nat.le_refl _
  · exact Nat.zero_le _
theorem pct_le {a b : Nat} (h : b ≤ 100) : a * b / 100 ≤ a := by
  have := Nat.mul_le_mul_left a h
  omega
theorem hand_le {A : Abs} (h : paOK A) {s cm : Nat} (hs : s < A.1 0) : buN A cm ≤ cm ∧ rfN A s cm + gvN A s cm = cm - buN A cm ∧ lfN A s cm ≤ gvN A s cm ∧ gnN A s cm ≤ gvN A s cm ∧ bkN A s cm ≤ cm := by
  have a := buN_le h (cm := cm)
  have b := rfN_le (A := A) (s := s) (cm := cm)
  have c : gvN A s cm = cm - buN A cm - rfN A s cm := rfl
  have d := pct_le (a := gvN A s cm) (h.2.2.2.2.1 s hs).1
  have e := pct_le (a := gvN A s cm) (h.2.2.2.2.1 s hs).2
  have f : lfN A s cm = gvN A s cm * A.2.1 3 s / 100 := rfl
  have g : gnN A s cm = gvN A s cm * A.2.1 4 s / 100 := rfl
  refine ⟨a, by omega, by omega, by omega, ?_⟩
  unfold bkN
  omega
/-- what holds of a course -/
def trOK (A0 : Abs) (T : Tr) : Prop := smX A0 T.1 ∧ (∀ d, d < A0.1 1 → T.1.2.1 9 d + T.2.2.1 d ≤ A0.2.1 9 d ∧ T.2.1 d ≤ 9999) ∧ T.2.2.2.1 ≤ 99999
theorem trOK.pa {A0 : Abs} {T : Tr} (h : trOK A0 T) (g : paOK A0) : paOK T.1 := by
  obtain ⟨g1, g2, g3, g4, g5, g6, g7⟩ := g
  obtain ⟨x, h2, h3⟩ := h
  refine ⟨acOK_X x g1, bids_X x g2, by rw [x.1]; exact g3, by rw [x.2.2 26 (by omega) (by omega)]; exact g4, ?_, ?_, ?_⟩
  · rw [x.1, x.2.2 3 (by omega) (by omega), x.2.2 4 (by omega) (by omega)]; exact g5
  · rw [x.1, x.2.2 10 (by omega) (by omega)]
    intro d hd
    have := (h2 d hd).1
    have := (g6 d hd)
    exact ⟨by omega, this.2⟩
  · rw [x.2.2 12 (by omega) (by omega)]; exact g7
theorem by_le {A0 : Abs} {T : Tr} (h : smX A0 T.1) {s : Nat} : by_ T s ≤ A0.1 1 := by
  have := wn_le (A := T.1) (sh := T.1.2.1 0 s) (d := T.1.1 1)
  unfold by_
  rw [h.1] at this ⊢
  exact this
theorem cm_le {T : Tr} {s tk : Nat} : cmN T s tk ≤ ordN T.1 s (T.1.2.1 26 0) tk ∧ cmN T s tk ≤ T.2.2.2.1 ∧ (by_ T s ≠ 0 → cmN T s tk ≤ T.2.1 (by_ T s - 1) ∧ cmN T s tk ≤ T.1.2.1 9 (by_ T s - 1)) := by
  unfold cmN
  split
  · exact ⟨Nat.zero_le _, Nat.zero_le _, fun h => ⟨Nat.zero_le _, Nat.zero_le _⟩⟩
  · exact ⟨Nat.le_trans (Nat.min_le_left _ _) (Nat.min_le_left _ _), Nat.le_trans (Nat.min_le_left _ _) (Nat.min_le_right _ _), fun _ => ⟨Nat.le_trans (Nat.min_le_right _ _) (Nat.min_le_left _ _), Nat.le_trans (Nat.min_le_right _ _) (Nat.min_le_right _ _)⟩⟩
theorem adS_9 {A : Abs} {s k v : Nat} : (adS A s k v).2.1 9 = A.2.1 9 := aU_ne (by omega)
theorem hnd_9 {A0 A : Abs} {s cm um : Nat} : (hnd A0 A s cm um).2.1 9 = A.2.1 9 := by
  unfold hnd hnd1
  simp only [adS_9]
theorem hnd0_9 {A : Abs} {s o cm : Nat} : (hnd0 A s o cm).2.1 9 = A.2.1 9 := by
  unfold hnd0
  simp only [adS_9]
theorem srv_9 {tk : Nat} {T : Tr} {s j : Nat} : (srv tk T s).1.2.1 9 j = if by_ T s ≠ 0 ∧ j = by_ T s - 1 then T.1.2.1 9 j - cmN T s tk else T.1.2.1 9 j := by
  show (hnd _ _ _ _ _).2.1 9 j = _
  rw [hnd_9, hnd0_9]
  unfold sndA
  by_cases h : by_ T s = 0
  · rw [if_pos h, if_neg (fun q => q.1 h)]
  · rw [if_neg h, aU_at]
    by_cases q : j = by_ T s - 1
    · rw [if_pos ⟨rfl, q⟩, if_pos ⟨h, q⟩, q]
    · rw [if_neg (fun y => q y.2), if_neg (fun y => q y.2)]
theorem srv_OK {A0 : Abs} {tk : Nat} {T : Tr} {s : Nat} (h : trOK A0 T) (g : paOK A0) (hs : s < A0.1 0) : trOK A0 (srv tk T s) := by
  have hp := h.pa g
  obtain ⟨x, h2, h3⟩ := h
  obtain ⟨c1, c2, c3⟩ := cm_le (T := T) (s := s) (tk := tk)
  obtain ⟨e1, e2, e3, e4, e5⟩ := hand_le hp (s := s) (cm := cmN T s tk) (by rw [x.1]; exact hs)
  refine ⟨x.tr ((sndA_X.tr hnd0_X).tr hnd_X), fun d hd => ?_, ?_⟩
  · rw [srv_9]
    show _ + (if by_ T s ≠ 0 ∧ d = by_ T s - 1 then T.2.2.1 d + bkN T.1 s (cmN T s tk) else T.2.2.1 d) ≤ _ ∧ (if by_ T s ≠ 0 ∧ d = by_ T s - 1 then T.2.1 d - cmN T s tk else T.2.1 d) ≤ 9999
    have := h2 d hd
    by_cases q : by_ T s ≠ 0 ∧ d = by_ T s - 1
    · rw [if_pos q, if_pos q, if_pos q]
      have := c3 q.1
      rw [← q.2] at this
      omega
    · rw [if_neg q, if_neg q, if_neg q]
      exact this
  · show T.2.2.2.1 - cmN T s tk ≤ 99999
    omega
theorem opn_OK {A : Abs} {lw : Nat → Int32} (g : paOK A) : trOK A (opn A lw) := by
  refine ⟨smX.rf, fun d hd => ⟨Nat.le_refl _, (g.2.2.2.2.2.1 d hd).2⟩, ?_⟩
  have hm : mo A < 12 := Nat.mod_lt _ (by omega)
  exact (g.2.2.2.2.2.2 _ hm).2.2
theorem srvs_OK {A0 : Abs} {tk : Nat} {T : Tr} (h : trOK A0 T) (g : paOK A0) : ∀ s, s ≤ A0.1 0 → trOK A0 (srvs tk T s) := by
  intro s
  induction s with
  | zero => intro _; exact h
  | succ s ih => intro hs; exact srv_OK (ih (by omega)) g (by omega)
/-- the same but for sums, bottles and the day -/
def smY (A B : Abs) : Prop := B.1 = A.1 ∧ B.2.2 = A.2.2 ∧ (∀ c, c ≠ 6 → c ≠ 9 → c ≠ 26 → B.2.1 c = A.2.1 c) ∧ ∀ d, d < A.1 1 → B.2.1 9 d ≤ A.2.1 9 d
theorem smY.tr {A B C : Abs} (h : smY A B) (g : smY B C) : smY A C := ⟨g.1.trans h.1, g.2.1.trans h.2.1, fun c a b d => (g.2.2.1 c a b d).trans (h.2.2.1 c a b d), fun d hd => Nat.le_trans (g.2.2.2 d (by rw [h.1]; exact hd)) (h.2.2.2 d hd)⟩
theorem smY.pa {A B : Abs} (h : smY A B) (hd : B.2.1 26 0 ≤ 400) (g : paOK A) : paOK B := by
  obtain ⟨g1, g2, g3, g4, g5, g6, g7⟩ := g
  obtain ⟨x1, x2, x3, x4⟩ := h
  refine ⟨?_, ?_, by rw [x1]; exact g3, hd, ?_, ?_, ?_⟩
  · unfold acOK headOK actOK at g1 ⊢
    rw [x1, x3 13 (by omega) (by omega) (by omega), x3 14 (by omega) (by omega) (by omega), x3 15 (by omega) (by omega) (by omega), x3 16 (by omega) (by omega) (by omega), x3 17 (by omega) (by omega) (by omega), x3 18 (by omega) (by omega) (by omega), x3 19 (by omega) (by omega) (by omega), x3 20 (by omega) (by omega) (by omega), x3 21 (by omega) (by omega) (by omega), x3 0 (by omega) (by omega) (by omega)]
    exact g1
  · unfold bidsOK at g2 ⊢
    rw [x1, x3 11 (by omega) (by omega) (by omega)]
    exact g2
  · rw [x1, x3 3 (by omega) (by omega) (by omega), x3 4 (by omega) (by omega) (by omega)]; exact g5
  · rw [x1, x3 10 (by omega) (by omega) (by omega)]
    intro d hd
    have := x4 d hd
    have := (g6 d hd)
    exact ⟨by omega, this.2⟩
  · rw [x3 12 (by omega) (by omega) (by omega)]; exact g7
theorem nxA_day {A : Abs} : (nxA A).2.1 26 0 = A.2.1 26 0 + 1 := by
  unfold nxA
  rw [aU_at, if_pos ⟨rfl, rfl⟩]
theorem nxA_ne {A : Abs} {c : Nat} (h : c ≠ 26) : (nxA A).2.1 c = A.2.1 c := aU_ne h
theorem clA_ne {A : Abs} {r : Nat → Nat} {c : Nat} (h : c ≠ 9) : (clA A r).2.1 c = A.2.1 c := by
  funext j
  exact if_neg (fun q => h q.1)
theorem clA_9 {A : Abs} {r : Nat → Nat} {j : Nat} (h : j < A.1 1) : (clA A r).2.1 9 j = A.2.1 9 j + r j := if_pos ⟨rfl, h⟩
theorem day1_Y {tk : Nat} {p : Abs × (Nat → Int32)} (g : paOK p.1) : smY p.1 (day1 tk p).1 ∧ (day1 tk p).1.2.1 26 0 = p.1.2.1 26 0 + 1 := by
  unfold day1
  by_cases h : p.1.2.1 26 0 % 7 < 5
  · rw [if_pos h]
    obtain ⟨x, h2, -⟩ := srvs_OK (tk := tk) (opn_OK (lw := p.2) g) g _ (Nat.le_refl _)
    generalize srvs tk (opn p.1 p.2) (p.1.1 0) = T at *
    refine ⟨⟨x.1, x.2.1, fun c a b d => ?_, fun d hd => ?_⟩, ?_⟩
    · show (nxA (clA T.1 T.2.2.1)).2.1 c = _
      rw [nxA_ne d, clA_ne b]; exact x.2.2 c a b
    · show (nxA (clA T.1 T.2.2.1)).2.1 9 d ≤ _
      rw [nxA_ne (by omega), clA_9 (by rw [x.1]; exact hd)]
      exact (h2 d hd).1
    · show (nxA (clA T.1 T.2.2.1)).2.1 26 0 = _
      rw [nxA_day, clA_ne (by omega), x.2.2 26 (by omega) (by omega)]
  · rw [if_neg h]
    refine ⟨⟨rfl, rfl, fun c a b d => nxA_ne d, fun d hd => ?_⟩, nxA_day⟩
    show (nxA p.1).2.1 9 d ≤ _
    rw [nxA_ne (by omega)]
    exact Nat.le_refl _
theorem days_Y {tk : Nat} {p : Abs × (Nat → Int32)} (g : paOK p.1) : ∀ n, p.1.2.1 26 0 + n ≤ 400 → smY p.1 (days tk p n).1 ∧ (days tk p n).1.2.1 26 0 = p.1.2.1 26 0 + n ∧ paOK (days tk p n).1 := by
  intro n
  induction n with
  | zero => intro _; exact ⟨⟨rfl, rfl, fun _ _ _ _ => rfl, fun _ _ => Nat.le_refl _⟩, rfl, g⟩
  | succ n ih =>
    intro hn
    obtain ⟨i1, i2, i3⟩ := ih (by omega)
    obtain ⟨j1, j2⟩ := day1_Y (tk := tk) (p := days tk p n) i3
    have e : (days tk p (n + 1)).1.2.1 26 0 = p.1.2.1 26 0 + (n + 1) := by
      show (day1 tk (days tk p n)).1.2.1 26 0 = _
      omega
    exact ⟨i1.tr j1, e, (i1.tr j1).pa (by show (days tk p (n + 1)).1.2.1 26 0 ≤ 400; omega) g⟩
