/-! PURE: numbers -/
abbrev rg (x : Int32) (n : Nat) : Prop := 0 ≤ x.toInt ∧ x.toInt < n
abbrev ix (x : Int32) : Nat := x.toNatClampNeg
theorem rg_in {x : Int32} {n : Nat} (h : rg x n) : vp_in x n := vp_in_iff.mpr h
theorem rg_lt {x : Int32} {n : Nat} (h : rg x n) : ix x < n := m_lt (rg_in h)
theorem rg_nI {x : Int32} {n : Nat} (h : rg x n) (hn : n < 2 ^ 31) : x = nI (ix x) := by
  obtain ⟨j, hj, e⟩ := vp_in_of (rg_in h) hn
  have h2 : ix x = j := by rw [e]; exact nI_clamp (by omega)
  rw [h2]; exact e
theorem rg_of {j n : Nat} (h : j < n) (hn : n < 2 ^ 31) : rg (nI j) n := by
  have := nI_toInt (n := j) (by omega)
  unfold rg
  rw [this]
  omega
theorem ix_nI {n : Nat} (h : n < 2 ^ 31) : ix (nI n) = n := nI_clamp h
theorem lt_i {x y : Int32} : x < y ↔ x.toInt < y.toInt := Int32.lt_iff_toInt_lt
theorem le_i {x y : Int32} : x ≤ y ↔ x.toInt ≤ y.toInt := Int32.le_iff_toInt_le
theorem eq_i {x y : Int32} : x = y ↔ x.toInt = y.toInt := Int32.toInt_inj.symm
theorem t0_i : (0 : Int32).toInt = 0 := by decide
/-- at most minus one: 0 stands for -1 -/
def mI (b : Nat) : Int32 := nI b - 1
theorem mI_s (n : Nat) : mI (n + 1) = nI n := nI_pred n
theorem mI_0 : mI 0 = -1 := by decide
theorem mI_neg {b : Nat} (h : b < 2 ^ 31) : mI b < 0 ↔ b = 0 := by
  cases b with
  | zero => rw [mI_0]; exact ⟨fun _ => rfl, fun _ => by decide⟩
  | succ n => rw [mI_s]; exact ⟨fun q => absurd q (nI_pos (by omega)), fun q => by omega⟩
/-! PURE: memory -/
theorem wI_at {M : Mem} {c i j : Nat} {v : Int32} {c' i' j' : Nat} : (wI M c i j v).1 c' i' j' = if c' = c ∧ i' = i ∧ j' = j then v else M.1 c' i' j' := by
  show uR M.1 c i (upd (M.1 c i) j v) c' i' j' = _
  by_cases h : c' = c ∧ i' = i
  · rw [h.1, h.2, uR_eq]
    unfold upd
    by_cases hj : j' = j
    · rw [if_pos hj, if_pos ⟨rfl, rfl, hj⟩]
    · rw [if_neg hj, if_neg (fun q => hj q.2.2)]
  · rw [uR_ne h, if_neg (fun q => h ⟨q.1, q.2.1⟩)]
theorem wI_nc {M : Mem} {c i j : Nat} {v : Int32} {c' i' : Nat} (h : c' ≠ c) : (wI M c i j v).1 c' i' = M.1 c' i' := uR_nc h
theorem wI_ni {M : Mem} {c i j : Nat} {v : Int32} {c' i' : Nat} (h : i' ≠ i) : (wI M c i j v).1 c' i' = M.1 c' i' := uR_ni h
theorem wI_J {M : Mem} {c i j : Nat} {v : Int32} : (wI M c i j v).2.1 = M.2.1 := rfl
theorem wI_O {M : Mem} {c i j : Nat} {v : Int32} : (wI M c i j v).2.2 = M.2.2 := rfl
/-- the class's kinds: all but the reference's (10, 44 .. 79) and the law's own row (81); 82 to 84 are rows of its search -/
def cK (c : Nat) : Prop := c < 10 ∨ (10 < c ∧ c < 44) ∨ c = 80 ∨ c = 1000 ∨ c = 1001 ∨ (82 ≤ c ∧ c < 85)
/-- what a call of the reference leaves: all that is the class's -/
def sameC (M M' : Mem) : Prop := (∀ c, cK c → M'.1 c = M.1 c) ∧ (∀ c, ¬ (c = 78 ∨ c = 79) → M'.2.1 c = M.2.1 c) ∧ M'.2.2 = M.2.2
/-- what a call of the class leaves: all that is the reference's -/
def sameM (M M' : Mem) : Prop := (∀ c, ¬ cK c → M'.1 c = M.1 c) ∧ M'.2.1 = M.2.1
theorem sameC.rf {M : Mem} : sameC M M := ⟨fun _ _ => rfl, fun _ _ => rfl, rfl⟩
theorem sameM.rf {M : Mem} : sameM M M := ⟨fun _ _ => rfl, rfl⟩
theorem sameC.tr {M M1 M2 : Mem} (h : sameC M M1) (g : sameC M1 M2) : sameC M M2 := ⟨fun c hc => (g.1 c hc).trans (h.1 c hc), fun c hc => (g.2.1 c hc).trans (h.2.1 c hc), g.2.2.trans h.2.2⟩
theorem sameM.tr {M M1 M2 : Mem} (h : sameM M M1) (g : sameM M1 M2) : sameM M M2 := ⟨fun c hc => (g.1 c hc).trans (h.1 c hc), g.2.trans h.2⟩
theorem sameC.wI {M : Mem} {c i j : Nat} {v : Int32} (h : ¬ cK c) : sameC M (wI M c i j v) := ⟨fun c' hc => by
  have : c' ≠ c := fun q => h (q ▸ hc)
  funext i'
  exact wI_nc this, fun _ _ => rfl, rfl⟩
theorem sameM.wI {M : Mem} {c i j : Nat} {v : Int32} (h : cK c) : sameM M (wI M c i j v) := ⟨fun c' hc => by
  have : c' ≠ c := fun q => hc (q ▸ h)
  funext i'
  exact wI_nc this, rfl⟩
/-! THE DOCUMENT'S STATE. counts: 0 schools, 1 dairies, 2 acts, 3 looks, 4 rows of heads. numbers: 0 shire, 1 x, 2 y, 3 leaves, 4 loses, 5 latest, 6 sums (11 a school), 7 x, 8 y, 9 bottles, 10 cap of a dairy, 11 bids (4 a dairy; 1 more; 0 none), 12 months (3 a month), 13 age, 14 told on, 15 from of a row, 16 its heads (12 a row; 1 more; 0 missing), 17 shire (1 more; 0 all), 18 from, 19 struck (1 more; 0 never), 20 purpose, 21 size, 22 text (80 an act) of an act, 23 school, 24 day, 25 really of a look, 26 the day. And what the acts say. -/
abbrev Abs : Type := (Nat → Nat) × (Nat → Nat → Nat) × (Nat → (Nat → Int32) → Bool)
def aU (A : Abs) (c j v : Nat) : Abs := (A.1, (fun c' j' => if c' = c ∧ j' = j then v else A.2.1 c' j'), A.2.2)
def aN (A : Abs) (c v : Nat) : Abs := ((fun c' => if c' = c then v else A.1 c'), A.2)
/-- the heads of an age for a school by the first k rows -/
def hr (A : Abs) (age s : Nat) : Nat → Nat
  | 0 => 0
  | k + 1 => if A.2.1 13 k = age then (if A.2.1 16 (12 * k + s) = 0 then hr A age s k else A.2.1 16 (12 * k + s) - 1) else hr A age s k
/-- one step of an act over a stack (top first) -/
def stp (f : Nat → Int32) (st : List Int32) (x : Int32) : List Int32 :=
  if 0 ≤ x then (if 0 ≤ (x - 10000).toInt ∧ (x - 10000).toInt < 10 then f (ix (x - 10000)) else x) :: st
  else match st with
    | [] => []
    | [a] => if x = -33 then [1 - a] else [a]
    | b :: a :: r => if x = -33 then (1 - b) :: a :: r else
        (if x = -43 then a + b else if x = -45 then a - b else if x = -60 then (if a < b then 1 else 0) else if x = -62 then (if b < a then 1 else 0) else if x = -61 then (if a = b then 1 else 0) else if x = -38 then a &&& b else a ||| b) :: r
def evS (f : Nat → Int32) (L : List Int32) : Bool := match L.foldl (stp f) [] with
  | [a] => decide (a = 1)
  | _ => false
/-- world w of the class holds the document's state -/
def RCs (w : Nat) (M : Mem) (A : Abs) : Prop := M.1 2 w 0 = nI (A.1 0) ∧
  (∀ s, s < A.1 0 → M.1 15 w s = nI (A.2.1 0 s) ∧ M.1 16 w s = nI (A.2.1 1 s) ∧ M.1 17 w s = nI (A.2.1 2 s) ∧ M.1 18 w s = nI (A.2.1 3 s) ∧ M.1 19 w s = nI (A.2.1 4 s) ∧ M.1 20 w s = nI (A.2.1 5 s) ∧ ∀ k, k < 11 → M.1 21 w (11 * s + k) = nI (A.2.1 6 (11 * s + k))) ∧
  (∀ s, A.1 0 ≤ s → s < 12 → M.1 18 w s = 0 ∧ M.1 19 w s = 0 ∧ ∀ k, k < 11 → M.1 21 w (11 * s + k) = 0)
def RCd (w : Nat) (M : Mem) (A : Abs) : Prop := M.1 3 w 0 = nI (A.1 1) ∧
  ∀ d, d < A.1 1 → M.1 22 w d = nI (A.2.1 7 d) ∧ M.1 23 w d = nI (A.2.1 8 d) ∧ M.1 24 w d = nI (A.2.1 9 d) ∧ M.1 25 w d = nI (A.2.1 10 d) ∧ ∀ k, k < 4 → M.1 26 w (4 * d + k) = mI (A.2.1 11 (4 * d + k))
def RCm (w : Nat) (M : Mem) (A : Abs) : Prop := M.1 1 w 0 = nI (A.2.1 26 0) ∧ ∀ m k, m < 12 → k < 3 → M.1 12 w (3 * m + k) = nI (A.2.1 12 (3 * m + k))
def RCh (w : Nat) (M : Mem) (A : Abs) : Prop := M.1 4 w 0 = nI (A.1 4) ∧
  ∀ r, r < A.1 4 → M.1 30 w r = nI (A.2.1 13 r) ∧ M.1 31 w r = nI (A.2.1 14 r) ∧ M.1 32 w r = nI (A.2.1 15 r) ∧ ∀ s, s < 12 → M.1 33 w (12 * r + s) = nI (hr A (A.2.1 13 r) s (r + 1))
def RCl (w : Nat) (M : Mem) (A : Abs) : Prop := M.1 6 w 0 = nI (A.1 3) ∧ ∀ k, k < A.1 3 → M.1 36 w k = nI (A.2.1 23 k) ∧ M.1 37 w k = nI (A.2.1 24 k) ∧ M.1 38 w k = nI (A.2.1 25 k)
def RCa (w : Nat) (M : Mem) (A : Abs) : Prop := M.1 5 w 0 = nI (A.1 2) ∧
  (∀ a, a < A.1 2 → (∃ id, M.2.2 1 w a = id + 1 ∧ id < M.2.2 2 0 0 ∧ M.1 1000 id 0 = nI (A.2.1 20 a) ∧ M.1 1000 id 1 = mI (A.2.1 17 a) ∧ M.1 1000 id 2 = nI (A.2.1 18 a) ∧ ∃ L : List Int32, L.length = M.2.2 3 0 id ∧ L.length ≤ 80 ∧ (∀ j, j < L.length → M.1 1001 id j = L.getD j 0) ∧ ∀ f, evS f L = A.2.2 a f) ∧
    M.1 35 w a = (if A.2.1 19 a = 0 then 401 else nI (A.2.1 19 a - 1))) ∧ ∀ j, j < 16 → M.2.2 1 w j ≤ M.2.2 2 0 0
def RC (w : Nat) (M : Mem) (A : Abs) : Prop := RCs w M A ∧ RCd w M A ∧ RCm w M A ∧ RCh w M A ∧ RCl w M A ∧ RCa w M A
/-- the reference's numbers, in its row st (44), imaged (45) or kept (46), and its rows beside -/
def RMs (q : Nat) (M : Mem) (A : Abs) : Prop := M.1 q 0 0 = nI (A.1 0) ∧
  ∀ s, s < A.1 0 → M.1 47 0 s = nI (A.2.1 0 s) ∧ M.1 48 0 s = nI (A.2.1 1 s) ∧ M.1 49 0 s = nI (A.2.1 2 s) ∧ M.1 q 0 (10 + s) = nI (A.2.1 3 s) ∧ M.1 q 0 (30 + s) = nI (A.2.1 4 s) ∧ M.1 q 0 (50 + s) = nI (A.2.1 5 s) ∧ ∀ k, k < 11 → M.1 q 0 (180 + (11 * s + k)) = nI (A.2.1 6 (11 * s + k))
def RMd (q : Nat) (M : Mem) (A : Abs) : Prop := M.1 q 0 1 = nI (A.1 1) ∧
  ∀ d, d < A.1 1 → M.1 50 0 d = nI (A.2.1 7 d) ∧ M.1 51 0 d = nI (A.2.1 8 d) ∧ M.1 q 0 (70 + d) = nI (A.2.1 9 d) ∧ M.1 52 0 d = nI (A.2.1 10 d) ∧ ∀ k, k < 4 → M.1 q 0 (80 + (4 * d + k)) = mI (A.2.1 11 (4 * d + k))
def RMm (q : Nat) (M : Mem) (A : Abs) : Prop := M.1 q 0 3 = nI (A.2.1 26 0) ∧ ∀ m k, m < 12 → k < 3 → M.1 q 0 (100 + 20 * k + m) = nI (A.2.1 12 (3 * m + k))
def RMh (q : Nat) (M : Mem) (A : Abs) : Prop := M.1 q 0 5 = nI (A.1 4) ∧
  ∀ r, r < A.1 4 → M.1 53 0 r = nI (A.2.1 13 r) ∧ M.1 54 0 r = nI (A.2.1 14 r) ∧ M.1 55 0 r = nI (A.2.1 15 r) ∧ ∀ s, s < 12 → M.1 56 0 (12 * r + s) = mI (A.2.1 16 (12 * r + s))
def RMl (q : Nat) (M : Mem) (A : Abs) : Prop := M.1 q 0 4 = nI (A.1 3) ∧ ∀ k, k < A.1 3 → M.1 61 0 k = nI (A.2.1 23 k) ∧ M.1 62 0 k = nI (A.2.1 24 k) ∧ M.1 63 0 k = nI (A.2.1 25 k)
def RMa (q : Nat) (M : Mem) (A : Abs) : Prop := M.1 q 0 2 = nI (A.1 2) ∧
  ∀ a, a < A.1 2 → M.1 58 0 a = nI (A.2.1 21 a) ∧ M.1 59 0 a = mI (A.2.1 17 a) ∧ M.1 60 0 a = nI (A.2.1 18 a) ∧ M.1 q 0 (160 + a) = (if A.2.1 19 a = 0 then 1000000 else nI (A.2.1 19 a - 1)) ∧ ∀ j, j < A.2.1 21 a → M.1 57 0 (80 * a + j) = nI (A.2.1 22 (80 * a + j))
def RM (q : Nat) (M : Mem) (A : Abs) : Prop := RMs q M A ∧ RMd q M A ∧ RMm q M A ∧ RMh q M A ∧ RMl q M A ∧ RMa q M A
/-- the numbers are as the document has them -/
def Wf (A : Abs) : Prop := A.1 0 ≤ 12 ∧ A.1 1 ≤ 5 ∧ A.1 2 ≤ 16 ∧ A.1 3 ≤ 30 ∧ A.1 4 ≤ 16 ∧ A.2.1 26 0 ≤ 400 ∧
  (∀ s, s < A.1 0 → A.2.1 0 s < 4 ∧ A.2.1 1 s < 100 ∧ A.2.1 2 s < 100 ∧ A.2.1 3 s ≤ 100 ∧ A.2.1 4 s ≤ 100 ∧ A.2.1 5 s ≤ 999) ∧
  (∀ d, d < A.1 1 → A.2.1 7 d < 100 ∧ A.2.1 8 d < 100 ∧ A.2.1 9 d ≤ 9999 ∧ 1 ≤ A.2.1 10 d ∧ A.2.1 10 d ≤ 9999 ∧ ∀ k, k < 4 → A.2.1 11 (4 * d + k) ≤ 1000) ∧
  (∀ m, m < 12 → A.2.1 12 (3 * m) ≤ 100 ∧ A.2.1 12 (3 * m + 1) ≤ 99 ∧ A.2.1 12 (3 * m + 2) ≤ 99999) ∧
  (∀ r, r < A.1 4 → A.2.1 13 r < 3 ∧ A.2.1 14 r ≤ 400 ∧ A.2.1 15 r ≤ 500 ∧ ∀ s, s < 12 → A.2.1 16 (12 * r + s) ≤ 201) ∧
  (∀ a, a < A.1 2 → A.2.1 17 a ≤ 4 ∧ A.2.1 18 a ≤ 400 ∧ A.2.1 19 a ≤ 401 ∧ A.2.1 20 a < 3 ∧ A.2.1 21 a ≤ 80 ∧ ∀ j, j < A.2.1 21 a → A.2.1 22 (80 * a + j) < 256) ∧
  (∀ k, k < A.1 3 → A.2.1 23 k < A.1 0 ∧ A.2.1 24 k ≤ 400 ∧ A.2.1 25 k ≤ 999)
/-! frames of the pictures -/
theorem RCs.fr {w : Nat} {M M' : Mem} {A : Abs} (h : RCs w M A) (e : ∀ c, c = 2 ∨ (15 ≤ c ∧ c ≤ 21) → M'.1 c w = M.1 c w) : RCs w M' A := by
  unfold RCs at h ⊢
  rw [e 2 (by omega), e 15 (by omega), e 16 (by omega), e 17 (by omega), e 18 (by omega), e 19 (by omega), e 20 (by omega), e 21 (by omega)]
  exact h
theorem RCd.fr {w : Nat} {M M' : Mem} {A : Abs} (h : RCd w M A) (e : ∀ c, c = 3 ∨ (22 ≤ c ∧ c ≤ 26) → M'.1 c w = M.1 c w) : RCd w M' A := by
  unfold RCd at h ⊢
  rw [e 3 (by omega), e 22 (by omega), e 23 (by omega), e 24 (by omega), e 25 (by omega), e 26 (by omega)]
  exact h
theorem RCm.fr {w : Nat} {M M' : Mem} {A : Abs} (h : RCm w M A) (e1 : M'.1 1 w 0 = M.1 1 w 0) (e : M'.1 12 w = M.1 12 w) : RCm w M' A := by
  unfold RCm at h ⊢
  rw [e1, e]
  exact h
theorem RCh.fr {w : Nat} {M M' : Mem} {A : Abs} (h : RCh w M A) (e : ∀ c, c = 4 ∨ (30 ≤ c ∧ c ≤ 33) → M'.1 c w = M.1 c w) : RCh w M' A := by
  unfold RCh at h ⊢
  rw [e 4 (by omega), e 30 (by omega), e 31 (by omega), e 32 (by omega), e 33 (by omega)]
  exact h
theorem RCl.fr {w : Nat} {M M' : Mem} {A : Abs} (h : RCl w M A) (e : ∀ c, c = 6 ∨ (36 ≤ c ∧ c ≤ 38) → M'.1 c w = M.1 c w) : RCl w M' A := by
  unfold RCl at h ⊢
  rw [e 6 (by omega), e 36 (by omega), e 37 (by omega), e 38 (by omega)]
  exact h
theorem RCa.fr {w : Nat} {M M' : Mem} {A : Abs} (h : RCa w M A) (e : ∀ c, c = 5 ∨ c = 35 → M'.1 c w = M.1 c w) (e1 : ∀ c, c = 1000 ∨ c = 1001 → M'.1 c = M.1 c) (e2 : M'.2.2 = M.2.2) : RCa w M' A := by
  unfold RCa at h ⊢
  rw [e 5 (by omega), e 35 (by omega), e1 1000 (by omega), e1 1001 (by omega), e2]
  exact h
/-- the cells of a world that a picture reads -/
def pK (c : Nat) : Prop := (2 ≤ c ∧ c ≤ 6) ∨ c = 12 ∨ (15 ≤ c ∧ c ≤ 26) ∨ (30 ≤ c ∧ c ≤ 33) ∨ (35 ≤ c ∧ c ≤ 38)
theorem RC.fr {w : Nat} {M M' : Mem} {A : Abs} (h : RC w M A) (e : ∀ c, pK c → M'.1 c w = M.1 c w) (e0 : M'.1 1 w 0 = M.1 1 w 0) (e1 : ∀ c, c = 1000 ∨ c = 1001 → M'.1 c = M.1 c) (e2 : M'.2.2 = M.2.2) : RC w M' A :=
  ⟨h.1.fr (fun c hc => e c (by unfold pK; omega)), h.2.1.fr (fun c hc => e c (by unfold pK; omega)), h.2.2.1.fr e0 (e 12 (by unfold pK; omega)), h.2.2.2.1.fr (fun c hc => e c (by unfold pK; omega)), h.2.2.2.2.1.fr (fun c hc => e c (by unfold pK; omega)), h.2.2.2.2.2.fr (fun c hc => e c (by unfold pK; omega)) e1 e2⟩
theorem RC.sameC {w : Nat} {M M' : Mem} {A : Abs} (h : RC w M A) (hs : sameC M M') : RC w M' A :=
  h.fr (fun c hc => by rw [hs.1 c (by unfold pK at hc; unfold cK; omega)]) (by rw [hs.1 1 (by unfold cK; omega)]) (fun c hc => hs.1 c (by unfold cK; omega)) hs.2.2
theorem RM.fr {q : Nat} {M M' : Mem} {A : Abs} (h : RM q M A) (e : ∀ c, c = q ∨ (47 ≤ c ∧ c ≤ 63) → M'.1 c 0 = M.1 c 0) : RM q M' A := by
  unfold RM RMs RMd RMm RMh RMl RMa at h ⊢
  rw [e q (by omega), e 47 (by omega), e 48 (by omega), e 49 (by omega), e 50 (by omega), e 51 (by omega), e 52 (by omega), e 53 (by omega), e 54 (by omega), e 55 (by omega), e 56 (by omega), e 57 (by omega), e 58 (by omega), e 59 (by omega), e 60 (by omega), e 61 (by omega), e 62 (by omega), e 63 (by omega)]
  exact h
theorem RM.sameM {q : Nat} (hq : 44 ≤ q ∧ q ≤ 46) {M M' : Mem} {A : Abs} (h : RM q M A) (hs : sameM M M') : RM q M' A :=
  h.fr (fun c hc => by rw [hs.1 c (by unfold cK; omega)])
/-! small tests -/
theorem t_within {x lo hi : Int32} {M : Mem} {P : Int32 → Mem → Prop} {n : Nat} (hl : lo.toInt = 0) (hn : hi.toInt + 1 = n) (h1 : rg x n → P 1 M) (h0 : ¬ rg x n → P 0 M) : s_X11_within M x lo hi P :=
  ⟨fun c => h0 (fun q => by rw [lt_i] at c; omega), fun c => ⟨fun d => h0 (fun q => by rw [lt_i] at d; omega), fun d => h1 (by rw [lt_i] at c d; exact ⟨by omega, by omega⟩)⟩⟩
theorem t_in {x lo hi : Int32} {M : Mem} {P : Int32 → Mem → Prop} {n : Nat} (hl : lo.toInt = 0) (hn : hi.toInt + 1 = n) (h1 : rg x n → P 1 M) (h0 : ¬ rg x n → P 0 M) : s_X12_in M x lo hi P :=
  ⟨fun c => h0 (fun q => by rw [lt_i] at c; omega), fun c => ⟨fun d => h0 (fun q => by rw [lt_i] at d; omega), fun d => h1 (by rw [lt_i] at c d; exact ⟨by omega, by omega⟩)⟩⟩
theorem t_has8 {w n : Nat} {x : Int32} {M : Mem} {P : Int32 → Mem → Prop} (hc : M.1 2 w 0 = nI n) (hn : n < 2 ^ 31) (h1 : rg x n → P 1 M) (h0 : ¬ rg x n → P 0 M) : s_X8_has w M x P := by
  unfold s_X8_has
  rw [hc]
  have e := nI_toInt hn
  exact ⟨fun c => h0 (fun q => by rw [lt_i, t0_i] at c; omega), fun c => ⟨fun d => h0 (fun q => by rw [le_i] at d; omega), fun d => h1 (by rw [lt_i, t0_i] at c; rw [le_i] at d; exact ⟨by omega, by omega⟩)⟩⟩
theorem t_has4 {w n : Nat} {x : Int32} {M : Mem} {P : Int32 → Mem → Prop} (hc : M.1 3 w 0 = nI n) (hn : n < 2 ^ 31) (h1 : rg x n → P 1 M) (h0 : ¬ rg x n → P 0 M) : s_X4_has w M x P := by
  unfold s_X4_has
  rw [hc]
  have e := nI_toInt hn
  exact ⟨fun c => h0 (fun q => by rw [lt_i, t0_i] at c; omega), fun c => ⟨fun d => h0 (fun q => by rw [le_i] at d; omega), fun d => h1 (by rw [lt_i, t0_i] at c; rw [le_i] at d; exact ⟨by omega, by omega⟩)⟩⟩
theorem nI_m1 {n : Nat} (hn : n < 2 ^ 31) : (nI n - 1).toInt + 1 = (n : Int) := by
  cases n with
  | zero => decide
  | succ n => rw [nI_pred, nI_toInt (by omega)]; omega
theorem t_isSchool {n : Nat} {x : Int32} {M : Mem} {P : Int32 → Mem → Prop} (hc : M.1 44 0 0 = nI n) (hn : n < 2 ^ 31) (h1 : rg x n → P 1 M) (h0 : ¬ rg x n → P 0 M) : s_X12_isSchool M x P := by
  unfold s_X12_isSchool
  rw [hc]
  exact t_in (by decide) (nI_m1 hn) (fun h => ⟨isB_1, h1 h⟩) (fun h => ⟨isB_0, h0 h⟩)
theorem t_isDairy {n : Nat} {x : Int32} {M : Mem} {P : Int32 → Mem → Prop} (hc : M.1 44 0 1 = nI n) (hn : n < 2 ^ 31) (h1 : rg x n → P 1 M) (h0 : ¬ rg x n → P 0 M) : s_X12_isDairy M x P := by
  unfold s_X12_isDairy
  rw [hc]
  exact t_in (by decide) (nI_m1 hn) (fun h => ⟨isB_1, h1 h⟩) (fun h => ⟨isB_0, h0 h⟩)
theorem t_isShire {x : Int32} {M : Mem} {P : Int32 → Mem → Prop} (h1 : rg x 4 → P 1 M) (h0 : ¬ rg x 4 → P 0 M) : s_X12_isShire M x P := by
  unfold s_X12_isShire
  exact t_in (by decide) (by decide) (fun h => ⟨isB_1, h1 h⟩) (fun h => ⟨isB_0, h0 h⟩)
theorem t_isAge {x : Int32} {M : Mem} {P : Int32 → Mem → Prop} (h1 : rg x 3 → P 1 M) (h0 : ¬ rg x 3 → P 0 M) : s_X12_isAge M x P := by
  unfold s_X12_isAge
  exact t_in (by decide) (by decide) (fun h => ⟨isB_1, h1 h⟩) (fun h => ⟨isB_0, h0 h⟩)
theorem t_isDay {x : Int32} {M : Mem} {P : Int32 → Mem → Prop} (h1 : rg x 401 → P 1 M) (h0 : ¬ rg x 401 → P 0 M) : s_X12_isDay M x P := by
  unfold s_X12_isDay
  exact t_in (by decide) (by decide) (fun h => ⟨isB_1, h1 h⟩) (fun h => ⟨isB_0, h0 h⟩)
/-- behind a test: its answer is 1, or 0 -/
theorem b1 {A B : Prop} (b : B) : ((1 : Int32) = 0 → A) ∧ (¬ (1 : Int32) = 0 → B) := ⟨fun h => absurd h (by decide), fun _ => b⟩
theorem b0 {A B : Prop} (a : A) : ((0 : Int32) = 0 → A) ∧ (¬ (0 : Int32) = 0 → B) := ⟨fun _ => a, fun h => absurd rfl h⟩
theorem c1 {A B : Prop} (b : B) : (¬ (1 : Int32) = 0 → B) ∧ ((1 : Int32) = 0 → A) := ⟨fun _ => b, fun h => absurd h (by decide)⟩
theorem c0 {A B : Prop} (a : A) : (¬ (0 : Int32) = 0 → B) ∧ ((0 : Int32) = 0 → A) := ⟨fun h => absurd rfl h, fun _ => a⟩
/-! THE WHOLE STATE: the document's state now, its image, the shelves: what they hold (0 what: 0 nothing, 1 a crate, 2 a row; 1 kind, 2 bottles, 3 school; 4 sort, 5 size), and the rows -/
abbrev Sg : Type := Abs × Option Abs × (Nat → Nat → Nat) × (Nat → Nat → Int32)
def RCS (M : Mem) (S : Sg) : Prop := ∀ d, d < 8 → M.1 7 d 0 = nI (S.2.2.1 0 d) ∧ (S.2.2.1 0 d = 1 → M.1 7 d 1 = nI (S.2.2.1 1 d) ∧ M.1 7 d 2 = nI (S.2.2.1 2 d) ∧ M.1 7 d 3 = nI (S.2.2.1 3 d)) ∧
  (S.2.2.1 0 d = 2 → M.1 7 d 4 = nI (S.2.2.1 4 d) ∧ M.1 7 d 5 = nI (S.2.2.1 5 d) ∧ ∀ j, j < 80 → M.1 39 d j = S.2.2.2 d j)
def RMS (M : Mem) (S : Sg) : Prop := ∀ d, d < 8 → M.1 72 0 d = nI (S.2.2.1 0 d) ∧ (S.2.2.1 0 d = 1 → M.1 73 0 d = nI (S.2.2.1 1 d) ∧ M.1 74 0 d = nI (S.2.2.1 2 d) ∧ M.1 75 0 d = nI (S.2.2.1 3 d)) ∧
  (S.2.2.1 0 d = 2 → M.1 76 0 d = nI (S.2.2.1 4 d) ∧ M.1 77 0 d = nI (S.2.2.1 5 d) ∧ ∀ j, j < 80 → M.2.1 78 0 (80 * d + j) = (S.2.2.2 d j).toInt64)
/-- an act that could be in force -/
abbrev cou (A : Abs) (a p sh d : Nat) : Prop := A.2.1 20 a = p ∧ (A.2.1 17 a = 0 ∨ A.2.1 17 a = sh + 1) ∧ A.2.1 18 a ≤ d ∧ (A.2.1 19 a = 0 ∨ d + 1 < A.2.1 19 a)
/-- the act in force among the first k (1 more; 0 none) -/
def frN (A : Abs) (p sh d : Nat) : Nat → Nat
  | 0 => 0
  | a + 1 => if (A.2.1 20 a = p ∧ (A.2.1 17 a = 0 ∨ A.2.1 17 a = sh + 1) ∧ A.2.1 18 a ≤ d ∧ (A.2.1 19 a = 0 ∨ d + 1 < A.2.1 19 a)) ∧ (frN A p sh d a = 0 ∨ A.2.1 18 (frN A p sh d a - 1) ≤ A.2.1 18 a) then a + 1 else frN A p sh d a
def noI (b : Nat) : Int32 := if b = 0 then -4 else nI (b - 1)
def RMf (M : Mem) (A : Abs) : Prop := ∃ fd, M.1 10 0 37 = mI fd ∧ fd ≤ 401 ∧ (fd ≠ 0 → ∀ p sh, p < 3 → sh < 4 → M.1 66 0 (4 * p + sh) = noI (frN A p sh (fd - 1) (A.1 2)))
def imgC (M : Mem) (o : Option Abs) : Prop := match o with
  | none => M.1 0 0 3 = 0
  | some B => M.1 0 0 3 = 1 ∧ RC 1 M B
def imgM (M : Mem) (o : Option Abs) : Prop := match o with
  | none => M.1 10 0 4 = 0
  | some B => M.1 10 0 4 = 1 ∧ RM 45 M B
theorem imgC.fr {M M' : Mem} {o : Option Abs} (h : imgC M o) (e0 : M'.1 0 0 3 = M.1 0 0 3) (hB : ∀ B, o = some B → RC 1 M B → RC 1 M' B) : imgC M' o := by
  cases o with
  | none => exact e0.trans h
  | some B => exact ⟨e0.trans h.1, hB B rfl h.2⟩
theorem imgM.fr {M M' : Mem} {o : Option Abs} (h : imgM M o) (e0 : M'.1 10 0 4 = M.1 10 0 4) (hB : ∀ B, o = some B → RM 45 M B → RM 45 M' B) : imgM M' o := by
  cases o with
  | none => exact e0.trans h
  | some B => exact ⟨e0.trans h.1, hB B rfl h.2⟩
def RCX (M : Mem) (S : Sg) : Prop := RC 0 M S.1 ∧ imgC M S.2.1 ∧ RCS M S
def RMX (M : Mem) (S : Sg) : Prop := RM 44 M S.1 ∧ imgM M S.2.1 ∧ RMS M S ∧ RMf M S.1 ∧ M.1 10 0 22 = -1
/-- what is put into a row of a sort fits -/
def fitS (sort : Nat) (x : Int32) : Prop := (sort = 0 → x.toInt8.toInt32 = x) ∧ (sort = 1 → x.toInt16.toInt32 = x)
def WfX (S : Sg) : Prop := Wf S.1 ∧ (∀ B, S.2.1 = some B → Wf B ∧ ∀ i, i < 5 → B.1 i ≤ S.1.1 i) ∧
  ∀ d, d < 8 → S.2.2.1 0 d ≤ 2 ∧ S.2.2.1 1 d ≤ 6 ∧ S.2.2.1 2 d ≤ 9999 ∧ S.2.2.1 3 d ≤ 11 ∧ S.2.2.1 4 d ≤ 2 ∧ S.2.2.1 5 d ≤ 80 ∧ ∀ j, j < 80 → fitS (S.2.2.1 4 d) (S.2.2.2 d j)
theorem RCS.fr {M M' : Mem} {S : Sg} (h : RCS M S) (e : ∀ d, M'.1 7 d = M.1 7 d) (e2 : ∀ d, M'.1 39 d = M.1 39 d) : RCS M' S := by
  intro d hd
  rw [e, e2]
  exact h d hd
theorem RCX.sameC {M M' : Mem} {S : Sg} (h : RCX M S) (hs : sameC M M') : RCX M' S :=
  ⟨h.1.sameC hs, h.2.1.fr (by rw [hs.1 0 (by unfold cK; omega)]) (fun B _ hB => hB.sameC hs), h.2.2.fr (fun d => by rw [hs.1 7 (by unfold cK; omega)]) (fun d => by rw [hs.1 39 (by unfold cK; omega)])⟩
theorem RMX.sameM {M M' : Mem} {S : Sg} (h : RMX M S) (hs : sameM M M') : RMX M' S := by
  have e := hs.1 10 (by unfold cK; omega)
  refine ⟨h.1.sameM (by omega) hs, h.2.1.fr (by rw [e]) (fun B _ hB => hB.sameM (by omega) hs), ?_, ?_, by rw [e]; exact h.2.2.2.2⟩
  · intro d hd
    rw [hs.1 72 (by unfold cK; omega), hs.1 73 (by unfold cK; omega), hs.1 74 (by unfold cK; omega), hs.1 75 (by unfold cK; omega), hs.1 76 (by unfold cK; omega), hs.1 77 (by unfold cK; omega), hs.2]
    exact h.2.2.1 d hd
  · obtain ⟨fd, h1, h2, h3⟩ := h.2.2.2.1
    refine ⟨fd, by rw [e]; exact h1, h2, fun h4 => ?_⟩
    rw [hs.1 66 (by unfold cK; omega)]
    exact h3 h4
