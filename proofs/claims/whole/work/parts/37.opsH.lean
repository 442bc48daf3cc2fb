/-! HEADS, the call: a row is told -/
def clampN (x : Int32) : Nat := if x.toInt < 0 then 0 else if 200 < x.toInt then 200 else ix x
theorem clampN_le (x : Int32) : clampN x ≤ 200 := by
  unfold clampN
  split
  · omega
  · split
    · omega
    · have h : rg x 201 := ⟨by omega, by omega⟩
      have := rg_lt h
      omega
theorem t200 : (200 : Int32).toInt = 200 := by decide
theorem clamp_i (x : Int32) : (if (0 : Int32) < (if x < 200 then x else 200) then (if x < 200 then x else 200) else 0) = nI (clampN x) := by
  have e1 : x < 200 ↔ x.toInt < 200 := by rw [lt_i, t200]
  unfold clampN
  by_cases h1 : x.toInt < 200
  · rw [if_pos (e1.mpr h1)]
    have e0 : (0 : Int32) < x ↔ 0 < x.toInt := by rw [lt_i, t0_i]
    by_cases h2 : 0 < x.toInt
    · rw [if_pos (e0.mpr h2), if_neg (by omega), if_neg (by omega)]
      exact rg_nI (n := 201) ⟨by omega, by omega⟩ (by omega)
    · rw [if_neg (fun y => h2 (e0.mp y))]
      by_cases h3 : x.toInt < 0
      · rw [if_pos h3]; rfl
      · rw [if_neg h3, if_neg (by omega)]
        have : x = 0 := by rw [eq_i, t0_i]; omega
        rw [this]; rfl
  · rw [if_neg (fun y => h1 (e1.mp y)), if_pos (by decide), if_neg (by omega)]
    by_cases h2 : 200 < x.toInt
    · rw [if_pos h2]; rfl
    · rw [if_neg h2]
      have : x = 200 := by rw [eq_i, t200]; omega
      rw [this]; rfl
/-- the least of a sort: nothing is told -/
def lst (s : Nat) : Int32 := if s = 0 then -128 else if s = 1 then -32768 else -2147483648
/-- what a row tells of a school (1 more; 0: nothing) -/
def msg (S : Sg) (d s : Nat) : Nat := if S.2.2.1 5 d ≤ s then 0 else if S.2.2.2 d s = lst (S.2.2.1 4 d) then 0 else clampN (S.2.2.2 d s) + 1
theorem msg_le {S : Sg} {d s : Nat} : msg S d s ≤ 201 := by
  unfold msg
  split
  · omega
  · split
    · omega
    · have := clampN_le (S.2.2.2 d s); omega
def frD (d : Nat) : Nat := d + (10 - d % 7) % 7 + 4
def headA (A : Abs) (age : Nat) (b : Nat → Nat) : Abs := ((fun c => if c = 4 then A.1 4 + 1 else A.1 c), (fun c j => if c = 13 ∧ j = A.1 4 then age else if c = 14 ∧ j = A.1 4 then A.2.1 26 0 else if c = 15 ∧ j = A.1 4 then frD (A.2.1 26 0) else if c = 16 ∧ 12 * A.1 4 ≤ j ∧ j < 12 * A.1 4 + 12 then b (j - 12 * A.1 4) else A.2.1 c j), A.2.2)
theorem headA_ne {A : Abs} {age c : Nat} {b : Nat → Nat} (h : ¬ (13 ≤ c ∧ c ≤ 16)) : (headA A age b).2.1 c = A.2.1 c := by
  funext j
  show (if c = 13 ∧ j = A.1 4 then age else if c = 14 ∧ j = A.1 4 then A.2.1 26 0 else if c = 15 ∧ j = A.1 4 then frD (A.2.1 26 0) else if c = 16 ∧ 12 * A.1 4 ≤ j ∧ j < 12 * A.1 4 + 12 then b (j - 12 * A.1 4) else A.2.1 c j) = _
  rw [if_neg (by omega), if_neg (by omega), if_neg (by omega), if_neg (by omega)]
theorem headA_n {A : Abs} {age c : Nat} {b : Nat → Nat} (h : c ≠ 4) : (headA A age b).1 c = A.1 c := if_neg h
theorem headA_old {A : Abs} {age c j : Nat} {b : Nat → Nat} (h : j ≠ A.1 4) (hc : c < 16) : (headA A age b).2.1 c j = A.2.1 c j := by
  show (if c = 13 ∧ j = A.1 4 then age else if c = 14 ∧ j = A.1 4 then A.2.1 26 0 else if c = 15 ∧ j = A.1 4 then frD (A.2.1 26 0) else if c = 16 ∧ 12 * A.1 4 ≤ j ∧ j < 12 * A.1 4 + 12 then b (j - 12 * A.1 4) else A.2.1 c j) = _
  rw [if_neg (by omega), if_neg (by omega), if_neg (by omega), if_neg (by omega)]
theorem headA_row {A : Abs} {age k i : Nat} {b : Nat → Nat} (hi : i < 12) : (headA A age b).2.1 16 (12 * k + i) = if k = A.1 4 then b i else A.2.1 16 (12 * k + i) := by
  show (if 16 = 13 ∧ 12 * k + i = A.1 4 then age else if 16 = 14 ∧ 12 * k + i = A.1 4 then A.2.1 26 0 else if 16 = 15 ∧ 12 * k + i = A.1 4 then frD (A.2.1 26 0) else if 16 = 16 ∧ 12 * A.1 4 ≤ 12 * k + i ∧ 12 * k + i < 12 * A.1 4 + 12 then b (12 * k + i - 12 * A.1 4) else A.2.1 16 (12 * k + i)) = _
  rw [if_neg (by omega), if_neg (by omega), if_neg (by omega)]
  by_cases q : k = A.1 4
  · rw [if_pos q, if_pos (by omega), q, show 12 * A.1 4 + i - 12 * A.1 4 = i by omega]
  · rw [if_neg q, if_neg (by omega)]
theorem headA_new {A : Abs} {age : Nat} {b : Nat → Nat} : (headA A age b).2.1 13 (A.1 4) = age ∧ (headA A age b).2.1 14 (A.1 4) = A.2.1 26 0 ∧ (headA A age b).2.1 15 (A.1 4) = frD (A.2.1 26 0) := by
  refine ⟨?_, ?_, ?_⟩ <;> unfold headA <;> simp
theorem hr_headA {A : Abs} {age g s : Nat} {b : Nat → Nat} (hs : s < 12) : ∀ k, k ≤ A.1 4 → hr (headA A age b) g s k = hr A g s k := by
  intro k
  induction k with
  | zero => intro _; rfl
  | succ k ih =>
    intro hk
    rw [hr_s, hr_s, ih (by omega), headA_old (by omega) (by omega), headA_row hs, if_neg (show ¬ k = A.1 4 by omega)]
theorem hr_headA_new {A : Abs} {age s : Nat} {b : Nat → Nat} (hs : s < 12) : hr (headA A age b) age s (A.1 4 + 1) = if b s = 0 then hr A age s (A.1 4) else b s - 1 := by
  rw [hr_s, hr_headA hs _ (Nat.le_refl _), headA_new.1, if_pos rfl, headA_row hs, if_pos rfl]
/-- the last row of an age (1 more; 0: none) -/
def la (A : Abs) (age : Nat) : Nat → Nat
  | 0 => 0
  | k + 1 => if A.2.1 13 k = age then k + 1 else la A age k
theorem la_s {A : Abs} {age k : Nat} : la A age (k + 1) = if A.2.1 13 k = age then k + 1 else la A age k := rfl
theorem la_le {A : Abs} {age k : Nat} : la A age k ≤ k := by
  induction k with
  | zero => exact Nat.le_refl _
  | succ k ih => rw [la_s]; split <;> omega
theorem la_hr {A : Abs} {age s k : Nat} : hr A age s k = hr A age s (la A age k) := by
  induction k with
  | zero => rfl
  | succ k ih =>
    rw [la_s]
    split
    · rfl
    · rename_i q
      rw [hr_s, if_neg q]; exact ih
theorem la_age {A : Abs} {age k : Nat} : la A age k ≠ 0 → A.2.1 13 (la A age k - 1) = age := by
  induction k with
  | zero => intro h; exact absurd rfl h
  | succ k ih =>
    rw [la_s]
    split
    · rename_i q; intro _; exact q
    · exact ih
theorem tC_lastOf {w : Nat} {M : Mem} {A : Abs} {age : Nat} {P : Int32 → Mem → Prop} (h : RCh w M A) (hk : headOK A) (ha : age < 1000) (hp : P (mI (la A age (A.1 4))) M) : s_X5_lastOf w M (nI age) P := by
  unfold s_X5_lastOf
  rw [h.1]
  intro x5 e5
  rw [e5]
  have h4 := hk.1
  refine Lz_rule (fun a => ∃ k, k ≤ A.1 4 ∧ a = (M, mI k) ∧ la A age (A.1 4) = la A age k) (fun a => (a.2 + 1).toNatClampNeg) ?_ ⟨A.1 4, Nat.le_refl _, rfl, rfl⟩
  rintro K a ⟨k, hkk, rfl, e⟩ hK
  show s_X5_lastOf_7 w (nI age) P K M (mI k)
  unfold s_X5_lastOf_7
  rw [mI_neg (by omega)]
  refine ⟨fun q => ?_, fun q => ?_⟩
  · rw [e, q] at hp; exact hp
  obtain ⟨r, rfl⟩ : ∃ r, k = r + 1 := ⟨k - 1, by omega⟩
  rw [mI_s]
  have hr4 : r < A.1 4 := by omega
  have b1 := (hk.2 r hr4).1
  have ci : (nI r).toNatClampNeg = r := nI_clamp (by omega)
  rw [ci, (h.2 r hr4).1, nI_eq (by omega) (by omega)]
  refine ⟨vp_in_nI (by omega) (by omega), fun z x ex => ?_, fun z => ?_⟩
  · rw [ex, ← mI_s, mI_dn]
    refine hK _ ⟨r, by omega, rfl, by rw [e, la_s, if_neg z]⟩ ?_
    show (mI r + 1).toNatClampNeg < (mI (r + 1) + 1).toNatClampNeg
    have z : ∀ k : Nat, mI k + 1 = nI k := fun k => by
      show nI k - 1 + 1 = nI k
      exact Int32.sub_add_cancel _ _
    rw [z, z, nI_clamp (by omega), nI_clamp (by omega)]
    omega
  · rw [e, la_s, if_pos z, mI_s] at hp; exact hp
theorem thurs {d : Nat} (hd : d ≤ 400) : nI d + (((3 : Int32) - (nI d - nI d / 7 * 7) + 7) - ((3 : Int32) - (nI d - nI d / 7 * 7) + 7) / 7 * 7) + 4 = nI (frD d) ∧ nI d + (((10 : Int32) - (nI d - nI d / 7 * 7)) - ((10 : Int32) - (nI d - nI d / 7 * 7)) / 7 * 7) + 4 = nI (frD d) := by
  have r7 : nI d - nI d / 7 * 7 = nI (d % 7) := pk_rem (d := 7) (by omega) (by omega) (by omega)
  rw [r7]
  have a1 : (3 : Int32) - nI (d % 7) + 7 = nI (10 - d % 7) := by
    rcases (show d % 7 = 0 ∨ d % 7 = 1 ∨ d % 7 = 2 ∨ d % 7 = 3 ∨ d % 7 = 4 ∨ d % 7 = 5 ∨ d % 7 = 6 by omega) with q | q | q | q | q | q | q <;> rw [q] <;> decide
  have a2 : (10 : Int32) - nI (d % 7) = nI (10 - d % 7) := pk_sub (a := 10) (b := d % 7) (by omega)
  have r8 : nI (10 - d % 7) - nI (10 - d % 7) / 7 * 7 = nI ((10 - d % 7) % 7) := pk_rem (d := 7) (by omega) (by omega) (by omega)
  rw [a1, a2, r8, nI_add]
  unfold frD
  exact ⟨nI_add _ 4, nI_add _ 4⟩
def sp_heads (S : Sg) (x1 x2 : Int32) : Int32 × Sg := if rg x2 8 ∧ rg x1 3 then (if S.1.1 4 < 16 then (if hd0 S (ix x2) = 0 then (-11, S) else if hd0 S (ix x2) = 2 then (nI (frD (S.1.2.1 26 0)), (headA S.1 (ix x1) (msg S (ix x2)), S.2)) else (-12, S)) else (-2, S)) else (-1, S)
theorem t_leastOfSort {M : Mem} {S : Sg} {d : Nat} {P : Int32 → Mem → Prop} (h : RCS M S) (hd : d < 8) (h2 : hd0 S d = 2) (hw : S.2.2.1 4 d ≤ 2) (hp : P (lst (S.2.2.1 4 d)) M) : s_X9_leastOfSort d M P := by
  unfold s_X9_leastOfSort
  rw [((h d hd).2.2 h2).1]
  have q0 : nI (S.2.2.1 4 d) = 0 ↔ S.2.2.1 4 d = 0 := eqk (by omega) rfl (by omega)
  have q1 : nI (S.2.2.1 4 d) = 1 ↔ S.2.2.1 4 d = 1 := eqk (by omega) rfl (by omega)
  rw [q0, q1]
  unfold lst at hp
  exact ⟨fun a => ⟨fun b => by rw [if_neg a, if_neg b] at hp; exact hp, fun b => by rw [if_neg a, if_pos b] at hp; exact hp⟩, fun a => by rw [if_pos a] at hp; exact hp⟩
