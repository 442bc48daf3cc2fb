/-! dairy -/
def dairyA (A : Abs) (x y b cp : Nat) : Abs := ((fun c => if c = 1 then A.1 1 + 1 else A.1 c), (fun c j => if 7 ≤ c ∧ c ≤ 10 ∧ j = A.1 1 then (if c = 7 then x else if c = 8 then y else if c = 9 then b else cp) else if c = 11 ∧ 4 * A.1 1 ≤ j ∧ j < 4 * A.1 1 + 4 then 0 else A.2.1 c j), A.2.2)
theorem dairyA_ne {A : Abs} {x y b cp c : Nat} (h : ¬ (7 ≤ c ∧ c ≤ 11)) : (dairyA A x y b cp).2.1 c = A.2.1 c := by
  funext j
  show (if 7 ≤ c ∧ c ≤ 10 ∧ j = A.1 1 then (if c = 7 then x else if c = 8 then y else if c = 9 then b else cp) else if c = 11 ∧ 4 * A.1 1 ≤ j ∧ j < 4 * A.1 1 + 4 then 0 else A.2.1 c j) = _
  rw [if_neg (by omega), if_neg (by omega)]
theorem dairyA_n {A : Abs} {x y b cp c : Nat} (h : c ≠ 1) : (dairyA A x y b cp).1 c = A.1 c := if_neg h
theorem dairyA_old {A : Abs} {x y b cp c j : Nat} (h : j ≠ A.1 1) (hc : c < 11) : (dairyA A x y b cp).2.1 c j = A.2.1 c j := by
  show (if 7 ≤ c ∧ c ≤ 10 ∧ j = A.1 1 then (if c = 7 then x else if c = 8 then y else if c = 9 then b else cp) else if c = 11 ∧ 4 * A.1 1 ≤ j ∧ j < 4 * A.1 1 + 4 then 0 else A.2.1 c j) = _
  rw [if_neg (by omega), if_neg (by omega)]
theorem dairyA_bid {A : Abs} {x y b cp k i : Nat} (hi : i < 4) : (dairyA A x y b cp).2.1 11 (4 * k + i) = if k = A.1 1 then 0 else A.2.1 11 (4 * k + i) := by
  show (if 7 ≤ 11 ∧ 11 ≤ 10 ∧ 4 * k + i = A.1 1 then (if 11 = 7 then x else if 11 = 8 then y else if 11 = 9 then b else cp) else if 11 = 11 ∧ 4 * A.1 1 ≤ 4 * k + i ∧ 4 * k + i < 4 * A.1 1 + 4 then 0 else A.2.1 11 (4 * k + i)) = _
  rw [if_neg (by omega)]
  by_cases q : k = A.1 1
  · rw [if_pos q, if_pos (by omega)]
  · rw [if_neg q, if_neg (by omega)]
theorem dairyA_new {A : Abs} {x y b cp : Nat} : (dairyA A x y b cp).2.1 7 (A.1 1) = x ∧ (dairyA A x y b cp).2.1 8 (A.1 1) = y ∧ (dairyA A x y b cp).2.1 9 (A.1 1) = b ∧ (dairyA A x y b cp).2.1 10 (A.1 1) = cp := by
  refine ⟨?_, ?_, ?_, ?_⟩ <;> unfold dairyA <;> simp
/-- a cap: 1 to 9999 -/
abbrev rc (x : Int32) : Prop := 1 ≤ x.toInt ∧ x.toInt < 10000
def sp_dairy (S : Sg) (x1 x2 x3 : Int32) : Int32 × Sg := if rg x1 10000 ∧ rg x2 10000 ∧ rc x3 then (if S.1.1 1 < 5 then (nI (S.1.1 1), (dairyA S.1 (ix x1 / 100) (ix x1 % 100) (ix x2) (ix x3), S.2)) else (-2, S)) else (-1, S)
theorem t9999 : (9999 : Int32).toInt = 9999 := by decide
theorem t1_i : (1 : Int32).toInt = 1 := by decide
theorem t_within_c {x : Int32} {M : Mem} {P : Int32 → Mem → Prop} (h1 : rc x → P 1 M) (h0 : ¬ rc x → P 0 M) : s_X11_within M x 1 9999 P :=
  ⟨fun c => h0 (fun q => by rw [lt_i, t1_i] at c; omega), fun c => ⟨fun d => h0 (fun q => by rw [lt_i, t9999] at d; omega), fun d => h1 (by rw [lt_i, t1_i] at c; rw [lt_i, t9999] at d; exact ⟨by omega, by omega⟩)⟩⟩
theorem t_in_c {x : Int32} {M : Mem} {P : Int32 → Mem → Prop} (h1 : rc x → P 1 M) (h0 : ¬ rc x → P 0 M) : s_X12_in M x 1 9999 P :=
  ⟨fun c => h0 (fun q => by rw [lt_i, t1_i] at c; omega), fun c => ⟨fun d => h0 (fun q => by rw [lt_i, t9999] at d; omega), fun d => h1 (by rw [lt_i, t1_i] at c; rw [lt_i, t9999] at d; exact ⟨by omega, by omega⟩)⟩⟩
theorem lt5 {n : Nat} (h : n < 2 ^ 31) : nI n < 5 ↔ n < 5 := nI_ltI (b := 5) h (by omega)
theorem m1 : (-1 : Int32) = mI 0 := mI_0.symm
theorem tC_dairy {M : Mem} {S : Sg} {x1 x2 x3 : Int32} {P : Int32 → Mem → Prop} (h : RCX M S) (hw : WfX S) (hp : ∀ M', sameM M M' → RCX M' (sp_dairy S x1 x2 x3).2 → P (sp_dairy S x1 x2 x3).1 M') : s_X11_dairy M x1 x2 x3 P := by
  unfold s_X11_dairy
  have hn : S.1.1 1 ≤ 5 := hw.1.2.1
  have bad : ∀ v, sp_dairy S x1 x2 x3 = (v, S) → P v M := fun v hb => by
    have := hp M sameM.rf
    rw [hb] at this
    exact this h
  refine t_within (by decide) (n := 10000) (by decide) (fun g1 => b1 ?_) (fun g1 => b0 (bad _ (by unfold sp_dairy; rw [if_neg (fun q => g1 q.1)])))
  refine t_within (by decide) (n := 10000) (by decide) (fun g2 => b1 ?_) (fun g2 => b0 (bad _ (by unfold sp_dairy; rw [if_neg (fun q => g2 q.2.1)])))
  refine t_within_c (fun g3 => c1 ?_) (fun g3 => c0 (bad _ (by unfold sp_dairy; rw [if_neg (fun q => g3 q.2.2)])))
  have h6 := h.1.2.1
  rw [h6.1, lt5 (by omega)]
  refine ⟨fun q => ?_, fun q => bad _ (by unfold sp_dairy; rw [if_pos ⟨g1, g2, g3⟩, if_neg q])⟩
  have es : sp_dairy S x1 x2 x3 = (nI (S.1.1 1), (dairyA S.1 (ix x1 / 100) (ix x1 % 100) (ix x2) (ix x3), S.2)) := by unfold sp_dairy; rw [if_pos ⟨g1, g2, g3⟩, if_pos q]
  rw [es] at hp
  obtain ⟨q1, q2⟩ := d100 g1 (by omega)
  unfold s_X4_come
  rw [h6.1, q2, q1]
  intro x4 e4
  have vi : vp_in x4 5 := by rw [e4]; exact vp_in_nI (by omega) (by omega)
  have c4 : x4.toNatClampNeg = S.1.1 1 := by rw [e4]; exact nI_clamp (by omega)
  rw [c4]
  refine ⟨vi, fun Ma ea => ⟨vi, fun Mb eb => ⟨vi, fun Mc ec => ⟨vi, fun Mf ef => ?_⟩⟩⟩⟩
  have f : ∀ c, ¬ (22 ≤ c ∧ c ≤ 25) → Mf.1 c = M.1 c := fun c hc => by rw [ef, wI_cc (by omega), ec, wI_cc (by omega), eb, wI_cc (by omega), ea, wI_cc (by omega)]
  have f1 : ∀ c, Mf.1 c 1 = M.1 c 1 := fun c => by rw [ef, wI_ni (by omega), ec, wI_ni (by omega), eb, wI_ni (by omega), ea, wI_ni (by omega)]
  have fo : Mf.2 = M.2 := by rw [ef, ec, eb, ea]; rfl
  have g22 : ∀ k, Mf.1 22 0 k = if k = S.1.1 1 then nI (ix x1 / 100) else M.1 22 0 k := by
    intro k
    rw [ef, ec, eb, ea]
    simp only [wI_at]
    simp
  have g23 : ∀ k, Mf.1 23 0 k = if k = S.1.1 1 then nI (ix x1 % 100) else M.1 23 0 k := by
    intro k
    rw [ef, ec, eb, ea]
    simp only [wI_at]
    simp
  have g24 : ∀ k, Mf.1 24 0 k = if k = S.1.1 1 then x2 else M.1 24 0 k := by
    intro k
    rw [ef, ec, eb, ea]
    simp only [wI_at]
    simp
  have g25 : ∀ k, Mf.1 25 0 k = if k = S.1.1 1 then x3 else M.1 25 0 k := by
    intro k
    rw [ef, ec, eb, ea]
    simp only [wI_at]
    simp
  refine Lz_rule (fun a => ∃ k, k ≤ 4 ∧ a.2 = nI k ∧ (∀ c, c ≠ 26 → a.1.1 c = Mf.1 c) ∧ a.1.2 = Mf.2 ∧ a.1.1 26 1 = Mf.1 26 1 ∧ (∀ j, ¬ (4 * S.1.1 1 ≤ j ∧ j < 4 * S.1.1 1 + 4) → a.1.1 26 0 j = Mf.1 26 0 j) ∧ ∀ j, j < k → a.1.1 26 0 (4 * S.1.1 1 + j) = mI 0) (fun a => 4 - a.2.toNatClampNeg) ?_ ⟨0, by omega, rfl, fun _ _ => rfl, rfl, rfl, fun _ _ => rfl, fun j hj => absurd hj (by omega)⟩
  rintro K ⟨Mx, x⟩ ⟨k, hk, e, i1, i2, i5, i3, i4⟩ hK
  dsimp only at e i1 i2 i3 i4 i5
  show s_X4_come_47 0 x4 (fun rr62 Mm62 => P rr62 Mm62) K Mx x
  unfold s_X4_come_47
  rw [e]
  have k11 : (4 : Int32) ≤ nI k ↔ 4 ≤ k := nI_leI (a := 4) (by omega) (by omega)
  rw [k11]
  refine ⟨fun y => ?_, fun y => ?_⟩
  · have hk2 : k = 4 := by omega
    subst hk2
    intro My ey
    rw [i1 3 (by omega), f 3 (by omega), h6.1, nI_1] at ey
    show P x4 My
    rw [e4]
    have g : ∀ c, ¬ (c = 3 ∨ (22 ≤ c ∧ c ≤ 26)) → My.1 c = M.1 c := fun c hc => by rw [ey, wI_cc (by omega), i1 c (by omega), f c (by omega)]
    have g1' : ∀ c, My.1 c 1 = M.1 c 1 := fun c => by
      rw [ey, wI_ni (by omega)]
      by_cases z : c = 26
      · rw [z, i5]; exact f1 26
      · rw [i1 c z]; exact f1 c
    have go : My.2 = M.2 := by rw [ey]; exact i2.trans fo
    have gr : ∀ c, 22 ≤ c → c ≤ 25 → My.1 c = Mf.1 c := fun c a b => by rw [ey, wI_cc (by omega), i1 c (by omega)]
    have u : ∀ c, ¬ (7 ≤ c ∧ c ≤ 11) → (dairyA S.1 (ix x1 / 100) (ix x1 % 100) (ix x2) (ix x3)).2.1 c = S.1.2.1 c := fun c hc => dairyA_ne hc
    refine hp My ⟨fun c hc => g c (fun q => hc (by unfold cK; omega)), by rw [go]⟩ (h.now ?_ (fun c _ => g1' c) (by rw [g1']) (by rw [g 0 (by omega)]) (fun d => by rw [g 7 (by omega)]) (fun d => by rw [g 39 (by omega)]) (fun c hc => g c (by omega)) (by rw [go]))
    refine ⟨(h.1.1.fr (fun c hc => by rw [g c (by omega)])).of (fun c a => u c (by omega)) (dairyA_n (by omega)), ⟨?_, fun s hs => ?_⟩, (h.1.2.2.1.fr (by rw [g 1 (by omega)]) (by rw [g 12 (by omega)])).of (u 26 (by omega)) (u 12 (by omega)), (h.1.2.2.2.1.fr (fun c hc => by rw [g c (by omega)])).of (fun c a b => u c (by omega)) (dairyA_n (by omega)), (h.1.2.2.2.2.1.fr (fun c hc => by rw [g c (by omega)])).of (fun c a b => u c (by omega)) (dairyA_n (by omega)), (h.1.2.2.2.2.2.fr (fun c hc => by rw [g c (by omega)]) (fun c hc => g c (by omega)) (by rw [go])).of (fun c a b => u c (by omega)) (dairyA_n (by omega)) rfl⟩
    · rw [ey, wI_at, if_pos ⟨rfl, rfl, rfl⟩]; rfl
    · have hs : s < S.1.1 1 + 1 := hs
      rw [gr 22 (by omega) (by omega), gr 23 (by omega) (by omega), gr 24 (by omega) (by omega), gr 25 (by omega) (by omega), g22, g23, g24, g25]
      by_cases z : s = S.1.1 1
      · subst z
        obtain ⟨o1, o2, o3, o4⟩ := dairyA_new (A := S.1) (x := ix x1 / 100) (y := ix x1 % 100) (b := ix x2) (cp := ix x3)
        rw [o1, o2, o3, o4, if_pos rfl, if_pos rfl, if_pos rfl, if_pos rfl]
        refine ⟨rfl, rfl, rg_nI g2 (by omega), rg_nI (n := 10000) ⟨by have := g3.1; omega, g3.2⟩ (by omega), fun i hi => ?_⟩
        rw [dairyA_bid hi, if_pos rfl, ey, wI_nc (by omega)]
        exact i4 i hi
      · rw [dairyA_old z (by omega), dairyA_old z (by omega), dairyA_old z (by omega), dairyA_old z (by omega), if_neg z, if_neg z, if_neg z, if_neg z]
        obtain ⟨a1, a2, a3, a4, a5⟩ := h6.2 s (by omega)
        refine ⟨a1, a2, a3, a4, fun i hi => ?_⟩
        rw [dairyA_bid hi, if_neg z, ey, wI_nc (by omega), i3 _ (by omega), f 26 (by omega)]
        exact a5 i hi
  · have ead : x4 * 4 + nI k = nI (4 * S.1.1 1 + k) := by
      rw [e4]
      show nI (S.1.1 1) * nI 4 + nI k = _
      rw [pk_mul, nI_add, Nat.mul_comm]
    rw [ead, m1]
    refine ⟨vp_in_nI (by omega) (by omega), fun My ey z ez => ?_⟩
    rw [nI_clamp (by omega)] at ey
    rw [ez, nI_1]
    refine hK _ ⟨k + 1, by omega, rfl, fun c hc => ?_, ?_, ?_, fun j hj => ?_, fun j hj => ?_⟩ ?_
    · rw [ey]; exact (wI_cc hc).trans (i1 c hc)
    · rw [ey]; exact i2
    · rw [ey]; exact (wI_ni (by omega)).trans i5
    · rw [ey]
      show (wI Mx 26 0 (4 * S.1.1 1 + k) (mI 0)).1 26 0 j = _
      rw [wI_at, if_neg (fun z => by omega)]; exact i3 j hj
    · rw [ey]
      show (wI Mx 26 0 (4 * S.1.1 1 + k) (mI 0)).1 26 0 (4 * S.1.1 1 + j) = mI 0
      rw [wI_at]
      by_cases q3 : j = k
      · rw [if_pos ⟨rfl, rfl, by omega⟩]
      · rw [if_neg (fun q4 => q3 (by omega))]; exact i4 j (by omega)
    · show 4 - (nI (k + 1)).toNatClampNeg < 4 - x.toNatClampNeg
      rw [e, nI_clamp (by omega), nI_clamp (by omega)]
      omega
theorem tM_dairy {M : Mem} {S : Sg} {x1 x2 x3 : Int32} {P : Int32 → Mem → Prop} (h : RMX M S) (hw : WfX S) (hp : ∀ M', sameC M M' → RMX M' (sp_dairy S x1 x2 x3).2 → P (sp_dairy S x1 x2 x3).1 M') : s_X12_dairy M x1 x2 x3 P := by
  unfold s_X12_dairy
  intro M1 e1
  have h1 : RMX M1 S := by rw [e1]; exact h.thrown
  have hn : S.1.1 1 ≤ 5 := hw.1.2.1
  replace hp : ∀ M', sameC M1 M' → RMX M' (sp_dairy S x1 x2 x3).2 → P (sp_dairy S x1 x2 x3).1 M' := fun M' a b => hp M' (sameC.tr (by rw [e1]; exact sC10) a) b
  have bad : ∀ v, sp_dairy S x1 x2 x3 = (v, S) → P v M1 := fun v hb => by
    have := hp M1 sameC.rf
    rw [hb] at this
    exact this h1
  refine t_in (by decide) (n := 10000) (by decide) (fun g1 => b1 ?_) (fun g1 => b0 (bad _ (by unfold sp_dairy; rw [if_neg (fun q => g1 q.1)])))
  refine t_in (by decide) (n := 10000) (by decide) (fun g2 => b1 ?_) (fun g2 => b0 (bad _ (by unfold sp_dairy; rw [if_neg (fun q => g2 q.2.1)])))
  refine t_in_c (fun g3 => c1 ?_) (fun g3 => c0 (bad _ (by unfold sp_dairy; rw [if_neg (fun q => g3 q.2.2)])))
  have h6 := h1.1.2.1
  rw [h6.1, eqk (K := 5) (k := 5) (by omega) rfl (by omega)]
  refine ⟨fun q => ?_, fun q => bad _ (by unfold sp_dairy; rw [if_pos ⟨g1, g2, g3⟩, if_neg (by omega)])⟩
  have es : sp_dairy S x1 x2 x3 = (nI (S.1.1 1), (dairyA S.1 (ix x1 / 100) (ix x1 % 100) (ix x2) (ix x3), S.2)) := by unfold sp_dairy; rw [if_pos ⟨g1, g2, g3⟩, if_pos (by omega)]
  rw [es] at hp
  obtain ⟨q1, q2⟩ := d100 g1 (by omega)
  rw [q2, q1]
  intro x4 e4
  have vi : vp_in x4 5 := by rw [e4]; exact vp_in_nI (by omega) (by omega)
  have c4 : x4.toNatClampNeg = S.1.1 1 := by rw [e4]; exact nI_clamp (by omega)
  have a1 : 70 + x4 = nI (70 + S.1.1 1) := by rw [e4]; exact nI_add 70 _
  have n1 : (nI (70 + S.1.1 1)).toNatClampNeg = 70 + S.1.1 1 := nI_clamp (by omega)
  rw [a1, n1, c4]
  refine ⟨vi, fun Ma ea => ⟨vi, fun Mb eb => ⟨vi, fun Mc ec => ⟨vp_in_nI (by omega) (by omega), fun Mf ef => ?_⟩⟩⟩⟩
  have f : ∀ c, ¬ (c = 44 ∨ (50 ≤ c ∧ c ≤ 52)) → Mf.1 c = M1.1 c := fun c hc => by rw [ef, wI_cc (by omega), ec, wI_cc (by omega), eb, wI_cc (by omega), ea, wI_cc (by omega)]
  have fo : Mf.2 = M1.2 := by rw [ef, ec, eb, ea]; rfl
  have f44 : ∀ j, Mf.1 44 0 j = if j = 70 + S.1.1 1 then x2 else M1.1 44 0 j := by
    intro j
    rw [ef, ec, eb, ea]
    simp only [wI_at]
    simp
  have g50 : ∀ k, Mf.1 50 0 k = if k = S.1.1 1 then nI (ix x1 / 100) else M1.1 50 0 k := by
    intro k
    rw [ef, wI_nc (by omega), ec, eb, ea]
    simp only [wI_at]
    simp
  have g51 : ∀ k, Mf.1 51 0 k = if k = S.1.1 1 then nI (ix x1 % 100) else M1.1 51 0 k := by
    intro k
    rw [ef, wI_nc (by omega), ec, eb, ea]
    simp only [wI_at]
    simp
  have g52 : ∀ k, Mf.1 52 0 k = if k = S.1.1 1 then x3 else M1.1 52 0 k := by
    intro k
    rw [ef, wI_nc (by omega), ec, eb, ea]
    simp only [wI_at]
    simp
  refine Lz_rule (fun a => ∃ k, k ≤ 4 ∧ a.2 = nI k ∧ (∀ c, c ≠ 44 → a.1.1 c = Mf.1 c) ∧ a.1.2 = Mf.2 ∧ (∀ j, ¬ (80 + 4 * S.1.1 1 ≤ j ∧ j < 80 + 4 * S.1.1 1 + 4) → a.1.1 44 0 j = Mf.1 44 0 j) ∧ ∀ j, j < k → a.1.1 44 0 (80 + (4 * S.1.1 1 + j)) = mI 0) (fun a => 4 - a.2.toNatClampNeg) ?_ ⟨0, by omega, rfl, fun _ _ => rfl, rfl, fun _ _ => rfl, fun j hj => absurd hj (by omega)⟩
  rintro K ⟨Mx, x⟩ ⟨k, hk, e, i1, i2, i3, i4⟩ hK
  dsimp only at e i1 i2 i3 i4
  show s_X12_dairy_105 x4 P K Mx x
  unfold s_X12_dairy_105
  rw [e]
  have k11 : (4 : Int32) ≤ nI k ↔ 4 ≤ k := nI_leI (a := 4) (by omega) (by omega)
  rw [k11]
  refine ⟨fun y => ?_, fun y => ?_⟩
  · have hk2 : k = 4 := by omega
    subst hk2
    intro My ey
    rw [i3 1 (by omega), f44 1, if_neg (by omega), h6.1, nI_1] at ey
    rw [e4]
    have g : ∀ c, ¬ (c = 44 ∨ (50 ≤ c ∧ c ≤ 52)) → My.1 c = M1.1 c := fun c hc => by rw [ey, wI_cc (by omega), i1 c (by omega), f c hc]
    have g44 : ∀ j, ¬ (80 + 4 * S.1.1 1 ≤ j ∧ j < 80 + 4 * S.1.1 1 + 4) → j ≠ 1 → My.1 44 0 j = if j = 70 + S.1.1 1 then x2 else M1.1 44 0 j := fun j hj hj0 => by rw [ey, wI_at, if_neg (fun z => hj0 z.2.2), i3 j hj, f44]
    have go : My.2 = M1.2 := by rw [ey]; exact i2.trans fo
    have gr : ∀ c, 50 ≤ c → c ≤ 52 → My.1 c = Mf.1 c := fun c a b => by rw [ey, wI_cc (by omega), i1 c (by omega)]
    have u : ∀ c, ¬ (7 ≤ c ∧ c ≤ 11) → (dairyA S.1 (ix x1 / 100) (ix x1 % 100) (ix x2) (ix x3)).2.1 c = S.1.2.1 c := fun c hc => dairyA_ne hc
    have old : ∀ j, (j = 0 ∨ j = 2 ∨ j = 3 ∨ j = 4 ∨ j = 5 ∨ (10 ≤ j ∧ j < 70) ∨ (100 ≤ j ∧ j < 320)) → My.1 44 0 j = M1.1 44 0 j := fun j hj => by rw [g44 j (by omega) (by omega), if_neg (by omega)]
    refine hp My ⟨fun c hc => g c (by unfold cK at hc; omega), fun c _ => by rw [go], by rw [go]⟩ (h1.one hw ?_ (dairyA_n (by omega)) (fun c a b => u c (by omega)) (fun c hc => g c (by omega)) (fun c a b j _ => by rw [g c (by omega)]) ?_ (fun c a b j _ => by rw [g c (by omega)]) (fun j _ => by rw [g 56 (by omega)]) (fun j _ => by rw [g 57 (by omega)]) (fun c a b j _ => by rw [g c (by omega)]) (fun c a b j _ => by rw [g c (by omega)]) (by rw [go]))
    · refine ⟨(h1.1.1.fr3 hw.1.1 (fun c a b => by rw [g c (by omega)]) (fun j hj => old j (by omega))).of (fun c a => u c (by omega)) (dairyA_n (by omega)), ⟨?_, fun s hs => ?_⟩, (h1.1.2.2.1.fr3 (fun j hj => old j (by omega))).of (u 26 (by omega)) (u 12 (by omega)), (h1.1.2.2.2.1.fr3 (fun c a b => by rw [g c (by omega)]) (old 5 (by omega))).of (fun c a b => u c (by omega)) (dairyA_n (by omega)), (h1.1.2.2.2.2.1.fr3 (fun c a b => by rw [g c (by omega)]) (old 4 (by omega))).of (fun c a b => u c (by omega)) (dairyA_n (by omega)), (h1.1.2.2.2.2.2.fr3 hw.1.2.2.1 (fun c a b => by rw [g c (by omega)]) (fun j hj => old j (by omega))).of (fun c a b => u c (by omega)) (dairyA_n (by omega))⟩
      · rw [ey, wI_at, if_pos ⟨rfl, rfl, rfl⟩]; rfl
      · have hs : s < S.1.1 1 + 1 := hs
        rw [gr 50 (by omega) (by omega), gr 51 (by omega) (by omega), gr 52 (by omega) (by omega), g50, g51, g52, g44 (70 + s) (by omega) (by omega)]
        by_cases z : s = S.1.1 1
        · subst z
          obtain ⟨o1, o2, o3, o4⟩ := dairyA_new (A := S.1) (x := ix x1 / 100) (y := ix x1 % 100) (b := ix x2) (cp := ix x3)
          rw [o1, o2, o3, o4, if_pos rfl, if_pos rfl, if_pos rfl, if_pos rfl]
          refine ⟨rfl, rfl, rg_nI g2 (by omega), rg_nI (n := 10000) ⟨by have := g3.1; omega, g3.2⟩ (by omega), fun i hi => ?_⟩
          rw [dairyA_bid hi, if_pos rfl, ey, wI_at, if_neg (fun z => by omega)]
          exact i4 i hi
        · rw [dairyA_old z (by omega), dairyA_old z (by omega), dairyA_old z (by omega), dairyA_old z (by omega), if_neg z, if_neg z, if_neg z, if_neg (by omega)]
          obtain ⟨a1, a2, a3, a4, a5⟩ := h6.2 s (by omega)
          refine ⟨a1, a2, a3, a4, fun i hi => ?_⟩
          rw [dairyA_bid hi, if_neg z, g44 _ (by omega) (by omega), if_neg (by omega)]
          exact a5 i hi
    · intro c a b j hj
      rw [gr c a b]
      rcases (show c = 50 ∨ c = 51 ∨ c = 52 by omega) with rfl | rfl | rfl
      · rw [g50, if_neg (by omega)]
      · rw [g51, if_neg (by omega)]
      · rw [g52, if_neg (by omega)]
  · have ead : 80 + 4 * x4 + nI k = nI (80 + (4 * S.1.1 1 + k)) := by
      rw [e4]
      show nI 80 + nI 4 * nI (S.1.1 1) + nI k = _
      rw [pk_mul, nI_add, nI_add, Nat.add_assoc]
    rw [ead, m1]
    refine ⟨vp_in_nI (by omega) (by omega), fun My ey z ez => ?_⟩
    rw [nI_clamp (by omega)] at ey
    rw [ez, nI_1]
    refine hK _ ⟨k + 1, by omega, rfl, fun c hc => ?_, ?_, fun j hj => ?_, fun j hj => ?_⟩ ?_
    · rw [ey]; exact (wI_cc hc).trans (i1 c hc)
    · rw [ey]; exact i2
    · rw [ey]
      show (wI Mx 44 0 (80 + (4 * S.1.1 1 + k)) (mI 0)).1 44 0 j = _
      rw [wI_at, if_neg (fun z => by omega)]; exact i3 j hj
    · rw [ey]
      show (wI Mx 44 0 (80 + (4 * S.1.1 1 + k)) (mI 0)).1 44 0 (80 + (4 * S.1.1 1 + j)) = mI 0
      rw [wI_at]
      by_cases q3 : j = k
      · rw [if_pos ⟨rfl, rfl, by omega⟩]
      · rw [if_neg (fun q4 => q3 (by omega))]; exact i4 j (by omega)
    · show 4 - (nI (k + 1)).toNatClampNeg < 4 - x.toNatClampNeg
      rw [e, nI_clamp (by omega), nI_clamp (by omega)]
      omega
