/-! frames of the reference's parts -/
theorem RMs.fr3 {q : Nat} {M M' : Mem} {A : Abs} (h : RMs q M A) (hn : A.1 0 ≤ 12) (e : ∀ c, 47 ≤ c → c ≤ 49 → M'.1 c 0 = M.1 c 0) (e44 : ∀ j, (j = 0 ∨ (10 ≤ j ∧ j < 22) ∨ (30 ≤ j ∧ j < 42) ∨ (50 ≤ j ∧ j < 62) ∨ (180 ≤ j ∧ j < 312)) → M'.1 q 0 j = M.1 q 0 j) : RMs q M' A := by
  refine ⟨by rw [e44 0 (by omega)]; exact h.1, fun s hs => ?_⟩
  have hs12 : s < 12 := Nat.lt_of_lt_of_le hs hn
  rw [e 47 (by omega) (by omega), e 48 (by omega) (by omega), e 49 (by omega) (by omega), e44 _ (by omega), e44 _ (by omega), e44 _ (by omega)]
  obtain ⟨a1, a2, a3, a4, a5, a6, a7⟩ := h.2 s hs
  exact ⟨a1, a2, a3, a4, a5, a6, fun k hk => by rw [e44 _ (by omega)]; exact a7 k hk⟩
theorem RMd.fr3 {q : Nat} {M M' : Mem} {A : Abs} (h : RMd q M A) (hn : A.1 1 ≤ 5) (e : ∀ c, 50 ≤ c → c ≤ 52 → M'.1 c 0 = M.1 c 0) (e44 : ∀ j, (j = 1 ∨ (70 ≤ j ∧ j < 75) ∨ (80 ≤ j ∧ j < 100)) → M'.1 q 0 j = M.1 q 0 j) : RMd q M' A := by
  refine ⟨by rw [e44 1 (by omega)]; exact h.1, fun s hs => ?_⟩
  have hs12 : s < 5 := Nat.lt_of_lt_of_le hs hn
  rw [e 50 (by omega) (by omega), e 51 (by omega) (by omega), e 52 (by omega) (by omega), e44 _ (by omega)]
  obtain ⟨a1, a2, a3, a4, a5⟩ := h.2 s hs
  exact ⟨a1, a2, a3, a4, fun k hk => by rw [e44 _ (by omega)]; exact a5 k hk⟩
theorem RMm.fr3 {q : Nat} {M M' : Mem} {A : Abs} (h : RMm q M A) (e44 : ∀ j, (j = 3 ∨ (100 ≤ j ∧ j < 160)) → M'.1 q 0 j = M.1 q 0 j) : RMm q M' A :=
  ⟨by rw [e44 3 (by omega)]; exact h.1, fun m k hm hk => by rw [e44 _ (by omega)]; exact h.2 m k hm hk⟩
theorem RMh.fr3 {q : Nat} {M M' : Mem} {A : Abs} (h : RMh q M A) (e : ∀ c, 53 ≤ c → c ≤ 56 → M'.1 c 0 = M.1 c 0) (e44 : M'.1 q 0 5 = M.1 q 0 5) : RMh q M' A := by
  unfold RMh at h ⊢
  rw [e44, e 53 (by omega) (by omega), e 54 (by omega) (by omega), e 55 (by omega) (by omega), e 56 (by omega) (by omega)]
  exact h
theorem RMl.fr3 {q : Nat} {M M' : Mem} {A : Abs} (h : RMl q M A) (e : ∀ c, 61 ≤ c → c ≤ 63 → M'.1 c 0 = M.1 c 0) (e44 : M'.1 q 0 4 = M.1 q 0 4) : RMl q M' A := by
  unfold RMl at h ⊢
  rw [e44, e 61 (by omega) (by omega), e 62 (by omega) (by omega), e 63 (by omega) (by omega)]
  exact h
theorem RMa.fr3 {q : Nat} {M M' : Mem} {A : Abs} (h : RMa q M A) (hn : A.1 2 ≤ 16) (e : ∀ c, 57 ≤ c → c ≤ 60 → M'.1 c 0 = M.1 c 0) (e44 : ∀ j, (j = 2 ∨ (160 ≤ j ∧ j < 176)) → M'.1 q 0 j = M.1 q 0 j) : RMa q M' A := by
  refine ⟨by rw [e44 2 (by omega)]; exact h.1, fun a ha => ?_⟩
  have ha16 : a < 16 := Nat.lt_of_lt_of_le ha hn
  rw [e 57 (by omega) (by omega), e 58 (by omega) (by omega), e 59 (by omega) (by omega), e 60 (by omega) (by omega), e44 _ (by omega)]
  exact h.2 a ha
/-! school -/
def schoolA (A : Abs) (s x y : Nat) : Abs := ((fun c => if c = 0 then A.1 0 + 1 else A.1 c), (fun c j => if c < 6 ∧ j = A.1 0 then (if c = 0 then s else if c = 1 then x else if c = 2 then y else if c = 5 then 660 else 0) else if c = 6 ∧ 11 * A.1 0 ≤ j ∧ j < 11 * A.1 0 + 11 then 0 else A.2.1 c j), A.2.2)
theorem schoolA_ne {A : Abs} {s x y c : Nat} (h : 7 ≤ c) : (schoolA A s x y).2.1 c = A.2.1 c := by
  funext j
  show (if c < 6 ∧ j = A.1 0 then (if c = 0 then s else if c = 1 then x else if c = 2 then y else if c = 5 then 660 else 0) else if c = 6 ∧ 11 * A.1 0 ≤ j ∧ j < 11 * A.1 0 + 11 then 0 else A.2.1 c j) = _
  rw [if_neg (by omega), if_neg (by omega)]
theorem schoolA_n {A : Abs} {s x y c : Nat} (h : c ≠ 0) : (schoolA A s x y).1 c = A.1 c := if_neg h
theorem schoolA_old {A : Abs} {s x y c j : Nat} (h : j ≠ A.1 0) (hc : c < 6) : (schoolA A s x y).2.1 c j = A.2.1 c j := by
  show (if c < 6 ∧ j = A.1 0 then (if c = 0 then s else if c = 1 then x else if c = 2 then y else if c = 5 then 660 else 0) else if c = 6 ∧ 11 * A.1 0 ≤ j ∧ j < 11 * A.1 0 + 11 then 0 else A.2.1 c j) = _
  rw [if_neg (by omega), if_neg (by omega)]
theorem schoolA_sum {A : Abs} {s x y k i : Nat} (hi : i < 11) : (schoolA A s x y).2.1 6 (11 * k + i) = if k = A.1 0 then 0 else A.2.1 6 (11 * k + i) := by
  show (if 6 < 6 ∧ 11 * k + i = A.1 0 then (if 6 = 0 then s else if 6 = 1 then x else if 6 = 2 then y else if 6 = 5 then 660 else 0) else if 6 = 6 ∧ 11 * A.1 0 ≤ 11 * k + i ∧ 11 * k + i < 11 * A.1 0 + 11 then 0 else A.2.1 6 (11 * k + i)) = _
  rw [if_neg (by omega)]
  by_cases q : k = A.1 0
  · rw [if_pos q, if_pos (by omega)]
  · rw [if_neg q, if_neg (by omega)]
theorem schoolA_new {A : Abs} {s x y : Nat} : (schoolA A s x y).2.1 0 (A.1 0) = s ∧ (schoolA A s x y).2.1 1 (A.1 0) = x ∧ (schoolA A s x y).2.1 2 (A.1 0) = y ∧ (schoolA A s x y).2.1 3 (A.1 0) = 0 ∧ (schoolA A s x y).2.1 4 (A.1 0) = 0 ∧ (schoolA A s x y).2.1 5 (A.1 0) = 660 := by
  refine ⟨?_, ?_, ?_, ?_, ?_, ?_⟩ <;> unfold schoolA <;> simp
def sp_school (S : Sg) (x1 x2 : Int32) : Int32 × Sg := if rg x1 4 ∧ rg x2 10000 then (if S.1.1 0 < 12 then (nI (S.1.1 0), (schoolA S.1 (ix x1) (ix x2 / 100) (ix x2 % 100), S.2)) else (-2, S)) else (-1, S)
theorem d100 {x : Int32} {n : Nat} (h : rg x n) (hn : n < 2 ^ 31) : x / 100 = nI (ix x / 100) ∧ x - x / 100 * 100 = nI (ix x % 100) := by
  have l := rg_lt h
  have e := rg_nI h hn
  refine ⟨?_, ?_⟩
  · conv => lhs; rw [e]
    exact pk_div (d := 100) (by omega) (by omega) (by omega)
  · conv => lhs; rw [e]
    exact pk_rem (d := 100) (by omega) (by omega) (by omega)
theorem lt12 {n : Nat} (h : n < 2 ^ 31) : nI n < 12 ↔ n < 12 := nI_ltI (b := 12) h (by omega)
theorem tC_school {M : Mem} {S : Sg} {x1 x2 : Int32} {P : Int32 → Mem → Prop} (h : RCX M S) (hw : WfX S) (hp : ∀ M', sameM M M' → RCX M' (sp_school S x1 x2).2 → P (sp_school S x1 x2).1 M') : s_X11_school M x1 x2 P := by
  unfold s_X11_school
  have hn : S.1.1 0 ≤ 12 := hw.1.1
  have bad : ∀ v, sp_school S x1 x2 = (v, S) → P v M := fun v hb => by
    have := hp M sameM.rf
    rw [hb] at this
    exact this h
  refine t_within (by decide) (n := 4) (by decide) (fun g1 => b1 ?_) (fun g1 => b0 (bad _ (by unfold sp_school; rw [if_neg (fun q => g1 q.1)])))
  refine t_within (by decide) (n := 10000) (by decide) (fun g2 => c1 ?_) (fun g2 => c0 (bad _ (by unfold sp_school; rw [if_neg (fun q => g2 q.2)])))
  have h6 := h.1.1
  rw [h6.1, lt12 (by omega)]
  refine ⟨fun q => ?_, fun q => bad _ (by unfold sp_school; rw [if_pos ⟨g1, g2⟩, if_neg q])⟩
  have es : sp_school S x1 x2 = (nI (S.1.1 0), (schoolA S.1 (ix x1) (ix x2 / 100) (ix x2 % 100), S.2)) := by unfold sp_school; rw [if_pos ⟨g1, g2⟩, if_pos q]
  rw [es] at hp
  obtain ⟨q1, q2⟩ := d100 g2 (by omega)
  unfold s_X8_come
  rw [h6.1, q2, q1]
  intro x3 e3
  rw [e3]
  have vi : vp_in (nI (S.1.1 0)) 12 := vp_in_nI (by omega) (by omega)
  refine ⟨vi, fun Ma ea => ⟨vi, fun Mb eb => ⟨vi, fun Mc ec => ⟨vi, fun Md ed => fun Me ee => ?_⟩⟩⟩⟩
  rw [nI_clamp (by omega)] at ea eb ec ed
  have kd : Md.1 2 0 0 = nI (S.1.1 0) := by rw [ed, wI_nc (by omega), ec, wI_nc (by omega), eb, wI_nc (by omega), ea, wI_nc (by omega)]; exact h6.1
  rw [kd, nI_1] at ee
  have e : ∀ c, ¬ (c = 2 ∨ (15 ≤ c ∧ c ≤ 20)) → Me.1 c = M.1 c := fun c hc => by rw [ee, wI_cc (by omega), ed, wI_cc (by omega), ec, wI_cc (by omega), eb, wI_cc (by omega), ea, wI_cc (by omega)]
  have e18 : ∀ c, c = 18 ∨ c = 19 → Me.1 c = M.1 c := fun c hc => by rw [ee, wI_cc (by omega), ed, wI_cc (by omega), ec, wI_cc (by omega), eb, wI_cc (by omega), ea, wI_cc (by omega)]
  have e1 : ∀ c, Me.1 c 1 = M.1 c 1 := fun c => by rw [ee, wI_ni (by omega), ed, wI_ni (by omega), ec, wI_ni (by omega), eb, wI_ni (by omega), ea, wI_ni (by omega)]
  have eo : Me.2 = M.2 := by rw [ee, ed, ec, eb, ea]; rfl
  have ke : Me.1 2 0 0 = nI (S.1.1 0 + 1) := by rw [ee, wI_at, if_pos ⟨rfl, rfl, rfl⟩]
  refine hp Me ⟨fun c hc => e c (fun q => hc (by unfold cK; omega)), by rw [eo]⟩ (h.now ?_ (fun c _ => e1 c) (by rw [e1]) (by rw [e 0 (by omega)]) (fun d => by rw [e 7 (by omega)]) (fun d => by rw [e 39 (by omega)]) (fun c hc => e c (by omega)) (by rw [eo]))
  have u : ∀ c, 7 ≤ c → (schoolA S.1 (ix x1) (ix x2 / 100) (ix x2 % 100)).2.1 c = S.1.2.1 c := fun c hc => schoolA_ne hc
  refine ⟨?_, (h.1.2.1.fr (fun c hc => by rw [e c (by omega)])).of (fun c a b => u c (by omega)) (schoolA_n (by omega)), (h.1.2.2.1.fr (by rw [e 1 (by omega)]) (by rw [e 12 (by omega)])).of (u 26 (by omega)) (u 12 (by omega)), (h.1.2.2.2.1.fr (fun c hc => by rw [e c (by omega)])).of (fun c a b => u c (by omega)) (schoolA_n (by omega)), (h.1.2.2.2.2.1.fr (fun c hc => by rw [e c (by omega)])).of (fun c a b => u c (by omega)) (schoolA_n (by omega)), (h.1.2.2.2.2.2.fr (fun c hc => by rw [e c (by omega)]) (fun c hc => e c (by omega)) (by rw [eo])).of (fun c a b => u c (by omega)) (schoolA_n (by omega)) rfl⟩
  refine ⟨by rw [ke]; rfl, fun k hk => ?_, fun k hk hk2 => ?_⟩
  · have hk : k < S.1.1 0 + 1 := hk
    have v1 : Me.1 15 0 k = if k = S.1.1 0 then x1 else M.1 15 0 k := by
      rw [ee, wI_nc (by omega), ed, wI_nc (by omega), ec, wI_nc (by omega), eb, wI_nc (by omega), ea, wI_at]
      by_cases z : k = S.1.1 0
      · rw [if_pos ⟨rfl, rfl, z⟩, if_pos z]
      · rw [if_neg (fun y => z y.2.2), if_neg z]
    have v2 : Me.1 16 0 k = if k = S.1.1 0 then nI (ix x2 / 100) else M.1 16 0 k := by
      rw [ee, wI_nc (by omega), ed, wI_nc (by omega), ec, wI_nc (by omega), eb, wI_at]
      by_cases z : k = S.1.1 0
      · rw [if_pos ⟨rfl, rfl, z⟩, if_pos z]
      · rw [if_neg (fun y => z y.2.2), if_neg z, ea, wI_nc (by omega)]
    have v3 : Me.1 17 0 k = if k = S.1.1 0 then nI (ix x2 % 100) else M.1 17 0 k := by
      rw [ee, wI_nc (by omega), ed, wI_nc (by omega), ec, wI_at]
      by_cases z : k = S.1.1 0
      · rw [if_pos ⟨rfl, rfl, z⟩, if_pos z]
      · rw [if_neg (fun y => z y.2.2), if_neg z, eb, wI_nc (by omega), ea, wI_nc (by omega)]
    have v4 : Me.1 20 0 k = if k = S.1.1 0 then 660 else M.1 20 0 k := by
      rw [ee, wI_nc (by omega), ed, wI_at]
      by_cases z : k = S.1.1 0
      · rw [if_pos ⟨rfl, rfl, z⟩, if_pos z]
      · rw [if_neg (fun y => z y.2.2), if_neg z, ec, wI_nc (by omega), eb, wI_nc (by omega), ea, wI_nc (by omega)]
    rw [v1, v2, v3, v4, e18 18 (by omega), e18 19 (by omega), e 21 (by omega)]
    by_cases z : k = S.1.1 0
    · rw [if_pos z, if_pos z, if_pos z, if_pos z, z]
      obtain ⟨n1, n2, n3, n4, n5, n6⟩ := schoolA_new (A := S.1) (s := ix x1) (x := ix x2 / 100) (y := ix x2 % 100)
      obtain ⟨o1, o2, o3⟩ := h6.2.2 (S.1.1 0) (Nat.le_refl _) q
      rw [n1, n2, n3, n4, n5, n6]
      exact ⟨rg_nI g1 (by omega), rfl, rfl, o1, o2, rfl, fun i hi => by rw [o3 i hi, schoolA_sum hi, if_pos rfl]; rfl⟩
    · rw [if_neg z, if_neg z, if_neg z, if_neg z, schoolA_old z (by omega), schoolA_old z (by omega), schoolA_old z (by omega), schoolA_old z (by omega), schoolA_old z (by omega), schoolA_old z (by omega)]
      obtain ⟨a1, a2, a3, a4, a5, a6, a7⟩ := h6.2.1 k (by omega)
      exact ⟨a1, a2, a3, a4, a5, a6, fun i hi => by rw [schoolA_sum hi, if_neg z]; exact a7 i hi⟩
  · have hk : S.1.1 0 + 1 ≤ k := hk
    rw [e18 18 (by omega), e18 19 (by omega), e 21 (by omega)]
    exact h6.2.2 k (by omega) hk2
theorem tM_school {M : Mem} {S : Sg} {x1 x2 : Int32} {P : Int32 → Mem → Prop} (h : RMX M S) (hw : WfX S) (hp : ∀ M', sameC M M' → RMX M' (sp_school S x1 x2).2 → P (sp_school S x1 x2).1 M') : s_X12_school M x1 x2 P := by
  unfold s_X12_school
  intro M1 e1
  have h1 : RMX M1 S := by rw [e1]; exact h.thrown
  have hn : S.1.1 0 ≤ 12 := hw.1.1
  replace hp : ∀ M', sameC M1 M' → RMX M' (sp_school S x1 x2).2 → P (sp_school S x1 x2).1 M' := fun M' a b => hp M' (sameC.tr (by rw [e1]; exact sC10) a) b
  have bad : ∀ v, sp_school S x1 x2 = (v, S) → P v M1 := fun v hb => by
    have := hp M1 sameC.rf
    rw [hb] at this
    exact this h1
  refine t_isShire (fun g1 => b1 ?_) (fun g1 => b0 (bad _ (by unfold sp_school; rw [if_neg (fun q => g1 q.1)])))
  refine t_in (by decide) (n := 10000) (by decide) (fun g2 => c1 ?_) (fun g2 => c0 (bad _ (by unfold sp_school; rw [if_neg (fun q => g2 q.2)])))
  have h6 := h1.1.1
  rw [h6.1, eqk (K := 12) (k := 12) (by omega) rfl (by omega)]
  refine ⟨fun q => ?_, fun q => bad _ (by unfold sp_school; rw [if_pos ⟨g1, g2⟩, if_neg (by omega)])⟩
  have es : sp_school S x1 x2 = (nI (S.1.1 0), (schoolA S.1 (ix x1) (ix x2 / 100) (ix x2 % 100), S.2)) := by unfold sp_school; rw [if_pos ⟨g1, g2⟩, if_pos (by omega)]
  rw [es] at hp
  obtain ⟨q1, q2⟩ := d100 g2 (by omega)
  rw [q2, q1]
  intro x3 e3
  have vi : vp_in x3 12 := by rw [e3]; exact vp_in_nI (by omega) (by omega)
  have c3 : x3.toNatClampNeg = S.1.1 0 := by rw [e3]; exact nI_clamp (by omega)
  have a1 : 10 + x3 = nI (10 + S.1.1 0) := by rw [e3]; exact nI_add 10 _
  have a2 : 30 + x3 = nI (30 + S.1.1 0) := by rw [e3]; exact nI_add 30 _
  have a3 : 50 + x3 = nI (50 + S.1.1 0) := by rw [e3]; exact nI_add 50 _
  rw [a1, a2, a3, c3]
  have n1 : (nI (10 + S.1.1 0)).toNatClampNeg = 10 + S.1.1 0 := nI_clamp (by omega)
  have n2 : (nI (30 + S.1.1 0)).toNatClampNeg = 30 + S.1.1 0 := nI_clamp (by omega)
  have n3 : (nI (50 + S.1.1 0)).toNatClampNeg = 50 + S.1.1 0 := nI_clamp (by omega)
  rw [n1, n2, n3]
  refine ⟨vi, fun Ma ea => ⟨vi, fun Mb eb => ⟨vi, fun Mc ec => ⟨vp_in_nI (by omega) (by omega), fun Md ed => ⟨vp_in_nI (by omega) (by omega), fun Me ee => ⟨vp_in_nI (by omega) (by omega), fun Mf ef => ?_⟩⟩⟩⟩⟩⟩
  have f : ∀ c, ¬ (c = 44 ∨ (47 ≤ c ∧ c ≤ 49)) → Mf.1 c = M1.1 c := fun c hc => by rw [ef, wI_cc (by omega), ee, wI_cc (by omega), ed, wI_cc (by omega), ec, wI_cc (by omega), eb, wI_cc (by omega), ea, wI_cc (by omega)]
  have fo : Mf.2 = M1.2 := by rw [ef, ee, ed, ec, eb, ea]; rfl
  have f44 : ∀ j, Mf.1 44 0 j = if j = 50 + S.1.1 0 then 660 else if j = 30 + S.1.1 0 then 0 else if j = 10 + S.1.1 0 then 0 else M1.1 44 0 j := by
    intro j
    rw [ef, ee, ed, ec, eb, ea]
    simp only [wI_at]
    simp
  have g47 : ∀ k, Mf.1 47 0 k = if k = S.1.1 0 then x1 else M1.1 47 0 k := by
    intro k
    rw [ef, wI_nc (by omega), ee, wI_nc (by omega), ed, wI_nc (by omega), ec, eb, ea]
    simp only [wI_at]
    simp
  have g48 : ∀ k, Mf.1 48 0 k = if k = S.1.1 0 then nI (ix x2 / 100) else M1.1 48 0 k := by
    intro k
    rw [ef, wI_nc (by omega), ee, wI_nc (by omega), ed, wI_nc (by omega), ec, eb, ea]
    simp only [wI_at]
    simp
  have g49 : ∀ k, Mf.1 49 0 k = if k = S.1.1 0 then nI (ix x2 % 100) else M1.1 49 0 k := by
    intro k
    rw [ef, wI_nc (by omega), ee, wI_nc (by omega), ed, wI_nc (by omega), ec, eb, ea]
    simp only [wI_at]
    simp
  refine Lz_rule (fun a => ∃ k, k ≤ 11 ∧ a.2 = nI k ∧ (∀ c, c ≠ 44 → a.1.1 c = Mf.1 c) ∧ a.1.2 = Mf.2 ∧ (∀ j, ¬ (180 + 11 * S.1.1 0 ≤ j ∧ j < 180 + 11 * S.1.1 0 + 11) → a.1.1 44 0 j = Mf.1 44 0 j) ∧ ∀ j, j < k → a.1.1 44 0 (180 + (11 * S.1.1 0 + j)) = 0) (fun a => 11 - a.2.toNatClampNeg) ?_ ⟨0, by omega, rfl, fun _ _ => rfl, rfl, fun _ _ => rfl, fun j hj => absurd hj (by omega)⟩
  rintro K ⟨Mx, x⟩ ⟨k, hk, e, i1, i2, i3, i4⟩ hK
  dsimp only at e i1 i2 i3 i4
  show s_X12_school_108 x3 P K Mx x
  unfold s_X12_school_108
  rw [e]
  have k11 : (11 : Int32) ≤ nI k ↔ 11 ≤ k := nI_leI (a := 11) (by omega) (by omega)
  rw [k11]
  refine ⟨fun y => ?_, fun y => ?_⟩
  · have hk2 : k = 11 := by omega
    subst hk2
    intro My ey
    rw [i3 0 (by omega), f44 0, if_neg (by omega), if_neg (by omega), if_neg (by omega), h6.1, nI_1] at ey
    rw [e3]
    have g : ∀ c, ¬ (c = 44 ∨ (47 ≤ c ∧ c ≤ 49)) → My.1 c = M1.1 c := fun c hc => by rw [ey, wI_cc (by omega), i1 c (by omega), f c hc]
    have g44 : ∀ j, ¬ (180 + 11 * S.1.1 0 ≤ j ∧ j < 180 + 11 * S.1.1 0 + 11) → j ≠ 0 → My.1 44 0 j = if j = 50 + S.1.1 0 then 660 else if j = 30 + S.1.1 0 then 0 else if j = 10 + S.1.1 0 then 0 else M1.1 44 0 j := fun j hj hj0 => by rw [ey, wI_at, if_neg (fun z => hj0 z.2.2), i3 j hj, f44]
    have go : My.2 = M1.2 := by rw [ey]; exact i2.trans fo
    have gr : ∀ c, 47 ≤ c → c ≤ 49 → My.1 c = Mf.1 c := fun c a b => by rw [ey, wI_cc (by omega), i1 c (by omega)]
    have u : ∀ c, 7 ≤ c → (schoolA S.1 (ix x1) (ix x2 / 100) (ix x2 % 100)).2.1 c = S.1.2.1 c := fun c hc => schoolA_ne hc
    have old : ∀ j, (j = 1 ∨ j = 2 ∨ j = 3 ∨ j = 4 ∨ j = 5 ∨ (70 ≤ j ∧ j < 180)) → My.1 44 0 j = M1.1 44 0 j := fun j hj => by rw [g44 j (by omega) (by omega), if_neg (by omega), if_neg (by omega), if_neg (by omega)]
    refine hp My ⟨fun c hc => g c (by unfold cK at hc; omega), fun c _ => by rw [go], by rw [go]⟩ (h1.one hw ?_ (schoolA_n (by omega)) (fun c a b => u c (by omega)) (fun c hc => g c (by omega)) ?_ (fun c a b j _ => by rw [g c (by omega)]) (fun c a b j _ => by rw [g c (by omega)]) (fun j _ => by rw [g 56 (by omega)]) (fun j _ => by rw [g 57 (by omega)]) (fun c a b j _ => by rw [g c (by omega)]) (fun c a b j _ => by rw [g c (by omega)]) (by rw [go]))
    · refine ⟨⟨?_, fun s hs => ?_⟩, (h1.1.2.1.fr3 hw.1.2.1 (fun c a b => by rw [g c (by omega)]) (fun j hj => old j (by omega))).of (fun c a b => u c (by omega)) (schoolA_n (by omega)), (h1.1.2.2.1.fr3 (fun j hj => old j (by omega))).of (u 26 (by omega)) (u 12 (by omega)), (h1.1.2.2.2.1.fr3 (fun c a b => by rw [g c (by omega)]) (old 5 (by omega))).of (fun c a b => u c (by omega)) (schoolA_n (by omega)), (h1.1.2.2.2.2.1.fr3 (fun c a b => by rw [g c (by omega)]) (old 4 (by omega))).of (fun c a b => u c (by omega)) (schoolA_n (by omega)), (h1.1.2.2.2.2.2.fr3 hw.1.2.2.1 (fun c a b => by rw [g c (by omega)]) (fun j hj => old j (by omega))).of (fun c a b => u c (by omega)) (schoolA_n (by omega))⟩
      · rw [ey, wI_at, if_pos ⟨rfl, rfl, rfl⟩]; rfl
      · have hs : s < S.1.1 0 + 1 := hs
        rw [gr 47 (by omega) (by omega), gr 48 (by omega) (by omega), gr 49 (by omega) (by omega), g47, g48, g49, g44 (10 + s) (by omega) (by omega), g44 (30 + s) (by omega) (by omega), g44 (50 + s) (by omega) (by omega)]
        by_cases z : s = S.1.1 0
        · subst z
          obtain ⟨o1, o2, o3, o4, o5, o6⟩ := schoolA_new (A := S.1) (s := ix x1) (x := ix x2 / 100) (y := ix x2 % 100)
          rw [o1, o2, o3, o4, o5, o6, if_pos rfl, if_pos rfl, if_pos rfl, if_neg (by omega), if_neg (by omega), if_pos rfl, if_neg (by omega), if_pos rfl, if_pos rfl]
          refine ⟨rg_nI g1 (by omega), rfl, rfl, rfl, rfl, rfl, fun i hi => ?_⟩
          rw [schoolA_sum hi, if_pos rfl, ey, wI_at, if_neg (fun z => by omega)]
          exact i4 i hi
        · rw [schoolA_old z (by omega), schoolA_old z (by omega), schoolA_old z (by omega), schoolA_old z (by omega), schoolA_old z (by omega), schoolA_old z (by omega), if_neg z, if_neg z, if_neg z, if_neg (by omega), if_neg (by omega), if_neg (by omega), if_neg (by omega), if_neg (by omega), if_neg (by omega), if_neg (by omega), if_neg (by omega), if_neg (by omega)]
          obtain ⟨a1, a2, a3, a4, a5, a6, a7⟩ := h6.2 s (by omega)
          refine ⟨a1, a2, a3, a4, a5, a6, fun i hi => ?_⟩
          rw [schoolA_sum hi, if_neg z, g44 _ (by omega) (by omega), if_neg (by omega), if_neg (by omega), if_neg (by omega)]
          exact a7 i hi
    · intro c a b j hj
      rw [gr c a b]
      rcases (show c = 47 ∨ c = 48 ∨ c = 49 by omega) with rfl | rfl | rfl
      · rw [g47, if_neg (by omega)]
      · rw [g48, if_neg (by omega)]
      · rw [g49, if_neg (by omega)]
  · have ead : 180 + 11 * x3 + nI k = nI (180 + (11 * S.1.1 0 + k)) := by
      rw [e3]
      show nI 180 + nI 11 * nI (S.1.1 0) + nI k = _
      rw [pk_mul, nI_add, nI_add, Nat.add_assoc]
    rw [ead]
    refine ⟨vp_in_nI (by omega) (by omega), fun My ey z ez => ?_⟩
    rw [nI_clamp (by omega)] at ey
    rw [ez, nI_1]
    refine hK _ ⟨k + 1, by omega, rfl, fun c hc => ?_, ?_, fun j hj => ?_, fun j hj => ?_⟩ ?_
    · rw [ey]; exact (wI_cc hc).trans (i1 c hc)
    · rw [ey]; exact i2
    · rw [ey]
      show (wI Mx 44 0 (180 + (11 * S.1.1 0 + k)) 0).1 44 0 j = _
      rw [wI_at, if_neg (fun z => by omega)]; exact i3 j hj
    · rw [ey]
      show (wI Mx 44 0 (180 + (11 * S.1.1 0 + k)) 0).1 44 0 (180 + (11 * S.1.1 0 + j)) = 0
      rw [wI_at]
      by_cases q3 : j = k
      · rw [if_pos ⟨rfl, rfl, by omega⟩]
      · rw [if_neg (fun q4 => q3 (by omega))]; exact i4 j (by omega)
    · show 11 - (nI (k + 1)).toNatClampNeg < 11 - x.toNatClampNeg
      rw [e, nI_clamp (by omega), nI_clamp (by omega)]
      omega
