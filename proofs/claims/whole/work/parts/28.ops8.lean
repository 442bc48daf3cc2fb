/-! LOOK, SCHOOL, DAIRY: one more of a kind -/
/-- a picture whose rows beside st are left as far as it counts -/
theorem RM.fr2 {q : Nat} {M M' : Mem} {A : Abs} (h : RM q M A) (e : M'.1 q 0 = M.1 q 0) (es : ∀ c, 47 ≤ c → c ≤ 49 → ∀ j, j < A.1 0 → M'.1 c 0 j = M.1 c 0 j) (ed : ∀ c, 50 ≤ c → c ≤ 52 → ∀ j, j < A.1 1 → M'.1 c 0 j = M.1 c 0 j) (eh : ∀ c, 53 ≤ c → c ≤ 55 → ∀ j, j < A.1 4 → M'.1 c 0 j = M.1 c 0 j) (eh2 : ∀ j, j < 12 * A.1 4 → M'.1 56 0 j = M.1 56 0 j) (ea2 : ∀ j, j < 80 * A.1 2 → M'.1 57 0 j = M.1 57 0 j) (ea : ∀ c, 58 ≤ c → c ≤ 60 → ∀ j, j < A.1 2 → M'.1 c 0 j = M.1 c 0 j) (el : ∀ c, 61 ≤ c → c ≤ 63 → ∀ j, j < A.1 3 → M'.1 c 0 j = M.1 c 0 j) (hy : ∀ a, a < A.1 2 → A.2.1 21 a ≤ 80) : RM q M' A := by
  refine ⟨⟨by rw [e]; exact h.1.1, fun s hs => ?_⟩, ⟨by rw [e]; exact h.2.1.1, fun s hs => ?_⟩, by unfold RMm; rw [e]; exact h.2.2.1, ⟨by rw [e]; exact h.2.2.2.1.1, fun s hs => ?_⟩, ⟨by rw [e]; exact h.2.2.2.2.1.1, fun s hs => ?_⟩, ⟨by rw [e]; exact h.2.2.2.2.2.1, fun s hs => ?_⟩⟩
  · rw [e, es 47 (by omega) (by omega) s hs, es 48 (by omega) (by omega) s hs, es 49 (by omega) (by omega) s hs]; exact h.1.2 s hs
  · rw [e, ed 50 (by omega) (by omega) s hs, ed 51 (by omega) (by omega) s hs, ed 52 (by omega) (by omega) s hs]; exact h.2.1.2 s hs
  · rw [eh 53 (by omega) (by omega) s hs, eh 54 (by omega) (by omega) s hs, eh 55 (by omega) (by omega) s hs]
    obtain ⟨a, b, c, d⟩ := h.2.2.2.1.2 s hs
    exact ⟨a, b, c, fun k hk => by rw [eh2 _ (by omega)]; exact d k hk⟩
  · rw [el 61 (by omega) (by omega) s hs, el 62 (by omega) (by omega) s hs, el 63 (by omega) (by omega) s hs]; exact h.2.2.2.2.1.2 s hs
  · rw [e, ea 58 (by omega) (by omega) s hs, ea 59 (by omega) (by omega) s hs, ea 60 (by omega) (by omega) s hs]
    obtain ⟨a, b, c, d, f⟩ := h.2.2.2.2.2.2 s hs
    have := hy s hs
    exact ⟨a, b, c, d, fun j hj => by rw [ea2 _ (by omega)]; exact f j hj⟩
theorem frN_up {A B : Abs} (e : ∀ c, 17 ≤ c → c ≤ 20 → B.2.1 c = A.2.1 c) (p sh d n : Nat) : frN B p sh d n = frN A p sh d n := by
  induction n with
  | zero => rfl
  | succ n ih => unfold frN; rw [ih, e 17 (by omega) (by omega), e 18 (by omega) (by omega), e 19 (by omega) (by omega), e 20 (by omega) (by omega)]
theorem RMf.fr {M M' : Mem} {A B : Abs} (h : RMf M A) (e1 : M'.1 10 0 37 = M.1 10 0 37) (e2 : M'.1 66 0 = M.1 66 0) (h2 : B.1 2 = A.1 2) (h3 : ∀ c, 17 ≤ c → c ≤ 20 → B.2.1 c = A.2.1 c) : RMf M' B := by
  obtain ⟨fd, g1, g2, g3⟩ := h
  refine ⟨fd, by rw [e1]; exact g1, g2, fun h4 p sh hp hsh => ?_⟩
  rw [e2, h2, g3 h4 p sh hp hsh, frN_up h3]
/-- a call of the reference that leaves its own numbers and the shelves, but writes st and one kind of rows behind the count -/
theorem RMX.one {M M' : Mem} {S : Sg} {A : Abs} (h : RMX M S) (hw : WfX S) (h1 : RM 44 M' A) (h2 : A.1 2 = S.1.1 2) (h3 : ∀ c, 17 ≤ c → c ≤ 20 → A.2.1 c = S.1.2.1 c) (e : ∀ c, ¬ (c = 44 ∨ (47 ≤ c ∧ c ≤ 63)) → M'.1 c = M.1 c) (es : ∀ c, 47 ≤ c → c ≤ 49 → ∀ j, j < S.1.1 0 → M'.1 c 0 j = M.1 c 0 j) (ed : ∀ c, 50 ≤ c → c ≤ 52 → ∀ j, j < S.1.1 1 → M'.1 c 0 j = M.1 c 0 j) (eh : ∀ c, 53 ≤ c → c ≤ 55 → ∀ j, j < S.1.1 4 → M'.1 c 0 j = M.1 c 0 j) (eh2 : ∀ j, j < 12 * S.1.1 4 → M'.1 56 0 j = M.1 56 0 j) (ea2 : ∀ j, j < 80 * S.1.1 2 → M'.1 57 0 j = M.1 57 0 j) (ea : ∀ c, 58 ≤ c → c ≤ 60 → ∀ j, j < S.1.1 2 → M'.1 c 0 j = M.1 c 0 j) (el : ∀ c, 61 ≤ c → c ≤ 63 → ∀ j, j < S.1.1 3 → M'.1 c 0 j = M.1 c 0 j) (ej : M'.2.1 = M.2.1) : RMX M' (A, S.2) := by
  refine h.now h1 (h.2.2.2.1.fr (by rw [e 10 (by omega)]) (by rw [e 66 (by omega)]) h2 h3) (fun B hB h5 => ?_) (by rw [e 10 (by omega)]) (by rw [e 10 (by omega)]) (fun c a b => by rw [e c (by omega)]) ej
  obtain ⟨wB, lB⟩ := hw.2.1 B hB
  have l0 := lB 0 (by omega)
  have l1 := lB 1 (by omega)
  have l2 := lB 2 (by omega)
  have l3 := lB 3 (by omega)
  have l4 := lB 4 (by omega)
  exact h5.fr2 (by rw [e 45 (by omega)]) (fun c a b j hj => es c a b j (by omega)) (fun c a b j hj => ed c a b j (by omega)) (fun c a b j hj => eh c a b j (by omega)) (fun j hj => eh2 j (by omega)) (fun j hj => ea2 j (by omega)) (fun c a b j hj => ea c a b j (by omega)) (fun c a b j hj => el c a b j (by omega)) (fun a ha => (wB.2.2.2.2.2.2.2.2.2.2.1 a ha).2.2.2.2.1)
/-! look -/
def lookA (A : Abs) (s d r : Nat) : Abs := ((fun c => if c = 3 then A.1 3 + 1 else A.1 c), (fun c j => if j = A.1 3 then (if c = 23 then s else if c = 24 then d else if c = 25 then r else A.2.1 c j) else A.2.1 c j), A.2.2)
theorem lookA_ne {A : Abs} {s d r c : Nat} (h : ¬ (23 ≤ c ∧ c ≤ 25)) : (lookA A s d r).2.1 c = A.2.1 c := by
  funext j
  show (if j = A.1 3 then (if c = 23 then s else if c = 24 then d else if c = 25 then r else A.2.1 c j) else A.2.1 c j) = _
  rw [if_neg (show ¬ c = 23 by omega), if_neg (show ¬ c = 24 by omega), if_neg (show ¬ c = 25 by omega)]
  split <;> rfl
theorem lookA_n {A : Abs} {s d r c : Nat} (h : c ≠ 3) : (lookA A s d r).1 c = A.1 c := if_neg h
theorem lookA_old {A : Abs} {s d r c j : Nat} (h : j ≠ A.1 3) : (lookA A s d r).2.1 c j = A.2.1 c j := if_neg h
theorem lookA_new {A : Abs} {s d r : Nat} : (lookA A s d r).2.1 23 (A.1 3) = s ∧ (lookA A s d r).2.1 24 (A.1 3) = d ∧ (lookA A s d r).2.1 25 (A.1 3) = r := by
  refine ⟨?_, ?_, ?_⟩ <;> unfold lookA <;> simp
def sp_look (S : Sg) (x1 x2 x3 : Int32) : Int32 × Sg := if rg x1 (S.1.1 0) ∧ rg x2 (S.1.2.1 26 0) ∧ rg x3 1000 then (if S.1.1 3 < 30 then (nI (S.1.1 3 + 1), (lookA S.1 (ix x1) (ix x2) (ix x3), S.2)) else (-2, S)) else (-1, S)
theorem lt30 {n : Nat} (h : n < 2 ^ 31) : nI n < 30 ↔ n < 30 := nI_ltI (b := 30) h (by omega)
theorem tC_look {M : Mem} {S : Sg} {x1 x2 x3 : Int32} {P : Int32 → Mem → Prop} (h : RCX M S) (hw : WfX S) (hp : ∀ M', sameM M M' → RCX M' (sp_look S x1 x2 x3).2 → P (sp_look S x1 x2 x3).1 M') : s_X11_look M x1 x2 x3 P := by
  unfold s_X11_look
  have hn := hw.1.1
  have hl : S.1.1 3 ≤ 30 := hw.1.2.2.2.1
  have hday : S.1.2.1 26 0 ≤ 400 := hw.1.2.2.2.2.2.1
  have bad : ∀ v, sp_look S x1 x2 x3 = (v, S) → P v M := fun v hb => by
    have := hp M sameM.rf
    rw [hb] at this
    exact this h
  have bad1 : ¬ (rg x1 (S.1.1 0) ∧ rg x2 (S.1.2.1 26 0) ∧ rg x3 1000) → P (-1) M := fun hb => bad _ (by unfold sp_look; rw [if_neg hb])
  refine t_has8 h.1.1.1 (by omega) (fun g1 => b1 ?_) (fun g1 => b0 (bad1 (fun q => g1 q.1)))
  rw [h.1.2.2.1.1]
  refine t_within (by decide) (nI_m1 (by omega)) (fun g2 => b1 ?_) (fun g2 => b0 (bad1 (fun q => g2 q.2.1)))
  refine t_within (by decide) (n := 1000) (by decide) (fun g3 => c1 ?_) (fun g3 => c0 (bad1 (fun q => g3 q.2.2)))
  have h6 := h.1.2.2.2.2.1
  rw [h6.1, lt30 (by omega)]
  refine ⟨fun q => ?_, fun q => bad _ (by unfold sp_look; rw [if_pos ⟨g1, g2, g3⟩, if_neg q])⟩
  have es : sp_look S x1 x2 x3 = (nI (S.1.1 3 + 1), (lookA S.1 (ix x1) (ix x2) (ix x3), S.2)) := by unfold sp_look; rw [if_pos ⟨g1, g2, g3⟩, if_pos q]
  rw [es] at hp
  unfold s_X6_draw
  rw [h6.1]
  refine ⟨vp_in_nI (by omega) (by omega), fun Ma ea => ?_⟩
  have ka : Ma.1 6 0 0 = nI (S.1.1 3) := by rw [ea, wI_nc (by omega)]; exact h6.1
  rw [ka]
  refine ⟨vp_in_nI (by omega) (by omega), fun Mb eb => ?_⟩
  have kb : Mb.1 6 0 0 = nI (S.1.1 3) := by rw [eb, wI_nc (by omega)]; exact ka
  rw [kb]
  refine ⟨vp_in_nI (by omega) (by omega), fun Mc ec => ?_⟩
  have kc : Mc.1 6 0 0 = nI (S.1.1 3) := by rw [ec, wI_nc (by omega)]; exact kb
  rw [kc, nI_1]
  intro Md ed
  rw [nI_clamp (by omega)] at ea eb ec
  have e : ∀ c, ¬ (c = 6 ∨ (36 ≤ c ∧ c ≤ 38)) → Md.1 c = M.1 c := fun c hc => by rw [ed, wI_cc (by omega), ec, wI_cc (by omega), eb, wI_cc (by omega), ea, wI_cc (by omega)]
  have e1 : ∀ c, Md.1 c 1 = M.1 c 1 := fun c => by rw [ed, wI_ni (by omega), ec, wI_ni (by omega), eb, wI_ni (by omega), ea, wI_ni (by omega)]
  have eo : Md.2 = M.2 := by rw [ed, ec, eb, ea]; rfl
  have kd : Md.1 6 0 0 = nI (S.1.1 3 + 1) := by rw [ed, wI_at, if_pos ⟨rfl, rfl, rfl⟩]
  rw [kd]
  refine hp Md ⟨fun c hc => e c (fun q => hc (by unfold cK; omega)), by rw [eo]⟩ (h.now ?_ (fun c _ => e1 c) (by rw [e1]) (by rw [e 0 (by omega)]) (fun d => by rw [e 7 (by omega)]) (fun d => by rw [e 39 (by omega)]) (fun c hc => e c (by omega)) (by rw [eo]))
  have u : ∀ c, ¬ (23 ≤ c ∧ c ≤ 25) → (lookA S.1 (ix x1) (ix x2) (ix x3)).2.1 c = S.1.2.1 c := fun c hc => lookA_ne hc
  refine ⟨(h.1.1.fr (fun c hc => by rw [e c (by omega)])).of (fun c hc => u c (by omega)) (lookA_n (by omega)), (h.1.2.1.fr (fun c hc => by rw [e c (by omega)])).of (fun c a b => u c (by omega)) (lookA_n (by omega)), (h.1.2.2.1.fr (by rw [e 1 (by omega)]) (by rw [e 12 (by omega)])).of (u 26 (by omega)) (u 12 (by omega)), (h.1.2.2.2.1.fr (fun c hc => by rw [e c (by omega)])).of (fun c a b => u c (by omega)) (lookA_n (by omega)), ?_, (h.1.2.2.2.2.2.fr (fun c hc => by rw [e c (by omega)]) (fun c hc => e c (by omega)) (by rw [eo])).of (fun c a b => u c (by omega)) (lookA_n (by omega)) rfl⟩
  refine ⟨by rw [kd]; rfl, fun k hk => ?_⟩
  have hk : k < S.1.1 3 + 1 := hk
  have v1 : Md.1 36 0 k = if k = S.1.1 3 then x1 else M.1 36 0 k := by
    rw [ed, wI_nc (by omega), ec, wI_nc (by omega), eb, wI_nc (by omega), ea, wI_at]
    by_cases z : k = S.1.1 3
    · rw [if_pos ⟨rfl, rfl, z⟩, if_pos z]
    · rw [if_neg (fun y => z y.2.2), if_neg z]
  have v2 : Md.1 37 0 k = if k = S.1.1 3 then x2 else M.1 37 0 k := by
    rw [ed, wI_nc (by omega), ec, wI_nc (by omega), eb, wI_at]
    by_cases z : k = S.1.1 3
    · rw [if_pos ⟨rfl, rfl, z⟩, if_pos z]
    · rw [if_neg (fun y => z y.2.2), if_neg z, ea, wI_nc (by omega)]
  have v3 : Md.1 38 0 k = if k = S.1.1 3 then x3 else M.1 38 0 k := by
    rw [ed, wI_nc (by omega), ec, wI_at]
    by_cases z : k = S.1.1 3
    · rw [if_pos ⟨rfl, rfl, z⟩, if_pos z]
    · rw [if_neg (fun y => z y.2.2), if_neg z, eb, wI_nc (by omega), ea, wI_nc (by omega)]
  rw [v1, v2, v3]
  by_cases z : k = S.1.1 3
  · rw [if_pos z, if_pos z, if_pos z, z]
    obtain ⟨n1, n2, n3⟩ := lookA_new (A := S.1) (s := ix x1) (d := ix x2) (r := ix x3)
    rw [n1, n2, n3]
    exact ⟨rg_nI g1 (by omega), rg_nI g2 (by omega), rg_nI g3 (by omega)⟩
  · rw [if_neg z, if_neg z, if_neg z, lookA_old z, lookA_old z, lookA_old z]
    exact h6.2 k (by omega)
theorem tM_look {M : Mem} {S : Sg} {x1 x2 x3 : Int32} {P : Int32 → Mem → Prop} (h : RMX M S) (hw : WfX S) (hp : ∀ M', sameC M M' → RMX M' (sp_look S x1 x2 x3).2 → P (sp_look S x1 x2 x3).1 M') : s_X12_look M x1 x2 x3 P := by
  unfold s_X12_look
  intro M1 e1
  have h1 : RMX M1 S := by rw [e1]; exact h.thrown
  have hn := hw.1.1
  have hl : S.1.1 3 ≤ 30 := hw.1.2.2.2.1
  have hday : S.1.2.1 26 0 ≤ 400 := hw.1.2.2.2.2.2.1
  replace hp : ∀ M', sameC M1 M' → RMX M' (sp_look S x1 x2 x3).2 → P (sp_look S x1 x2 x3).1 M' := fun M' a b => hp M' (sameC.tr (by rw [e1]; exact sC10) a) b
  have bad : ∀ v, sp_look S x1 x2 x3 = (v, S) → P v M1 := fun v hb => by
    have := hp M1 sameC.rf
    rw [hb] at this
    exact this h1
  have bad1 : ¬ (rg x1 (S.1.1 0) ∧ rg x2 (S.1.2.1 26 0) ∧ rg x3 1000) → P (-1) M1 := fun hb => bad _ (by unfold sp_look; rw [if_neg hb])
  refine t_isSchool h1.1.1.1 (by omega) (fun g1 => b1 ?_) (fun g1 => b0 (bad1 (fun q => g1 q.1)))
  rw [h1.1.2.2.1.1]
  refine t_in (by decide) (nI_m1 (by omega)) (fun g2 => b1 ?_) (fun g2 => b0 (bad1 (fun q => g2 q.2.1)))
  refine t_in (by decide) (n := 1000) (by decide) (fun g3 => c1 ?_) (fun g3 => c0 (bad1 (fun q => g3 q.2.2)))
  have h6 := h1.1.2.2.2.2.1
  rw [h6.1, eqk (K := 30) (k := 30) (by omega) rfl (by omega)]
  refine ⟨fun q => ?_, fun q => bad _ (by unfold sp_look; rw [if_pos ⟨g1, g2, g3⟩, if_neg (by omega)])⟩
  have es : sp_look S x1 x2 x3 = (nI (S.1.1 3 + 1), (lookA S.1 (ix x1) (ix x2) (ix x3), S.2)) := by unfold sp_look; rw [if_pos ⟨g1, g2, g3⟩, if_pos (by omega)]
  rw [es] at hp
  refine ⟨vp_in_nI (by omega) (by omega), fun Ma ea => ?_⟩
  have ka : Ma.1 44 0 4 = nI (S.1.1 3) := by rw [ea, wI_nc (by omega)]; exact h6.1
  rw [ka]
  refine ⟨vp_in_nI (by omega) (by omega), fun Mb eb => ?_⟩
  have kb : Mb.1 44 0 4 = nI (S.1.1 3) := by rw [eb, wI_nc (by omega)]; exact ka
  rw [kb]
  refine ⟨vp_in_nI (by omega) (by omega), fun Mc ec => ?_⟩
  have kc : Mc.1 44 0 4 = nI (S.1.1 3) := by rw [ec, wI_nc (by omega)]; exact kb
  rw [kc, nI_1]
  intro Md ed
  rw [nI_clamp (by omega)] at ea eb ec
  have e : ∀ c, ¬ (c = 44 ∨ (61 ≤ c ∧ c ≤ 63)) → Md.1 c = M1.1 c := fun c hc => by rw [ed, wI_cc (by omega), ec, wI_cc (by omega), eb, wI_cc (by omega), ea, wI_cc (by omega)]
  have e44 : ∀ j, j ≠ 4 → Md.1 44 0 j = M1.1 44 0 j := fun j hj => by rw [ed, wI_at, if_neg (fun y => hj y.2.2), ec, wI_nc (by omega), eb, wI_nc (by omega), ea, wI_nc (by omega)]
  have eo : Md.2 = M1.2 := by rw [ed, ec, eb, ea]; rfl
  have kd : Md.1 44 0 4 = nI (S.1.1 3 + 1) := by rw [ed, wI_at, if_pos ⟨rfl, rfl, rfl⟩]
  rw [kd]
  have v1 : ∀ k, Md.1 61 0 k = if k = S.1.1 3 then x1 else M1.1 61 0 k := by
    intro k
    rw [ed, wI_nc (by omega), ec, wI_nc (by omega), eb, wI_nc (by omega), ea, wI_at]
    by_cases z : k = S.1.1 3
    · rw [if_pos ⟨rfl, rfl, z⟩, if_pos z]
    · rw [if_neg (fun y => z y.2.2), if_neg z]
  have v2 : ∀ k, Md.1 62 0 k = if k = S.1.1 3 then x2 else M1.1 62 0 k := by
    intro k
    rw [ed, wI_nc (by omega), ec, wI_nc (by omega), eb, wI_at]
    by_cases z : k = S.1.1 3
    · rw [if_pos ⟨rfl, rfl, z⟩, if_pos z]
    · rw [if_neg (fun y => z y.2.2), if_neg z, ea, wI_nc (by omega)]
  have v3 : ∀ k, Md.1 63 0 k = if k = S.1.1 3 then x3 else M1.1 63 0 k := by
    intro k
    rw [ed, wI_nc (by omega), ec, wI_at]
    by_cases z : k = S.1.1 3
    · rw [if_pos ⟨rfl, rfl, z⟩, if_pos z]
    · rw [if_neg (fun y => z y.2.2), if_neg z, eb, wI_nc (by omega), ea, wI_nc (by omega)]
  have u : ∀ c, ¬ (23 ≤ c ∧ c ≤ 25) → (lookA S.1 (ix x1) (ix x2) (ix x3)).2.1 c = S.1.2.1 c := fun c hc => lookA_ne hc
  refine hp Md ⟨fun c hc => e c (by unfold cK at hc; omega), fun c _ => by rw [eo], by rw [eo]⟩ (h1.one hw ?_ (lookA_n (by omega)) (fun c a b => u c (by omega)) (fun c hc => e c (by omega)) (fun c a b j _ => by rw [e c (by omega)]) (fun c a b j _ => by rw [e c (by omega)]) (fun c a b j _ => by rw [e c (by omega)]) (fun j _ => by rw [e 56 (by omega)]) (fun j _ => by rw [e 57 (by omega)]) (fun c a b j _ => by rw [e c (by omega)]) ?_ (by rw [eo]))
  · refine ⟨?_, ?_, ?_, ?_, ?_, ?_⟩
    · refine RMs.of (A := S.1) ⟨by rw [e44 0 (by omega)]; exact h1.1.1.1, fun s hs => ?_⟩ (fun c hc => u c (by omega)) (lookA_n (by omega))
      have hs12 : s < 12 := Nat.lt_of_lt_of_le hs hn
      rw [e 47 (by omega), e 48 (by omega), e 49 (by omega), e44 _ (by omega), e44 _ (by omega), e44 _ (by omega)]
      obtain ⟨a1, a2, a3, a4, a5, a6, a7⟩ := h1.1.1.2 s hs
      exact ⟨a1, a2, a3, a4, a5, a6, fun k hk => by rw [e44 _ (by omega)]; exact a7 k hk⟩
    · refine RMd.of (A := S.1) ⟨by rw [e44 1 (by omega)]; exact h1.1.2.1.1, fun s hs => ?_⟩ (fun c a b => u c (by omega)) (lookA_n (by omega))
      rw [e 50 (by omega), e 51 (by omega), e 52 (by omega), e44 _ (by omega)]
      obtain ⟨a1, a2, a3, a4, a5⟩ := h1.1.2.1.2 s hs
      exact ⟨a1, a2, a3, a4, fun k hk => by rw [e44 _ (by omega)]; exact a5 k hk⟩
    · refine RMm.of (A := S.1) ⟨by rw [e44 3 (by omega)]; exact h1.1.2.2.1.1, fun m k hm hk => by rw [e44 _ (by omega)]; exact h1.1.2.2.1.2 m k hm hk⟩ (u 26 (by omega)) (u 12 (by omega))
    · refine RMh.of (A := S.1) ?_ (fun c a b => u c (by omega)) (lookA_n (by omega))
      have := h1.1.2.2.2.1
      unfold RMh at this ⊢
      rw [e44 5 (by omega), e 53 (by omega), e 54 (by omega), e 55 (by omega), e 56 (by omega)]
      exact this
    · refine ⟨by rw [kd]; rfl, fun k hk => ?_⟩
      have hk : k < S.1.1 3 + 1 := hk
      rw [v1, v2, v3]
      by_cases z : k = S.1.1 3
      · rw [if_pos z, if_pos z, if_pos z, z]
        obtain ⟨n1, n2, n3⟩ := lookA_new (A := S.1) (s := ix x1) (d := ix x2) (r := ix x3)
        rw [n1, n2, n3]
        exact ⟨rg_nI g1 (by omega), rg_nI g2 (by omega), rg_nI g3 (by omega)⟩
      · rw [if_neg z, if_neg z, if_neg z, lookA_old z, lookA_old z, lookA_old z]
        exact h6.2 k (by omega)
    · refine RMa.of (A := S.1) ⟨by rw [e44 2 (by omega)]; exact h1.1.2.2.2.2.2.1, fun a ha => ?_⟩ (fun c a b => u c (by omega)) (lookA_n (by omega))
      rw [e 57 (by omega), e 58 (by omega), e 59 (by omega), e 60 (by omega), e44 _ (by omega)]
      exact h1.1.2.2.2.2.2.2 a ha
  · intro c a b j hj
    rcases (show c = 61 ∨ c = 62 ∨ c = 63 by omega) with rfl | rfl | rfl
    · rw [v1, if_neg (by omega)]
    · rw [v2, if_neg (by omega)]
    · rw [v3, if_neg (by omega)]
