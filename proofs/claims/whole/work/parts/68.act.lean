/-! ACT -/
/-- a shire, or all of them -/
abbrev rs (x : Int32) : Prop := -1 ≤ x.toInt ∧ x.toInt < 4
theorem rs_mI {x : Int32} (h : rs x) : x = mI (ix (x + 1)) ∧ ix (x + 1) ≤ 4 := by
  have hb : rb x := ⟨h.1, by have := h.2; omega⟩
  obtain ⟨e, hl⟩ := rb_mI hb
  refine ⟨e, ?_⟩
  have t := mI_t (b := ix (x + 1)) (by omega)
  rw [← e] at t
  have := h.2
  omega
theorem t_within_s {x : Int32} {M : Mem} {P : Int32 → Mem → Prop} (h1 : rs x → P 1 M) (h0 : ¬ rs x → P 0 M) : s_X11_within M x (-1) 3 P := by
  have e : (3 : Int32).toInt = 3 := by decide
  exact ⟨fun c => h0 (fun q => by rw [lt_i, m1_t] at c; have := q.1; omega), fun c => ⟨fun d => h0 (fun q => by rw [lt_i, e] at d; have := q.2; omega), fun d => h1 (by rw [lt_i, m1_t] at c; rw [lt_i, e] at d; exact ⟨by omega, by omega⟩)⟩⟩
theorem t_in_s {x : Int32} {M : Mem} {P : Int32 → Mem → Prop} (h1 : rs x → P 1 M) (h0 : ¬ rs x → P 0 M) : s_X12_in M x (-1) 3 P := t_within_s h1 h0
def actA (A : Abs) (sh fr N p : Nat) (c : Nat → Nat) (L : List Int32) : Abs := ((fun i => if i = 2 then A.1 2 + 1 else A.1 i), (fun k j => if k = 17 ∧ j = A.1 2 then sh else if k = 18 ∧ j = A.1 2 then fr else if k = 19 ∧ j = A.1 2 then 0 else if k = 20 ∧ j = A.1 2 then p else if k = 21 ∧ j = A.1 2 then N else if k = 22 ∧ 80 * A.1 2 ≤ j ∧ j < 80 * A.1 2 + 80 then c (j - 80 * A.1 2) else A.2.1 k j), (fun a f => if a = A.1 2 then evS f L else A.2.2 a f))
section ACA
variable {A : Abs} {sh fr N p : Nat} {c : Nat → Nat} {L : List Int32}
theorem actA_n {i : Nat} (h : i ≠ 2) : (actA A sh fr N p c L).1 i = A.1 i := if_neg h
theorem actA_n2 : (actA A sh fr N p c L).1 2 = A.1 2 + 1 := rfl
theorem actA_ne {k : Nat} (h : ¬ (17 ≤ k ∧ k ≤ 22)) : (actA A sh fr N p c L).2.1 k = A.2.1 k := by
  funext j
  show (if k = 17 ∧ j = A.1 2 then sh else if k = 18 ∧ j = A.1 2 then fr else if k = 19 ∧ j = A.1 2 then 0 else if k = 20 ∧ j = A.1 2 then p else if k = 21 ∧ j = A.1 2 then N else if k = 22 ∧ 80 * A.1 2 ≤ j ∧ j < 80 * A.1 2 + 80 then c (j - 80 * A.1 2) else A.2.1 k j) = _
  rw [if_neg (by omega), if_neg (by omega), if_neg (by omega), if_neg (by omega), if_neg (by omega), if_neg (by omega)]
theorem actA_old {k j : Nat} (h : j ≠ A.1 2) (hk : k ≠ 22) : (actA A sh fr N p c L).2.1 k j = A.2.1 k j := by
  show (if k = 17 ∧ j = A.1 2 then sh else if k = 18 ∧ j = A.1 2 then fr else if k = 19 ∧ j = A.1 2 then 0 else if k = 20 ∧ j = A.1 2 then p else if k = 21 ∧ j = A.1 2 then N else if k = 22 ∧ 80 * A.1 2 ≤ j ∧ j < 80 * A.1 2 + 80 then c (j - 80 * A.1 2) else A.2.1 k j) = _
  rw [if_neg (by omega), if_neg (by omega), if_neg (by omega), if_neg (by omega), if_neg (by omega), if_neg (by omega)]
theorem actA_22 {j : Nat} : (actA A sh fr N p c L).2.1 22 j = if 80 * A.1 2 ≤ j ∧ j < 80 * A.1 2 + 80 then c (j - 80 * A.1 2) else A.2.1 22 j := by
  show (if 22 = 17 ∧ j = A.1 2 then sh else if 22 = 18 ∧ j = A.1 2 then fr else if 22 = 19 ∧ j = A.1 2 then 0 else if 22 = 20 ∧ j = A.1 2 then p else if 22 = 21 ∧ j = A.1 2 then N else if 22 = 22 ∧ 80 * A.1 2 ≤ j ∧ j < 80 * A.1 2 + 80 then c (j - 80 * A.1 2) else A.2.1 22 j) = _
  rw [if_neg (by omega), if_neg (by omega), if_neg (by omega), if_neg (by omega), if_neg (by omega)]
  by_cases q : 80 * A.1 2 ≤ j ∧ j < 80 * A.1 2 + 80
  · rw [if_pos ⟨rfl, q⟩, if_pos q]
  · rw [if_neg (fun y => q y.2), if_neg q]
theorem actA_new : (actA A sh fr N p c L).2.1 17 (A.1 2) = sh ∧ (actA A sh fr N p c L).2.1 18 (A.1 2) = fr ∧ (actA A sh fr N p c L).2.1 19 (A.1 2) = 0 ∧ (actA A sh fr N p c L).2.1 20 (A.1 2) = p ∧ (actA A sh fr N p c L).2.1 21 (A.1 2) = N := by
  refine ⟨?_, ?_, ?_, ?_, ?_⟩ <;> unfold actA <;> simp
theorem actA_say {a : Nat} {f : Nat → Int32} : (actA A sh fr N p c L).2.2 a f = if a = A.1 2 then evS f L else A.2.2 a f := rfl
end ACA
/-- what pAct takes begins with a purpose -/
theorem pAct_0 {c : Nat → Nat} {N : Nat} (h : cE c N) {L : List Int32} (e : (pAct c N).2 = some L) : 1 ≤ N ∧ (c 0 = 101 ∨ c 0 = 114 ∨ c 0 = 111) := by
  by_cases q : c 0 = 101 ∨ c 0 = 114 ∨ c 0 = 111
  · exact ⟨by have := h.lt (p := 0) (by omega); omega, q⟩
  · unfold pAct at e
    rw [if_neg q] at e
    cases e
theorem letter_pur {x : Nat} (h : x = 101 ∨ x = 114 ∨ x = 111) : x = letter (purN x - 1) ∧ purN x - 1 < 3 ∧ purN x ≠ 0 := by
  rcases h with rfl | rfl | rfl <;> decide
def actR (S : Sg) (d : Nat) (sh fr : Nat) : Int32 × Sg := match (fP S d).2 with
  | none => (-100 - nI (fP S d).1, S)
  | some L => (nI (S.1.1 2), (actA S.1 sh fr (S.2.2.1 5 d) (purN (txt (S.2.2.2 d) (S.2.2.1 5 d) 0) - 1) (txt (S.2.2.2 d) (S.2.2.1 5 d)) L, S.2))
def sp_act (S : Sg) (x1 x2 x3 : Int32) : Int32 × Sg := if rg x1 8 ∧ rs x2 ∧ rd x3 (S.1.2.1 26 0) then (if S.1.1 2 < 16 then (if hd0 S (ix x1) = 0 then (-11, S) else if hd0 S (ix x1) = 2 ∧ S.2.2.1 4 (ix x1) = 0 then actR S (ix x1) (ix (x2 + 1)) (ix x3) else (-12, S)) else (-2, S)) else (-1, S)
/-- an older picture lies beside a new act -/
theorem RCa.more {w : Nat} {M M' : Mem} {B : Abs} (h : RCa w M B) (e5 : M'.1 5 w = M.1 5 w) (e35 : ∀ j, j < B.1 2 → M'.1 35 w j = M.1 35 w j) (eo1 : ∀ j, j < B.1 2 → M'.2.2 1 w j = M.2.2 1 w j) (eb : ∀ j, j < 16 → M'.2.2 1 w j ≤ M'.2.2 2 0 0) (eo2 : M'.2.2 2 0 0 = M.2.2 2 0 0 + 1) (eo3 : ∀ i, i < M.2.2 2 0 0 → M'.2.2 3 0 i = M.2.2 3 0 i) (e1000 : ∀ i, i < M.2.2 2 0 0 → M'.1 1000 i = M.1 1000 i ∧ M'.1 1001 i = M.1 1001 i) : RCa w M' B := by
  refine ⟨by rw [e5]; exact h.1, fun a ha => ?_, eb⟩
  obtain ⟨⟨id, i1, i2, i3, i4, i5, L, l1, l2, l3, l4⟩, i6⟩ := h.2.1 a ha
  obtain ⟨k1, k2⟩ := e1000 id i2
  refine ⟨⟨id, by rw [eo1 a ha]; exact i1, by omega, by rw [k1]; exact i3, by rw [k1]; exact i4, by rw [k1]; exact i5, L, by rw [eo3 id i2]; exact l1, l2, by rw [k2]; exact l3, l4⟩, by rw [e35 a ha]; exact i6⟩
theorem tC_act {M : Mem} {S : Sg} {x1 x2 x3 : Int32} {P : Int32 → Mem → Prop} (h : RCX M S) (hw : WfX S) (hp : ∀ M', sameM M M' → RCX M' (sp_act S x1 x2 x3).2 → P (sp_act S x1 x2 x3).1 M') : s_X11_act M x1 x2 x3 P := by
  unfold s_X11_act
  have n16 : S.1.1 2 ≤ 16 := hw.1.2.2.1
  have hday : S.1.2.1 26 0 ≤ 400 := hw.1.2.2.2.2.2.1
  have bad : ∀ v, sp_act S x1 x2 x3 = (v, S) → P v M := fun v hb => by
    have := hp M sameM.rf
    rw [hb] at this
    exact this h
  refine t_shelfAt (fun g1 => d1 (rg_lt g1) ?_) (fun g1 => d0 (bad _ (by unfold sp_act; rw [if_neg (fun q => g1 q.1)])))
  refine t_within_s (fun g2 => b1 ?_) (fun g2 => b0 (bad _ (by unfold sp_act; rw [if_neg (fun q => g2 q.2.1)])))
  rw [h.1.2.2.1.1]
  refine t_within_d (by omega) (fun g3 => c1 ?_) (fun g3 => c0 (bad _ (by unfold sp_act; rw [if_neg (fun q => g3 q.2.2)])))
  have g := (⟨g1, g2, g3⟩ : rg x1 8 ∧ rs x2 ∧ rd x3 (S.1.2.1 26 0))
  have e16 : nI (S.1.1 2) < 16 ↔ S.1.1 2 < 16 := nI_ltI (b := 16) (by omega) (by omega)
  rw [h.1.2.2.2.2.2.1, e16]
  refine ⟨fun q16 => ?_, fun q16 => bad _ (by unfold sp_act; rw [if_pos g, if_neg q16])⟩
  have hd := rg_lt g1
  obtain ⟨w0, w1, w2, w3, w4, w5, w6⟩ := hw.2.2 _ hd
  refine t_byteRowRefusal h.2.2 hd w0 w4 (fun q => bn (by decide) (bad _ (by unfold sp_act; rw [if_pos g, if_pos q16, if_pos q]))) (fun q q4 => b0 ?_) (fun q q4 => bn (by decide) (bad _ (by unfold sp_act; rw [if_pos g, if_pos q16, if_neg q, if_neg q4])))
  have es : sp_act S x1 x2 x3 = actR S (ix x1) (ix (x2 + 1)) (ix x3) := by unfold sp_act; rw [if_pos g, if_pos q16, if_neg (by omega), if_pos ⟨q, q4⟩]
  rw [es] at hp
  have hcE := txt_E (S.2.2.2 (ix x1)) (S.2.2.1 5 (ix x1))
  have hle := pAct_le hcE
  refine tC_first h.2.2 hd q q4 w5 w6 (fun M1 e r1 => ?_) (fun M1 L e r1 s1 s2 s3 s4 s5 => ?_)
  · have k := hp M1 r1.sameM
    unfold actR at k
    rw [e] at k
    have n0 := nI_pos' (n := (pAct (txt (S.2.2.2 (ix x1)) (S.2.2.1 5 (ix x1))) (S.2.2.1 5 (ix x1))).1) (by omega)
    exact ⟨fun _ => k (h.rd r1), fun z => absurd n0 z⟩
  · refine ⟨fun z => absurd z (by decide), fun _ => ?_⟩
    unfold actR at hp
    rw [e] at hp
    dsimp only at hp
    obtain ⟨hN1, hc0⟩ := pAct_0 hcE e
    obtain ⟨hp1, hp2, hp3⟩ := letter_pur hc0
    generalize hN : S.2.2.1 5 (ix x1) = N at *
    generalize txt (S.2.2.2 (ix x1)) N = c at *
    obtain ⟨ex2, l2⟩ := rs_mI g2
    have l3 := rg_lt (rd_rg g3)
    have ex3 := rg_nI (rd_rg g3) (by omega)
    have h1 := h.rd r1
    intro M2 hnew
    obtain ⟨n, f, en, ef, u1, u2, u3, u4, u5, u6, u7⟩ := hnew
    have en : n = L.length := by
      rw [en, s1]
      have z1 : ¬ (80 : Int32) < nI L.length := by
        have : (80 : Int32) < nI L.length ↔ 80 < L.length := nI_ltI (a := 80) (by omega) (by omega)
        rw [this]; omega
      rw [if_neg z1, if_neg (nI_pos (by omega)), nI_clamp (by omega)]
    generalize hid : M1.2.2 2 0 0 = id at *
    have k2 : M2.2.2 2 0 0 = id + 1 := by
      rw [u3]
      simp [uR, va_up]
    have k1000 : ∀ i, M2.1 1000 i = if i = id then (fun k => if k = 0 then M1.1 8 0 2 else if k = 1 then x2 else x3) else M1.1 1000 i := by
      intro i
      rw [u1]
      by_cases z : i = id <;> simp [uR, z]
    have k1001 : ∀ i, M2.1 1001 i = if i = id then f else M1.1 1001 i := by
      intro i
      rw [u1]
      by_cases z : i = id <;> simp [uR, z]
    have kc : ∀ k, k ≠ 1000 → k ≠ 1001 → M2.1 k = M1.1 k := by
      intro k a b
      funext i
      rw [u1]
      simp [uR, a, b]
    have hA := h1.1.2.2.2.2.2
    unfold s_X1_tell
    rw [kc 5 (by omega) (by omega), hA.1, nI_clamp (by omega)]
    have v16 : vp_in (nI (S.1.1 2)) 16 := vp_in_nI q16 (by omega)
    refine ⟨v16, fun M3 m3 => ?_⟩
    have k5 : M3.1 5 0 0 = nI (S.1.1 2) := by rw [m3]; show M2.1 5 0 0 = _; rw [kc 5 (by omega) (by omega)]; exact hA.1
    rw [k5, nI_clamp (by omega)]
    refine ⟨v16, fun M4 m4 M5 m5 => ?_⟩
    have k45 : M4.1 5 0 0 = nI (S.1.1 2) := by rw [m4, wI_cc (by omega)]; exact k5
    rw [k45, nI_1] at m5
    have k55 : M5.1 5 0 0 = nI (S.1.1 2 + 1) := by rw [m5, wI_at, if_pos ⟨rfl, rfl, rfl⟩]
    rw [k55, nI_pred]
    have i3 : M3.1 = M2.1 := by rw [m3]; rfl
    have o3 : ∀ k i j, M3.2.2 k i j = if k = 1 ∧ i = 0 ∧ j = S.1.1 2 then id + 1 else M2.2.2 k i j := fun k i j => by rw [m3]; exact wO_at
    have o5 : M5.2.2 = M3.2.2 := by rw [m5, m4]; rfl
    have c5 : ∀ k, k ≠ 5 → k ≠ 35 → k ≠ 1000 → k ≠ 1001 → M5.1 k = M1.1 k := fun k a b d e => by rw [m5, wI_cc a, m4, wI_cc b, i3]; exact kc k d e
    have e35 : ∀ i j, M5.1 35 i j = if i = 0 ∧ j = S.1.1 2 then 401 else M1.1 35 i j := by
      intro i j
      rw [m5, wI_cc (by omega), m4, wI_at, i3, kc 35 (by omega) (by omega)]
      by_cases z : i = 0 ∧ j = S.1.1 2
      · rw [if_pos ⟨rfl, z⟩, if_pos z]
      · rw [if_neg (fun y => z y.2), if_neg z]
    have e5 : ∀ i, i ≠ 0 → M5.1 5 i = M1.1 5 i := fun i hi => by rw [m5, wI_ni hi, m4, wI_cc (by omega), i3, kc 5 (by omega) (by omega)]
    have f1000 : ∀ i, i ≠ id → M5.1 1000 i = M1.1 1000 i ∧ M5.1 1001 i = M1.1 1001 i := fun i hi => by
      rw [m5, wI_cc (by omega), wI_cc (by omega), m4, wI_cc (by omega), wI_cc (by omega), i3, k1000, k1001, if_neg hi, if_neg hi]
      exact ⟨rfl, rfl⟩
    have g1000 : (∀ k, M5.1 1000 id k = if k = 0 then M1.1 8 0 2 else if k = 1 then x2 else x3) ∧ M5.1 1001 id = f := by
      refine ⟨fun k => ?_, ?_⟩
      · rw [m5, wI_cc (by omega), m4, wI_cc (by omega), i3, k1000, if_pos rfl]
      · rw [m5, wI_cc (by omega), m4, wI_cc (by omega), i3, k1001, if_pos rfl]
    have q2 : M5.2.2 2 0 0 = id + 1 := by rw [o5, o3, if_neg (by omega)]; exact k2
    have q1 : ∀ i j, M5.2.2 1 i j = if i = 0 ∧ j = S.1.1 2 then id + 1 else M1.2.2 1 i j := fun i j => by
      rw [o5, o3, u4]
      by_cases z : i = 0 ∧ j = S.1.1 2
      · rw [if_pos ⟨rfl, z⟩, if_pos z]
      · rw [if_neg (fun y => z y.2), if_neg z]
    have q3 : M5.2.2 3 0 id = L.length ∧ ∀ a, a < id → M5.2.2 3 0 a = M1.2.2 3 0 a := by
      refine ⟨?_, fun a ha => ?_⟩
      · rw [o5, o3, if_neg (by omega), u6.1, en]
      · rw [o5, o3, if_neg (by omega)]; exact u6.2 a ha
    have sm : sameM M M5 := by
      refine r1.sameM.tr ⟨fun k hk => c5 k (by unfold cK at hk; omega) (by unfold cK at hk; omega) (by unfold cK at hk; omega) (by unfold cK at hk; omega), ?_⟩
      rw [m5, m4, m3]; exact u2
    have un : ∀ k, ¬ (17 ≤ k ∧ k ≤ 22) → (actA S.1 (ix (x2 + 1)) (ix x3) N (purN (c 0) - 1) c L).2.1 k = S.1.2.1 k := fun k hk => actA_ne hk
    have others : ∀ (w : Nat) (B : Abs), w = 1 → RC w M1 B → B.1 2 ≤ S.1.1 2 → RC w M5 B := by
      intro w B hw1 hB hBc
      subst hw1
      refine ⟨hB.1.fr (fun k hk => by rw [c5 k (by omega) (by omega) (by omega) (by omega)]), hB.2.1.fr (fun k hk => by rw [c5 k (by omega) (by omega) (by omega) (by omega)]), hB.2.2.1.fr (by rw [c5 1 (by omega) (by omega) (by omega) (by omega)]) (by rw [c5 12 (by omega) (by omega) (by omega) (by omega)]), hB.2.2.2.1.fr (fun k hk => by rw [c5 k (by omega) (by omega) (by omega) (by omega)]), hB.2.2.2.2.1.fr (fun k hk => by rw [c5 k (by omega) (by omega) (by omega) (by omega)]), ?_⟩
      have hb := hB.2.2.2.2.2
      refine hb.more (e5 1 (by omega)) (fun j _ => by rw [e35, if_neg (by omega)]) (fun j _ => by rw [q1, if_neg (by omega)]) (fun j hj => ?_) (by rw [q2, hid]) (fun i hi => q3.2 i (by rw [← hid]; exact hi)) (fun i hi => f1000 i (by rw [hid] at hi; omega))
      rw [q1, if_neg (by omega), q2]
      have := hb.2.2 j hj
      omega
    refine hp M5 sm ⟨⟨(h1.1.1.fr (fun k hk => by rw [c5 k (by omega) (by omega) (by omega) (by omega)])).of (fun k a => un k (by omega)) (actA_n (by omega)), (h1.1.2.1.fr (fun k hk => by rw [c5 k (by omega) (by omega) (by omega) (by omega)])).of (fun k a b => un k (by omega)) (actA_n (by omega)), (h1.1.2.2.1.fr (by rw [c5 1 (by omega) (by omega) (by omega) (by omega)]) (by rw [c5 12 (by omega) (by omega) (by omega) (by omega)])).of (un 26 (by omega)) (un 12 (by omega)), (h1.1.2.2.2.1.fr (fun k hk => by rw [c5 k (by omega) (by omega) (by omega) (by omega)])).of (fun k a b => un k (by omega)) (actA_n (by omega)), (h1.1.2.2.2.2.1.fr (fun k hk => by rw [c5 k (by omega) (by omega) (by omega) (by omega)])).of (fun k a b => un k (by omega)) (actA_n (by omega)), ⟨k55, fun a ha => ?_, fun j hj => ?_⟩⟩, h1.2.1.fr (by rw [c5 0 (by omega) (by omega) (by omega) (by omega)]) (fun B eB hB => others 1 B rfl hB ((hw.2.1 B eB).2 2 (by omega))), h1.2.2.fr (fun d => by rw [c5 7 (by omega) (by omega) (by omega) (by omega)]) (fun d => by rw [c5 39 (by omega) (by omega) (by omega) (by omega)])⟩
    · have ha : a < S.1.1 2 + 1 := ha
      by_cases z : a = S.1.1 2
      · subst z
        obtain ⟨w17, w18, w19, w20, w21⟩ := actA_new (A := S.1) (sh := ix (x2 + 1)) (fr := ix x3) (N := N) (p := purN (c 0) - 1) (c := c) (L := L)
        rw [w17, w18, w19, w20]
        refine ⟨⟨id, by rw [q1, if_pos ⟨rfl, rfl⟩], by rw [q2]; omega, ?_, ?_, ?_, L, by rw [q3.1], s2, fun j hj => ?_, fun f' => ?_⟩, by rw [e35, if_pos ⟨rfl, rfl⟩, if_pos rfl]⟩
        · rw [g1000.1, if_pos rfl, s5]
        · rw [g1000.1, if_neg (by omega), if_pos rfl]; exact ex2
        · rw [g1000.1, if_neg (by omega), if_neg (by omega)]; exact ex3
        · rw [g1000.2, ef j (by omega)]; exact s3 j hj
        · rw [actA_say, if_pos rfl]
      · rw [actA_old z (by omega), actA_old z (by omega), actA_old z (by omega), actA_old z (by omega)]
        obtain ⟨⟨id', i1, i2, i3', i4, i5, L', l1', l2', l3', l4'⟩, i6⟩ := hA.2.1 a (by omega)
        rw [hid] at i2
        obtain ⟨y1, y2⟩ := f1000 id' (by omega)
        refine ⟨⟨id', by rw [q1, if_neg (by omega)]; exact i1, by rw [q2]; omega, by rw [y1]; exact i3', by rw [y1]; exact i4, by rw [y1]; exact i5, L', by rw [q3.2 id' i2]; exact l1', l2', by rw [y2]; exact l3', fun f' => ?_⟩, by rw [e35, if_neg (by omega)]; exact i6⟩
        rw [actA_say, if_neg z]; exact l4' f'
    · rw [q1, q2]
      have := hA.2.2 j hj
      rw [hid] at this
      split <;> omega
theorem tM_act {M : Mem} {S : Sg} {x1 x2 x3 : Int32} {P : Int32 → Mem → Prop} (h : RMX M S) (hw : WfX S) (hp : ∀ M', sameC M M' → RMX M' (sp_act S x1 x2 x3).2 → P (sp_act S x1 x2 x3).1 M') : s_X12_act M x1 x2 x3 P := by
  unfold s_X12_act
  intro M1 m1
  have h1 : RMX M1 S := by rw [m1]; exact h.thrown
  replace hp : ∀ M', sameC M1 M' → RMX M' (sp_act S x1 x2 x3).2 → P (sp_act S x1 x2 x3).1 M' := fun M' a b => hp M' (sameC.tr (by rw [m1]; exact sC10) a) b
  have n16 : S.1.1 2 ≤ 16 := hw.1.2.2.1
  have hday : S.1.2.1 26 0 ≤ 400 := hw.1.2.2.2.2.2.1
  have bad : ∀ v, sp_act S x1 x2 x3 = (v, S) → P v M1 := fun v hb => by
    have := hp M1 sameC.rf
    rw [hb] at this
    exact this h1
  refine t_in (by decide) (n := 8) (by decide) (fun g1 => b1 ?_) (fun g1 => b0 (bad _ (by unfold sp_act; rw [if_neg (fun q => g1 q.1)])))
  refine t_in_s (fun g2 => b1 ?_) (fun g2 => b0 (bad _ (by unfold sp_act; rw [if_neg (fun q => g2 q.2.1)])))
  rw [h1.1.2.2.1.1]
  refine t_in_d (by omega) (fun g3 => c1 ?_) (fun g3 => c0 (bad _ (by unfold sp_act; rw [if_neg (fun q => g3 q.2.2)])))
  have g := (⟨g1, g2, g3⟩ : rg x1 8 ∧ rs x2 ∧ rd x3 (S.1.2.1 26 0))
  have e16 : nI (S.1.1 2) = 16 ↔ S.1.1 2 = 16 := eqk (by omega) rfl (by omega)
  rw [h1.1.2.2.2.2.2.1, e16]
  refine ⟨fun q16 => ?_, fun q16 => bad _ (by unfold sp_act; rw [if_pos g, if_neg (by omega)])⟩
  have q16 : S.1.1 2 < 16 := by omega
  have hd := rg_lt g1
  obtain ⟨w0, w1, w2, w3, w4, w5, w6⟩ := hw.2.2 _ hd
  refine t_lacks h1.2.2.1 (fun _ => ⟨w0, w4⟩) (fun y => absurd g1 y) (fun _ q => ⟨fun z => absurd z (by decide), fun _ => bad _ (by unfold sp_act; rw [if_pos g, if_pos q16, if_pos q])⟩) (fun _ q q4 => ⟨fun _ => ?_, fun z => absurd (by decide) z⟩) (fun _ q q4 => ⟨fun z => absurd z (by decide), fun _ => bad _ (by unfold sp_act; rw [if_pos g, if_pos q16, if_neg q, if_neg q4])⟩)
  have es : sp_act S x1 x2 x3 = actR S (ix x1) (ix (x2 + 1)) (ix x3) := by unfold sp_act; rw [if_pos g, if_pos q16, if_neg (by omega), if_pos ⟨q, q4⟩]
  rw [es] at hp
  have hcE := txt_E (S.2.2.2 (ix x1)) (S.2.2.1 5 (ix x1))
  have hle := pAct_le hcE
  refine tM_faultOf h1 g1 q q4 w5 w6 (fun M2 e r1 => ?_) (fun M2 L e r1 => ?_)
  · have k := hp M2 r1.sameC
    unfold actR at k
    rw [e] at k
    have n0 := nI_pos (n := (pAct (txt (S.2.2.2 (ix x1)) (S.2.2.1 5 (ix x1))) (S.2.2.1 5 (ix x1))).1) (by omega)
    exact ⟨fun z => absurd z n0, fun _ => k (h1.rd r1)⟩
  · refine ⟨fun _ => ?_, fun z => absurd (by decide) z⟩
    unfold actR at hp
    rw [e] at hp
    dsimp only at hp
    obtain ⟨hN1, hc0⟩ := pAct_0 hcE e
    obtain ⟨hp1, hp2, hp3⟩ := letter_pur hc0
    have hc : ∀ p, p < S.2.2.1 5 (ix x1) → txt (S.2.2.2 (ix x1)) (S.2.2.1 5 (ix x1)) p < 256 ∧ S.2.2.2 (ix x1) p = sc (txt (S.2.2.2 (ix x1)) (S.2.2.1 5 (ix x1)) p) := fun p hp => txt_sc (by have := w6 p (by omega); rw [q4] at this; exact this) hp
    have h2 := h1.rd r1
    obtain ⟨-, -, t2⟩ := h2.2.2.1 _ hd
    obtain ⟨-, s5, s39⟩ := t2 q
    obtain ⟨ex2, l2⟩ := rs_mI g2
    have l3 := rg_lt (rd_rg g3)
    have ex3 := rg_nI (rd_rg g3) (by omega)
    have ex1 := rg_nI g1 (by omega)
    generalize hN : S.2.2.1 5 (ix x1) = N at *
    generalize hg : S.2.2.2 (ix x1) = gg at *
    generalize txt gg N = c at *
    intro x6 e6
    rw [h2.1.2.2.2.2.2.1] at e6
    rw [e6]
    refine Lz_rule (fun a => ∃ k, k ≤ N ∧ a.2 = nI k ∧ (∀ i, i ≠ 57 → a.1.1 i = M2.1 i) ∧ a.1.2 = M2.2 ∧ (∀ j, ¬ (80 * S.1.1 2 ≤ j ∧ j < 80 * S.1.1 2 + 80) → a.1.1 57 0 j = M2.1 57 0 j) ∧ ∀ j, j < k → a.1.1 57 0 (80 * S.1.1 2 + j) = nI (c j)) (fun a => N - a.2.toNatClampNeg) ?_ ⟨0, Nat.zero_le _, rfl, fun _ _ => rfl, rfl, fun _ _ => rfl, fun j hj => absurd hj (Nat.not_lt_zero j)⟩
    rintro K ⟨M3, y⟩ ⟨k, hk, ey, i1, i2, i3, i4⟩ hK
    dsimp only at ey i1 i2 i3 i4
    show s_X12_act_101 x1 x2 x3 (nI (S.1.1 2)) P K M3 y
    unfold s_X12_act_101
    have v8 : vp_in x1 8 := rg_in g1
    have v16 : vp_in (nI (S.1.1 2)) 16 := vp_in_nI q16 (by omega)
    have e77 : M3.1 77 0 x1.toNatClampNeg = nI N := by rw [i1 77 (by omega)]; exact s5
    rw [e77, ey, nI_leI (by omega) (by omega)]
    refine ⟨v8, fun z => ⟨v8, v16, fun Ma ma => ⟨v16, fun Mb mb => ⟨v16, fun Mc mc => ?_⟩⟩⟩, fun z => ?_⟩
    · rw [nI_clamp (by omega)] at ma mb mc
      have e160 : (160 : Int32) + nI (S.1.1 2) = nI (160 + S.1.1 2) := nI_add 160 _
      rw [e160, nI_clamp (by omega)]
      refine ⟨vp_in_nI (by omega) (by omega), fun Md md Me me Mf mf => ?_⟩
      have kd2 : Md.1 44 0 2 = nI (S.1.1 2) := by rw [md, wI_at, if_neg (by omega), mc, wI_cc (by omega), mb, wI_cc (by omega), ma, wI_cc (by omega), i1 44 (by omega)]; exact h2.1.2.2.2.2.2.1
      rw [kd2, nI_1] at me
      have hkN : k = N := by omega
      subst hkN
      have c5 : ∀ i, i ≠ 10 → i ≠ 44 → i ≠ 57 → i ≠ 58 → i ≠ 59 → i ≠ 60 → Mf.1 i = M2.1 i := fun i a b d e f g => by rw [mf, wI_cc a, me, wI_cc b, md, wI_cc b, mc, wI_cc g, mb, wI_cc f, ma, wI_cc e]; exact i1 i d
      have j10 : ∀ i j, ¬ (i = 0 ∧ j = 37) → Mf.1 10 i j = M2.1 10 i j := fun i j hj => by rw [mf, wI_at, if_neg (fun y => hj y.2), me, wI_cc (by omega), md, wI_cc (by omega), mc, wI_cc (by omega), mb, wI_cc (by omega), ma, wI_cc (by omega), i1 10 (by omega)]
      have o5 : Mf.2 = M2.2 := by rw [mf, me, md, mc, mb, ma]; exact i2
      have e44 : ∀ j, Mf.1 44 0 j = if j = 2 then nI (S.1.1 2 + 1) else if j = 160 + S.1.1 2 then 1000000 else M2.1 44 0 j := by
        intro j
        rw [mf, wI_cc (by omega), me, wI_at, md, wI_at, mc, wI_cc (by omega), mb, wI_cc (by omega), ma, wI_cc (by omega), i1 44 (by omega)]
        by_cases y2 : j = 2
        · rw [if_pos ⟨rfl, rfl, y2⟩, if_pos y2]
        · rw [if_neg (fun t => y2 t.2.2), if_neg y2]
          by_cases y3 : j = 160 + S.1.1 2
          · rw [if_pos ⟨rfl, rfl, y3⟩, if_pos y3]
          · rw [if_neg (fun t => y3 t.2.2), if_neg y3]
      have e57 : Mf.1 57 = M3.1 57 := by rw [mf, wI_cc (by omega), me, wI_cc (by omega), md, wI_cc (by omega), mc, wI_cc (by omega), mb, wI_cc (by omega), ma, wI_cc (by omega)]
      have e58 : ∀ j, Mf.1 58 0 j = if j = S.1.1 2 then nI k else M2.1 58 0 j := by
        intro j
        rw [mf, wI_cc (by omega), me, wI_cc (by omega), md, wI_cc (by omega), mc, wI_cc (by omega), mb, wI_cc (by omega), ma, wI_at, i1 58 (by omega)]
        by_cases y2 : j = S.1.1 2
        · rw [if_pos ⟨rfl, rfl, y2⟩, if_pos y2]
        · rw [if_neg (fun t => y2 t.2.2), if_neg y2]
      have e59 : ∀ j, Mf.1 59 0 j = if j = S.1.1 2 then x2 else M2.1 59 0 j := by
        intro j
        rw [mf, wI_cc (by omega), me, wI_cc (by omega), md, wI_cc (by omega), mc, wI_cc (by omega), mb, wI_at, ma, wI_cc (by omega), i1 59 (by omega)]
        by_cases y2 : j = S.1.1 2
        · rw [if_pos ⟨rfl, rfl, y2⟩, if_pos y2]
        · rw [if_neg (fun t => y2 t.2.2), if_neg y2]
      have e60 : ∀ j, Mf.1 60 0 j = if j = S.1.1 2 then x3 else M2.1 60 0 j := by
        intro j
        rw [mf, wI_cc (by omega), me, wI_cc (by omega), md, wI_cc (by omega), mc, wI_at, mb, wI_cc (by omega), ma, wI_cc (by omega), i1 60 (by omega)]
        by_cases y2 : j = S.1.1 2
        · rw [if_pos ⟨rfl, rfl, y2⟩, if_pos y2]
        · rw [if_neg (fun t => y2 t.2.2), if_neg y2]
      have sc' : sameC M1 Mf := r1.sameC.tr ⟨fun i hi => c5 i (by unfold cK at hi; omega) (by unfold cK at hi; omega) (by unfold cK at hi; omega) (by unfold cK at hi; omega) (by unfold cK at hi; omega) (by unfold cK at hi; omega), fun i _ => by rw [o5], by rw [o5]⟩
      have un : ∀ i, ¬ (17 ≤ i ∧ i ≤ 22) → (actA S.1 (ix (x2 + 1)) (ix x3) k (purN (c 0) - 1) c L).2.1 i = S.1.2.1 i := fun i hi => actA_ne hi
      have f37 : RMf Mf (actA S.1 (ix (x2 + 1)) (ix x3) k (purN (c 0) - 1) c L) := ⟨0, by rw [mf, wI_at, if_pos ⟨rfl, rfl, rfl⟩]; rfl, by omega, fun y => absurd rfl y⟩
      obtain ⟨hs, hdd, hm, hh, hll, haa⟩ := h2.1
      have e44o : ∀ j, j ≠ 2 → j ≠ 160 + S.1.1 2 → Mf.1 44 0 j = M2.1 44 0 j := fun j a b => by rw [e44, if_neg a, if_neg b]
      have n12 := hw.1.1
      have n5 := hw.1.2.1
      have gR : RM 44 Mf (actA S.1 (ix (x2 + 1)) (ix x3) k (purN (c 0) - 1) c L) := by
        refine ⟨?_, ?_, ?_, ?_, ?_, ⟨by rw [e44, if_pos rfl, actA_n2], fun a ha => ?_⟩⟩
        · refine RMs.of (A := S.1) ⟨by rw [e44o 0 (by omega) (by omega)]; exact hs.1, fun s hs' => ?_⟩ (fun i a => un i (by omega)) (actA_n (by omega))
          obtain ⟨a1, a2, a3, a4, a5, a6, a7⟩ := hs.2 s hs'
          rw [c5 47 (by omega) (by omega) (by omega) (by omega) (by omega) (by omega), c5 48 (by omega) (by omega) (by omega) (by omega) (by omega) (by omega), c5 49 (by omega) (by omega) (by omega) (by omega) (by omega) (by omega), e44o _ (by omega) (by omega), e44o _ (by omega) (by omega), e44o _ (by omega) (by omega)]
          exact ⟨a1, a2, a3, a4, a5, a6, fun k' hk' => by rw [e44o _ (by omega) (by omega)]; exact a7 k' hk'⟩
        · refine RMd.of (A := S.1) ⟨by rw [e44o 1 (by omega) (by omega)]; exact hdd.1, fun d hd' => ?_⟩ (fun i a b => un i (by omega)) (actA_n (by omega))
          obtain ⟨a1, a2, a3, a4, a5⟩ := hdd.2 d hd'
          rw [c5 50 (by omega) (by omega) (by omega) (by omega) (by omega) (by omega), c5 51 (by omega) (by omega) (by omega) (by omega) (by omega) (by omega), c5 52 (by omega) (by omega) (by omega) (by omega) (by omega) (by omega), e44o _ (by omega) (by omega)]
          exact ⟨a1, a2, a3, a4, fun k' hk' => by rw [e44o _ (by omega) (by omega)]; exact a5 k' hk'⟩
        · refine RMm.of (A := S.1) ⟨by rw [e44o 3 (by omega) (by omega)]; exact hm.1, fun m k' hm' hk' => by rw [e44o _ (by omega) (by omega)]; exact hm.2 m k' hm' hk'⟩ (un 26 (by omega)) (un 12 (by omega))
        · refine RMh.of (A := S.1) ?_ (fun i a b => un i (by omega)) (actA_n (by omega))
          unfold RMh at hh ⊢
          rw [e44o 5 (by omega) (by omega), c5 53 (by omega) (by omega) (by omega) (by omega) (by omega) (by omega), c5 54 (by omega) (by omega) (by omega) (by omega) (by omega) (by omega), c5 55 (by omega) (by omega) (by omega) (by omega) (by omega) (by omega), c5 56 (by omega) (by omega) (by omega) (by omega) (by omega) (by omega)]
          exact hh
        · refine RMl.of (A := S.1) ?_ (fun i a b => un i (by omega)) (actA_n (by omega))
          unfold RMl at hll ⊢
          rw [e44o 4 (by omega) (by omega), c5 61 (by omega) (by omega) (by omega) (by omega) (by omega) (by omega), c5 62 (by omega) (by omega) (by omega) (by omega) (by omega) (by omega), c5 63 (by omega) (by omega) (by omega) (by omega) (by omega) (by omega)]
          exact hll
        · have ha : a < S.1.1 2 + 1 := ha
          by_cases z2 : a = S.1.1 2
          · subst z2
            obtain ⟨w17, w18, w19, w20, w21⟩ := actA_new (A := S.1) (sh := ix (x2 + 1)) (fr := ix x3) (N := k) (p := purN (c 0) - 1) (c := c) (L := L)
            rw [w17, w18, w19, w21, e58, if_pos rfl, e59, if_pos rfl, e60, if_pos rfl, e44, if_neg (by omega), if_pos rfl]
            refine ⟨rfl, ex2, ex3, by rw [if_pos rfl], fun j hj => ?_⟩
            rw [e57, i4 j hj, actA_22, if_pos (by omega), show 80 * S.1.1 2 + j - 80 * S.1.1 2 = j by omega]
          · rw [actA_old z2 (by omega), actA_old z2 (by omega), actA_old z2 (by omega), actA_old z2 (by omega), e58, if_neg z2, e59, if_neg z2, e60, if_neg z2, e44o _ (by omega) (by omega)]
            have w5' := (hw.1.act (show a < S.1.1 2 by omega)).2.2.2.2.1
            obtain ⟨a1, a2, a3, a4, a5⟩ := haa.2 a (by omega)
            refine ⟨a1, a2, a3, a4, fun j hj => ?_⟩
            rw [e57, i3 _ (by omega), actA_22, if_neg (by omega)]
            exact a5 j hj
      refine hp Mf sc' (h2.now gR f37 (fun B eB hB => ?_) (j10 0 4 (by omega)) (j10 0 22 (by omega)) (fun i a b => by rw [c5 i (by omega) (by omega) (by omega) (by omega) (by omega) (by omega)]) (by rw [o5]))
      obtain ⟨wB, cB⟩ := hw.2.1 B eB
      have cB2 := cB 2 (by omega)
      refine hB.fr2 (by rw [c5 45 (by omega) (by omega) (by omega) (by omega) (by omega) (by omega)]) (fun i a b j _ => by rw [c5 i (by omega) (by omega) (by omega) (by omega) (by omega) (by omega)]) (fun i a b j _ => by rw [c5 i (by omega) (by omega) (by omega) (by omega) (by omega) (by omega)]) (fun i a b j _ => by rw [c5 i (by omega) (by omega) (by omega) (by omega) (by omega) (by omega)]) (fun j _ => by rw [c5 56 (by omega) (by omega) (by omega) (by omega) (by omega) (by omega)]) (fun j hj => by rw [e57, i3 _ (by omega)]) (fun i a b j hj => ?_) (fun i a b j _ => by rw [c5 i (by omega) (by omega) (by omega) (by omega) (by omega) (by omega)]) (fun a ha => (wB.act ha).2.2.2.2.1)
      rcases (show i = 58 ∨ i = 59 ∨ i = 60 by omega) with rfl | rfl | rfl
      · rw [e58, if_neg (by omega)]
      · rw [e59, if_neg (by omega)]
      · rw [e60, if_neg (by omega)]
    · have hk2 : k < N := by omega
      have ea : (80 : Int32) * x1 + nI k = nI (80 * ix x1 + k) := by
        conv => lhs; rw [ex1]
        show nI 80 * nI _ + nI k = _
        rw [pk_mul, nI_add]
      have eb : (80 : Int32) * nI (S.1.1 2) + nI k = nI (80 * S.1.1 2 + k) := by
        show nI 80 * nI _ + nI k = _
        rw [pk_mul, nI_add]
      have ev : (M3.2.1 78 0 (80 * ix x1 + k)).toInt32 &&& 255 = nI (c k) := by
        rw [i2, s39 k (by omega), l_i, (hc k hk2).2]
        exact sc_and _ (hc k hk2).1
      rw [ea, eb, nI_clamp (by omega), nI_clamp (by omega), ev]
      refine ⟨vp_in_nI (by omega) (by omega), vp_in_nI (by omega) (by omega), fun M4 m4 u eu => ?_⟩
      rw [eu, nI_1]
      refine hK _ ⟨k + 1, by omega, rfl, fun i hi => ?_, ?_, fun j hj => ?_, fun j hj => ?_⟩ ?_
      · rw [m4]; exact (wI_cc hi).trans (i1 i hi)
      · rw [m4]; exact i2
      · rw [m4]
        show (wI M3 57 0 (80 * S.1.1 2 + k) (nI (c k))).1 57 0 j = _
        rw [wI_at, if_neg (fun y => by omega)]; exact i3 j hj
      · rw [m4]
        show (wI M3 57 0 (80 * S.1.1 2 + k) (nI (c k))).1 57 0 (80 * S.1.1 2 + j) = _
        rw [wI_at]
        by_cases y2 : j = k
        · rw [if_pos ⟨rfl, rfl, by omega⟩, y2]
        · rw [if_neg (fun t => y2 (by omega))]; exact i4 j (by omega)
      · show N - (nI (k + 1)).toNatClampNeg < N - y.toNatClampNeg
        rw [ey, nI_clamp (by omega), nI_clamp (by omega)]; omega
