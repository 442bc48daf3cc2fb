/-! count -/
def sm (A : Abs) (k : Nat) : Nat → Nat
  | 0 => 0
  | s + 1 => sm A k s + A.2.1 6 (11 * s + k)
def sb (A : Abs) : Nat → Nat
  | 0 => 0
  | d + 1 => sb A d + A.2.1 9 d
theorem tC_all {w : Nat} {M : Mem} {A : Abs} {k : Nat} {P : Int32 → Mem → Prop} (h : RCs w M A) (hn : A.1 0 ≤ 12) (hk : k < 11) (hp : P (nI (sm A k (A.1 0))) M) : s_X8_all w M (nI k) P := by
  unfold s_X8_all
  refine Lz_rule (fun a => ∃ s, s ≤ A.1 0 ∧ a = (M, nI (sm A k s), nI s)) (fun a => 12 - a.2.2.toNatClampNeg) ?_ ⟨0, Nat.zero_le _, rfl⟩
  rintro K a ⟨s, hs, rfl⟩ hK
  show s_X8_all_4 w (nI k) P K M (nI (sm A k s)) (nI s)
  unfold s_X8_all_4
  rw [h.1, nI_leI (by omega) (by omega)]
  refine ⟨fun q => ?_, fun q => ?_⟩
  · rw [show s = A.1 0 by omega]; exact hp
  have ead : nI s * 11 + nI k = nI (11 * s + k) := by
    show nI s * nI 11 + nI k = _
    rw [pk_mul, nI_add, Nat.mul_comm]
  rw [ead]
  refine ⟨vp_in_nI (by omega) (by omega), fun x ex y ey => ?_⟩
  rw [nI_clamp (by omega), (h.2.1 s (by omega)).2.2.2.2.2.2 k hk, nI_add] at ex
  rw [ex, ey, nI_1]
  refine hK _ ⟨s + 1, by omega, rfl⟩ ?_
  show 12 - (nI (s + 1)).toNatClampNeg < 12 - (nI s).toNatClampNeg
  rw [nI_clamp (by omega), nI_clamp (by omega)]
  omega
theorem tM_allOf {M : Mem} {A : Abs} {k : Nat} {P : Int32 → Mem → Prop} (h : RMs 44 M A) (hn : A.1 0 ≤ 12) (hk : k < 11) (hp : P (nI (sm A k (A.1 0))) M) : s_X12_allOf M (nI k) P := by
  unfold s_X12_allOf
  refine Lz_rule (fun a => ∃ s, s ≤ A.1 0 ∧ a = (M, nI (sm A k s), nI s)) (fun a => 12 - a.2.2.toNatClampNeg) ?_ ⟨0, Nat.zero_le _, rfl⟩
  rintro K a ⟨s, hs, rfl⟩ hK
  show s_X12_allOf_4 (nI k) P K M (nI (sm A k s)) (nI s)
  unfold s_X12_allOf_4
  rw [h.1, nI_leI (by omega) (by omega)]
  refine ⟨fun q => ?_, fun q => ?_⟩
  · rw [show s = A.1 0 by omega]; exact hp
  have ead : 180 + 11 * nI s + nI k = nI (180 + (11 * s + k)) := by
    show nI 180 + nI 11 * nI s + nI k = _
    rw [pk_mul, nI_add, nI_add, Nat.add_assoc]
  rw [ead]
  refine ⟨vp_in_nI (by omega) (by omega), fun x ex y ey => ?_⟩
  rw [nI_clamp (by omega), (h.2 s (by omega)).2.2.2.2.2.2 k hk, nI_add] at ex
  rw [ex, ey, nI_1]
  refine hK _ ⟨s + 1, by omega, rfl⟩ ?_
  show 12 - (nI (s + 1)).toNatClampNeg < 12 - (nI s).toNatClampNeg
  rw [nI_clamp (by omega), nI_clamp (by omega)]
  omega
theorem tC_allBottles {w : Nat} {M : Mem} {A : Abs} {P : Int32 → Mem → Prop} (h : RCd w M A) (hn : A.1 1 ≤ 5) (hp : P (nI (sb A (A.1 1))) M) : s_X4_allBottles w M P := by
  unfold s_X4_allBottles
  refine Lz_rule (fun a => ∃ s, s ≤ A.1 1 ∧ a = (M, nI (sb A s), nI s)) (fun a => 5 - a.2.2.toNatClampNeg) ?_ ⟨0, Nat.zero_le _, rfl⟩
  rintro K a ⟨s, hs, rfl⟩ hK
  show s_X4_allBottles_4 w P K M (nI (sb A s)) (nI s)
  unfold s_X4_allBottles_4
  rw [h.1, nI_leI (by omega) (by omega)]
  refine ⟨fun q => ?_, fun q => ?_⟩
  · rw [show s = A.1 1 by omega]; exact hp
  refine ⟨vp_in_nI (by omega) (by omega), fun x ex y ey => ?_⟩
  rw [nI_clamp (by omega), (h.2 s (by omega)).2.2.1, nI_add] at ex
  rw [ex, ey, nI_1]
  refine hK _ ⟨s + 1, by omega, rfl⟩ ?_
  show 5 - (nI (s + 1)).toNatClampNeg < 5 - (nI s).toNatClampNeg
  rw [nI_clamp (by omega), nI_clamp (by omega)]
  omega
theorem tM_count97 {M : Mem} {A : Abs} {P : Int32 → Mem → Prop} (h : RMd 44 M A) (hn : A.1 1 ≤ 5) (hp : P (nI (sb A (A.1 1))) M) : ∃ n, Lz (fun (K97 : Mem × Int32 × Int32 → Prop) (a : Mem × Int32 × Int32) => s_X12_count_97 P K97 a.1 a.2.1 a.2.2) n (M, (0 : Int32), (0 : Int32)) := by
  refine Lz_rule (fun a => ∃ s, s ≤ A.1 1 ∧ a = (M, nI (sb A s), nI s)) (fun a => 5 - a.2.2.toNatClampNeg) ?_ ⟨0, Nat.zero_le _, rfl⟩
  rintro K a ⟨s, hs, rfl⟩ hK
  show s_X12_count_97 P K M (nI (sb A s)) (nI s)
  unfold s_X12_count_97
  rw [h.1, nI_leI (by omega) (by omega)]
  refine ⟨fun q => ?_, fun q => ?_⟩
  · rw [show s = A.1 1 by omega]; exact hp
  have ead : 70 + nI s = nI (70 + s) := nI_add 70 s
  rw [ead]
  refine ⟨vp_in_nI (by omega) (by omega), fun x ex y ey => ?_⟩
  rw [nI_clamp (by omega), (h.2 s (by omega)).2.2.1, nI_add] at ex
  rw [ex, ey, nI_1]
  refine hK _ ⟨s + 1, by omega, rfl⟩ ?_
  show 5 - (nI (s + 1)).toNatClampNeg < 5 - (nI s).toNatClampNeg
  rw [nI_clamp (by omega), nI_clamp (by omega)]
  omega
def sp_count (S : Sg) (x : Int32) : Int32 := if x = 0 then nI (S.1.1 0) else if x = 1 then nI (S.1.1 1) else if x = 2 then nI (S.1.1 2) else if x = 3 then nI (S.1.2.1 26 0) else if x = 4 then nI (S.1.1 3) else if x = 5 then nI (sb S.1 (S.1.1 1)) else if x = 6 then nI (sm S.1 8 (S.1.1 0)) else if x = 7 then nI (sm S.1 3 (S.1.1 0)) else if x = 8 then nI (S.1.1 4) else -1
theorem tC_count {M : Mem} {S : Sg} {x : Int32} {P : Int32 → Mem → Prop} (h : RCX M S) (hw : WfX S) (hp : P (sp_count S x) M) : s_X11_count M x P := by
  unfold s_X11_count
  unfold sp_count at hp
  refine ⟨fun q => ?_, fun q => ?_, fun q => ?_, fun q => ?_, fun q => ?_, fun q => ?_, fun q => ?_, fun q => ?_, fun q => ?_, fun a b c d e f g i j => ?_⟩
  · subst q; rw [h.1.1.1]; exact hp
  · subst q; rw [h.1.2.1.1]; exact hp
  · subst q; rw [h.1.2.2.2.2.2.1]; exact hp
  · subst q; rw [h.1.2.2.1.1]; exact hp
  · subst q; rw [h.1.2.2.2.2.1.1]; exact hp
  · subst q; exact tC_allBottles h.1.2.1 hw.1.2.1 hp
  · subst q; exact tC_all (k := 8) h.1.1 hw.1.1 (by omega) hp
  · subst q; exact tC_all (k := 3) h.1.1 hw.1.1 (by omega) hp
  · subst q; rw [h.1.2.2.2.1.1]; exact hp
  · rw [if_neg a, if_neg b, if_neg c, if_neg d, if_neg e, if_neg f, if_neg g, if_neg i, if_neg j] at hp; exact hp
theorem tM_count {M : Mem} {S : Sg} {x : Int32} {P : Int32 → Mem → Prop} (h : RMX M S) (hw : WfX S) (hp : ∀ M', sameC M M' → RMX M' S → P (sp_count S x) M') : s_X12_count M x P := by
  unfold s_X12_count
  intro M1 e1
  have h1 : RMX M1 S := by rw [e1]; exact h.thrown
  replace hp := hp M1 (by rw [e1]; exact sC10) h1
  unfold sp_count at hp
  refine ⟨fun q => ?_, fun q => ?_, fun q => ?_, fun q => ?_, fun q => ?_, fun q => ?_, fun q => ?_, fun q => ?_, fun q => ?_, fun a b c d e f g i j => ?_⟩
  · subst q; rw [h1.1.1.1]; exact hp
  · subst q; rw [h1.1.2.1.1]; exact hp
  · subst q; rw [h1.1.2.2.2.2.2.1]; exact hp
  · subst q; rw [h1.1.2.2.1.1]; exact hp
  · subst q; rw [h1.1.2.2.2.2.1.1]; exact hp
  · subst q; exact tM_count97 h1.1.2.1 hw.1.2.1 hp
  · subst q; exact tM_allOf (k := 8) h1.1.1 hw.1.1 (by omega) hp
  · subst q; exact tM_allOf (k := 3) h1.1.1 hw.1.1 (by omega) hp
  · subst q; rw [h1.1.2.2.2.1.1]; exact hp
  · rw [if_neg a, if_neg b, if_neg c, if_neg d, if_neg e, if_neg f, if_neg g, if_neg i, if_neg j] at hp; exact hp
/-! strike -/
/-- a day not before a -/
abbrev rd (x : Int32) (a : Nat) : Prop := (a : Int) ≤ x.toInt ∧ x.toInt < 401
theorem t400 : (400 : Int32).toInt = 400 := by decide
theorem t_within_d {x : Int32} {a : Nat} {M : Mem} {P : Int32 → Mem → Prop} (ha : a < 2 ^ 31) (h1 : rd x a → P 1 M) (h0 : ¬ rd x a → P 0 M) : s_X11_within M x (nI a) 400 P := by
  have e := nI_toInt ha
  exact ⟨fun c => h0 (fun q => by rw [lt_i] at c; omega), fun c => ⟨fun d => h0 (fun q => by rw [lt_i, t400] at d; omega), fun d => h1 (by rw [lt_i] at c; rw [lt_i, t400] at d; exact ⟨by omega, by omega⟩)⟩⟩
theorem t_in_d {x : Int32} {a : Nat} {M : Mem} {P : Int32 → Mem → Prop} (ha : a < 2 ^ 31) (h1 : rd x a → P 1 M) (h0 : ¬ rd x a → P 0 M) : s_X12_in M x (nI a) 400 P := by
  have e := nI_toInt ha
  exact ⟨fun c => h0 (fun q => by rw [lt_i] at c; omega), fun c => ⟨fun d => h0 (fun q => by rw [lt_i, t400] at d; omega), fun d => h1 (by rw [lt_i] at c; rw [lt_i, t400] at d; exact ⟨by omega, by omega⟩)⟩⟩
theorem rd_rg {x : Int32} {a : Nat} (h : rd x a) : rg x 401 := ⟨by omega, h.2⟩
theorem t_has1 {w n : Nat} {x : Int32} {M : Mem} {P : Int32 → Mem → Prop} (hc : M.1 5 w 0 = nI n) (hn : n < 2 ^ 31) (h1 : rg x n → P 1 M) (h0 : ¬ rg x n → P 0 M) : s_X1_has w M x P := by
  unfold s_X1_has
  rw [hc]
  have e := nI_toInt hn
  exact ⟨fun c => h0 (fun q => by rw [lt_i, t0_i] at c; omega), fun c => ⟨fun d => h0 (fun q => by rw [le_i] at d; omega), fun d => h1 (by rw [lt_i, t0_i] at c; rw [le_i] at d; exact ⟨by omega, by omega⟩)⟩⟩
def sp_strike (S : Sg) (x1 x2 : Int32) : Int32 × Sg := if rg x1 (S.1.1 2) ∧ rd x2 (S.1.2.1 26 0) then (if S.1.2.1 19 (ix x1) = 0 then (1, (aU S.1 19 (ix x1) (ix x2 + 1), S.2)) else (-3, S)) else (-1, S)
theorem Wf.act {A : Abs} (h : Wf A) {a : Nat} (ha : a < A.1 2) : A.2.1 17 a ≤ 4 ∧ A.2.1 18 a ≤ 400 ∧ A.2.1 19 a ≤ 401 ∧ A.2.1 20 a < 3 ∧ A.2.1 21 a ≤ 80 ∧ ∀ j, j < A.2.1 21 a → A.2.1 22 (80 * a + j) < 256 := h.2.2.2.2.2.2.2.2.2.2.1 a ha
theorem tC_strike {M : Mem} {S : Sg} {x1 x2 : Int32} {P : Int32 → Mem → Prop} (h : RCX M S) (hw : WfX S) (hp : ∀ M', sameM M M' → RCX M' (sp_strike S x1 x2).2 → P (sp_strike S x1 x2).1 M') : s_X11_strike M x1 x2 P := by
  unfold s_X11_strike
  have hn : S.1.1 2 ≤ 16 := hw.1.2.2.1
  have hday : S.1.2.1 26 0 ≤ 400 := hw.1.2.2.2.2.2.1
  have bad : ∀ v, sp_strike S x1 x2 = (v, S) → P v M := fun v hb => by
    have := hp M sameM.rf
    rw [hb] at this
    exact this h
  have h6 := h.1.2.2.2.2.2
  refine t_has1 h6.1 (by omega) (fun g1 => b1 ?_) (fun g1 => b0 (bad _ (by unfold sp_strike; rw [if_neg (fun q => g1 q.1)])))
  rw [h.1.2.2.1.1]
  refine t_within_d (by omega) (fun g2 => c1 ?_) (fun g2 => c0 (bad _ (by unfold sp_strike; rw [if_neg (fun q => g2 q.2)])))
  have l1 := rg_lt g1
  have l2 := rg_lt (rd_rg g2)
  obtain ⟨w1, w2, w3, -⟩ := hw.1.act l1
  have vi : vp_in x1 16 := rg_in ⟨g1.1, by have := g1.2; omega⟩
  refine ⟨vi, ?_⟩
  have e0 : M.1 35 0 (ix x1) = 401 ↔ S.1.2.1 19 (ix x1) = 0 := by
    rw [(h6.2.1 _ l1).2]
    split
    · rename_i q; exact ⟨fun _ => q, fun _ => rfl⟩
    · rename_i q
      rw [eqk (K := 401) (k := 401) (by omega) rfl (by omega)]
      exact ⟨fun z => by omega, fun z => absurd z q⟩
  rw [e0]
  refine ⟨fun q => ⟨vi, fun Ma ea => ?_⟩, fun q => bad _ (by unfold sp_strike; rw [if_pos ⟨g1, g2⟩, if_neg q])⟩
  have es : sp_strike S x1 x2 = (1, (aU S.1 19 (ix x1) (ix x2 + 1), S.2)) := by unfold sp_strike; rw [if_pos ⟨g1, g2⟩, if_pos q]
  rw [es] at hp
  have e : ∀ c, c ≠ 35 → Ma.1 c = M.1 c := fun c hc => by rw [ea]; exact wI_cc hc
  have u : ∀ c, c ≠ 19 → (aU S.1 19 (ix x1) (ix x2 + 1)).2.1 c = S.1.2.1 c := fun c hc => aU_ne hc
  refine hp Ma (by rw [ea]; exact sameM.wI (by unfold cK; omega)) ?_
  have hR : RC 0 Ma (aU S.1 19 (ix x1) (ix x2 + 1)) := by
    refine ⟨(h.1.1.fr (fun c hc => by rw [e c (by omega)])).of (fun c a => u c (by omega)) rfl, (h.1.2.1.fr (fun c hc => by rw [e c (by omega)])).of (fun c a b => u c (by omega)) rfl, (h.1.2.2.1.fr (by rw [e 1 (by omega)]) (by rw [e 12 (by omega)])).of (u 26 (by omega)) (u 12 (by omega)), (h.1.2.2.2.1.fr (fun c hc => by rw [e c (by omega)])).of (fun c a b => u c (by omega)) rfl, (h.1.2.2.2.2.1.fr (fun c hc => by rw [e c (by omega)])).of (fun c a b => u c (by omega)) rfl, ⟨by rw [e 5 (by omega)]; exact h6.1, fun a ha => ?_, by rw [ea]; exact h6.2.2⟩⟩
    obtain ⟨i1, i2⟩ := h6.2.1 a ha
    rw [u 17 (by omega), u 18 (by omega), u 20 (by omega), e 1000 (by omega), e 1001 (by omega)]
    refine ⟨by rw [ea]; exact i1, ?_⟩
    rw [ea, wI_at]
    by_cases z : a = ix x1
    · rw [if_pos ⟨rfl, rfl, z⟩]
      have eA : (aU S.1 19 (ix x1) (ix x2 + 1)).2.1 19 a = ix x2 + 1 := if_pos ⟨rfl, z⟩
      rw [eA, if_neg (Nat.succ_ne_zero _)]
      exact rg_nI (rd_rg g2) (by omega)
    · have eA : (aU S.1 19 (ix x1) (ix x2 + 1)).2.1 19 a = S.1.2.1 19 a := if_neg (fun y => z y.2)
      rw [if_neg (fun y => z y.2.2), eA]; exact i2
  rw [ea] at hR ⊢
  exact h.now1 hR (by unfold pK; omega)
theorem tM_strike {M : Mem} {S : Sg} {x1 x2 : Int32} {P : Int32 → Mem → Prop} (h : RMX M S) (hw : WfX S) (hp : ∀ M', sameC M M' → RMX M' (sp_strike S x1 x2).2 → P (sp_strike S x1 x2).1 M') : s_X12_strike M x1 x2 P := by
  unfold s_X12_strike
  intro M1 e1
  have h1 : RMX M1 S := by rw [e1]; exact h.thrown
  have hn : S.1.1 2 ≤ 16 := hw.1.2.2.1
  have hday : S.1.2.1 26 0 ≤ 400 := hw.1.2.2.2.2.2.1
  replace hp : ∀ M', sameC M1 M' → RMX M' (sp_strike S x1 x2).2 → P (sp_strike S x1 x2).1 M' := fun M' a b => hp M' (sameC.tr (by rw [e1]; exact sC10) a) b
  have bad : ∀ v, sp_strike S x1 x2 = (v, S) → P v M1 := fun v hb => by
    have := hp M1 sameC.rf
    rw [hb] at this
    exact this h1
  have h6 := h1.1.2.2.2.2.2
  rw [h6.1]
  refine t_in (by decide) (nI_m1 (by omega)) (fun g1 => b1 ?_) (fun g1 => b0 (bad _ (by unfold sp_strike; rw [if_neg (fun q => g1 q.1)])))
  rw [h1.1.2.2.1.1]
  refine t_in_d (by omega) (fun g2 => c1 ?_) (fun g2 => c0 (bad _ (by unfold sp_strike; rw [if_neg (fun q => g2 q.2)])))
  have l1 := rg_lt g1
  have l2 := rg_lt (rd_rg g2)
  obtain ⟨w1, w2, w3, -⟩ := hw.1.act l1
  obtain ⟨i1, i2⟩ := ixp (b := 160) (B := 160) (k := 320) g1 rfl (by omega) (by omega)
  refine ⟨i1, ?_⟩
  rw [i2]
  have e0 : 1000000 ≤ M1.1 44 0 (160 + ix x1) ↔ S.1.2.1 19 (ix x1) = 0 := by
    rw [(h6.2 _ l1).2.2.2.1]
    split
    · rename_i q; exact ⟨fun _ => q, fun _ => by decide⟩
    · rename_i q
      have : (1000000 : Int32) ≤ nI (S.1.2.1 19 (ix x1) - 1) ↔ 1000000 ≤ S.1.2.1 19 (ix x1) - 1 := nI_leI (a := 1000000) (by omega) (by omega)
      rw [this]
      exact ⟨fun z => by omega, fun z => absurd z q⟩
  rw [e0]
  refine ⟨fun q => ⟨i1, fun Ma ea Mb eb => ?_⟩, fun q => bad _ (by unfold sp_strike; rw [if_pos ⟨g1, g2⟩, if_neg q])⟩
  have es : sp_strike S x1 x2 = (1, (aU S.1 19 (ix x1) (ix x2 + 1), S.2)) := by unfold sp_strike; rw [if_pos ⟨g1, g2⟩, if_pos q]
  rw [es] at hp
  have e : ∀ c, c ≠ 44 → c ≠ 10 → Mb.1 c = M1.1 c := fun c hc hc2 => by rw [eb, wI_cc hc2, ea]; exact wI_cc hc
  have eo : Mb.2 = M1.2 := by rw [eb, ea]; rfl
  have e44 : ∀ j, j ≠ 160 + ix x1 → Mb.1 44 0 j = M1.1 44 0 j := fun j hj => by rw [eb, wI_nc (by omega), ea, wI_at, if_neg (fun z => hj z.2.2)]
  have e10 : ∀ j, j ≠ 37 → Mb.1 10 0 j = M1.1 10 0 j := fun j hj => by rw [eb, wI_at, if_neg (fun z => hj z.2.2), ea, wI_nc (by omega)]
  have u : ∀ c, c ≠ 19 → (aU S.1 19 (ix x1) (ix x2 + 1)).2.1 c = S.1.2.1 c := fun c hc => aU_ne hc
  refine hp Mb ⟨fun c hc => e c (by unfold cK at hc; omega) (by unfold cK at hc; omega), fun c _ => by rw [eo], by rw [eo]⟩ (h1.now (A := aU S.1 19 (ix x1) (ix x2 + 1)) ?_ ?_ (fun B _ hB => hB.fr (fun c hc => by rw [e c (by omega) (by omega)])) (e10 4 (by omega)) (e10 22 (by omega)) (fun c a b => by rw [e c (by omega) (by omega)]) (by rw [eo]))
  · refine ⟨(h1.1.1.fr3 hw.1.1 (fun c a b => by rw [e c (by omega) (by omega)]) (fun j hj => e44 j (by omega))).of (fun c a => u c (by omega)) rfl, (h1.1.2.1.fr3 hw.1.2.1 (fun c a b => by rw [e c (by omega) (by omega)]) (fun j hj => e44 j (by omega))).of (fun c a b => u c (by omega)) rfl, (h1.1.2.2.1.fr3 (fun j hj => e44 j (by omega))).of (u 26 (by omega)) (u 12 (by omega)), (h1.1.2.2.2.1.fr3 (fun c a b => by rw [e c (by omega) (by omega)]) (e44 5 (by omega))).of (fun c a b => u c (by omega)) rfl, (h1.1.2.2.2.2.1.fr3 (fun c a b => by rw [e c (by omega) (by omega)]) (e44 4 (by omega))).of (fun c a b => u c (by omega)) rfl, ⟨by rw [e44 2 (by omega)]; exact h6.1, fun a ha => ?_⟩⟩
    obtain ⟨j1, j2, j3, j4, j5⟩ := h6.2 a ha
    rw [e 57 (by omega) (by omega), e 58 (by omega) (by omega), e 59 (by omega) (by omega), e 60 (by omega) (by omega), u 17 (by omega), u 18 (by omega), u 21 (by omega), u 22 (by omega)]
    refine ⟨j1, j2, j3, ?_, j5⟩
    rw [eb, wI_nc (by omega), ea, wI_at]
    by_cases z : a = ix x1
    · rw [if_pos ⟨rfl, rfl, by omega⟩]
      have eA : (aU S.1 19 (ix x1) (ix x2 + 1)).2.1 19 a = ix x2 + 1 := if_pos ⟨rfl, z⟩
      rw [eA, if_neg (Nat.succ_ne_zero _)]
      exact rg_nI (rd_rg g2) (by omega)
    · have eA : (aU S.1 19 (ix x1) (ix x2 + 1)).2.1 19 a = S.1.2.1 19 a := if_neg (fun y => z y.2)
      rw [if_neg (fun y => z (by omega)), eA]; exact j4
  · exact ⟨0, by rw [eb, wI_at, if_pos ⟨rfl, rfl, rfl⟩]; exact m1, by omega, fun z => absurd rfl z⟩
