/-! bid, month, won, dairy, school -/
theorem mI_t {b : Nat} (h : b < 2 ^ 31) : (mI b).toInt = (b : Int) - 1 := by
  cases b with
  | zero => decide
  | succ n => rw [mI_s, nI_toInt (by omega)]; omega
theorem m1_t : (-1 : Int32).toInt = -1 := by decide
theorem ix_t {x : Int32} {n : Nat} (h : rg x n) : ((ix x : Nat) : Int) = x.toInt := by
  have h1 := h.1
  show ((x.toInt.toNat : Nat) : Int) = x.toInt
  omega
/-- an index of two -/
theorem ix2 {x y : Int32} {n m k b : Nat} {B C : Int32} (hx : rg x n) (hy : rg y m) (hB : B = nI b) (hC : C = nI k) (hn : n < 1000000) (hm : m < 1000000) (hk : k < 100) (hb : b < 1000000) : B + C * x + y = nI (b + (k * ix x + ix y)) ∧ C * x + y = nI (k * ix x + ix y) ∧ x * C + y = nI (k * ix x + ix y) := by
  have e1 := rg_nI hx (by omega)
  have e2 := rg_nI hy (by omega)
  have h1 : C * x = nI (k * ix x) := by
    rw [hC]
    conv => lhs; rw [e1]
    rw [pk_mul]
  have h2 : x * C = nI (k * ix x) := by
    rw [hC]
    conv => lhs; rw [e1]
    rw [pk_mul, Nat.mul_comm]
  refine ⟨?_, ?_, ?_⟩
  · rw [h1, hB, nI_add, ← Nat.add_assoc]
    conv => lhs; rw [e2]
    rw [nI_add]
  · rw [h1]
    conv => lhs; rw [e2]
    rw [nI_add]
  · rw [h2]
    conv => lhs; rw [e2]
    rw [nI_add]
/-- a bid: from -1 to 999 -/
abbrev rb (x : Int32) : Prop := -1 ≤ x.toInt ∧ x.toInt < 1000
theorem rb_mI {x : Int32} (h : rb x) : x = mI (ix (x + 1)) ∧ ix (x + 1) ≤ 1000 := by
  have e : (x + 1).toInt = x.toInt + 1 := by
    rw [Int32.toInt_add, show (1 : Int32).toInt = 1 from by decide]
    have := h.1
    have := h.2
    exact Int.bmod_eq_of_le (by omega) (by omega)
  have hr : rg (x + 1) 1001 := ⟨by rw [e]; omega, by rw [e]; omega⟩
  have hl := rg_lt hr
  refine ⟨?_, by omega⟩
  rw [eq_i, mI_t (by omega), ix_t hr, e]
  omega
theorem t_within_b {x : Int32} {M : Mem} {P : Int32 → Mem → Prop} (h1 : rb x → P 1 M) (h0 : ¬ rb x → P 0 M) : s_X11_within M x (-1) 999 P := by
  have e : (999 : Int32).toInt = 999 := by decide
  exact ⟨fun c => h0 (fun q => by rw [lt_i, m1_t] at c; omega), fun c => ⟨fun d => h0 (fun q => by rw [lt_i, e] at d; omega), fun d => h1 (by rw [lt_i, m1_t] at c; rw [lt_i, e] at d; exact ⟨by omega, by omega⟩)⟩⟩
theorem t_in_b {x : Int32} {M : Mem} {P : Int32 → Mem → Prop} (h1 : rb x → P 1 M) (h0 : ¬ rb x → P 0 M) : s_X12_in M x (-1) 999 P := by
  have e : (999 : Int32).toInt = 999 := by decide
  exact ⟨fun c => h0 (fun q => by rw [lt_i, m1_t] at c; omega), fun c => ⟨fun d => h0 (fun q => by rw [lt_i, e] at d; omega), fun d => h1 (by rw [lt_i, m1_t] at c; rw [lt_i, e] at d; exact ⟨by omega, by omega⟩)⟩⟩
/-! bid -/
def sp_bid (S : Sg) (x1 x2 x3 : Int32) : Int32 × Sg := if rg x1 (S.1.1 1) ∧ rg x2 4 ∧ rb x3 then (noI (S.1.2.1 11 (4 * ix x1 + ix x2)), (aU S.1 11 (4 * ix x1 + ix x2) (ix (x3 + 1)), S.2)) else (-1, S)
theorem RC.bid {M : Mem} {A : Abs} (h : RC 0 M A) {d k v : Nat} (hd : d < A.1 1) (hk : k < 4) : RC 0 (wI M 26 0 (4 * d + k) (mI v)) (aU A 11 (4 * d + k) v) := by
  have e : ∀ c, c ≠ 26 → (wI M 26 0 (4 * d + k) (mI v)).1 c 0 = M.1 c 0 := fun c hc => wI_nc hc
  have u : ∀ c, c ≠ 11 → (aU A 11 (4 * d + k) v).2.1 c = A.2.1 c := fun c hc => aU_ne hc
  refine ⟨(h.1.fr (fun c hc => e c (by omega))).of (fun c hc => u c (by omega)) rfl, ?_, (h.2.2.1.fr (by rw [e 1 (by omega)]) (e 12 (by omega))).of (u 26 (by omega)) (u 12 (by omega)), (h.2.2.2.1.fr (fun c hc => e c (by omega))).of (fun c h1 h2 => u c (by omega)) rfl, (h.2.2.2.2.1.fr (fun c hc => e c (by omega))).of (fun c h1 h2 => u c (by omega)) rfl, (h.2.2.2.2.2.fr (fun c hc => e c (by omega)) (fun c hc => by funext i; exact wI_nc (by omega)) rfl).of (fun c h1 h2 => u c (by omega)) rfl rfl⟩
  refine ⟨by rw [e 3 (by omega)]; exact h.2.1.1, fun d' hd' => ?_⟩
  obtain ⟨a1, a2, a3, a4, a5⟩ := h.2.1.2 d' hd'
  rw [e 22 (by omega), e 23 (by omega), e 24 (by omega), e 25 (by omega), u 7 (by omega), u 8 (by omega), u 9 (by omega), u 10 (by omega)]
  refine ⟨a1, a2, a3, a4, fun k' hk' => ?_⟩
  rw [wI_at, aU_at]
  by_cases hq : d' = d ∧ k' = k
  · rw [if_pos (by omega), if_pos (by omega)]
  · rw [if_neg (by omega), if_neg (by omega)]; exact a5 k' hk'
theorem RM.bid {M : Mem} {A : Abs} (h : RM 44 M A) (hw : Wf A) {d k v : Nat} (hd : d < A.1 1) (hk : k < 4) : RM 44 (wI M 44 0 (80 + (4 * d + k)) (mI v)) (aU A 11 (4 * d + k) v) := by
  have hn := hw.2.1
  have u : ∀ c, c ≠ 11 → (aU A 11 (4 * d + k) v).2.1 c = A.2.1 c := fun c hc => aU_ne hc
  refine ⟨(h.1.wr hw.1 (by omega)).of (fun c hc => u c (by omega)) rfl, ?_, (h.2.2.1.wr (by omega)).of (u 26 (by omega)) (u 12 (by omega)), (h.2.2.2.1.wr (by omega)).of (fun c h1 h2 => u c (by omega)) rfl, (h.2.2.2.2.1.wr (by omega)).of (fun c h1 h2 => u c (by omega)) rfl, (h.2.2.2.2.2.wr hw.2.2.1 (by omega)).of (fun c h1 h2 => u c (by omega)) rfl⟩
  have e : ∀ j, j ≠ 80 + (4 * d + k) → (wI M 44 0 (80 + (4 * d + k)) (mI v)).1 44 0 j = M.1 44 0 j := fun j hj => by rw [wI_at, if_neg (fun q => hj q.2.2)]
  have g : ∀ c, c ≠ 44 → (wI M 44 0 (80 + (4 * d + k)) (mI v)).1 c 0 = M.1 c 0 := fun c hc => wI_nc hc
  refine ⟨by rw [e 1 (by omega)]; exact h.2.1.1, fun d' hd' => ?_⟩
  have hd2 : d' < 5 := Nat.lt_of_lt_of_le hd' hn
  have hd3 : d < 5 := Nat.lt_of_lt_of_le hd hn
  obtain ⟨a1, a2, a3, a4, a5⟩ := h.2.1.2 d' hd'
  rw [g 50 (by omega), g 51 (by omega), g 52 (by omega), u 7 (by omega), u 8 (by omega), u 9 (by omega), u 10 (by omega), e _ (by omega)]
  refine ⟨a1, a2, a3, a4, fun k' hk' => ?_⟩
  rw [wI_at, aU_at]
  by_cases hq : d' = d ∧ k' = k
  · rw [if_pos (by omega), if_pos (by omega)]
  · rw [if_neg (by omega), if_neg (by omega)]; exact a5 k' hk'
theorem noI_mI {b : Nat} (h : b < 2 ^ 31) {A B : Prop} (hA : b = 0 → A) (hB : b ≠ 0 → B) : (mI b = -1 → A) ∧ (¬ mI b = -1 → B) := by
  constructor
  · intro q; rw [eq_i, mI_t h, m1_t] at q; exact hA (by omega)
  · intro q; rw [eq_i, mI_t h, m1_t] at q; exact hB (by omega)
theorem tC_bid {M : Mem} {S : Sg} {x1 x2 x3 : Int32} {P : Int32 → Mem → Prop} (h : RCX M S) (hw : WfX S) (hp : ∀ M', sameM M M' → RCX M' (sp_bid S x1 x2 x3).2 → P (sp_bid S x1 x2 x3).1 M') : s_X11_bid M x1 x2 x3 P := by
  have hn : S.1.1 1 ≤ 5 := hw.1.2.1
  have bad : ¬ (rg x1 (S.1.1 1) ∧ rg x2 4 ∧ rb x3) → P (-1) M := fun hb => by
    have := hp M sameM.rf
    unfold sp_bid at this
    rw [if_neg hb] at this
    exact this h
  unfold s_X11_bid
  refine t_has4 h.1.2.1.1 (by omega) (fun g1 => b1 ?_) (fun g1 => b0 (bad (fun q => g1 q.1)))
  refine t_within (by decide) (n := 4) (by decide) (fun g2 => b1 ?_) (fun g2 => b0 (bad (fun q => g2 q.2.1)))
  refine t_within_b (fun g3 => c1 ?_) (fun g3 => c0 (bad (fun q => g3 q.2.2)))
  unfold sp_bid at hp
  rw [if_pos ⟨g1, g2, g3⟩] at hp
  have hs := rg_lt g1
  have hk := rg_lt g2
  have e := (ix2 (B := 0) (C := 4) (b := 0) (k := 4) g1 g2 rfl rfl (by omega) (by omega) (by omega) (by omega)).2.2
  obtain ⟨e3, l3⟩ := rb_mI g3
  have hin : vp_in (x1 * 4 + x2) 20 ∧ (x1 * 4 + x2).toNatClampNeg = 4 * ix x1 + ix x2 := by rw [e]; exact ⟨vp_in_nI (by omega) (by omega), nI_clamp (by omega)⟩
  intro x4 e4
  rw [e4]
  refine ⟨hin.1, fun x5 e5 => ⟨hin.1, fun Mm eM => ?_⟩⟩
  rw [hin.2] at e5 eM
  have hv := (h.1.2.1.2 _ hs).2.2.2.2 _ hk
  have hb : S.1.2.1 11 (4 * ix x1 + ix x2) ≤ 1000 := (hw.1.2.2.2.2.2.2.2.1 _ hs).2.2.2.2.2 _ hk
  rw [hv] at e5
  rw [e5]
  have hR : RCX Mm (aU S.1 11 (4 * ix x1 + ix x2) (ix (x3 + 1)), S.2) := by
    rw [eM]
    refine h.now1 ?_ (by unfold pK; omega)
    have := h.1.bid hs hk (v := ix (x3 + 1))
    rw [← e3] at this
    exact this
  have := hp Mm (by rw [eM]; exact sameM.wI (by unfold cK; omega)) hR
  unfold noI at this
  refine (noI_mI (by omega) (fun q => ?_) (fun q => ?_)).symm
  · rw [if_pos q] at this; exact this
  · rw [if_neg q] at this
    have e9 : mI (S.1.2.1 11 (4 * ix x1 + ix x2)) = nI (S.1.2.1 11 (4 * ix x1 + ix x2) - 1) := by
      conv => lhs; rw [show S.1.2.1 11 (4 * ix x1 + ix x2) = (S.1.2.1 11 (4 * ix x1 + ix x2) - 1) + 1 by omega]
      exact mI_s _
    rw [e9]; exact this
theorem tM_bid {M : Mem} {S : Sg} {x1 x2 x3 : Int32} {P : Int32 → Mem → Prop} (h : RMX M S) (hw : WfX S) (hp : ∀ M', sameC M M' → RMX M' (sp_bid S x1 x2 x3).2 → P (sp_bid S x1 x2 x3).1 M') : s_X12_bid M x1 x2 x3 P := by
  unfold s_X12_bid
  intro M1 e1
  have hn : S.1.1 1 ≤ 5 := hw.1.2.1
  have h1 : RMX M1 S := by rw [e1]; exact h.thrown
  replace hp : ∀ M', sameC M1 M' → RMX M' (sp_bid S x1 x2 x3).2 → P (sp_bid S x1 x2 x3).1 M' := fun M' a b => hp M' (sameC.tr (by rw [e1]; exact sC10) a) b
  have bad : ¬ (rg x1 (S.1.1 1) ∧ rg x2 4 ∧ rb x3) → P (-1) M1 := fun hb => by
    have := hp M1 sameC.rf
    unfold sp_bid at this
    rw [if_neg hb] at this
    exact this h1
  refine t_isDairy h1.1.2.1.1 (by omega) (fun g1 => b1 ?_) (fun g1 => b0 (bad (fun q => g1 q.1)))
  refine t_isShire (fun g2 => b1 ?_) (fun g2 => b0 (bad (fun q => g2 q.2.1)))
  refine t_in_b (fun g3 => c1 ?_) (fun g3 => c0 (bad (fun q => g3 q.2.2)))
  unfold sp_bid at hp
  rw [if_pos ⟨g1, g2, g3⟩] at hp
  have hs := rg_lt g1
  have hk := rg_lt g2
  have e := (ix2 (B := 80) (C := 4) (b := 80) (k := 4) g1 g2 rfl rfl (by omega) (by omega) (by omega) (by omega)).1
  obtain ⟨e3, l3⟩ := rb_mI g3
  have hin : vp_in (80 + 4 * x1 + x2) 320 ∧ (80 + 4 * x1 + x2).toNatClampNeg = 80 + (4 * ix x1 + ix x2) := by rw [e]; exact ⟨vp_in_nI (by omega) (by omega), nI_clamp (by omega)⟩
  refine ⟨hin.1, fun x5 e5 => ⟨hin.1, fun Mm eM => ?_⟩⟩
  rw [hin.2] at e5 eM
  have hv := (h1.1.2.1.2 _ hs).2.2.2.2 _ hk
  have hb : S.1.2.1 11 (4 * ix x1 + ix x2) ≤ 1000 := (hw.1.2.2.2.2.2.2.2.1 _ hs).2.2.2.2.2 _ hk
  rw [hv] at e5
  rw [e5]
  have hR : RMX Mm (aU S.1 11 (4 * ix x1 + ix x2) (ix (x3 + 1)), S.2) := by
    rw [eM]
    refine h1.now44 ?_ rfl (fun c a b => aU_ne (by omega))
    have := h1.1.bid hw.1 hs hk (v := ix (x3 + 1))
    rw [← e3] at this
    exact this
  have := hp Mm (by rw [eM]; exact sC44) hR
  unfold noI at this
  constructor
  · intro q
    rw [le_i, t0_i, mI_t (by omega)] at q
    rw [if_neg (by omega)] at this
    have e9 : mI (S.1.2.1 11 (4 * ix x1 + ix x2)) = nI (S.1.2.1 11 (4 * ix x1 + ix x2) - 1) := by
      conv => lhs; rw [show S.1.2.1 11 (4 * ix x1 + ix x2) = (S.1.2.1 11 (4 * ix x1 + ix x2) - 1) + 1 by omega]
      exact mI_s _
    rw [e9]; exact this
  · intro q
    rw [le_i, t0_i, mI_t (by omega)] at q
    rw [if_pos (by omega)] at this
    exact this
