/-! month, won, of -/
def sp_month (S : Sg) (x1 x2 x3 : Int32) : Int32 × Sg := if rg x1 12 ∧ rg x2 3 ∧ rg x3 (if x2 = 0 then 101 else if x2 = 1 then 100 else 100000) then (nI (S.1.2.1 12 (3 * ix x1 + ix x2)), (aU S.1 12 (3 * ix x1 + ix x2) (ix x3), S.2)) else (-1, S)
theorem RC.month {M : Mem} {A : Abs} (h : RC 0 M A) {d k v : Nat} (hk : k < 3) : RC 0 (wI M 12 0 (3 * d + k) (nI v)) (aU A 12 (3 * d + k) v) := by
  have e : ∀ c, c ≠ 12 → (wI M 12 0 (3 * d + k) (nI v)).1 c 0 = M.1 c 0 := fun c hc => wI_nc hc
  have u : ∀ c, c ≠ 12 → (aU A 12 (3 * d + k) v).2.1 c = A.2.1 c := fun c hc => aU_ne hc
  refine ⟨(h.1.fr (fun c hc => e c (by omega))).of (fun c hc => u c (by omega)) rfl, (h.2.1.fr (fun c hc => e c (by omega))).of (fun c h1 h2 => u c (by omega)) rfl, ?_, (h.2.2.2.1.fr (fun c hc => e c (by omega))).of (fun c h1 h2 => u c (by omega)) rfl, (h.2.2.2.2.1.fr (fun c hc => e c (by omega))).of (fun c h1 h2 => u c (by omega)) rfl, (h.2.2.2.2.2.fr (fun c hc => e c (by omega)) (fun c hc => by funext i; exact wI_nc (by omega)) rfl).of (fun c h1 h2 => u c (by omega)) rfl rfl⟩
  refine ⟨by rw [e 1 (by omega), u 26 (by omega)]; exact h.2.2.1.1, fun d' k' hd' hk' => ?_⟩
  rw [wI_at, aU_at]
  by_cases hq : d' = d ∧ k' = k
  · rw [if_pos (by omega), if_pos (by omega)]
  · rw [if_neg (by omega), if_neg (by omega)]; exact h.2.2.1.2 d' k' hd' hk'
theorem RM.month {M : Mem} {A : Abs} (h : RM 44 M A) (hw : Wf A) {d k v : Nat} (hd : d < 12) (hk : k < 3) : RM 44 (wI M 44 0 (100 + 20 * k + d) (nI v)) (aU A 12 (3 * d + k) v) := by
  have u : ∀ c, c ≠ 12 → (aU A 12 (3 * d + k) v).2.1 c = A.2.1 c := fun c hc => aU_ne hc
  refine ⟨(h.1.wr hw.1 (by omega)).of (fun c hc => u c (by omega)) rfl, (h.2.1.wr hw.2.1 (by omega)).of (fun c h1 h2 => u c (by omega)) rfl, ?_, (h.2.2.2.1.wr (by omega)).of (fun c h1 h2 => u c (by omega)) rfl, (h.2.2.2.2.1.wr (by omega)).of (fun c h1 h2 => u c (by omega)) rfl, (h.2.2.2.2.2.wr hw.2.2.1 (by omega)).of (fun c h1 h2 => u c (by omega)) rfl⟩
  have e : ∀ j, j ≠ 100 + 20 * k + d → (wI M 44 0 (100 + 20 * k + d) (nI v)).1 44 0 j = M.1 44 0 j := fun j hj => by rw [wI_at, if_neg (fun q => hj q.2.2)]
  refine ⟨by rw [e 3 (by omega), u 26 (by omega)]; exact h.2.2.1.1, fun d' k' hd' hk' => ?_⟩
  rw [wI_at, aU_at]
  by_cases hq : d' = d ∧ k' = k
  · rw [if_pos (by omega), if_pos (by omega)]
  · rw [if_neg (by omega), if_neg (by omega)]; exact h.2.2.1.2 d' k' hd' hk'
/-- a number below 3 is 0, 1 or 2 -/
theorem rg3 {x : Int32} (h : rg x 3) : (x = 0 ∧ ix x = 0) ∨ (x = 1 ∧ ix x = 1) ∨ (¬ x = 0 ∧ ¬ x = 1 ∧ ix x = 2) := by
  have e := rg_nI h (by omega)
  have l := rg_lt h
  rcases (show ix x = 0 ∨ ix x = 1 ∨ ix x = 2 by omega) with q | q | q
  · rw [q] at e; exact Or.inl ⟨e, q⟩
  · rw [q] at e; exact Or.inr (Or.inl ⟨e, q⟩)
  · rw [q] at e; exact Or.inr (Or.inr ⟨by rw [e]; decide, by rw [e]; decide, q⟩)
theorem tC_month {M : Mem} {S : Sg} {x1 x2 x3 : Int32} {P : Int32 → Mem → Prop} (h : RCX M S) (hp : ∀ M', sameM M M' → RCX M' (sp_month S x1 x2 x3).2 → P (sp_month S x1 x2 x3).1 M') : s_X11_month M x1 x2 x3 P := by
  have core : ∀ (y : Int32) (n : Nat), y.toInt + 1 = n → n = (if x2 = 0 then 101 else if x2 = 1 then 100 else 100000) → n ≤ 100000 → s_X11_month_21 x1 x2 x3 P M y := by
    intro y n hy hn hn3
    have bad : ¬ (rg x1 12 ∧ rg x2 3 ∧ rg x3 n) → P (-1) M := fun hb => by
      have := hp M sameM.rf
      unfold sp_month at this
      rw [← hn, if_neg hb] at this
      exact this h
    unfold s_X11_month_21
    refine t_within (by decide) (n := 12) (by decide) (fun g1 => b1 ?_) (fun g1 => b0 (bad (fun q => g1 q.1)))
    refine t_within (by decide) (n := 3) (by decide) (fun g2 => b1 ?_) (fun g2 => b0 (bad (fun q => g2 q.2.1)))
    refine t_within (by decide) hy (fun g3 => c1 ?_) (fun g3 => c0 (bad (fun q => g3 q.2.2)))
    unfold sp_month at hp
    rw [← hn, if_pos ⟨g1, g2, g3⟩] at hp
    have hs := rg_lt g1
    have hk := rg_lt g2
    have e := (ix2 (B := 0) (C := 3) (b := 0) (k := 3) g1 g2 rfl rfl (by omega) (by omega) (by omega) (by omega)).2.2
    have hin : vp_in (x1 * 3 + x2) 36 ∧ (x1 * 3 + x2).toNatClampNeg = 3 * ix x1 + ix x2 := by rw [e]; exact ⟨vp_in_nI (by omega) (by omega), nI_clamp (by omega)⟩
    intro x5 e5
    rw [e5]
    refine ⟨hin.1, fun x6 e6 => ⟨hin.1, fun Mm eM => ?_⟩⟩
    rw [hin.2] at e6 eM
    rw [h.1.2.2.1.2 _ _ hs hk] at e6
    rw [e6]
    refine hp Mm (by rw [eM]; exact sameM.wI (by unfold cK; omega)) ?_
    rw [eM]
    refine h.now1 ?_ (by unfold pK; omega)
    have := h.1.month hk (d := ix x1) (v := ix x3)
    rw [← rg_nI g3 (by omega)] at this
    exact this
  unfold s_X11_month
  refine ⟨fun z0 => ⟨fun z1 => core 99999 100000 (by decide) (by rw [if_neg z0, if_neg z1]) (by omega), fun z1 => core 99 100 (by decide) (by rw [if_neg z0, if_pos z1]) (by omega)⟩, fun z0 => core 100 101 (by decide) (by rw [if_pos z0]) (by omega)⟩
theorem tM_month {M : Mem} {S : Sg} {x1 x2 x3 : Int32} {P : Int32 → Mem → Prop} (h : RMX M S) (hw : WfX S) (hp : ∀ M', sameC M M' → RMX M' (sp_month S x1 x2 x3).2 → P (sp_month S x1 x2 x3).1 M') : s_X12_month M x1 x2 x3 P := by
  unfold s_X12_month
  intro M1 e1
  have h1 : RMX M1 S := by rw [e1]; exact h.thrown
  replace hp : ∀ M', sameC M1 M' → RMX M' (sp_month S x1 x2 x3).2 → P (sp_month S x1 x2 x3).1 M' := fun M' a b => hp M' (sameC.tr (by rw [e1]; exact sC10) a) b
  have bad : ¬ (rg x1 12 ∧ rg x2 3 ∧ rg x3 (if x2 = 0 then 101 else if x2 = 1 then 100 else 100000)) → P (-1) M1 := fun hb => by
    have := hp M1 sameC.rf
    unfold sp_month at this
    rw [if_neg hb] at this
    exact this h1
  refine t_in (by decide) (n := 12) (by decide) (fun g1 => b1 ?_) (fun g1 => b0 (bad (fun q => g1 q.1)))
  refine t_in (by decide) (n := 3) (by decide) (fun g2 => b1 ?_) (fun g2 => b0 (bad (fun q => g2 q.2.1)))
  have hs := rg_lt g1
  have hk := rg_lt g2
  have core : ∀ (y : Int32) (n : Nat), y.toInt + 1 = n → n = (if x2 = 0 then 101 else if x2 = 1 then 100 else 100000) → n ≤ 100000 → s_X12_month_47 x1 x2 x3 P M1 y 0 x3 := by
    intro y n hy hn hn3
    unfold s_X12_month_47
    refine t_in (by decide) hy (fun g3 => c1 ?_) (fun g3 => c0 (bad (fun q => g3 (hn ▸ q.2.2))))
    unfold sp_month at hp
    rw [← hn, if_pos ⟨g1, g2, g3⟩] at hp
    have leaf : ∀ (k : Nat) (B : Int32), k < 3 → ix x2 = k → B = nI (100 + 20 * k) → s_X12_month_77 x1 x3 P M1 B := by
      intro k B hk hk2 hB
      obtain ⟨i1, i2⟩ := ixp (b := 100 + 20 * k) (B := B) (k := 320) g1 hB (by omega) (by omega)
      unfold s_X12_month_77
      intro x4 e4
      rw [e4]
      refine ⟨i1, fun x5 e5 => ⟨i1, fun Mm eM => ?_⟩⟩
      rw [i2] at e5 eM
      rw [h1.1.2.2.1.2 _ _ hs hk] at e5
      rw [hk2] at hp
      rw [e5]
      refine hp Mm (by rw [eM]; exact sC44) ?_
      rw [eM]
      refine h1.now44 ?_ rfl (fun c a b => aU_ne (by omega))
      have := h1.1.month hw.1 hs hk (v := ix x3)
      rw [← rg_nI g3 (by omega)] at this
      exact this
    rcases rg3 g2 with ⟨q, q2⟩ | ⟨q, q2⟩ | ⟨q, q1, q2⟩
    · exact ⟨fun z => absurd q z, fun _ => leaf 0 100 (by omega) q2 rfl⟩
    · exact ⟨fun _ => ⟨fun z => absurd q z, fun _ => leaf 1 120 (by omega) q2 rfl⟩, fun z => by rw [q] at z; exact absurd z (by decide)⟩
    · exact ⟨fun _ => ⟨fun _ => leaf 2 140 (by omega) q2 rfl, fun z => absurd z q1⟩, fun z => absurd z q⟩
  refine ⟨fun z0 => ⟨fun z1 => core 99999 100000 (by decide) (by rw [if_neg z0, if_neg z1]) (by omega), fun z1 => core 99 100 (by decide) (by rw [if_neg z0, if_pos z1]) (by omega)⟩, fun z0 => core 100 101 (by decide) (by rw [if_pos z0]) (by omega)⟩
/-! of -/
def sp_of (S : Sg) (x1 x2 : Int32) : Int32 := if rg x1 (S.1.1 0) ∧ rg x2 11 then nI (S.1.2.1 6 (11 * ix x1 + ix x2)) else -1
theorem tC_of {M : Mem} {S : Sg} {x1 x2 : Int32} {P : Int32 → Mem → Prop} (h : RCX M S) (hw : WfX S) (hp : P (sp_of S x1 x2) M) : s_X11_of M x1 x2 P := by
  unfold s_X11_of
  have hn : S.1.1 0 ≤ 12 := hw.1.1
  unfold sp_of at hp
  refine t_has8 h.1.1.1 (by omega) (fun g1 => b1 ?_) (fun g1 => b0 (by rw [if_neg (fun q => g1 q.1)] at hp; exact hp))
  refine t_within (by decide) (n := 11) (by decide) (fun g2 => c1 ?_) (fun g2 => c0 (by rw [if_neg (fun q => g2 q.2)] at hp; exact hp))
  rw [if_pos ⟨g1, g2⟩] at hp
  have hs := rg_lt g1
  have hk := rg_lt g2
  have e := (ix2 (B := 0) (C := 11) (b := 0) (k := 11) g1 g2 rfl rfl (by omega) (by omega) (by omega) (by omega)).2.2
  have hs12 : ix x1 < 12 := Nat.lt_of_lt_of_le hs hn
  rw [e]
  refine ⟨vp_in_nI (by omega) (by omega), ?_⟩
  rw [nI_clamp (by omega), (h.1.1.2.1 _ hs).2.2.2.2.2.2 _ hk]
  exact hp
theorem tM_of {M : Mem} {S : Sg} {x1 x2 : Int32} {P : Int32 → Mem → Prop} (h : RMX M S) (hw : WfX S) (hp : ∀ M', sameC M M' → RMX M' S → P (sp_of S x1 x2) M') : s_X12_of M x1 x2 P := by
  unfold s_X12_of
  intro M1 e1
  have hn : S.1.1 0 ≤ 12 := hw.1.1
  have h1 : RMX M1 S := by rw [e1]; exact h.thrown
  replace hp := hp M1 (by rw [e1]; exact sC10) h1
  unfold sp_of at hp
  refine t_isSchool h1.1.1.1 (by omega) (fun g1 => b1 ?_) (fun g1 => b0 (by rw [if_neg (fun q => g1 q.1)] at hp; exact hp))
  refine t_in (by decide) (n := 11) (by decide) (fun g2 => b1 ?_) (fun g2 => b0 (by rw [if_neg (fun q => g2 q.2)] at hp; exact hp))
  rw [if_pos ⟨g1, g2⟩] at hp
  have hs := rg_lt g1
  have hk := rg_lt g2
  have e := (ix2 (B := 180) (C := 11) (b := 180) (k := 11) g1 g2 rfl rfl (by omega) (by omega) (by omega) (by omega)).1
  have hs12 : ix x1 < 12 := Nat.lt_of_lt_of_le hs hn
  rw [e]
  refine ⟨vp_in_nI (by omega) (by omega), ?_⟩
  rw [nI_clamp (by omega), (h1.1.1.2 _ hs).2.2.2.2.2.2 _ hk]
  exact hp
/-! won: the first of the least bids for a shire (1 more; 0: no bid) -/
def wn (A : Abs) (sh : Nat) : Nat → Nat
  | 0 => 0
  | d + 1 => if A.2.1 11 (4 * d + sh) ≠ 0 ∧ (wn A sh d = 0 ∨ A.2.1 11 (4 * d + sh) < A.2.1 11 (4 * (wn A sh d - 1) + sh)) then d + 1 else wn A sh d
theorem wn_le {A : Abs} {sh d : Nat} : wn A sh d ≤ d := by
  induction d with
  | zero => exact Nat.le_refl _
  | succ d ih => unfold wn; split <;> omega
theorem wn_nz {A : Abs} {sh d : Nat} : wn A sh d ≠ 0 → A.2.1 11 (4 * (wn A sh d - 1) + sh) ≠ 0 := by
  induction d with
  | zero => intro h; exact absurd rfl h
  | succ d ih =>
    unfold wn
    split
    · rename_i q; intro _; exact q.1
    · exact ih
theorem wn_s {A : Abs} {sh d : Nat} : wn A sh (d + 1) = if A.2.1 11 (4 * d + sh) ≠ 0 ∧ (wn A sh d = 0 ∨ A.2.1 11 (4 * d + sh) < A.2.1 11 (4 * (wn A sh d - 1) + sh)) then d + 1 else wn A sh d := rfl
/-- what the loop keeps: the least bid so far -/
def wnB (A : Abs) (sh d : Nat) : Int32 := if wn A sh d = 0 then 0 else mI (A.2.1 11 (4 * (wn A sh d - 1) + sh))
def bidsOK (A : Abs) : Prop := ∀ d, d < A.1 1 → ∀ k, k < 4 → A.2.1 11 (4 * d + k) ≤ 1000
theorem Wf.bids {A : Abs} (h : Wf A) : bidsOK A := fun d hd k hk => (h.2.2.2.2.2.2.2.1 d hd).2.2.2.2.2 k hk
theorem tC_winner {w : Nat} {M : Mem} {A : Abs} {sh : Nat} {P : Int32 → Mem → Prop} (h : RCd w M A) (hn : A.1 1 ≤ 5) (hb : bidsOK A) (hs : sh < 4) (hp : P (mI (wn A sh (A.1 1))) M) : s_X4_winner w M (nI sh) P := by
  unfold s_X4_winner
  refine Lz_rule (fun a => ∃ d, d ≤ A.1 1 ∧ a = (M, mI (wn A sh d), wnB A sh d, nI d)) (fun a => 5 - a.2.2.2.toNatClampNeg) ?_ ⟨0, Nat.zero_le _, by rw [show wn A sh 0 = 0 from rfl, mI_0, show wnB A sh 0 = 0 from rfl]; rfl⟩
  rintro K a ⟨d, hd, rfl⟩ hK
  show s_X4_winner_7 w (nI sh) P K M (mI (wn A sh d)) (wnB A sh d) (nI d)
  unfold s_X4_winner_7
  rw [h.1]
  refine ⟨fun q => ?_, fun q => ?_⟩
  · rw [nI_leI (by omega) (by omega)] at q
    rw [show d = A.1 1 by omega]
    exact hp
  rw [nI_leI (by omega) (by omega)] at q
  have hd2 : d < A.1 1 := by omega
  have hd5 : d < 5 := by omega
  have e4 : nI d * 4 + nI sh = nI (4 * d + sh) := by rw [show (4 : Int32) = nI 4 from rfl, pk_mul, nI_add, Nat.mul_comm]
  rw [e4]
  refine ⟨vp_in_nI (by omega) (by omega), ?_⟩
  rw [nI_clamp (by omega), (h.2 d hd2).2.2.2.2 sh hs]
  intro x5 e5
  have hbd := hb d hd2 sh hs
  have step : wn A sh (d + 1) = wn A sh d ∨ wn A sh (d + 1) = d + 1 := by rw [wn_s]; split <;> simp
  have out : ∀ y z, y = mI (wn A sh (d + 1)) → z = wnB A sh (d + 1) → ∀ x4 : Int32, x4 = nI d + 1 → K (M, y, z, x4) := by
    intro y z ey ez x4 e4
    rw [ey, ez, e4, nI_1]
    refine hK _ ⟨d + 1, by omega, rfl⟩ ?_
    show 5 - (nI (d + 1)).toNatClampNeg < 5 - (nI d).toNatClampNeg
    rw [nI_clamp (by omega), nI_clamp (by omega)]
    omega
  have keep : wn A sh (d + 1) = wn A sh d → ∀ x4 : Int32, x4 = nI d + 1 → K (M, mI (wn A sh d), wnB A sh d, x4) := fun e => out _ _ (by rw [e]) (by unfold wnB; rw [e])
  have take : wn A sh (d + 1) = d + 1 → s_X4_winner_45 w (nI sh) P K M (nI d) x5 := by
    intro e
    unfold s_X4_winner_45
    exact out _ _ (by rw [e, mI_s]) (by unfold wnB; rw [e, if_neg (by omega), e5]; simp)
  have hwl : wn A sh d ≤ d := wn_le
  constructor
  · intro z
    rw [e5, eq_i, mI_t (by omega), m1_t] at z
    exact keep (by rw [wn_s, if_neg (fun q => q.1 (by omega))])
  · intro z
    rw [e5, eq_i, mI_t (by omega), m1_t] at z
    constructor
    · intro z1
      rw [mI_neg (by omega)] at z1
      exact take (by rw [wn_s, if_pos ⟨by omega, Or.inl z1⟩])
    · intro z1
      rw [mI_neg (by omega)] at z1
      have hbw := hb (wn A sh d - 1) (by omega) sh hs
      have eB : wnB A sh d = mI (A.2.1 11 (4 * (wn A sh d - 1) + sh)) := if_neg z1
      have hnz := wn_nz (A := A) (sh := sh) (d := d) z1
      constructor
      · intro z2
        rw [eB, e5, le_i, mI_t (by omega), mI_t (by omega)] at z2
        exact keep (by rw [wn_s, if_neg (fun q => by omega)])
      · intro z2
        rw [eB, e5, le_i, mI_t (by omega), mI_t (by omega)] at z2
        exact take (by rw [wn_s, if_pos ⟨by omega, Or.inr (by omega)⟩])
theorem noI_t {b : Nat} (h : b < 2 ^ 31) : (noI b).toInt = if b = 0 then -4 else (b : Int) - 1 := by
  unfold noI
  split
  · decide
  · rw [nI_toInt (by omega)]; omega
theorem tM_wonBy {M : Mem} {A : Abs} {sh : Nat} {P : Int32 → Mem → Prop} (h : RMd 44 M A) (hn : A.1 1 ≤ 5) (hb : bidsOK A) (hs : sh < 4) (hp : P (noI (wn A sh (A.1 1))) M) : s_X12_wonBy M (nI sh) P := by
  unfold s_X12_wonBy
  refine Lz_rule (fun a => ∃ d, d ≤ A.1 1 ∧ a = (M, noI (wn A sh d), nI d)) (fun a => 5 - a.2.2.toNatClampNeg) ?_ ⟨0, Nat.zero_le _, rfl⟩
  rintro K a ⟨d, hd, rfl⟩ hK
  show s_X12_wonBy_5 (nI sh) P K M (noI (wn A sh d)) (nI d)
  unfold s_X12_wonBy_5
  rw [h.1]
  refine ⟨fun q => ?_, fun q => ?_⟩
  · rw [nI_leI (by omega) (by omega)] at q
    rw [show d = A.1 1 by omega]
    exact hp
  rw [nI_leI (by omega) (by omega)] at q
  have hd2 : d < A.1 1 := by omega
  have hd5 : d < 5 := by omega
  have ad : ∀ d, 80 + 4 * nI d + nI sh = nI (80 + (4 * d + sh)) := fun d => by
    show nI 80 + nI 4 * nI d + nI sh = _
    rw [pk_mul, nI_add, nI_add, Nat.add_assoc]
  rw [ad]
  refine ⟨vp_in_nI (by omega) (by omega), ?_⟩
  rw [nI_clamp (by omega), (h.2 d hd2).2.2.2.2 sh hs]
  intro x5 e5
  have hbd := hb d hd2 sh hs
  have out : ∀ y, y = noI (wn A sh (d + 1)) → s_X12_wonBy_62 (nI sh) P K M (nI d) y := by
    intro y ey x4 e4
    rw [ey, e4, nI_1]
    refine hK _ ⟨d + 1, by omega, rfl⟩ ?_
    show 5 - (nI (d + 1)).toNatClampNeg < 5 - (nI d).toNatClampNeg
    rw [nI_clamp (by omega), nI_clamp (by omega)]
    omega
  have keep : wn A sh (d + 1) = wn A sh d → s_X12_wonBy_62 (nI sh) P K M (nI d) (noI (wn A sh d)) := fun e => out _ (by rw [e])
  have take : wn A sh (d + 1) = d + 1 → s_X12_wonBy_62 (nI sh) P K M (nI d) (nI d) := fun e => out _ (by rw [e]; unfold noI; rw [if_neg (by omega)]; rfl)
  have hwl : wn A sh d ≤ d := wn_le
  constructor
  · intro z
    rw [e5, mI_neg (by omega)] at z
    exact keep (by rw [wn_s, if_neg (fun q => q.1 z)])
  · intro z
    rw [e5, mI_neg (by omega)] at z
    constructor
    · intro z1
      rw [lt_i, t0_i, noI_t (by omega)] at z1
      refine take (by rw [wn_s, if_pos ⟨z, Or.inl ?_⟩])
      split at z1 <;> omega
    · intro z1
      rw [lt_i, t0_i, noI_t (by omega)] at z1
      have z3 : wn A sh d ≠ 0 := fun q => by rw [if_pos q] at z1; omega
      have hbw := hb (wn A sh d - 1) (by omega) sh hs
      have hnz := wn_nz (A := A) (sh := sh) (d := d) z3
      have eN : noI (wn A sh d) = nI (wn A sh d - 1) := if_neg z3
      rw [eN, ad]
      refine ⟨vp_in_nI (by omega) (by omega), ?_⟩
      rw [nI_clamp (by omega), (h.2 _ (show wn A sh d - 1 < A.1 1 by omega)).2.2.2.2 sh hs]
      constructor
      · intro z2
        rw [e5, le_i, mI_t (by omega), mI_t (by omega)] at z2
        rw [← eN]
        exact keep (by rw [wn_s, if_neg (fun q => by omega)])
      · intro z2
        rw [e5, le_i, mI_t (by omega), mI_t (by omega)] at z2
        exact take (by rw [wn_s, if_pos ⟨z, Or.inr (by omega)⟩])
def sp_won (S : Sg) (x : Int32) : Int32 := if rg x 4 then noI (wn S.1 (ix x) (S.1.1 1)) else -1
theorem tC_won {M : Mem} {S : Sg} {x : Int32} {P : Int32 → Mem → Prop} (h : RCX M S) (hw : WfX S) (hp : P (sp_won S x) M) : s_X11_won M x P := by
  unfold s_X11_won
  unfold sp_won at hp
  refine t_within (by decide) (n := 4) (by decide) (fun g1 => c1 ?_) (fun g1 => c0 (by rw [if_neg g1] at hp; exact hp))
  rw [if_pos g1] at hp
  have hn := hw.1.2.1
  conv => arg 3; rw [rg_nI g1 (by omega)]
  refine tC_winner h.1.2.1 hn hw.1.bids (rg_lt g1) ?_
  have hl : wn S.1 (ix x) (S.1.1 1) ≤ S.1.1 1 := wn_le
  unfold noI at hp
  constructor
  · intro q
    rw [le_i, t0_i, mI_t (by omega)] at q
    rw [if_neg (by omega)] at hp
    have e9 : mI (wn S.1 (ix x) (S.1.1 1)) = nI (wn S.1 (ix x) (S.1.1 1) - 1) := by
      conv => lhs; rw [show wn S.1 (ix x) (S.1.1 1) = (wn S.1 (ix x) (S.1.1 1) - 1) + 1 by omega]
      exact mI_s _
    rw [e9]; exact hp
  · intro q
    rw [le_i, t0_i, mI_t (by omega)] at q
    rw [if_pos (by omega)] at hp
    exact hp
theorem tM_won {M : Mem} {S : Sg} {x : Int32} {P : Int32 → Mem → Prop} (h : RMX M S) (hw : WfX S) (hp : ∀ M', sameC M M' → RMX M' S → P (sp_won S x) M') : s_X12_won M x P := by
  unfold s_X12_won
  intro M1 e1
  have h1 : RMX M1 S := by rw [e1]; exact h.thrown
  replace hp := hp M1 (by rw [e1]; exact sC10) h1
  unfold sp_won at hp
  refine t_isShire (fun g1 => b1 ?_) (fun g1 => b0 (by rw [if_neg g1] at hp; exact hp))
  rw [if_pos g1] at hp
  conv => arg 2; rw [rg_nI g1 (by omega)]
  exact tM_wonBy h1.1.2.1 hw.1.2.1 hw.1.bids (rg_lt g1) hp
