/-! force, the call -/
theorem t_isCase {M : Mem} {n : Nat} {x1 x2 x3 x4 : Int32} {P : Int32 → Mem → Prop} (hc : M.1 2 0 0 = nI n) (hn : n < 2 ^ 31) (h1 : rg x1 3 → rg x2 n → rg x3 3 → rg x4 401 → P 1 M) (h0 : ¬ (rg x1 3 ∧ rg x2 n ∧ rg x3 3 ∧ rg x4 401) → P 0 M) : s_X11_isCase M x1 x2 x3 x4 P := by
  unfold s_X11_isCase
  refine t_within (by decide) (n := 3) (by decide) (fun g1 => b1 ?_) (fun g1 => b0 (h0 (fun q => g1 q.1)))
  refine t_has8 hc hn (fun g2 => b1 ?_) (fun g2 => b0 (h0 (fun q => g2 q.2.1)))
  refine t_within (by decide) (n := 3) (by decide) (fun g3 => b1 ?_) (fun g3 => b0 (h0 (fun q => g3 q.2.2.1)))
  exact t_within (by decide) (n := 401) (by decide) (fun g4 => b1 (h1 g1 g2 g3 g4)) (fun g4 => b0 (h0 (fun q => g4 q.2.2.2)))
theorem mI_noI {b : Nat} {M : Mem} {P : Int32 → Mem → Prop} (hb : b < 2 ^ 31) (hp : P (noI b) M) : (0 ≤ mI b → P (mI b) M) ∧ (¬ 0 ≤ mI b → P (-4) M) := by
  unfold noI at hp
  constructor
  · intro q
    rw [le_i, t0_i, mI_t (by omega)] at q
    rw [if_neg (by omega)] at hp
    have e9 : mI b = nI (b - 1) := by
      conv => lhs; rw [show b = (b - 1) + 1 by omega]
      exact mI_s _
    rw [e9]; exact hp
  · intro q
    rw [le_i, t0_i, mI_t (by omega)] at q
    rw [if_pos (by omega)] at hp
    exact hp
def sp_force (S : Sg) (x1 x2 x3 : Int32) : Int32 := if rg x1 3 ∧ rg x2 (S.1.1 0) ∧ rg x3 401 then noI (frN S.1 (ix x1) (S.1.2.1 0 (ix x2)) (ix x3) (S.1.1 2)) else -1
theorem Wf.shire {A : Abs} (h : Wf A) {s : Nat} (hs : s < A.1 0) : A.2.1 0 s < 4 := (h.2.2.2.2.2.2.1 s hs).1
theorem tC_force {M : Mem} {S : Sg} {x1 x2 x3 : Int32} {P : Int32 → Mem → Prop} (h : RCX M S) (hw : WfX S) (hp : P (sp_force S x1 x2 x3) M) : s_X11_force M x1 x2 x3 P := by
  unfold s_X11_force
  unfold sp_force at hp
  have hn := hw.1.1
  have n16 := hw.1.2.2.1
  have r0 : rg (0 : Int32) 3 := ⟨by decide, by decide⟩
  refine t_isCase h.1.1.1 (by omega) (fun g1 g2 _ g3 => c1 ⟨rg_in ⟨g2.1, by have := g2.2; omega⟩, ?_⟩) (fun g => c0 (by rw [if_neg (fun q => g ⟨q.1, q.2.1, r0, q.2.2⟩)] at hp; exact hp))
  rw [if_pos ⟨g1, g2, g3⟩] at hp
  have l2 := rg_lt g2
  have l3 := rg_lt g3
  rw [(h.1.1.2.1 _ l2).1]
  conv => arg 3; rw [rg_nI g1 (by omega)]
  conv => arg 5; rw [rg_nI g3 (by omega)]
  refine tC_inForce h.1.2.2.2.2.2 hw.1.acts (rg_lt g1) (hw.1.shire l2) (by omega) ?_
  have hl : frN S.1 (ix x1) (S.1.2.1 0 (ix x2)) (ix x3) (S.1.1 2) ≤ S.1.1 2 := frN_le
  exact mI_noI (by omega) hp
/-- a call of the reference that wrote only its forces -/
theorem RMX.f66 {M M' : Mem} {S : Sg} (h : RMX M S) (e : ∀ c, c ≠ 66 → c ≠ 10 → M'.1 c = M.1 c) (e10 : ∀ i j, ¬ (i = 0 ∧ j = 37) → M'.1 10 i j = M.1 10 i j) (eo : M'.2 = M.2) (hf : RMf M' S.1) : RMX M' S :=
  h.now (A := S.1) (h.1.fr (fun c hc => by rw [e c (by omega) (by omega)])) hf (fun B _ hB => hB.fr (fun c hc => by rw [e c (by omega) (by omega)])) (e10 0 4 (by omega)) (e10 0 22 (by omega)) (fun c a b => by rw [e c (by omega) (by omega)]) (by rw [eo])
theorem sameC.f66 {M M' : Mem} (e : ∀ c, c ≠ 66 → c ≠ 10 → M'.1 c = M.1 c) (eo : M'.2 = M.2) : sameC M M' := ⟨fun c hc => e c (by unfold cK at hc; omega) (by unfold cK at hc; omega), fun c _ => by rw [eo], by rw [eo]⟩
theorem tM_force {M : Mem} {S : Sg} {x1 x2 x3 : Int32} {P : Int32 → Mem → Prop} (h : RMX M S) (hw : WfX S) (hl : letOK S.1) (hp : ∀ M', sameC M M' → RMX M' S → P (sp_force S x1 x2 x3) M') : s_X12_force M x1 x2 x3 P := by
  unfold s_X12_force
  intro M1 e1
  have h1 : RMX M1 S := by rw [e1]; exact h.thrown
  replace hp : ∀ M', sameC M1 M' → RMX M' S → P (sp_force S x1 x2 x3) M' := fun M' a b => hp M' (sameC.tr (by rw [e1]; exact sC10) a) b
  unfold sp_force at hp
  have hn := hw.1.1
  have n16 := hw.1.2.2.1
  have bad : ¬ (rg x1 3 ∧ rg x2 (S.1.1 0) ∧ rg x3 401) → P (-1) M1 := fun hb => by
    have := hp M1 sameC.rf h1
    rw [if_neg hb] at this; exact this
  refine t_in (by decide) (n := 3) (by decide) (fun g1 => b1 ?_) (fun g1 => b0 (bad (fun q => g1 q.1)))
  refine t_isSchool h1.1.1.1 (by omega) (fun g2 => b1 ?_) (fun g2 => b0 (bad (fun q => g2 q.2.1)))
  refine t_isDay (fun g3 => b1 ?_) (fun g3 => b0 (bad (fun q => g3 q.2.2)))
  rw [if_pos ⟨g1, g2, g3⟩] at hp
  have l2 := rg_lt g2
  have l3 := rg_lt g3
  conv => arg 2; rw [rg_nI g1 (by omega)]
  conv => arg 3; rw [rg_nI g2 (by omega)]
  conv => arg 4; rw [rg_nI g3 (by omega)]
  exact tM_forceOf h1.1.2.2.2.2.2 h1.1.1 h1.2.2.2.1 hw.1.acts hl (rg_lt g1) l2 hn (hw.1.shire l2) (by omega) (fun M' a b c d => hp M' (sameC.f66 a c) (h1.f66 a b c d))
/-! byHowMuch -/
def tm (A : Abs) (k : Nat) : Int32 := nI (hs3 A (A.2.1 23 k) (A.2.1 24 k)) - nI (A.2.1 25 k)
def bh (A : Abs) (sh : Nat) : Nat → Int32 × Int32 × Int32 × Int32
  | 0 => (0, 0, 0, 0)
  | k + 1 => if A.2.1 0 (A.2.1 23 k) = sh then ((bh A sh k).1 + 1, (bh A sh k).2.1 + tm A k, (if (bh A sh k).1 = 0 then tm A k else if tm A k < (bh A sh k).2.2.1 then tm A k else (bh A sh k).2.2.1), (if (bh A sh k).1 = 0 then tm A k else if (bh A sh k).2.2.2 < tm A k then tm A k else (bh A sh k).2.2.2)) else bh A sh k
def sp_byHowMuch (S : Sg) (x1 x2 : Int32) : Int32 := if rg x1 4 ∧ rg x2 3 then (if (bh S.1 (ix x1) (S.1.1 3)).1 = 0 then -1000000004 else if x2 = 0 then (bh S.1 (ix x1) (S.1.1 3)).2.1 else if x2 = 1 then (bh S.1 (ix x1) (S.1.1 3)).2.2.1 else (bh S.1 (ix x1) (S.1.1 3)).2.2.2) else -1000000001
theorem Wf.look {A : Abs} (h : Wf A) {k : Nat} (hk : k < A.1 3) : A.2.1 23 k < A.1 0 ∧ A.2.1 24 k ≤ 400 ∧ A.2.1 25 k ≤ 999 := h.2.2.2.2.2.2.2.2.2.2.2 k hk
theorem tC_byHowMuch {M : Mem} {S : Sg} {x1 x2 : Int32} {P : Int32 → Mem → Prop} (h : RCX M S) (hw : WfX S) (hp : P (sp_byHowMuch S x1 x2) M) : s_X11_byHowMuch M x1 x2 P := by
  unfold s_X11_byHowMuch
  unfold sp_byHowMuch at hp
  have hn := hw.1.1
  have n30 : S.1.1 3 ≤ 30 := hw.1.2.2.2.1
  refine t_within (by decide) (n := 4) (by decide) (fun g1 => b1 ?_) (fun g1 => b0 (by rw [if_neg (fun q => g1 q.1)] at hp; exact hp))
  refine t_within (by decide) (n := 3) (by decide) (fun g2 => c1 ?_) (fun g2 => c0 (by rw [if_neg (fun q => g2 q.2)] at hp; exact hp))
  rw [if_pos ⟨g1, g2⟩] at hp
  have l1 := rg_lt g1
  refine Lz_rule (fun a => ∃ k, k ≤ S.1.1 3 ∧ a = (M, (bh S.1 (ix x1) k).1, (bh S.1 (ix x1) k).2.1, (bh S.1 (ix x1) k).2.2.1, (bh S.1 (ix x1) k).2.2.2, nI k)) (fun a => 30 - a.2.2.2.2.2.toNatClampNeg) ?_ ⟨0, Nat.zero_le _, rfl⟩
  rintro K a ⟨k, hk, rfl⟩ hK
  show s_X11_byHowMuch_35 x1 x2 P K M (bh S.1 (ix x1) k).1 (bh S.1 (ix x1) k).2.1 (bh S.1 (ix x1) k).2.2.1 (bh S.1 (ix x1) k).2.2.2 (nI k)
  unfold s_X11_byHowMuch_35
  rw [h.1.2.2.2.2.1.1, nI_leI (by omega) (by omega)]
  refine ⟨fun q => ?_, fun q => ?_⟩
  · rw [show S.1.1 3 = k by omega] at hp
    refine ⟨fun z => ⟨fun z0 => ⟨fun z1 => ?_, fun z1 => ?_⟩, fun z0 => ?_⟩, fun z => ?_⟩
    · rw [if_neg z, if_neg z0, if_neg z1] at hp; exact hp
    · rw [if_neg z, if_neg z0, if_pos z1] at hp; exact hp
    · rw [if_neg z, if_pos z0] at hp; exact hp
    · rw [if_pos z] at hp; exact hp
  have hk2 : k < S.1.1 3 := by omega
  obtain ⟨w1, w2, w3⟩ := hw.1.look hk2
  obtain ⟨i1, i2, i3⟩ := h.1.2.2.2.2.1.2 k hk2
  have ck : (nI k).toNatClampNeg = k := nI_clamp (by omega)
  have vk : vp_in (nI k) 30 := vp_in_nI (by omega) (by omega)
  have cs : (nI (S.1.2.1 23 k)).toNatClampNeg = S.1.2.1 23 k := nI_clamp (by omega)
  have wsh := hw.1.shire w1
  have nx : ∀ y : Int32 × Int32 × Int32 × Int32, y = bh S.1 (ix x1) (k + 1) → ∀ u : Int32, u = nI k + 1 → K (M, y.1, y.2.1, y.2.2.1, y.2.2.2, u) := by
    intro y ey u eu
    rw [ey, eu, nI_1]
    refine hK _ ⟨k + 1, by omega, rfl⟩ ?_
    show 30 - (nI (k + 1)).toNatClampNeg < 30 - (nI k).toNatClampNeg
    rw [nI_clamp (by omega), nI_clamp (by omega)]
    omega
  have e1 : nI (S.1.2.1 0 (S.1.2.1 23 k)) = x1 ↔ S.1.2.1 0 (S.1.2.1 23 k) = ix x1 := by
    conv => lhs; rw [rg_nI g1 (by omega)]
    exact nI_eq (by omega) (by omega)
  rw [ck, i1, cs, (h.1.1.2.1 _ w1).1, e1]
  refine ⟨vk, vp_in_nI (by omega) (by omega), fun z => ?_, fun z => nx (bh S.1 (ix x1) k) (by show _ = (if _ then _ else _); rw [if_neg z])⟩
  unfold s_X10_toldTooMany
  rw [ck, i1, i2]
  refine ⟨vk, vk, tC_headsOfAll h.1.2.2.2.1 hw.1.heads (by omega) (by omega) ⟨vk, ?_⟩⟩
  rw [i3]
  intro x4 e4
  have et : nI (hs3 S.1 (S.1.2.1 23 k) (S.1.2.1 24 k)) - nI (S.1.2.1 25 k) = tm S.1 k := rfl
  rw [et] at e4 ⊢
  have eb : bh S.1 (ix x1) (k + 1) = ((bh S.1 (ix x1) k).1 + 1, (bh S.1 (ix x1) k).2.1 + tm S.1 k, (if (bh S.1 (ix x1) k).1 = 0 then tm S.1 k else if tm S.1 k < (bh S.1 (ix x1) k).2.2.1 then tm S.1 k else (bh S.1 (ix x1) k).2.2.1), (if (bh S.1 (ix x1) k).1 = 0 then tm S.1 k else if (bh S.1 (ix x1) k).2.2.2 < tm S.1 k then tm S.1 k else (bh S.1 (ix x1) k).2.2.2)) := by
    show (if _ then _ else _) = _
    rw [if_pos z]
  unfold s_X11_byHowMuch_115 s_X11_byHowMuch_133
  refine ⟨fun f => ⟨fun _ u eu v ev => ?_, fun f2 => absurd f2 f⟩, fun f => ⟨fun f2 => absurd f f2, fun _ u eu v ev => ?_⟩⟩
  · rw [eu, e4]
    exact nx (_, _, _, _) (by rw [eb, if_neg f, if_neg f] <;> rfl) v ev
  · rw [eu, e4]
    exact nx (_, _, _, _) (by rw [eb, if_pos f, if_pos f] <;> rfl) v ev
theorem tM_byHowMuch {M : Mem} {S : Sg} {x1 x2 : Int32} {P : Int32 → Mem → Prop} (h : RMX M S) (hw : WfX S) (hp : ∀ M', sameC M M' → RMX M' S → P (sp_byHowMuch S x1 x2) M') : s_X12_byHowMuch M x1 x2 P := by
  unfold s_X12_byHowMuch
  intro M1 e1'
  have h1 : RMX M1 S := by rw [e1']; exact h.thrown
  replace hp := hp M1 (by rw [e1']; exact sC10) h1
  unfold sp_byHowMuch at hp
  have hn := hw.1.1
  have n30 : S.1.1 3 ≤ 30 := hw.1.2.2.2.1
  refine t_isShire (fun g1 => b1 ?_) (fun g1 => b0 (by rw [if_neg (fun q => g1 q.1)] at hp; exact hp))
  refine t_in (by decide) (n := 3) (by decide) (fun g2 => c1 ?_) (fun g2 => c0 (by rw [if_neg (fun q => g2 q.2)] at hp; exact hp))
  rw [if_pos ⟨g1, g2⟩] at hp
  have l1 := rg_lt g1
  refine Lz_rule (fun a => ∃ k, k ≤ S.1.1 3 ∧ a = (M1, (bh S.1 (ix x1) k).1, (bh S.1 (ix x1) k).2.1, (bh S.1 (ix x1) k).2.2.1, (bh S.1 (ix x1) k).2.2.2, nI k)) (fun a => 30 - a.2.2.2.2.2.toNatClampNeg) ?_ ⟨0, Nat.zero_le _, rfl⟩
  rintro K a ⟨k, hk, rfl⟩ hK
  show s_X12_byHowMuch_39 x1 x2 P K M1 (bh S.1 (ix x1) k).1 (bh S.1 (ix x1) k).2.1 (bh S.1 (ix x1) k).2.2.1 (bh S.1 (ix x1) k).2.2.2 (nI k)
  unfold s_X12_byHowMuch_39
  rw [h1.1.2.2.2.2.1.1, nI_leI (by omega) (by omega)]
  refine ⟨fun q => ?_, fun q => ?_⟩
  · rw [show S.1.1 3 = k by omega] at hp
    refine ⟨fun z => ⟨fun z0 => ⟨fun z1 => ?_, fun z1 => ?_⟩, fun z0 => ?_⟩, fun z => ?_⟩
    · rw [if_neg z, if_neg z0, if_neg z1] at hp; exact hp
    · rw [if_neg z, if_neg z0, if_pos z1] at hp; exact hp
    · rw [if_neg z, if_pos z0] at hp; exact hp
    · rw [if_pos z] at hp; exact hp
  have hk2 : k < S.1.1 3 := by omega
  obtain ⟨w1, w2, w3⟩ := hw.1.look hk2
  obtain ⟨i1, i2, i3⟩ := h1.1.2.2.2.2.1.2 k hk2
  have ck : (nI k).toNatClampNeg = k := nI_clamp (by omega)
  have vk : vp_in (nI k) 30 := vp_in_nI (by omega) (by omega)
  have cs : (nI (S.1.2.1 23 k)).toNatClampNeg = S.1.2.1 23 k := nI_clamp (by omega)
  have wsh := hw.1.shire w1
  have nx : ∀ y : Int32 × Int32 × Int32 × Int32, y = bh S.1 (ix x1) (k + 1) → ∀ u : Int32, u = nI k + 1 → K (M1, y.1, y.2.1, y.2.2.1, y.2.2.2, u) := by
    intro y ey u eu
    rw [ey, eu, nI_1]
    refine hK _ ⟨k + 1, by omega, rfl⟩ ?_
    show 30 - (nI (k + 1)).toNatClampNeg < 30 - (nI k).toNatClampNeg
    rw [nI_clamp (by omega), nI_clamp (by omega)]
    omega
  have e1 : nI (S.1.2.1 0 (S.1.2.1 23 k)) = x1 ↔ S.1.2.1 0 (S.1.2.1 23 k) = ix x1 := by
    conv => lhs; rw [rg_nI g1 (by omega)]
    exact nI_eq (by omega) (by omega)
  rw [ck, i1, cs, (h1.1.1.2 _ w1).1, e1]
  refine ⟨vk, vp_in_nI (by omega) (by omega), fun z => nx (bh S.1 (ix x1) k) (by show _ = (if _ then _ else _); rw [if_neg z]), fun z => ⟨vk, vk, ?_⟩⟩
  rw [i2]
  refine tM_headsOf h1.1.2.2.2.1 hw.1.heads (by omega) (by omega) ⟨vk, ?_⟩
  rw [i3]
  intro x8 e8 x4 e4
  have et : nI (hs3 S.1 (S.1.2.1 23 k) (S.1.2.1 24 k)) - nI (S.1.2.1 25 k) = tm S.1 k := rfl
  rw [et] at e8
  rw [e8] at e4 ⊢
  have eb : bh S.1 (ix x1) (k + 1) = ((bh S.1 (ix x1) k).1 + 1, (bh S.1 (ix x1) k).2.1 + tm S.1 k, (if (bh S.1 (ix x1) k).1 = 0 then tm S.1 k else if tm S.1 k < (bh S.1 (ix x1) k).2.2.1 then tm S.1 k else (bh S.1 (ix x1) k).2.2.1), (if (bh S.1 (ix x1) k).1 = 0 then tm S.1 k else if (bh S.1 (ix x1) k).2.2.2 < tm S.1 k then tm S.1 k else (bh S.1 (ix x1) k).2.2.2)) := by
    show (if _ then _ else _) = _
    rw [if_pos z]
  have nle : ∀ x y : Int32, x ≤ y ↔ ¬ y < x := fun x y => by rw [le_i, lt_i]; omega
  unfold s_X12_byHowMuch_119 s_X12_byHowMuch_139
  rw [e4]
  refine ⟨fun f => ⟨fun _ u eu v ev => ?_, fun f2 => absurd f f2⟩, fun f => ⟨fun q1 => ⟨fun f2 => absurd f2 f, fun _ => ⟨fun q2 u eu v ev => ?_, fun q2 u eu v ev => ?_⟩⟩, fun q1 => ⟨fun f2 => absurd f2 f, fun _ => ⟨fun q2 u eu v ev => ?_, fun q2 u eu v ev => ?_⟩⟩⟩⟩
  · rw [eu]
    exact nx (_, _, _, _) (by rw [eb, if_pos f, if_pos f] <;> rfl) v ev
  · rw [eu]
    rw [nle] at q1 q2
    exact nx (_, _, _, _) (by rw [eb, if_neg f, if_neg f, if_neg q1, if_neg q2] <;> rfl) v ev
  · rw [eu]
    rw [nle] at q1 q2
    exact nx (_, _, _, _) (by rw [eb, if_neg f, if_neg f, if_neg q1, if_pos (Decidable.not_not.mp q2)] <;> rfl) v ev
  · rw [eu]
    rw [nle] at q1 q2
    exact nx (_, _, _, _) (by rw [eb, if_neg f, if_neg f, if_pos (Decidable.not_not.mp q1), if_neg q2] <;> rfl) v ev
  · rw [eu]
    rw [nle] at q1 q2
    exact nx (_, _, _, _) (by rw [eb, if_neg f, if_neg f, if_pos (Decidable.not_not.mp q1), if_pos (Decidable.not_not.mp q2)] <;> rfl) v ev
