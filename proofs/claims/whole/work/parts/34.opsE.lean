/-! the reference's image, restore -/
theorem RM.mv {q q' : Nat} {M M' : Mem} {A : Abs} (h : RM q M A) (n0 : A.1 0 ≤ 12) (n1 : A.1 1 ≤ 5) (n2 : A.1 2 ≤ 16) (e : ∀ j, j < 320 → M'.1 q' 0 j = M.1 q 0 j) (er : ∀ c, 47 ≤ c → c ≤ 63 → M'.1 c 0 = M.1 c 0) : RM q' M' A := by
  refine ⟨⟨?_, fun s hs => ?_⟩, ⟨?_, fun d hd => ?_⟩, ⟨?_, fun m k hm hk => ?_⟩, ⟨?_, fun r hr' => ?_⟩, ⟨?_, fun k hk => ?_⟩, ⟨?_, fun a ha => ?_⟩⟩
  · rw [e 0 (by omega)]; exact h.1.1
  · have hs12 : s < 12 := by omega
    rw [er 47 (by omega) (by omega), er 48 (by omega) (by omega), er 49 (by omega) (by omega), e _ (by omega), e _ (by omega), e _ (by omega)]
    obtain ⟨a1, a2, a3, a4, a5, a6, a7⟩ := h.1.2 s hs
    exact ⟨a1, a2, a3, a4, a5, a6, fun k hk => by rw [e _ (by omega)]; exact a7 k hk⟩
  · rw [e 1 (by omega)]; exact h.2.1.1
  · have hd5 : d < 5 := by omega
    rw [er 50 (by omega) (by omega), er 51 (by omega) (by omega), er 52 (by omega) (by omega), e _ (by omega)]
    obtain ⟨a1, a2, a3, a4, a5⟩ := h.2.1.2 d hd
    exact ⟨a1, a2, a3, a4, fun k hk => by rw [e _ (by omega)]; exact a5 k hk⟩
  · rw [e 3 (by omega)]; exact h.2.2.1.1
  · rw [e _ (by omega)]; exact h.2.2.1.2 m k hm hk
  · rw [e 5 (by omega)]; exact h.2.2.2.1.1
  · rw [er 53 (by omega) (by omega), er 54 (by omega) (by omega), er 55 (by omega) (by omega), er 56 (by omega) (by omega)]; exact h.2.2.2.1.2 r hr'
  · rw [e 4 (by omega)]; exact h.2.2.2.2.1.1
  · rw [er 61 (by omega) (by omega), er 62 (by omega) (by omega), er 63 (by omega) (by omega)]; exact h.2.2.2.2.1.2 k hk
  · rw [e 2 (by omega)]; exact h.2.2.2.2.2.1
  · have ha16 : a < 16 := by omega
    rw [er 57 (by omega) (by omega), er 58 (by omega) (by omega), er 59 (by omega) (by omega), er 60 (by omega) (by omega), e _ (by omega)]; exact h.2.2.2.2.2.2 a ha
/-- a row of 320 copied cell by cell -/
theorem t_cpy320 {q q' : Nat} (hq : q ≠ q') {R : Mem → Prop} {B : (Mem × Int32 → Prop) → Mem × Int32 → Prop} (hB : ∀ (K : Mem × Int32 → Prop) (M : Mem) (x : Int32), B K (M, x) = (((320 : Int32) ≤ x → R M) ∧ (¬ (320 : Int32) ≤ x → vp_in x 320 ∧ (vp_in x 320 ∧ (∀ Mm : Mem, Mm = wI M q' 0 (x.toNatClampNeg) (M.1 q 0 x.toNatClampNeg) → ∀ x1 : Int32, x1 = x + (1 : Int32) → K (Mm, x1)))))) {M : Mem} (hp : ∀ M', (∀ c, c ≠ q' → M'.1 c = M.1 c) → M'.2 = M.2 → (∀ j, j < 320 → M'.1 q' 0 j = M.1 q 0 j) → R M') : ∃ n, Lz B n (M, (0 : Int32)) := by
  refine Lz_rule (fun a => ∃ k, k ≤ 320 ∧ a.2 = nI k ∧ (∀ c, c ≠ q' → a.1.1 c = M.1 c) ∧ a.1.2 = M.2 ∧ ∀ j, j < k → a.1.1 q' 0 j = M.1 q 0 j) (fun a => 320 - a.2.toNatClampNeg) ?_ ⟨0, by omega, rfl, fun _ _ => rfl, rfl, fun j hj => absurd hj (Nat.not_lt_zero j)⟩
  rintro K ⟨Mx, x⟩ ⟨k, hk, e, i1, i2, i3⟩ hK
  dsimp only at e i1 i2 i3
  rw [hB, e]
  have k320 : (320 : Int32) ≤ nI k ↔ 320 ≤ k := nI_leI (a := 320) (by omega) (by omega)
  rw [k320]
  refine ⟨fun z => ?_, fun z => ?_⟩
  · have : k = 320 := by omega
    subst this
    exact hp Mx i1 i2 i3
  refine ⟨vp_in_nI (by omega) (by omega), vp_in_nI (by omega) (by omega), fun My ey x1 ex => ?_⟩
  rw [nI_clamp (by omega)] at ey
  rw [ex, nI_1]
  refine hK _ ⟨k + 1, by omega, rfl, fun c hc => ?_, ?_, fun j hj => ?_⟩ ?_
  · rw [ey]; exact (wI_cc hc).trans (i1 c hc)
  · rw [ey]; exact i2
  · rw [ey]
    show (wI Mx q' 0 k (Mx.1 q 0 k)).1 q' 0 j = _
    rw [wI_at]
    by_cases z2 : j = k
    · rw [if_pos ⟨rfl, rfl, z2⟩, i1 q hq, z2]
    · rw [if_neg (fun y => z2 y.2.2)]; exact i3 j (by omega)
  · show 320 - (nI (k + 1)).toNatClampNeg < 320 - x.toNatClampNeg
    rw [e, nI_clamp (by omega), nI_clamp (by omega)]
    omega
theorem tM_image {M : Mem} {S : Sg} {P : Int32 → Mem → Prop} (h : RMX M S) (hw : WfX S) (hp : ∀ M', sameC M M' → RMX M' (sp_image S).2 → P (sp_image S).1 M') : s_X12_image M P := by
  unfold s_X12_image
  intro M1 e1 M2 e2
  have h1 : RMX M1 S := by rw [e1]; exact h.thrown
  obtain ⟨w0, w1, w2, w3, w4, -⟩ := hw.1
  refine t_cpy320 (q := 44) (q' := 45) (by omega) (R := fun M => P (M.1 44 0 3) M) (fun K M x => rfl) (fun M3 i1 i2 i3 => ?_)
  have f : ∀ c, c ≠ 45 → c ≠ 10 → M3.1 c = M1.1 c := fun c hc hc2 => by rw [i1 c hc, e2, wI_cc hc2]
  have f10 : ∀ j, j ≠ 4 → M3.1 10 0 j = M1.1 10 0 j := fun j hj => by rw [i1 10 (by omega), e2, wI_at, if_neg (fun z => hj z.2.2)]
  have f4 : M3.1 10 0 4 = 1 := by rw [i1 10 (by omega), e2, wI_at, if_pos ⟨rfl, rfl, rfl⟩]
  have fo : M3.2 = M1.2 := by rw [i2, e2]; rfl
  have r44 : RM 44 M3 S.1 := h1.1.fr (fun c hc => by rw [f c (by omega) (by omega)])
  have r45 : RM 45 M3 S.1 := h1.1.mv w0 w1 w2 (fun j hj => by rw [i3 j hj, e2, wI_nc (by omega)]) (fun c a b => by rw [f c (by omega) (by omega)])
  rw [r44.2.2.1.1]
  refine hp M3 (sameC.tr (by rw [e1]; exact sC10) ⟨fun c hc => f c (by unfold cK at hc; omega) (by unfold cK at hc; omega), fun c _ => by rw [fo], by rw [fo]⟩) ⟨r44, ⟨f4, r45⟩, fun d hd => ?_, ?_, by rw [f10 22 (by omega)]; exact h1.2.2.2.2⟩
  · have h3 := h1.2.2.1 d hd
    rw [f 72 (by omega) (by omega), f 73 (by omega) (by omega), f 74 (by omega) (by omega), f 75 (by omega) (by omega), f 76 (by omega) (by omega), f 77 (by omega) (by omega), fo]
    exact h3
  · exact h1.2.2.2.1.fr (f10 37 (by omega)) (by rw [f 66 (by omega) (by omega)]) rfl (fun _ _ _ => rfl)
theorem tM_restore {M : Mem} {S : Sg} {P : Int32 → Mem → Prop} (h : RMX M S) (hw : WfX S) (hp : ∀ M', sameC M M' → RMX M' (sp_restore S).2 → P (sp_restore S).1 M') : s_X12_restore M P := by
  unfold s_X12_restore
  intro M1 e1
  have h1 : RMX M1 S := by rw [e1]; exact h.thrown
  replace hp : ∀ M', sameC M1 M' → RMX M' (sp_restore S).2 → P (sp_restore S).1 M' := fun M' a b => hp M' (sameC.tr (by rw [e1]; exact sC10) a) b
  unfold sp_restore at hp
  obtain ⟨A, o, sh⟩ := S
  cases o with
  | none =>
    have h0 : M1.1 10 0 4 = 0 := h1.2.1
    rw [h0]
    exact ⟨fun q => absurd rfl q, fun _ => hp M1 sameC.rf h1⟩
  | some B =>
    have h0 : M1.1 10 0 4 = 1 ∧ RM 45 M1 B := h1.2.1
    rw [h0.1]
    refine ⟨fun _ => ?_, fun q => absurd q (by decide)⟩
    dsimp only at hp
    obtain ⟨⟨w0, w1, w2, w3, w4, -⟩, -⟩ := hw.2.1 B rfl
    refine t_cpy320 (q := 45) (q' := 44) (by omega) (R := fun M => ∀ Mm44 : Mem, Mm44 = wI M 10 0 37 (-1 : Int32) → P (Mm44.1 44 0 3) Mm44) (fun K M x => rfl) (fun M2 i1 i2 i3 M3 e3 => ?_)
    have f : ∀ c, c ≠ 44 → c ≠ 10 → M3.1 c = M1.1 c := fun c hc hc2 => by rw [e3, wI_cc hc2, i1 c hc]
    have f10 : ∀ j, j ≠ 37 → M3.1 10 0 j = M1.1 10 0 j := fun j hj => by rw [e3, wI_at, if_neg (fun z => hj z.2.2), i1 10 (by omega)]
    have fo : M3.2 = M1.2 := by rw [e3]; exact i2
    have r44 : RM 44 M3 B := h0.2.mv w0 w1 w2 (fun j hj => by rw [e3, wI_nc (by omega), i3 j hj]) (fun c a b => by rw [f c (by omega) (by omega)])
    have r45 : RM 45 M3 B := h0.2.fr (fun c hc => by rw [f c (by omega) (by omega)])
    have ed : M3.1 44 0 3 = nI (B.2.1 26 0) := r44.2.2.1.1
    rw [ed]
    refine hp M3 ⟨fun c hc => f c (by unfold cK at hc; omega) (by unfold cK at hc; omega), fun c _ => by rw [fo], by rw [fo]⟩ ⟨r44, ⟨by rw [f10 4 (by omega)]; exact h0.1, r45⟩, fun d hd => ?_, ⟨0, by rw [e3, wI_at, if_pos ⟨rfl, rfl, rfl⟩]; exact m1, by omega, fun z => absurd rfl z⟩, by rw [f10 22 (by omega)]; exact h1.2.2.2.2⟩
    have h3 := h1.2.2.1 d hd
    rw [f 72 (by omega) (by omega), f 73 (by omega) (by omega), f 74 (by omega) (by omega), f 75 (by omega) (by omega), f 76 (by omega) (by omega), f 77 (by omega) (by omega), fo]
    exact h3
/-! begin, comeBack -/
theorem tM_begin {M : Mem} {P : Mem → Prop} (hp : ∀ M', (∀ c, c ≠ 46 → M'.1 c = M.1 c) → M'.2 = M.2 → (∀ j, j < 320 → M'.1 46 0 j = M.1 44 0 j) → P M') : s_X12_begin M P := by
  unfold s_X12_begin
  exact t_cpy320 (q := 44) (q' := 46) (by omega) (R := P) (fun K M x => rfl) hp
theorem tM_comeBack {M : Mem} {P : Mem → Prop} (hp : ∀ M', (∀ c, c ≠ 44 → M'.1 c = M.1 c) → M'.2 = M.2 → (∀ j, j < 320 → M'.1 44 0 j = M.1 46 0 j) → P M') : s_X12_comeBack M P := by
  unfold s_X12_comeBack
  exact t_cpy320 (q := 46) (q' := 44) (by omega) (R := P) (fun K M x => rfl) hp
