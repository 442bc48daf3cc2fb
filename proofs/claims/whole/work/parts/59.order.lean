/-! ORDER -/
/-- what an age orders; tk: the age that is taken away (1 more; 0 none) -/
def oa (A : Abs) (s d tk age : Nat) : Nat := if tk = age + 1 ∨ hld A 0 s age d = false then 0 else cn A s age d 400 (A.1 4)
def ordN (A : Abs) (s d tk : Nat) : Nat := if d % 7 < 5 then oa A s d tk 0 + oa A s d tk 1 + oa A s d tk 2 else 0
def oaS (A : Abs) (s d tk : Nat) : Nat → Nat
  | 0 => 0
  | k + 1 => oaS A s d tk k + oa A s d tk k
theorem oaS_3 {A : Abs} {s d tk : Nat} : oaS A s d tk 3 = oa A s d tk 0 + oa A s d tk 1 + oa A s d tk 2 := by
  simp [oaS]
theorem t_schoolDay {M : Mem} {d : Nat} {P : Int32 → Mem → Prop} (hd : d ≤ 400) (h1 : d % 7 < 5 → P 1 M) (h0 : ¬ d % 7 < 5 → P 0 M) : s_X11_isSchoolDay M (nI d) P := by
  unfold s_X11_isSchoolDay
  rw [(week_i hd).2]
  have : (5 : Int32) ≤ nI (d % 7) ↔ 5 ≤ d % 7 := nI_leI (a := 5) (by omega) (by omega)
  rw [this]
  exact ⟨fun q => h0 (by omega), fun q => h1 (by omega)⟩
theorem tC_ordered {w : Nat} {M : Mem} {A : Abs} {s d tk : Nat} {P : Int32 → Mem → Prop} (h : RC w M A) (hk : acOK A) (hs : s < A.1 0) (hd : d ≤ 400) (htk : tk ≤ 3) (hp : ∀ M', eqW w M M' → P (nI (ordN A s d tk)) M') : s_X10_ordered w M (nI s) (nI d) (mI tk) P := by
  obtain ⟨k1, k2, k3, k4⟩ := hk
  have n16 := k2.1
  unfold s_X10_ordered
  refine t_schoolDay hd (fun hsd => c1 ?_) (fun hsd => c0 ?_)
  · have eo : ordN A s d tk = oaS A s d tk 3 := by rw [oaS_3]; exact if_pos hsd
    rw [eo] at hp
    obtain ⟨a15, -⟩ := h.1.2.1 s hs
    rw [nI_clamp (by omega), a15]
    have hle : frN A 0 (A.2.1 0 s) d (A.1 2) ≤ A.1 2 := frN_le
    refine ⟨vp_in_nI (by omega) (by omega), tC_inForce (p := 0) h.2.2.2.2.2 k2 (by omega) (k4 s hs) hd ?_⟩
    refine tC_fields (age := 0) h k1 hs k3 hd (fun M1 r1 r2 => ?_)
    refine Lz_rule (fun a => ∃ g, g ≤ 3 ∧ a.2.2 = nI g ∧ a.2.1 = nI (oaS A s d tk g) ∧ eqW w M a.1 ∧ ∀ k, 1 ≤ k → k < 10 → a.1.1 13 w k = fld A s 0 d k) (fun a => 3 - a.2.2.toNatClampNeg) ?_ ⟨0, by omega, rfl, rfl, r1, fun k _ b => r2 k b⟩
    rintro K ⟨M2, x5, x6⟩ ⟨g, hg, e6, e5, r3, r4⟩ hK
    dsimp only at e6 e5 r3 r4
    show s_X10_ordered_42 w (nI s) (nI d) (mI tk) (mI (frN A 0 (A.2.1 0 s) d (A.1 2))) P K M2 x5 x6
    unfold s_X10_ordered_42
    have g3 : (3 : Int32) ≤ nI g ↔ 3 ≤ g := nI_leI (a := 3) (by omega) (by omega)
    rw [e6, e5, g3]
    refine ⟨fun q => ?_, fun q M3 m3 => ?_⟩
    · have k := hp M2 r3
      rw [show (3 : Nat) = g by omega] at k
      exact k
    have r5 : eqW w M2 M3 := by rw [m3]; exact eqW.w (Or.inl rfl)
    have f3 : ∀ k, k < 10 → M3.1 13 w k = fld A s g d k := by
      intro k hk10
      rw [m3, wI_at]
      by_cases z : k = 0
      · rw [if_pos ⟨rfl, rfl, z⟩, z]; rfl
      · rw [if_neg (fun y => z y.2.2), r4 k (by omega) hk10]
        unfold fld
        rw [if_neg z, if_neg z]
    have next : ∀ (M4 : Mem) (v : Int32), eqW w M M4 → (∀ k, 1 ≤ k → k < 10 → M4.1 13 w k = fld A s 0 d k) → v = nI (oaS A s d tk (g + 1)) → ∀ u : Int32, u = nI g + 1 → K (M4, v, u) := by
      intro M4 v s1 s2 ev u eu
      rw [eu, nI_1]
      refine hK _ ⟨g + 1, by omega, rfl, ev, s1, s2⟩ ?_
      show 3 - (nI (g + 1)).toNatClampNeg < 3 - x6.toNatClampNeg
      rw [e6, nI_clamp (by omega), nI_clamp (by omega)]; omega
    have f3' : ∀ k, 1 ≤ k → k < 10 → M3.1 13 w k = fld A s 0 d k := by
      intro k a b
      have hz : ¬ k = 0 := by omega
      rw [f3 k b]; unfold fld; simp only [if_neg hz]
    have eq1 : nI g = mI tk ↔ tk = g + 1 := by
      rw [eq_i, mI_t (by omega), nI_toInt (by omega)]; omega
    have zero : oa A s d tk g = 0 → oaS A s d tk (g + 1) = oaS A s d tk g := fun z => by
      show oaS A s d tk g + oa A s d tk g = _
      omega
    have h3 := (r3.tr r5).RC h
    rw [eq1, mI_neg (by omega)]
    have take : ∀ M4, eqW w M M4 → (∀ k, 1 ≤ k → k < 10 → M4.1 13 w k = fld A s 0 d k) → ¬ tk = g + 1 → hld A 0 s g d = true → s_X10_ordered_87 w (nI s) (nI d) (mI tk) (mI (frN A 0 (A.2.1 0 s) d (A.1 2))) P K M4 (nI (oaS A s d tk g)) (nI g) := by
      intro M4 s1 s2 s3 s4
      unfold s_X10_ordered_87
      refine tC_counting (kn := 400) (s1.RC h).2.2.2.1 k1 (by omega) (by omega) (by omega) (by omega) (fun v ev => next M4 v s1 s2 ?_)
      rw [ev, nI_add]
      have : oa A s d tk g = cn A s g d 400 (A.1 4) := by
        unfold oa
        rw [if_neg]
        rintro (y | y)
        · exact s3 y
        · rw [s4] at y; cases y
      show nI (oaS A s d tk g + _) = nI (oaS A s d tk g + oa A s d tk g)
      rw [this]
    refine ⟨fun z => next M3 _ (r3.tr r5) f3' (by rw [zero (by unfold oa; rw [if_pos (Or.inl z)])]), fun z => ⟨fun z2 => take M3 (r3.tr r5) f3' z ?_, fun z2 => ?_⟩⟩
    · unfold hld; rw [if_pos z2]; rfl
    · rw [mI_pred z2]
      refine tC_meets h3.2.2.2.2.2 n16 (by omega) f3 (fun M4 s1 s2 => ?_)
      have eh : hld A 0 s g d = A.2.2 (frN A 0 (A.2.1 0 s) d (A.1 2) - 1) (fld A s g d) := by
        unfold hld; rw [if_neg z2, if_pos rfl]
      rw [← eh, bI_0]
      have s3 : eqW w M M4 := (r3.tr r5).tr s1
      have s4 : ∀ k, 1 ≤ k → k < 10 → M4.1 13 w k = fld A s 0 d k := fun k a b => by rw [s2]; exact f3' k a b
      exact ⟨fun y => next M4 _ s3 s4 (by rw [zero (by unfold oa; rw [if_pos (Or.inr y)])]), fun y => take M4 s3 s4 z (by simpa using y)⟩
  · have eo : ordN A s d tk = 0 := if_neg hsd
    rw [eo] at hp
    exact hp M eqW.rf
theorem tM_orderOf {M : Mem} {A : Abs} {s d tk : Nat} {P : Int32 → Mem → Prop} (hR : RM 44 M A) (hf : RMf M A) (hk : acOK A) (hl : LK A) (hs : s < A.1 0) (hd : d ≤ 400) (htk : tk ≤ 3) (h22 : M.1 10 0 22 = mI tk) (hp : ∀ M', eqU M M' → RMf M' A → P (nI (ordN A s d tk)) M') : s_X12_orderOf M (nI s) (nI d) P := by
  obtain ⟨k1, k2, k3, k4⟩ := hk
  have n16 := k2.1
  unfold s_X12_orderOf
  refine Lz_rule (fun a => ∃ g, g ≤ 3 ∧ a.2.2 = nI g ∧ a.2.1 = nI (if d % 7 < 5 then oaS A s d tk g else 0) ∧ eqU M a.1 ∧ RMf a.1 A) (fun a => 3 - a.2.2.toNatClampNeg) ?_ ⟨0, by omega, rfl, by split <;> rfl, eqU.rf, hf⟩
  rintro K ⟨M2, x3, x4⟩ ⟨g, hg, e4, e3, r3, rf⟩ hK
  dsimp only at e4 e3 r3 rf
  show s_X12_orderOf_5 (nI s) (nI d) P K M2 x3 x4
  unfold s_X12_orderOf_5
  have g3 : (3 : Int32) ≤ nI g ↔ 3 ≤ g := nI_leI (a := 3) (by omega) (by omega)
  have d5 : (5 : Int32) ≤ nI (d % 7) ↔ 5 ≤ d % 7 := nI_leI (a := 5) (by omega) (by omega)
  rw [e4, e3, g3, (week_i hd).2, d5]
  have h2 := r3.RM (by omega) hR
  refine ⟨fun q => ?_, fun q => ⟨fun q2 => ?_, fun q2 => ?_⟩⟩
  · have k := hp M2 r3 rf
    have : ordN A s d tk = (if d % 7 < 5 then oaS A s d tk g else 0) := by
      unfold ordN
      rw [← oaS_3, show (3 : Nat) = g by omega]
    rw [← this]
    exact k
  · have k := hp M2 r3 rf
    have : ordN A s d tk = 0 := if_neg (by omega)
    rw [this] at k
    rw [if_neg (by omega)]
    exact k
  · have hsd : d % 7 < 5 := by omega
    rw [if_pos hsd]
    have next : ∀ (M4 : Mem) (y : Int32), eqU M M4 → RMf M4 A → y = nI (oa A s d tk g) → s_X12_orderOf_69 (nI s) (nI d) P K M4 (nI g) y (nI (oaS A s d tk g)) := by
      intro M4 y s1 s2 ey u eu v ev
      rw [eu, ev, ey, nI_add, nI_1]
      refine hK _ ⟨g + 1, by omega, rfl, by rw [if_pos hsd]; rfl, s1, s2⟩ ?_
      show 3 - (nI (g + 1)).toNatClampNeg < 3 - x4.toNatClampNeg
      rw [e4, nI_clamp (by omega), nI_clamp (by omega)]; omega
    have e22 : M2.1 10 0 22 = mI tk := by rw [r3.2.1 0 22 (by omega)]; exact h22
    have eq1 : nI g = mI tk ↔ tk = g + 1 := by
      rw [eq_i, mI_t (by omega), nI_toInt (by omega)]; omega
    rw [e22, eq1]
    have hcn : cn A s g d 400 (A.1 4) < 2 ^ 31 := by
      have := cn_le k1 (s := s) (by omega) (age := g) (d := d) (kn := 400) (k := A.1 4) (Nat.le_refl _)
      omega
    refine ⟨fun z => tM_headOf (kn := 400) h2.2.2.2.1 k1 (by omega) (by omega) (by omega) (by omega) ?_, fun z => ?_⟩
    · unfold s_X12_orderOf_43
      rw [le0 hcn]
      refine ⟨fun z2 => next M2 0 r3 rf ?_, fun z2 => tM_hF (p := 0) h2 rf ⟨k1, k2, k3, k4⟩ hl (by omega) hs hd (fun M4 s1 s2 => ?_)⟩
      · have : oa A s d tk g = 0 := by
          unfold oa
          split
          · rfl
          · exact z2
        rw [this]; rfl
      · rw [bI_0]
        refine ⟨fun y => next M4 0 (r3.tr s1) s2 ?_, fun y => next M4 _ (r3.tr s1) s2 ?_⟩
        · unfold oa; rw [if_pos (Or.inr y)]; rfl
        · unfold oa; rw [if_neg]
          rintro (w | w)
          · exact z w
          · exact y w
    · unfold s_X12_orderOf_43
      refine ⟨fun _ => next M2 0 r3 rf ?_, fun z2 => absurd (by decide) z2⟩
      unfold oa; rw [if_pos (Or.inl z)]; rfl
def sp_order (S : Sg) (x : Int32) : Int32 := if rg x (S.1.1 0) then nI (ordN S.1 (ix x) (S.1.2.1 26 0) 0) else -1
theorem tC_order {M : Mem} {S : Sg} {x : Int32} {P : Int32 → Mem → Prop} (h : RCX M S) (hw : WfX S) (hp : ∀ M', sameM M M' → RCX M' S → P (sp_order S x) M') : s_X11_order M x P := by
  unfold s_X11_order
  have hn := hw.1.1
  have hday : S.1.2.1 26 0 ≤ 400 := hw.1.2.2.2.2.2.1
  refine t_has8 h.1.1.1 (by omega) (fun g1 => b1 ?_) (fun g => b0 ?_)
  · have es : sp_order S x = nI (ordN S.1 (ix x) (S.1.2.1 26 0) 0) := if_pos g1
    rw [es] at hp
    rw [h.1.2.2.1.1]
    have key := fun P' hp' => tC_ordered (P := P') (s := ix x) (d := S.1.2.1 26 0) (tk := 0) h.1 hw.1.ac (rg_lt g1) hday (by omega) hp'
    rw [← rg_nI g1 (by omega)] at key
    exact key _ (fun M1 r1 => hp M1 r1.sameM (r1.RCX h))
  · have k := hp M sameM.rf h
    unfold sp_order at k
    rw [if_neg g] at k
    exact k
theorem tM_order {M : Mem} {S : Sg} {x : Int32} {P : Int32 → Mem → Prop} (h : RMX M S) (hw : WfX S) (hl : LK S.1) (hp : ∀ M', sameC M M' → RMX M' S → P (sp_order S x) M') : s_X12_order M x P := by
  unfold s_X12_order
  have hn := hw.1.1
  have hday : S.1.2.1 26 0 ≤ 400 := hw.1.2.2.2.2.2.1
  intro M1 m1
  have h1 : RMX M1 S := by rw [m1]; exact h.thrown
  replace hp : ∀ M', sameC M1 M' → RMX M' S → P (sp_order S x) M' := fun M' a b => hp M' (sameC.tr (by rw [m1]; exact sC10) a) b
  refine t_isSchool h1.1.1.1 (by omega) (fun g1 => b1 ?_) (fun g => b0 ?_)
  · have es : sp_order S x = nI (ordN S.1 (ix x) (S.1.2.1 26 0) 0) := if_pos g1
    rw [es] at hp
    rw [h1.1.2.2.1.1]
    have key := fun P' hp' => tM_orderOf (P := P') (s := ix x) (d := S.1.2.1 26 0) (tk := 0) h1.1 h1.2.2.2.1 hw.1.ac hl (rg_lt g1) hday (by omega) h1.2.2.2.2 hp'
    rw [← rg_nI g1 (by omega)] at key
    exact key _ (fun M2 r1 r2 => hp M2 r1.sameC (r1.RMX r2 h1))
  · have k := hp M1 sameC.rf h1
    unfold sp_order at k
    rw [if_neg g] at k
    exact k
/-! PARTED -/
/-- what a shire orders among the first n schools -/
def ois (A : Abs) (sh d : Nat) : Nat → Nat
  | 0 => 0
  | s + 1 => if A.2.1 0 s = sh then ois A sh d s + ordN A s d 0 else ois A sh d s
theorem ois_s {A : Abs} {sh d s : Nat} : ois A sh d (s + 1) = if A.2.1 0 s = sh then ois A sh d s + ordN A s d 0 else ois A sh d s := rfl
theorem tC_oiS {w : Nat} {M : Mem} {A : Abs} {sh d : Nat} {P : Int32 → Mem → Prop} (h : RC w M A) (hk : acOK A) (hsh : sh < 4) (hd : d ≤ 400) (hp : ∀ M', eqW w M M' → P (nI (ois A sh d (A.1 0))) M') : s_X10_orderedInShire w M (nI sh) (nI d) P := by
  have hn := hk.2.2.1
  unfold s_X10_orderedInShire
  refine Lz_rule (fun a => ∃ s, s ≤ A.1 0 ∧ a.2.2 = nI s ∧ a.2.1 = nI (ois A sh d s) ∧ eqW w M a.1) (fun a => 12 - a.2.2.toNatClampNeg) ?_ ⟨0, Nat.zero_le _, rfl, rfl, eqW.rf⟩
  rintro K ⟨M2, x3, x4⟩ ⟨s, hs, e4, e3, r3⟩ hK
  dsimp only at e4 e3 r3
  show s_X10_orderedInShire_5 w (nI sh) (nI d) P K M2 x3 x4
  unfold s_X10_orderedInShire_5
  have h2 := r3.RC h
  rw [h2.1.1, e4, e3, nI_leI (by omega) (by omega)]
  refine ⟨fun q => ?_, fun q => ?_⟩
  · have k := hp M2 r3
    rw [show A.1 0 = s by omega] at k
    exact k
  have hs2 : s < A.1 0 := by omega
  have w4 := hk.2.2.2 s hs2
  obtain ⟨a15, -⟩ := h2.1.2.1 s hs2
  have next : ∀ (M4 : Mem) (v : Int32), eqW w M M4 → v = nI (ois A sh d (s + 1)) → ∀ u : Int32, u = nI s + 1 → K (M4, v, u) := by
    intro M4 v s1 ev u eu
    rw [eu, nI_1]
    refine hK _ ⟨s + 1, by omega, rfl, ev, s1⟩ ?_
    show 12 - (nI (s + 1)).toNatClampNeg < 12 - x4.toNatClampNeg
    rw [e4, nI_clamp (by omega), nI_clamp (by omega)]; omega
  rw [nI_clamp (by omega), a15, nI_eq (by omega) (by omega)]
  refine ⟨vp_in_nI (by omega) (by omega), fun z => next M2 _ r3 (by rw [ois_s, if_neg z]), fun z => tC_ordered (tk := 0) h2 hk hs2 hd (by omega) (fun M4 s1 v ev => next M4 v (r3.tr s1) ?_)⟩
  rw [ev, nI_add, ois_s, if_pos z]
theorem tM_oiS {M : Mem} {A : Abs} {sh d : Nat} {x2 x3 x4 x5 x6 x7 x8 : Int32} {P : Int32 → Mem → Prop} {K58 : Mem × Int32 × Int32 × Int32 → Prop} (hR : RM 44 M A) (hf : RMf M A) (hk : acOK A) (hl : LK A) (hsh : sh < 4) (hd : d ≤ 400) (h22 : M.1 10 0 22 = -1) (e2 : x2 = nI d) (e8 : x8 = nI sh)
    (hp : ∀ M', eqU M M' → RMf M' A → (x5 ≤ nI (ois A sh d (A.1 0)) → s_X12_parted_139 x2 x3 x4 P K58 M' x5 x6 x7 x8 x5) ∧ (¬ x5 ≤ nI (ois A sh d (A.1 0)) → s_X12_parted_139 x2 x3 x4 P K58 M' x5 x6 x7 x8 (nI (ois A sh d (A.1 0))))) :
    ∃ n, Lz (fun (K80 : Mem × Int32 × Int32 → Prop) (a : Mem × Int32 × Int32) => s_X12_parted_80 x2 x3 x4 x5 x6 x7 x8 P K58 K80 a.1 a.2.1 a.2.2) n (M, (0 : Int32), (0 : Int32)) := by
  subst e2 e8
  have hn := hk.2.2.1
  refine Lz_rule (fun a => ∃ s, s ≤ A.1 0 ∧ a.2.2 = nI s ∧ a.2.1 = nI (ois A sh d s) ∧ eqU M a.1 ∧ RMf a.1 A) (fun a => 12 - a.2.2.toNatClampNeg) ?_ ⟨0, Nat.zero_le _, rfl, rfl, eqU.rf, hf⟩
  rintro K ⟨M2, x9, x10⟩ ⟨s, hs, e4, e3, r3, rf⟩ hK
  dsimp only at e4 e3 r3 rf
  show s_X12_parted_80 (nI d) x3 x4 x5 x6 x7 (nI sh) P K58 K M2 x9 x10
  unfold s_X12_parted_80
  have h2 := r3.RM (by omega) hR
  rw [h2.1.1, e4, e3, nI_leI (by omega) (by omega)]
  refine ⟨fun q => ?_, fun q => ?_⟩
  · have k := hp M2 r3 rf
    rw [show A.1 0 = s by omega] at k
    exact k
  have hs2 : s < A.1 0 := by omega
  have w4 := hk.2.2.2 s hs2
  obtain ⟨a47, -⟩ := h2.1.2 s hs2
  have next : ∀ (M4 : Mem) (v : Nat), eqU M M4 → RMf M4 A → ois A sh d s + v = ois A sh d (s + 1) → s_X12_parted_116 (nI d) x3 x4 x5 x6 x7 (nI sh) P K58 K M4 (nI s) (nI v) (nI (ois A sh d s)) := by
    intro M4 v s1 s2 ev u eu y ey
    rw [eu, ey, nI_add, nI_1]
    refine hK _ ⟨s + 1, by omega, rfl, by rw [← ev], s1, s2⟩ ?_
    show 12 - (nI (s + 1)).toNatClampNeg < 12 - x10.toNatClampNeg
    rw [e4, nI_clamp (by omega), nI_clamp (by omega)]; omega
  rw [nI_clamp (by omega), a47, nI_eq (by omega) (by omega)]
  refine ⟨vp_in_nI (by omega) (by omega), fun z => next M2 0 r3 rf (by rw [ois_s, if_neg z]; rfl), fun z => tM_orderOf (tk := 0) h2 rf hk hl hs2 hd (by omega) (by rw [r3.2.1 0 22 (by omega)]; exact h22) (fun M4 s1 s2 => next M4 _ (r3.tr s1) s2 ?_)⟩
  rw [ois_s, if_pos z]
theorem cn_600 {A : Abs} {s d tk : Nat} (h : headOK A) (hs : s < 12) : ordN A s d tk ≤ 600 := by
  have k : ∀ g, oa A s d tk g ≤ 200 := by
    intro g
    unfold oa
    split
    · omega
    · exact cn_le h hs _ (Nat.le_refl _)
  unfold ordN
  have := k 0
  have := k 1
  have := k 2
  split <;> omega
theorem ois_le {A : Abs} {sh d : Nat} (h : headOK A) : ∀ s, s ≤ 12 → ois A sh d s ≤ 600 * s := by
  intro s
  induction s with
  | zero => intro _; exact Nat.le_refl _
  | succ s ih =>
    intro hs
    have := ih (by omega)
    have := cn_600 (A := A) (s := s) (d := d) (tk := 0) h (by omega)
    rw [ois_s]
    split <;> omega
/-- the digits of an order -/
def dg (x : Int32) (k : Nat) : Int32 := (x >>> ((2 * nI k) &&& 31)) &&& 3
def seen (x : Int32) : Nat → Int32
  | 0 => 0
  | k + 1 => seen x k ||| (1 <<< (dg x k &&& 31))
theorem dg_rg : ∀ n, n < 256 → ∀ k, k < 4 → dg (nI n) k = nI (n / 4 ^ k % 4) := by decide +kernel
theorem seen15 : ∀ n, n < 256 → seen (nI n) 4 = 15 → ∀ s, s < 4 → ∃ k, k < 4 ∧ n / 4 ^ k % 4 = s := by decide +kernel
/-- what shire to gets: turns k .. 3, left over -/
def ptd (A : Abs) (d n to : Nat) : Nat → Nat → Nat → Nat
  | 0, _, _ => 0
  | f + 1, k, left => if n / 4 ^ k % 4 = to then min (ois A (n / 4 ^ k % 4) d (A.1 0)) left else ptd A d n to f (k + 1) (left - min (ois A (n / 4 ^ k % 4) d (A.1 0)) left)

theorem ptd_s {A : Abs} {d n to f k left : Nat} : ptd A d n to (f + 1) k left = if n / 4 ^ k % 4 = to then min (ois A (n / 4 ^ k % 4) d (A.1 0)) left else ptd A d n to f (k + 1) (left - min (ois A (n / 4 ^ k % 4) d (A.1 0)) left) := rfl
def sp_parted (S : Sg) (x1 x2 x3 x4 : Int32) : Int32 := if rg x1 10000 ∧ (S.1.2.1 26 0 ≤ ix x2 ∧ rg x2 401) ∧ (rg x3 256 ∧ seen x3 4 = 15) ∧ rg x4 4 then nI (ptd S.1 (ix x2) (ix x3) (ix x4) 4 0 (ix x1)) else -1
theorem t_within_e {x : Int32} {n : Nat} {M : Mem} {P : Int32 → Mem → Prop} (hn : n ≤ 400) (h1 : n ≤ ix x → rg x 401 → P 1 M) (h0 : ¬ (n ≤ ix x ∧ rg x 401) → P 0 M) : s_X11_within M x (nI n) 400 P := by
  have e := nI_toInt (n := n) (by omega)
  have t4 : (400 : Int32).toInt = 400 := by decide
  refine ⟨fun c => h0 (fun q => ?_), fun c => ⟨fun d => h0 (fun q => ?_), fun d => ?_⟩⟩
  · have := ix_t q.2; rw [lt_i] at c; omega
  · have := q.2.2; rw [lt_i] at d; omega
  · rw [lt_i] at c d
    have hr : rg x 401 := ⟨by omega, by omega⟩
    have := ix_t hr
    exact h1 (by omega) hr
theorem t_in_e {x : Int32} {n : Nat} {M : Mem} {P : Int32 → Mem → Prop} (hn : n ≤ 400) (h1 : n ≤ ix x → rg x 401 → P 1 M) (h0 : ¬ (n ≤ ix x ∧ rg x 401) → P 0 M) : s_X12_in M x (nI n) 400 P := t_within_e hn h1 h0
theorem min_i {a b : Nat} (ha : a < 2 ^ 31) (hb : b < 2 ^ 31) : (if nI a < nI b then nI a else nI b) = nI (min a b) := by
  by_cases q : a < b
  · rw [if_pos ((nI_ltI ha hb).mpr q), Nat.min_eq_left (by omega)]
  · rw [if_neg (fun y => q ((nI_ltI ha hb).mp y)), Nat.min_eq_right (by omega)]
theorem tC_shireOrder {M : Mem} {x : Int32} {P : Int32 → Mem → Prop} (h1 : rg x 256 → seen x 4 = 15 → P 1 M) (h0 : ¬ (rg x 256 ∧ seen x 4 = 15) → P 0 M) : s_X11_isShireOrder M x P := by
  unfold s_X11_isShireOrder
  refine t_within (by decide) (n := 256) (by decide) (fun g => c1 ?_) (fun g => c0 (h0 (fun q => g q.1)))
  refine Lz_rule (fun a => ∃ k, k ≤ 4 ∧ a = (M, seen x k, nI k)) (fun a => 4 - a.2.2.toNatClampNeg) ?_ ⟨0, by omega, rfl⟩
  rintro K a ⟨k, hk, rfl⟩ hK
  show s_X11_isShireOrder_17 x P K M (seen x k) (nI k)
  unfold s_X11_isShireOrder_17 s_X11_digit
  have k4 : (4 : Int32) ≤ nI k ↔ 4 ≤ k := nI_leI (a := 4) (by omega) (by omega)
  rw [k4]
  refine ⟨fun q => ?_, fun q u eu v ev => ?_⟩
  · have : k = 4 := by omega
    subst this
    exact ⟨fun z => h0 (fun y => z y.2), fun z => h1 g z⟩
  · rw [eu, ev, nI_1]
    refine hK _ ⟨k + 1, by omega, rfl⟩ ?_
    show 4 - (nI (k + 1)).toNatClampNeg < 4 - (nI k).toNatClampNeg
    rw [nI_clamp (by omega), nI_clamp (by omega)]; omega
theorem tM_perm {M : Mem} {x : Int32} {P : Int32 → Mem → Prop} (h1 : rg x 256 → seen x 4 = 15 → P 1 M) (h0 : ¬ (rg x 256 ∧ seen x 4 = 15) → P 0 M) : s_X12_isPermutation M x P := by
  unfold s_X12_isPermutation
  refine Lz_rule (fun a => ∃ k, k ≤ 4 ∧ a = (M, seen x k, nI k)) (fun a => 4 - a.2.2.toNatClampNeg) ?_ ⟨0, by omega, rfl⟩
  rintro K a ⟨k, hk, rfl⟩ hK
  show s_X12_isPermutation_4 x P K M (seen x k) (nI k)
  unfold s_X12_isPermutation_4
  have k4 : (4 : Int32) ≤ nI k ↔ 4 ≤ k := nI_leI (a := 4) (by omega) (by omega)
  rw [k4]
  refine ⟨fun q => ?_, fun q u eu v ev => ?_⟩
  · have : k = 4 := by omega
    subst this
    exact t_in (by decide) (n := 256) (by decide) (fun g => b1 ⟨fun z => h0 (fun y => z y.2), fun z => h1 g z⟩) (fun g => b0 (h0 (fun y => g y.1)))
  · rw [eu, ev, nI_1]
    refine hK _ ⟨k + 1, by omega, rfl⟩ ?_
    show 4 - (nI (k + 1)).toNatClampNeg < 4 - (nI k).toNatClampNeg
    rw [nI_clamp (by omega), nI_clamp (by omega)]; omega
theorem ptd_le {A : Abs} {d n to : Nat} : ∀ f k left, ptd A d n to f k left ≤ left := by
  intro f
  induction f with
  | zero => intro k left; exact Nat.zero_le _
  | succ f ih =>
    intro k left
    rw [ptd_s]
    split
    · exact Nat.min_le_right _ _
    · exact Nat.le_trans (ih _ _) (Nat.sub_le _ _)
theorem tC_parted {M : Mem} {S : Sg} {x1 x2 x3 x4 : Int32} {P : Int32 → Mem → Prop} (h : RCX M S) (hw : WfX S) (hp : ∀ M', sameM M M' → RCX M' S → P (sp_parted S x1 x2 x3 x4) M') : s_X11_parted M x1 x2 x3 x4 P := by
  unfold s_X11_parted
  have hn := hw.1.1
  have hday : S.1.2.1 26 0 ≤ 400 := hw.1.2.2.2.2.2.1
  have bad : ¬ (rg x1 10000 ∧ (S.1.2.1 26 0 ≤ ix x2 ∧ rg x2 401) ∧ (rg x3 256 ∧ seen x3 4 = 15) ∧ rg x4 4) → P (-1) M := fun g => by
    have k := hp M sameM.rf h
    unfold sp_parted at k
    rw [if_neg g] at k
    exact k
  refine t_within (by decide) (n := 10000) (by decide) (fun g1 => b1 ?_) (fun g1 => b0 (bad (fun q => g1 q.1)))
  rw [h.1.2.2.1.1]
  refine t_within_e hday (fun g2 g2' => c1 ?_) (fun g2 => c0 (bad (fun q => g2 q.2.1)))
  refine tC_shireOrder (fun g3 g3' => b1 ?_) (fun g3 => b0 (bad (fun q => g3 q.2.2.1)))
  refine t_within (by decide) (n := 4) (by decide) (fun g4 => c1 ?_) (fun g4 => c0 (bad (fun q => g4 q.2.2.2)))
  have es : sp_parted S x1 x2 x3 x4 = nI (ptd S.1 (ix x2) (ix x3) (ix x4) 4 0 (ix x1)) := if_pos ⟨g1, ⟨g2, g2'⟩, ⟨g3, g3'⟩, g4⟩
  rw [es] at hp
  have l1 := rg_lt g1
  have l2 := rg_lt g2'
  have l3 := rg_lt g3
  have l4 := rg_lt g4
  have e1 := rg_nI g1 (by omega)
  have e2 := rg_nI g2' (by omega)
  have e3 := rg_nI g3 (by omega)
  have e4 := rg_nI g4 (by omega)
  generalize ix x1 = n at *
  generalize ix x2 = d at *
  generalize ix x3 = o at *
  generalize ix x4 = to at *
  rw [e1, e2, e4]
  have s15 := seen15 o l3 (by rw [← e3]; exact g3') to l4
  refine Lz_rule (fun a => ∃ k left, k ≤ 4 ∧ left ≤ 9999 ∧ a.2.2 = nI k ∧ a.2.1 = nI left ∧ eqW 0 M a.1 ∧ (∀ j, j < k → o / 4 ^ j % 4 ≠ to) ∧ ptd S.1 d o to 4 0 n = ptd S.1 d o to (4 - k) k left) (fun a => 4 - a.2.2.toNatClampNeg) ?_ ⟨0, n, by omega, by omega, rfl, rfl, eqW.rf, fun j a => by omega, rfl⟩
  rintro K ⟨M2, x5, x6⟩ ⟨k, left, hk, hl, e6, e5, r3, hno, ep⟩ hK
  dsimp only at e6 e5 r3
  show s_X11_parted_55 (nI d) x3 (nI to) P K M2 x5 x6
  unfold s_X11_parted_55 s_X11_digit
  have k4 : (4 : Int32) ≤ nI k ↔ 4 ≤ k := nI_leI (a := 4) (by omega) (by omega)
  rw [e6, e5, k4]
  refine ⟨fun q => ?_, fun q => ?_⟩
  · obtain ⟨j, j4, ej⟩ := s15
    exact absurd ej (hno j (by omega))
  have ed : (x3 >>> (2 * nI k &&& 31)) &&& 3 = nI (o / 4 ^ k % 4) := by rw [e3]; exact dg_rg o l3 k (by omega)
  rw [ed]
  have hp4 : o / 4 ^ k % 4 < 4 := Nat.mod_lt _ (by omega)
  refine tC_oiS (r3.RC h.1) hw.1.ac hp4 (by omega) (fun M4 s1 y ey => ?_)
  have ho := ois_le (A := S.1) (sh := o / 4 ^ k % 4) (d := d) hw.1.heads (S.1.1 0) hn
  have hmin := Nat.min_le_right (ois S.1 (o / 4 ^ k % 4) d (S.1.1 0)) left
  rw [min_i (by omega) (by omega)] at ey
  rw [nI_eq (by omega) (by omega)]
  obtain ⟨j, hj⟩ : ∃ j, 4 - k = j + 1 := ⟨3 - k, by omega⟩
  rw [hj, ptd_s (k := k)] at ep
  refine ⟨fun z u eu v ev => ?_, fun z => ?_⟩
  · rw [if_neg z] at ep
    rw [eu, ev, ey, pk_sub hmin, nI_1]
    refine hK _ ⟨k + 1, _, by omega, by omega, rfl, rfl, r3.tr s1, fun i hi => ?_, by rw [ep, show 4 - (k + 1) = j by omega]⟩ ?_
    · rcases Nat.lt_or_eq_of_le (show i ≤ k by omega) with y2 | y2
      · exact hno i y2
      · rw [y2]; exact z
    · show 4 - (nI (k + 1)).toNatClampNeg < 4 - x6.toNatClampNeg
      rw [e6, nI_clamp (by omega), nI_clamp (by omega)]; omega
  · rw [if_pos z] at ep
    have kk := hp M4 (r3.tr s1).sameM ((r3.tr s1).RCX h)
    rw [ep, ← ey] at kk
    exact kk
theorem tM_parted {M : Mem} {S : Sg} {x1 x2 x3 x4 : Int32} {P : Int32 → Mem → Prop} (h : RMX M S) (hw : WfX S) (hl : LK S.1) (hp : ∀ M', sameC M M' → RMX M' S → P (sp_parted S x1 x2 x3 x4) M') : s_X12_parted M x1 x2 x3 x4 P := by
  unfold s_X12_parted
  have hn := hw.1.1
  have hday : S.1.2.1 26 0 ≤ 400 := hw.1.2.2.2.2.2.1
  intro M1 m1
  have h1 : RMX M1 S := by rw [m1]; exact h.thrown
  replace hp : ∀ M', sameC M1 M' → RMX M' S → P (sp_parted S x1 x2 x3 x4) M' := fun M' a b => hp M' (sameC.tr (by rw [m1]; exact sC10) a) b
  have bad : ¬ (rg x1 10000 ∧ (S.1.2.1 26 0 ≤ ix x2 ∧ rg x2 401) ∧ (rg x3 256 ∧ seen x3 4 = 15) ∧ rg x4 4) → P (-1) M1 := fun g => by
    have k := hp M1 sameC.rf h1
    unfold sp_parted at k
    rw [if_neg g] at k
    exact k
  refine t_in (by decide) (n := 10000) (by decide) (fun g1 => b1 ?_) (fun g1 => b0 (bad (fun q => g1 q.1)))
  rw [h1.1.2.2.1.1]
  refine t_in_e hday (fun g2 g2' => b1 ?_) (fun g2 => b0 (bad (fun q => g2 q.2.1)))
  refine tM_perm (fun g3 g3' => b1 ?_) (fun g3 => b0 (bad (fun q => g3 q.2.2.1)))
  refine t_isShire (fun g4 => c1 ?_) (fun g4 => c0 (bad (fun q => g4 q.2.2.2)))
  have es : sp_parted S x1 x2 x3 x4 = nI (ptd S.1 (ix x2) (ix x3) (ix x4) 4 0 (ix x1)) := if_pos ⟨g1, ⟨g2, g2'⟩, ⟨g3, g3'⟩, g4⟩
  rw [es] at hp
  have l1 := rg_lt g1
  have l2 := rg_lt g2'
  have l3 := rg_lt g3
  have l4 := rg_lt g4
  have e1 := rg_nI g1 (by omega)
  have e2 := rg_nI g2' (by omega)
  have e3 := rg_nI g3 (by omega)
  have e4 := rg_nI g4 (by omega)
  generalize ix x1 = n at *
  generalize ix x2 = d at *
  generalize ix x3 = o at *
  generalize ix x4 = to at *
  rw [e1, e2, e4]
  have s15 : ∀ s, s < 4 → ∃ k, k < 4 ∧ o / 4 ^ k % 4 = s := seen15 o l3 (by rw [← e3]; exact g3')
  have uniq : ∀ i j, i < 4 → j < 4 → o / 4 ^ i % 4 = o / 4 ^ j % 4 → i = j := by
    obtain ⟨p0, a0, b0⟩ := s15 0 (by omega)
    obtain ⟨p1, a1, b1⟩ := s15 1 (by omega)
    obtain ⟨p2, a2, b2⟩ := s15 2 (by omega)
    obtain ⟨p3, a3, b3⟩ := s15 3 (by omega)
    intro i j hi hj e
    have n01 : p0 ≠ p1 := fun q => by rw [q] at b0; omega
    have n02 : p0 ≠ p2 := fun q => by rw [q] at b0; omega
    have n03 : p0 ≠ p3 := fun q => by rw [q] at b0; omega
    have n12 : p1 ≠ p2 := fun q => by rw [q] at b1; omega
    have n13 : p1 ≠ p3 := fun q => by rw [q] at b1; omega
    have n23 : p2 ≠ p3 := fun q => by rw [q] at b2; omega
    have key : ∀ m, m < 4 → (m = p0 ∧ o / 4 ^ m % 4 = 0) ∨ (m = p1 ∧ o / 4 ^ m % 4 = 1) ∨ (m = p2 ∧ o / 4 ^ m % 4 = 2) ∨ (m = p3 ∧ o / 4 ^ m % 4 = 3) := by
      intro m hm
      have : m = p0 ∨ m = p1 ∨ m = p2 ∨ m = p3 := by omega
      rcases this with q | q | q | q
      · exact Or.inl ⟨q, by rw [q]; exact b0⟩
      · exact Or.inr (Or.inl ⟨q, by rw [q]; exact b1⟩)
      · exact Or.inr (Or.inr (Or.inl ⟨q, by rw [q]; exact b2⟩))
      · exact Or.inr (Or.inr (Or.inr ⟨q, by rw [q]; exact b3⟩))
    have ki := key i hi
    have kj := key j hj
    omega
  refine Lz_rule (fun a => ∃ k left found, k ≤ 4 ∧ left ≤ 9999 ∧ found ≤ 9999 ∧ a.2.2.2 = nI k ∧ a.2.1 = nI left ∧ a.2.2.1 = nI found ∧ eqU M1 a.1 ∧ RMf a.1 S.1 ∧ (((∀ j, j < k → o / 4 ^ j % 4 ≠ to) ∧ ptd S.1 d o to 4 0 n = ptd S.1 d o to (4 - k) k left) ∨ ((∃ j, j < k ∧ o / 4 ^ j % 4 = to) ∧ ptd S.1 d o to 4 0 n = found))) (fun a => 4 - a.2.2.2.toNatClampNeg) ?_ ⟨0, n, 0, by omega, by omega, by omega, rfl, rfl, rfl, eqU.rf, h1.2.2.2.1, Or.inl ⟨fun j a => by omega, rfl⟩⟩
  rintro K ⟨M2, x5, x6, x7⟩ ⟨k, left, found, hk, hle, hfo, e7, e5, e6, r3, rf, hcase⟩ hK
  dsimp only at e7 e5 e6 r3 rf
  show s_X12_parted_58 (nI d) x3 (nI to) P K M2 x5 x6 x7
  unfold s_X12_parted_58
  have k4 : (4 : Int32) ≤ nI k ↔ 4 ≤ k := nI_leI (a := 4) (by omega) (by omega)
  rw [e7, k4]
  refine ⟨fun q => ?_, fun q x8 e8 => ?_⟩
  · rcases hcase with ⟨hno, -⟩ | ⟨-, ep⟩
    · obtain ⟨j, j4, ej⟩ := s15 to l4
      exact absurd ej (hno j (by omega))
    · have kk := hp M2 r3.sameC (r3.RMX rf h1)
      rw [ep, ← e6] at kk
      exact kk
  have ed : (x3 >>> (2 * nI k &&& 31)) &&& 3 = nI (o / 4 ^ k % 4) := by rw [e3]; exact dg_rg o l3 k (by omega)
  have hp4 : o / 4 ^ k % 4 < 4 := Nat.mod_lt _ (by omega)
  refine tM_oiS (A := S.1) (sh := o / 4 ^ k % 4) (d := d) (r3.RM (by omega) h1.1) rf hw.1.ac hl hp4 (by omega) (by rw [r3.2.1 0 22 (by omega)]; exact h1.2.2.2.2) rfl (by rw [e8]; exact ed) (fun M4 s1 s2 => ?_)
  have ho := ois_le (A := S.1) (sh := o / 4 ^ k % 4) (d := d) hw.1.heads (S.1.1 0) hn
  have hmin := Nat.min_le_right (ois S.1 (o / 4 ^ k % 4) d (S.1.1 0)) left
  have r4 := r3.tr s1
  have main : ∀ y : Int32, y = nI (min (ois S.1 (o / 4 ^ k % 4) d (S.1.1 0)) left) → s_X12_parted_139 (nI d) x3 (nI to) P K M4 x5 x6 (nI k) x8 y := by
    intro y ey
    have fin : ∀ (v : Int32) (fo : Nat), v = nI fo → fo ≤ 9999 → (((∀ j, j < k + 1 → o / 4 ^ j % 4 ≠ to) ∧ ptd S.1 d o to 4 0 n = ptd S.1 d o to (4 - (k + 1)) (k + 1) (left - min (ois S.1 (o / 4 ^ k % 4) d (S.1.1 0)) left)) ∨ ((∃ j, j < k + 1 ∧ o / 4 ^ j % 4 = to) ∧ ptd S.1 d o to 4 0 n = fo)) → s_X12_parted_155 (nI d) x3 (nI to) P K M4 x5 (nI k) y v := by
      intro v fo ev hfo' hc u eu w ew
      rw [eu, ew, ey, e5, pk_sub hmin, nI_1]
      refine hK _ ⟨k + 1, _, fo, by omega, by omega, hfo', rfl, rfl, ev, r4, s2, hc⟩ ?_
      show 4 - (nI (k + 1)).toNatClampNeg < 4 - x7.toNatClampNeg
      rw [e7, nI_clamp (by omega), nI_clamp (by omega)]; omega
    unfold s_X12_parted_139
    have e8' : x8 = nI to ↔ o / 4 ^ k % 4 = to := by rw [e8, ed]; exact nI_eq (by omega) (by omega)
    rw [e8']
    refine ⟨fun z => ?_, fun z => ?_⟩
    · refine fin x6 found e6 hfo ?_
      rcases hcase with ⟨hno, ep⟩ | ⟨⟨j, j1, j2⟩, ep⟩
      · obtain ⟨i, hi⟩ : ∃ i, 4 - k = i + 1 := ⟨3 - k, by omega⟩
        rw [hi, ptd_s (k := k), if_neg z] at ep
        refine Or.inl ⟨fun i2 hi2 => ?_, by rw [ep, show 4 - (k + 1) = i by omega]⟩
        rcases Nat.lt_or_eq_of_le (show i2 ≤ k by omega) with y2 | y2
        · exact hno i2 y2
        · rw [y2]; exact z
      · exact Or.inr ⟨⟨j, by omega, j2⟩, ep⟩
    · refine fin y _ ey (by omega) ?_
      rcases hcase with ⟨hno, ep⟩ | ⟨⟨j, j1, j2⟩, ep⟩
      · obtain ⟨i, hi⟩ : ∃ i, 4 - k = i + 1 := ⟨3 - k, by omega⟩
        rw [hi, ptd_s (k := k), if_pos z] at ep
        exact Or.inr ⟨⟨k, by omega, z⟩, ep⟩
      · exact absurd (uniq j k (by omega) (by omega) (j2.trans z.symm)) (by omega)
  have e5' : x5 ≤ nI (ois S.1 (o / 4 ^ k % 4) d (S.1.1 0)) ↔ left ≤ ois S.1 (o / 4 ^ k % 4) d (S.1.1 0) := by rw [e5]; exact nI_leI (by omega) (by omega)
  rw [e5']
  exact ⟨fun z => main x5 (by rw [e5, Nat.min_eq_right z]), fun z => main _ (by rw [Nat.min_eq_left (by omega)])⟩
