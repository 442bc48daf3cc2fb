/-! THE ROUND, the reference's -/
def eqD (M M' : Mem) : Prop := (∀ c, c ≠ 10 → c ≠ 69 → c ≠ 70 → c ≠ 71 → M'.1 c = M.1 c) ∧ (∀ i j, ¬ (i = 0 ∧ j = 44) → M'.1 10 i j = M.1 10 i j) ∧ M'.2 = M.2
theorem eqD.rf {M : Mem} : eqD M M := ⟨fun _ _ _ _ _ => rfl, fun _ _ _ => rfl, rfl⟩
theorem eqD.tr {M M1 M2 : Mem} (h : eqD M M1) (g : eqD M1 M2) : eqD M M2 := ⟨fun c a b d e => (g.1 c a b d e).trans (h.1 c a b d e), fun i j a => (g.2.1 i j a).trans (h.2.1 i j a), g.2.2.trans h.2.2⟩
theorem eqD.w {M : Mem} {c j : Nat} {v : Int32} (h : c = 69 ∨ c = 70 ∨ c = 71) : eqD M (wI M c 0 j v) := ⟨fun c' a b d e => wI_cc (by omega), fun i' j' _ => by rw [wI_cc (by omega)], rfl⟩
theorem eqD.w44 {M : Mem} {v : Int32} : eqD M (wI M 10 0 44 v) := ⟨fun c' a _ _ _ => wI_cc a, fun i' j' a => by rw [wI_at, if_neg]; intro q; exact a ⟨q.2.1, q.2.2⟩, rfl⟩
theorem eqD.RM {M M' : Mem} {q : Nat} (hq : 44 ≤ q ∧ q ≤ 46) {A : Abs} (h : eqD M M') (g : RM q M A) : RM q M' A := g.fr (fun c hc => by rw [h.1 c (by omega) (by omega) (by omega) (by omega)])
theorem eqD.RMX {M M' : Mem} {S : Sg} (e : eqD M M') (h : RMX M S) : RMX M' S := by
  refine h.now (A := S.1) (e.RM (by omega) h.1) ?_ (fun B _ hB => e.RM (by omega) hB) (e.2.1 0 4 (by omega)) (e.2.1 0 22 (by omega)) (fun c a b => by rw [e.1 c (by omega) (by omega) (by omega) (by omega)]) (by rw [e.2.2])
  obtain ⟨fd, f1, f2, f3⟩ := h.2.2.2.1
  refine ⟨fd, by rw [e.2.1 0 37 (by omega)]; exact f1, f2, fun z p sh hp hsh => ?_⟩
  rw [e.1 66 (by omega) (by omega) (by omega) (by omega)]
  exact f3 z p sh hp hsh
theorem eqD.sameC {M M' : Mem} (h : eqD M M') : sameC M M' := ⟨fun c hc => h.1 c (by unfold cK at hc; omega) (by unfold cK at hc; omega) (by unfold cK at hc; omega) (by unfold cK at hc; omega), fun c _ => by rw [h.2.2], by rw [h.2.2]⟩
/-- an element laid into a sorted list -/
theorem stL_ins {A : Abs} {g : Nat → Int32} {i p s : Nat} (hg : g i = nI s) (hs : s < A.1 0) (h12 : A.1 0 ≤ 12) (hp : p ≤ (stL g i (A.1 0)).length) (hlo : ∀ j, j < p → (stL g i (A.1 0)).getD j 0 < s) (hhi : ∀ j, p ≤ j → j < (stL g i (A.1 0)).length → s < (stL g i (A.1 0)).getD j 0) : stL g (i + 1) (A.1 0) = (stL g i (A.1 0)).take p ++ s :: (stL g i (A.1 0)).drop p ∧ inR g i s = false := by
  have up := stL_up (g := g) (n := i) (A.1 0)
  have hin := stL_in (g := g) (n := i) (A.1 0)
  generalize hL : stL g i (A.1 0) = L at *
  have gd : ∀ j, j < L.length → L.getD j 0 ∈ L := fun j hj => by
    rw [List.getD_eq_getElem?_getD, List.getElem?_eq_getElem hj]
    exact List.getElem_mem _
  have low : ∀ x, x ∈ L.take p → x < s := by
    intro x hx
    obtain ⟨j, hj, e⟩ := List.getElem_of_mem hx
    rw [List.length_take] at hj
    have := hlo j (by omega)
    rw [List.getElem_take] at e
    rw [List.getD_eq_getElem?_getD, List.getElem?_eq_getElem (by omega)] at this
    rw [← e]; exact this
  have high : ∀ x, x ∈ L.drop p → s < x := by
    intro x hx
    obtain ⟨j, hj, e⟩ := List.getElem_of_mem hx
    rw [List.length_drop] at hj
    have := hhi (p + j) (by omega) (by omega)
    rw [List.getElem_drop] at e
    rw [List.getD_eq_getElem?_getD, List.getElem?_eq_getElem (by omega)] at this
    rw [← e]; exact this
  have sp : ∀ x, x ∈ L ↔ x ∈ L.take p ∨ x ∈ L.drop p := by
    intro x
    rw [← List.mem_append, List.take_append_drop]
  have hno : inR g i s = false := by
    cases hb : inR g i s with
    | false => rfl
    | true =>
      have := (sp s).mp ((hin s).mpr ⟨hs, hb⟩)
      rcases this with q | q
      · have := low s q; omega
      · have := high s q; omega
  refine ⟨?_, hno⟩
  refine sorted_eq (stL_up _) ?_ (fun x => ?_)
  · have hup := up
    rw [← List.take_append_drop p L] at hup
    obtain ⟨u1, u2, u3⟩ := List.pairwise_append.mp hup
    refine List.pairwise_append.mpr ⟨u1, List.pairwise_cons.mpr ⟨high, u2⟩, fun a ha b hb => ?_⟩
    rcases List.mem_cons.mp hb with q | q
    · rw [q]; exact low a ha
    · exact u3 a ha b q
  · rw [stL_in, inR_s, List.mem_append, List.mem_cons]
    have ex : x < 2 ^ 31 → (g i = nI x ↔ x = s) := fun hx => by
      rw [hg, nI_eq (by omega) hx]; exact ⟨fun q => q.symm, fun q => q.symm⟩
    constructor
    · rintro ⟨h1, h2⟩
      rcases h2 with h2 | h2
      · rcases (sp x).mp ((hin x).mpr ⟨h1, h2⟩) with q | q
        · exact Or.inl q
        · exact Or.inr (Or.inr q)
      · exact Or.inr (Or.inl ((ex (by omega)).mp h2))
    · intro h
      rcases h with h | h | h
      · have := (hin x).mp ((sp x).mpr (Or.inl h))
        exact ⟨this.1, Or.inl this.2⟩
      · rw [h]; exact ⟨hs, Or.inr hg⟩
      · have := (hin x).mp ((sp x).mpr (Or.inr h))
        exact ⟨this.1, Or.inl this.2⟩
theorem ins_getD {L : List Nat} {p s j : Nat} (hp : p ≤ L.length) : (L.take p ++ s :: L.drop p).getD j 0 = if j < p then L.getD j 0 else if j = p then s else L.getD (j - 1) 0 := by
  simp only [List.getD_eq_getElem?_getD]
  have ht : (L.take p).length = p := by rw [List.length_take]; omega
  by_cases q : j < p
  · rw [if_pos q, List.getElem?_append_left (by omega), List.getElem?_take, if_pos q]
  · rw [if_neg q, List.getElem?_append_right (by omega), ht]
    by_cases r : j = p
    · rw [if_pos r, r, Nat.sub_self]; rfl
    · rw [if_neg r]
      obtain ⟨t, ht2⟩ : ∃ t, j - p = t + 1 := ⟨j - p - 1, by omega⟩
      rw [ht2, List.getElem?_cons_succ, List.getElem?_drop, show p + t = j - 1 by omega]
theorem tM_findStops {M : Mem} {S : Sg} {x : Int32} {P : Int32 → Mem → Prop} (h : RMX M S) (hw : WfX S) (hx : rg x 8) (h2 : hd0 S (ix x) = 2)
    (k1 : (1 ≤ S.2.2.1 5 (ix x) ∧ S.2.2.1 5 (ix x) ≤ 7) ∧ vr S.1 (S.2.2.2 (ix x)) (S.2.2.1 5 (ix x)) = true → ∀ M', eqD M M' → M'.1 10 0 44 = nI (S.2.2.1 5 (ix x)) → (∀ j, j < S.2.2.1 5 (ix x) → M'.1 69 0 j = nI (sfR S.1 (S.2.2.2 (ix x)) (S.2.2.1 5 (ix x)) j)) → P 0 M')
    (k0 : ¬ ((1 ≤ S.2.2.1 5 (ix x) ∧ S.2.2.1 5 (ix x) ≤ 7) ∧ vr S.1 (S.2.2.2 (ix x)) (S.2.2.1 5 (ix x)) = true) → ∀ M', eqD M M' → P (-13) M') : s_X12_findStops M x P := by
  have h12 := hw.1.1
  have hd := rg_lt hx
  have ex := rg_nI hx (by omega)
  obtain ⟨w0, w1, w2, w3, w4, w5, w6⟩ := hw.2.2 _ hd
  generalize hD : ix x = d at *
  generalize hN : S.2.2.1 5 d = n at *
  generalize hg : S.2.2.2 d = g at *
  unfold s_X12_findStops
  rw [ex]
  intro M1 m1
  have r1 : eqD M M1 := by rw [m1]; exact eqD.w44
  have h1 := r1.RMX h
  have e44 : M1.1 10 0 44 = nI 0 := by rw [m1, wI_at, if_pos ⟨rfl, rfl, rfl⟩]; rfl
  obtain ⟨-, -, t2⟩ := h1.2.2.1 d hd
  obtain ⟨-, s5, s39⟩ := t2 h2
  rw [hN] at s5
  rw [hg] at s39
  have v8 : vp_in (nI d) 8 := vp_in_nI hd (by omega)
  rw [nI_clamp (by omega), s5]
  refine ⟨v8, t_in_n (n := 7) (by decide) (fun gr => c1 ?_) (fun gr => c0 (k0 (fun q => gr ?_) M1 r1))⟩
  rotate_left
  · unfold rn
    rw [nI_toInt (by omega)]; omega
  unfold rn at gr
  rw [nI_toInt (by omega)] at gr
  refine Lz_rule (fun a => ∃ i, i ≤ n ∧ a.2 = nI i ∧ eqD M a.1 ∧ vr S.1 g i = true ∧ a.1.1 10 0 44 = nI i ∧ ∀ j, j < i → a.1.1 69 0 j = nI ((stL g i (S.1.1 0)).getD j 0)) (fun a => n - a.2.toNatClampNeg) ?_ ⟨0, Nat.zero_le _, rfl, r1, rfl, e44, fun j hj => absurd hj (Nat.not_lt_zero j)⟩
  rintro K ⟨M2, y⟩ ⟨i, hi, ey, r2, hv, f44, f69⟩ hK
  dsimp only at ey r2 f44 f69
  show s_X12_findStops_25 (nI d) P K M2 y
  unfold s_X12_findStops_25
  have h2' := r2.RMX h
  obtain ⟨-, -, t2'⟩ := h2'.2.2.1 d hd
  obtain ⟨-, s5', s39'⟩ := t2' h2
  rw [hN] at s5'
  rw [hg] at s39'
  rw [nI_clamp (show d < 2 ^ 31 by omega), s5', ey, nI_leI (by omega) (by omega)]
  refine ⟨v8, fun z => ?_, fun z => ?_⟩
  · have : n = i := by omega
    subst this
    exact k1 ⟨by omega, hv⟩ M2 r2 f44 f69
  have hi2 : i < n := by omega
  have bad : ∀ M', eqD M M' → ¬ vr S.1 g (i + 1) = true → P (-13) M' := fun M' r' hb => k0 (fun q => hb (vr_mono (by omega) q.2)) M' r'
  have ea : (80 : Int32) * nI d + nI i = nI (80 * d + i) := by
    show nI 80 * nI _ + nI i = _
    rw [pk_mul, nI_add]
  rw [ea, nI_clamp (by omega), s39' i (by omega), l_i]
  refine ⟨vp_in_nI (by omega) (by omega), fun x3 e3 => ?_⟩
  rw [e3]
  refine t_isSchool h2'.1.1.1 (by omega) (fun hgx => c1 ?_) (fun hgx => c0 (bad M2 r2 (fun q => hgx (vr_s.mp q).2.1)))
  have hs := rg_lt hgx
  have exs := rg_nI hgx (by omega)
  generalize hsv : ix (g i) = s at *
  have hlen := stL_len h12 i hv
  rw [exs]
  intro x4 e4
  rw [f44] at e4
  have hin := stL_in (g := g) (n := i) (S.1.1 0)
  have up := stL_up (g := g) (n := i) (S.1.1 0)
  generalize hL : stL g i (S.1.1 0) = L at *
  have Lb : ∀ j, j < i → L.getD j 0 < 12 := fun j hj => by
    have : L.getD j 0 ∈ L := by
      rw [List.getD_eq_getElem?_getD, List.getElem?_eq_getElem (by omega)]
      exact List.getElem_mem _
    have := ((hin _).mp this).1
    omega
  refine Lz_rule (fun a => ∃ p, p ≤ i ∧ a.2 = nI p ∧ eqD M a.1 ∧ a.1.1 10 0 44 = nI i ∧ (∀ j, j < p → a.1.1 69 0 j = nI (L.getD j 0)) ∧ (∀ j, p ≤ j → j < i → a.1.1 69 0 (j + 1) = nI (L.getD j 0)) ∧ ∀ j, p ≤ j → j < i → s < L.getD j 0) (fun a => a.2.toNatClampNeg) ?_ ⟨i, Nat.le_refl _, e4, r2, f44, f69, fun j a b => by omega, fun j a b => by omega⟩
  rintro K2 ⟨M3, q⟩ ⟨p, hp, eq, r3, g44, ga, gb, gc⟩ hK2
  dsimp only at eq r3 g44 ga gb
  show s_X12_findStops_65 (nI d) (nI i) (nI s) P K K2 M3 q
  unfold s_X12_findStops_65
  rw [eq, le0 (by omega)]
  -- the place is found
  have found : (p = 0 ∨ L.getD (p - 1) 0 ≤ s) → s_X12_findStops_105 (nI d) P K M3 (nI i) (nI s) (nI p) := by
    intro hpl
    unfold s_X12_findStops_105
    have lay : (p = 0 ∨ L.getD (p - 1) 0 < s) → s_X12_findStops_126 (nI d) P K M3 (nI i) (nI s) (nI p) := by
      intro hpl2
      unfold s_X12_findStops_126
      have hlo : ∀ j, j < p → L.getD j 0 < s := by
        intro j hj
        rcases hpl2 with z0 | z0
        · omega
        · rcases Nat.lt_or_eq_of_le (show j ≤ p - 1 by omega) with y2 | y2
          · have := List.pairwise_iff_getElem.mp up j (p - 1) (by omega) (by omega) y2
            rw [List.getD_eq_getElem?_getD, List.getElem?_eq_getElem (by omega)] at z0
            rw [List.getD_eq_getElem?_getD, List.getElem?_eq_getElem (by omega)]
            exact Nat.lt_trans this z0
          · rw [y2]; exact z0
      obtain ⟨eL, hno⟩ := stL_ins (A := S.1) (g := g) (i := i) (p := p) (s := s) exs hs h12 (by rw [hL]; omega) (fun j hj => by rw [hL]; exact hlo j hj) (fun j a b => by rw [hL] at b ⊢; exact gc j a (by omega))
      rw [hL] at eL
      rw [nI_clamp (by omega)]
      refine ⟨vp_in_nI (by omega) (by omega), fun M4 m4 M5 m5 v ev => ?_⟩
      have k44 : M4.1 10 0 44 = nI i := by rw [m4, wI_cc (by omega)]; exact g44
      rw [k44, nI_1] at m5
      rw [ev, nI_1]
      refine hK _ ⟨i + 1, by omega, rfl, r3.tr (eqD.tr (M1 := M4) (by rw [m4]; exact eqD.w (by omega)) (by rw [m5]; exact eqD.w44)), vr_s.mpr ⟨hv, hgx, by rw [hsv]; exact hno⟩, ?_, fun j hj => ?_⟩ ?_
      · rw [m5]
        show (wI M4 10 0 44 _).1 10 0 44 = _
        rw [wI_at, if_pos ⟨rfl, rfl, rfl⟩]
      · rw [m5]
        show (wI M4 10 0 44 _).1 69 0 j = _
        rw [wI_cc (by omega), m4, wI_at, eL, ins_getD (by omega)]
        by_cases t1 : j < p
        · rw [if_neg (fun y => by omega), if_pos t1]; exact ga j t1
        · rw [if_neg t1]
          by_cases t2 : j = p
          · rw [if_pos ⟨rfl, rfl, t2⟩, if_pos t2]
          · rw [if_neg (fun y => t2 y.2.2), if_neg t2]
            have := gb (j - 1) (by omega) (by omega)
            rw [show j - 1 + 1 = j by omega] at this
            exact this
      · show n - (nI (i + 1)).toNatClampNeg < n - y.toNatClampNeg
        rw [ey, nI_clamp (by omega), nI_clamp (by omega)]; omega
    rw [le0 (by omega)]
    refine ⟨fun z0 => lay (Or.inl z0), fun z0 => ?_⟩
    have ep : nI p - 1 = nI (p - 1) := pk_sub (a := p) (b := 1) (by omega)
    have lb := Lb (p - 1) (by omega)
    rw [ep, nI_clamp (by omega), ga (p - 1) (by omega), nI_eq (by omega) (by omega)]
    refine ⟨vp_in_nI (by omega) (by omega), fun t => lay (Or.inr ?_), fun t => bad M3 r3 (fun hb => ?_)⟩
    · have := hpl.resolve_left z0; omega
    · have hmem : L.getD (p - 1) 0 ∈ L := by
        rw [List.getD_eq_getElem?_getD, List.getElem?_eq_getElem (by omega)]
        exact List.getElem_mem _
      have h3 := (vr_s.mp hb).2.2
      rw [hsv, ← t] at h3
      have := ((hin _).mp hmem).2
      rw [h3] at this
      cases this
  refine ⟨fun z0 => found (Or.inl z0), fun z0 => ?_⟩
  have ep : nI p - 1 = nI (p - 1) := pk_sub (a := p) (b := 1) (by omega)
  have lb := Lb (p - 1) (by omega)
  have vp1 : vp_in (nI (p - 1)) 7 := vp_in_nI (by omega) (by omega)
  rw [ep, nI_clamp (show p - 1 < 2 ^ 31 by omega), nI_clamp (show p < 2 ^ 31 by omega), ga (p - 1) (by omega), nI_leI (by omega) (by omega)]
  refine ⟨vp1, fun t => found (Or.inr t), fun t => ⟨vp1, vp_in_nI (by omega) (by omega), fun M4 m4 v ev => ?_⟩⟩
  have ev' : v = nI (p - 1) := by rw [ev, ← ep]; exact (Int32.sub_eq_add_neg _ _).symm
  refine hK2 _ ⟨p - 1, by omega, ev', r3.tr (by rw [m4]; exact eqD.w (by omega)), by rw [m4]; exact (congrFun (congrFun (wI_cc (by omega)) 0) 44).trans g44, fun j hj => ?_, fun j a b => ?_, fun j a b => ?_⟩ ?_
  · rw [m4]
    show (wI M3 69 0 p _).1 69 0 j = _
    rw [wI_at, if_neg (fun y => by omega)]; exact ga j (by omega)
  · rw [m4]
    show (wI M3 69 0 p _).1 69 0 (j + 1) = _
    rw [wI_at]
    by_cases t2 : j = p - 1
    · rw [if_pos ⟨rfl, rfl, by omega⟩, t2]
    · rw [if_neg (fun y => by omega)]; exact gb j (by omega) b
  · rcases Nat.lt_or_eq_of_le a with t2 | t2
    · exact gc j (by omega) b
    · rw [← t2]; omega
  · show v.toNatClampNeg < q.toNatClampNeg
    rw [ev', eq, nI_clamp (by omega), nI_clamp (by omega)]; omega
theorem pow7 {c k : Nat} (h : c ≤ 7) (hk : k ≤ 7) : c ^ k ≤ 823543 := by
  have h1 : c ^ k ≤ 7 ^ k := Nat.pow_le_pow_left h k
  have h2 : 7 ^ k ≤ 7 ^ 7 := Nat.pow_le_pow_right (by omega) hk
  exact Nat.le_trans h1 h2
theorem evP_nodup {A : Abs} {dy mi : Nat} {sf : Nat → Nat} : ∀ (p : List Nat) W, evP A dy mi sf p = some W → p.Nodup := by
  intro p
  induction p with
  | nil => intro W _; exact List.nodup_nil
  | cons k p ih =>
    intro W h
    cases hp : evP A dy mi sf p with
    | none => rw [evP_n hp] at h; cases h
    | some V =>
      rw [evP_c hp] at h
      by_cases q : k ∈ p
      · rw [if_pos q] at h; cases h
      · exact List.nodup_cons.mpr ⟨q, ih V hp⟩
theorem rev_get {p : List Nat} {c i : Nat} (h : p.length = c) (hi : i < c) : p.reverse.getD i 0 = p.getD (c - 1 - i) 0 := by
  rw [List.getD_eq_getElem?_getD, List.getD_eq_getElem?_getD, List.getElem?_reverse (by omega), h]
section FRM
variable {A : Abs} {dy mi c : Nat} {sf : Nat → Nat}
/-- the reference's state of the search -/
def FI (M0 M : Mem) (c : Nat) (sf : Nat → Nat) (st : Sr) : Prop := eqD M0 M ∧ M.1 10 0 44 = nI c ∧ (∀ j, j < c → M.1 69 0 j = nI (sf j)) ∧ (st.1 ≠ 1000000 → ∀ j, j < c → M.1 71 0 j = nI (sf (st.2.reverse.getD j 0)))
def bstI (st : Sr) : Int32 := if st.1 = 1000000 then -4 else nI st.1
theorem FI.w70 {M0 M : Mem} {st : Sr} {j : Nat} {v : Int32} (h : FI M0 M c sf st) : FI M0 (wI M 70 0 j v) c sf st := ⟨h.1.tr (eqD.w (by omega)), by rw [wI_cc (by omega)]; exact h.2.1, fun j hj => by rw [wI_cc (by omega)]; exact h.2.2.1 j hj, fun t j hj => by rw [wI_cc (by omega)]; exact h.2.2.2 t j hj⟩
theorem tM_findRound {M : Mem} {P : Int32 → Mem → Prop} (hR : RM 44 M A) (hw : Wf A) (hdy : dy < A.1 1) (hc1 : 1 ≤ c) (hc : c ≤ 7) (hsf : ∀ j, j < c → sf j < A.1 0) (hmi : mi ≤ 600) (h44 : M.1 10 0 44 = nI c) (h69 : ∀ j, j < c → M.1 69 0 j = nI (sf j))
    (hp : ∀ M', FI M M' c sf (srS A dy mi sf c c [] (1000000, [])) → P (bstI (srS A dy mi sf c c [] (1000000, []))) M') : s_X12_findRound M (nI dy) (nI mi) P := by
  have h12 := hw.1
  rw [srS_enum (by omega)] at hp
  have happ : ∀ w : Nat, rl c c w ++ [] = rl c c w := fun w => List.append_nil _
  unfold s_X12_findRound
  refine Lz_rule (fun a => ∃ k, k ≤ c ∧ a = (M, nI (c ^ k), nI k)) (fun a => c - a.2.2.toNatClampNeg) ?_ ⟨0, Nat.zero_le _, rfl⟩
  rintro K a ⟨k, hk, rfl⟩ hK
  show s_X12_findRound_9 (nI dy) (nI mi) (-4) P K M (nI (c ^ k)) (nI k)
  unfold s_X12_findRound_9
  rw [h44, nI_leI (by omega) (by omega)]
  refine ⟨fun z => ?_, fun z x4 e4 x5 e5 => ?_⟩
  rotate_left
  · rw [e4, e5, pk_mul, nI_1]
    refine hK _ ⟨k + 1, by omega, by rw [Nat.pow_succ]⟩ ?_
    show c - (nI (k + 1)).toNatClampNeg < c - (nI k).toNatClampNeg
    rw [nI_clamp (by omega), nI_clamp (by omega)]; omega
  have hkc : c = k := by omega
  subst hkc
  have hW := pow7 hc hc
  have OK : ∀ w, srOK c (foldN (fun w st => chk A dy mi sf (rl c c w ++ []) st) w (1000000, [])) := fun w => foldN_OK ⟨Nat.le_refl _, fun t => absurd rfl t⟩ (fun i hi st h' => chk_OK h' (by rw [happ, rl_len]) (fun j hj => by
    rw [happ] at hj
    have key : ∀ r w j, j ∈ rl c r w → j < c := by
      intro r
      induction r with
      | zero => intro w j hj; cases hj
      | succ r ih =>
        intro w j hj
        rcases List.mem_cons.mp hj with q | q
        · rw [q]; exact Nat.mod_lt _ (by omega)
        · exact ih _ _ q
    exact key c i j hj))
  refine Lz_rule (fun a => ∃ w, w ≤ c ^ c ∧ a.2.2 = nI w ∧ a.2.1 = bstI (foldN (fun w st => chk A dy mi sf (rl c c w ++ []) st) w (1000000, [])) ∧ FI M a.1 c sf (foldN (fun w st => chk A dy mi sf (rl c c w ++ []) st) w (1000000, []))) (fun a => c ^ c - a.2.2.toNatClampNeg) ?_ ⟨0, Nat.zero_le _, rfl, rfl, eqD.rf, h44, h69, fun t => absurd rfl t⟩
  rintro K2 ⟨M1, x3, x5⟩ ⟨w, hw2, e5, e3, f1⟩ hK2
  dsimp only at e5 e3 f1
  show s_X12_findRound_36 (nI dy) (nI mi) (nI (c ^ c)) P K2 M1 x3 x5
  unfold s_X12_findRound_36
  rw [e5, nI_leI (by omega) (by omega)]
  refine ⟨fun z2 => ?_, fun z2 x9 e9 => ?_⟩
  · have : c ^ c = w := by omega
    rw [e3, ← this]
    rw [← this] at f1
    exact hp M1 f1
  have ok := OK w
  have next : ∀ (M2 : Mem) (v : Int32), v = bstI (foldN (fun w st => chk A dy mi sf (rl c c w ++ []) st) (w + 1) (1000000, [])) → FI M M2 c sf (foldN (fun w st => chk A dy mi sf (rl c c w ++ []) st) (w + 1) (1000000, [])) → ∀ u : Int32, u = nI w + 1 → K2 (M2, v, u) := by
    intro M2 v ev f2 u eu
    rw [eu, nI_1]
    refine hK2 _ ⟨w + 1, by omega, rfl, ev, f2⟩ ?_
    show c ^ c - (nI (w + 1)).toNatClampNeg < c ^ c - x5.toNatClampNeg
    rw [e5, nI_clamp (by omega), nI_clamp (by omega)]; omega
  have estep : foldN (fun w st => chk A dy mi sf (rl c c w ++ []) st) (w + 1) (1000000, []) = chk A dy mi sf (rl c c w) (foldN (fun w st => chk A dy mi sf (rl c c w ++ []) st) w (1000000, [])) := by
    show chk A dy mi sf (rl c c w ++ []) _ = _
    rw [happ]
  rw [estep] at next
  generalize foldN (fun w st => chk A dy mi sf (rl c c w ++ []) st) w (1000000, []) = st at *
  have hlenp : (rl c c w).length = c := rl_len c w
  -- the total of a way that may be gone, or none
  have total : ∀ (M2 : Mem) (x8 x9 x10 : Int32), FI M M2 c sf st → (∀ i, i < c → M2.1 70 0 i = nI (sf ((rl c c w).reverse.getD i 0))) → ((x8 = 0 ∧ evP A dy mi sf (rl c c w) = none) ∨ (x8 = 1 ∧ ∃ W, evP A dy mi sf (rl c c w) = some W ∧ x9 = nI W ∧ W ≤ 198 * c ∧ x10 = mI (lstP sf (rl c c w)))) → s_X12_findRound_227 (nI dy) (nI mi) (nI (c ^ c)) P K2 M2 x3 (nI w) x8 x9 x10 := by
    intro M2 x8 x9 x10 f2 h70 hcase
    unfold s_X12_findRound_227
    rcases hcase with ⟨e8, hev⟩ | ⟨e8, W, hev, e9, hWle, e10⟩
    · rw [e8]
      refine ⟨fun _ => ?_, fun t => absurd rfl t⟩
      unfold s_X12_findRound_246
      intro v ev
      refine ⟨fun _ => next M2 x3 (by rw [chk_n hev]; exact e3) (by rw [chk_n hev]; exact f2), fun t => absurd rfl t⟩
    · rw [e8]
      refine ⟨fun t => absurd t (by decide), fun _ => ?_⟩
      have hlp : lstP sf (rl c c w) ≤ A.1 0 := by
        refine lst_le (c := c) hsf (fun k hk => ?_)
        have key : ∀ r w j, j ∈ rl c r w → j < c := by
          intro r
          induction r with
          | zero => intro w j hj; cases hj
          | succ r ih =>
            intro w j hj
            rcases List.mem_cons.mp hj with q | q
            · rw [q]; exact Nat.mod_lt _ (by omega)
            · exact ih _ _ q
        exact key c w k hk
      have hR2 := f2.1.RM (q := 44) (by omega) hR
      have hf := far198 hw hdy hlp (Nat.zero_le _)
      rw [e10]
      have em : (-1 : Int32) = mI 0 := rfl
      rw [em]
      refine tM_farOf hw hR2.1 hR2.2.1 hdy hlp (Nat.zero_le _) ?_
      unfold s_X12_findRound_246
      intro v ev
      rw [e9, nI_add] at ev
      have ok1 := ok.1
      refine ⟨fun t => absurd t (by decide), fun _ => ?_⟩
      have better : W + farN A dy (lstP sf (rl c c w)) 0 < st.1 → s_X12_findRound_264 (nI dy) (nI mi) (nI (c ^ c)) P K2 M2 (nI w) v := by
        intro hb
        have ec : chk A dy mi sf (rl c c w) st = (W + farN A dy (lstP sf (rl c c w)) 0, rl c c w) := by rw [chk_s hev, if_pos hb]
        rw [ec] at next
        unfold s_X12_findRound_264
        refine Lz_rule (fun a => ∃ j, j ≤ c ∧ a.2 = nI j ∧ eqD M a.1 ∧ a.1.1 10 0 44 = nI c ∧ (∀ i, i < c → a.1.1 69 0 i = nI (sf i)) ∧ a.1.1 70 = M2.1 70 ∧ ∀ i, i < j → a.1.1 71 0 i = nI (sf ((rl c c w).reverse.getD i 0))) (fun a => c - a.2.toNatClampNeg) ?_ ⟨0, Nat.zero_le _, rfl, f2.1, f2.2.1, f2.2.2.1, rfl, fun i hi => absurd hi (Nat.not_lt_zero i)⟩
        rintro K3 ⟨M3, y⟩ ⟨j, hj, ey, r3, k44, k69, k70, k71⟩ hK3
        dsimp only at ey r3 k44 k69 k70 k71
        show s_X12_findRound_270 (nI dy) (nI mi) v (nI (c ^ c)) (nI w) P K2 K3 M3 y
        unfold s_X12_findRound_270
        rw [k44, ey, nI_leI (by omega) (by omega)]
        refine ⟨fun t => next M3 v ?_ ⟨r3, k44, k69, fun _ i hi => k71 i (by omega)⟩, fun t => ?_⟩
        · rw [ev]
          unfold bstI
          rw [if_neg (show ¬ W + farN A dy (lstP sf (rl c c w)) 0 = 1000000 by omega)]
        · have vj : vp_in (nI j) 7 := vp_in_nI (by omega) (by omega)
          rw [nI_clamp (by omega), k70, h70 j (by omega)]
          refine ⟨vj, vj, fun M4 m4 u eu => ?_⟩
          rw [eu, nI_1]
          refine hK3 _ ⟨j + 1, by omega, rfl, r3.tr (by rw [m4]; exact eqD.w (by omega)), by rw [m4]; exact (congrFun (congrFun (wI_cc (by omega)) 0) 44).trans k44, fun i hi => by rw [m4]; exact (congrFun (congrFun (wI_cc (by omega)) 0) i).trans (k69 i hi), by rw [m4]; exact (wI_cc (by omega)).trans k70, fun i hi => ?_⟩ ?_
          · rw [m4]
            show (wI M3 71 0 j _).1 71 0 i = _
            rw [wI_at]
            by_cases t2 : i = j
            · rw [if_pos ⟨rfl, rfl, t2⟩, t2]
            · rw [if_neg (fun q => t2 q.2.2)]; exact k71 i (by omega)
          · show c - (nI (j + 1)).toNatClampNeg < c - y.toNatClampNeg
            rw [ey, nI_clamp (by omega), nI_clamp (by omega)]; omega
      have worse : ¬ W + farN A dy (lstP sf (rl c c w)) 0 < st.1 → ∀ u : Int32, u = nI w + 1 → K2 (M2, x3, u) := by
        intro hb
        have ec : chk A dy mi sf (rl c c w) st = st := by rw [chk_s hev, if_neg hb]
        rw [ec] at next
        exact next M2 x3 e3 f2
      by_cases hm : st.1 = 1000000
      · have e3' : x3 = -4 := by rw [e3]; unfold bstI; rw [if_pos hm]
        rw [e3']
        rw [e3'] at worse
        exact ⟨fun _ => better (by omega), fun t => absurd (by decide) t⟩
      · have e3' : x3 = nI st.1 := by rw [e3]; unfold bstI; rw [if_neg hm]
        refine ⟨fun t => absurd t (by rw [e3']; exact nI_pos (by omega)), fun _ => ⟨fun t => worse ?_, fun t => better ?_⟩⟩
        · rw [e3', ev, nI_leI (by omega) (by omega)] at t; omega
        · rw [e3', ev, nI_leI (by omega) (by omega)] at t; omega
  -- the way in time
  have timed : ∀ (M2 : Mem) (x8 : Int32), FI M M2 c sf st → (∀ i, i < c → M2.1 70 0 i = nI (sf ((rl c c w).reverse.getD i 0))) → ((x8 = 0 ∧ ¬ (rl c c w).Nodup) ∨ (x8 = 1 ∧ (rl c c w).Nodup)) → ∃ n, Lz (fun (K150 : Mem × Int32 × Int32 × Int32 × Int32 → Prop) (a : Mem × Int32 × Int32 × Int32 × Int32) => s_X12_findRound_150 (nI dy) (nI mi) x3 (nI (c ^ c)) (nI w) P K2 K150 a.1 a.2.1 a.2.2.1 a.2.2.2.1 a.2.2.2.2) n (M2, x8, (0 : Int32), (-1 : Int32), (0 : Int32)) := by
    intro M2 x8 f2 h70 hcase
    have hd0 : (rl c c w).drop (c - 0) = [] := by
      rw [Nat.sub_zero]
      exact List.drop_eq_nil_of_le (by omega)
    refine Lz_rule (fun a => ∃ t, t ≤ c ∧ a.1 = M2 ∧ a.2.2.2.2 = nI t ∧ ((a.2.1 = 0 ∧ evP A dy mi sf (rl c c w) = none) ∨ (a.2.1 = 1 ∧ (rl c c w).Nodup ∧ ∃ W, evP A dy mi sf ((rl c c w).drop (c - t)) = some W ∧ a.2.2.1 = nI W ∧ W ≤ 198 * t ∧ a.2.2.2.1 = mI (lstP sf ((rl c c w).drop (c - t)))))) (fun a => c - a.2.2.2.2.toNatClampNeg) ?_ ⟨0, Nat.zero_le _, rfl, rfl, ?_⟩
    rotate_left
    · rcases hcase with ⟨q1, q2⟩ | ⟨q1, q2⟩
      · refine Or.inl ⟨q1, ?_⟩
        cases hev : evP A dy mi sf (rl c c w) with
        | none => rfl
        | some W => exact absurd (evP_nodup _ _ hev) q2
      · exact Or.inr ⟨q1, q2, 0, by rw [hd0]; rfl, rfl, Nat.le_refl _, by rw [hd0]; rfl⟩
    rintro K3 ⟨M3, y8, y9, y10, y11⟩ ⟨t, ht, eM, e11, hcase2⟩ hK3
    dsimp only at eM e11 hcase2
    subst eM
    show s_X12_findRound_150 (nI dy) (nI mi) x3 (nI (c ^ c)) (nI w) P K2 K3 M3 y8 y9 y10 y11
    unfold s_X12_findRound_150
    rw [f2.2.1, e11, nI_leI (by omega) (by omega)]
    rcases hcase2 with ⟨e8, hev⟩ | ⟨e8, hnd, W, hev, e9, hWt, e10⟩
    · have fin := total M3 y8 y9 y10 f2 h70 (Or.inl ⟨e8, hev⟩)
      exact ⟨fun _ => fin, fun _ => ⟨fun _ => fin, fun q => absurd e8 q⟩⟩
    · refine ⟨fun q => ?_, fun q => ⟨fun q2 => absurd q2 (by rw [e8]; decide), fun _ => ?_⟩⟩
      · have : t = c := by omega
        subst this
        rw [Nat.sub_self, List.drop_zero] at hev e10
        exact total M3 y8 y9 y10 f2 h70 (Or.inr ⟨e8, W, hev, e9, hWt, e10⟩)
      have htc : t < c := by omega
      have edrop : (rl c c w).drop (c - (t + 1)) = (rl c c w).getD (c - 1 - t) 0 :: (rl c c w).drop (c - t) := by
        have hidx : c - 1 - t = c - (t + 1) := by omega
        rw [hidx, List.drop_eq_getElem_cons (by omega), List.getD_eq_getElem?_getD, List.getElem?_eq_getElem (by omega), show c - (t + 1) + 1 = c - t by omega]
        rfl
      have hdg : (rl c c w).getD (c - 1 - t) 0 < c := by
        have key : ∀ r w j, j ∈ rl c r w → j < c := by
          intro r
          induction r with
          | zero => intro w j hj; cases hj
          | succ r ih =>
            intro w j hj
            rcases List.mem_cons.mp hj with q | q
            · rw [q]; exact Nat.mod_lt _ (by omega)
            · exact ih _ _ q
        refine key c w _ ?_
        rw [List.getD_eq_getElem?_getD, List.getElem?_eq_getElem (by omega)]
        exact List.getElem_mem _
      have hlp : lstP sf ((rl c c w).drop (c - t)) ≤ A.1 0 := by
        refine lst_le (c := c) hsf (fun k hk => ?_)
        have hk' := List.mem_of_mem_drop hk
        have key : ∀ r w j, j ∈ rl c r w → j < c := by
          intro r
          induction r with
          | zero => intro w j hj; cases hj
          | succ r ih =>
            intro w j hj
            rcases List.mem_cons.mp hj with q | q
            · rw [q]; exact Nat.mod_lt _ (by omega)
            · exact ih _ _ q
        exact key c w k hk'
      have hs := hsf _ hdg
      have e70 : M3.1 70 0 t = nI (sf ((rl c c w).getD (c - 1 - t) 0)) := by rw [h70 t htc, rev_get hlenp htc]
      have hnotin : (rl c c w).getD (c - 1 - t) 0 ∉ (rl c c w).drop (c - t) := by
        have hn2 : ((rl c c w).drop (c - (t + 1))).Nodup := hnd.sublist (List.drop_sublist _ _)
        rw [edrop] at hn2
        exact (List.nodup_cons.mp hn2).1
      have evc := evP_c (k := (rl c c w).getD (c - 1 - t) 0) hev
      rw [if_neg hnotin] at evc
      rw [nI_clamp (by omega), e70, e10]
      generalize (rl c c w).getD (c - 1 - t) 0 = dgt at *
      have v7 : vp_in (nI t) 7 := vp_in_nI (by omega) (by omega)
      have hR2 := f2.1.RM (q := 44) (by omega) hR
      have hf := far198 hw hdy hlp (show sf dgt + 1 ≤ A.1 0 by omega)
      have hlat : A.2.1 5 (sf dgt) ≤ 999 := (hw.2.2.2.2.2.2.1 _ hs).2.2.2.2.2
      refine ⟨v7, ?_⟩
      rw [← mI_s (sf dgt)]
      refine tM_farOf hw hR2.1 hR2.2.1 hdy hlp (by omega) (fun x9 e9' => ⟨v7, fun x10 e10' => ⟨v7, ?_⟩⟩)
      rw [e9, nI_add] at e9'
      have e50 : (50 : Int32) + nI (sf dgt) = nI (50 + sf dgt) := nI_add 50 _
      rw [e70, e50, nI_clamp (by omega), (hR2.1.2 _ hs).2.2.2.2.2.1, e9', nI_add, nI_ltI (by omega) (by omega)]
      refine ⟨vp_in_nI (by omega) (by omega), fun q3 => ?_, fun q3 => ?_⟩
      · rw [if_pos q3] at evc
        rw [← edrop] at evc
        unfold s_X12_findRound_219
        intro u eu
        rw [eu, nI_1]
        refine hK3 _ ⟨t + 1, by omega, rfl, rfl, Or.inl ⟨rfl, ?_⟩⟩ ?_
        · have := evP_app evc ((rl c c w).take (c - (t + 1)))
          rw [List.take_append_drop] at this
          exact this
        · show c - (nI (t + 1)).toNatClampNeg < c - y11.toNatClampNeg
          rw [e11, nI_clamp (by omega), nI_clamp (by omega)]; omega
      · rw [if_neg q3] at evc
        have evc' := evc
        rw [← edrop] at evc'
        unfold s_X12_findRound_219
        intro u eu
        rw [eu, nI_1]
        refine hK3 _ ⟨t + 1, by omega, rfl, rfl, Or.inr ⟨rfl, hnd, _, evc', rfl, by omega, ?_⟩⟩ ?_
        · show x10 = _
          rw [e10', e70, edrop]
          exact (mI_s _).symm
        · show c - (nI (t + 1)).toNatClampNeg < c - y11.toNatClampNeg
          rw [e11, nI_clamp (by omega), nI_clamp (by omega)]; omega
  -- the digits
  have e9' : x9 = mI c := by rw [e9, f1.2.1]; rfl
  refine Lz_rule (fun a => ∃ t u, t ≤ c ∧ FI M a.1 c sf st ∧ a.2.1 = nI (w / c ^ t) ∧ a.2.2.1 = nI u ∧ mset (rl c t w) u ∧ ((a.2.2.2.1 = 0 ∧ ¬ (rl c t w).Nodup) ∨ (a.2.2.2.1 = 1 ∧ (rl c t w).Nodup)) ∧ a.2.2.2.2 = mI (c - t) ∧ ∀ j, j < t → a.1.1 70 0 (c - 1 - j) = nI (sf ((rl c t w).getD j 0))) (fun a => (a.2.2.2.2 + 1).toNatClampNeg) ?_ ⟨0, 0, Nat.zero_le _, f1, by rw [Nat.pow_zero, Nat.div_one], rfl, ⟨by omega, fun k hk => ⟨fun q => by rw [Nat.zero_div] at q; omega, fun q => by cases q⟩⟩, Or.inr ⟨rfl, List.nodup_nil⟩, e9', fun j hj => absurd hj (Nat.not_lt_zero j)⟩
  rintro K3 ⟨M2, y6, y7, y8, y9⟩ ⟨t, u, ht, f2, e6, e7, hm, hcase, e9'', h70⟩ hK3
  dsimp only at f2 e6 e7 hcase e9'' h70
  show s_X12_findRound_61 (nI dy) (nI mi) x3 (nI (c ^ c)) (nI w) P K2 K3 M2 y6 y7 y8 y9
  unfold s_X12_findRound_61
  rw [e9'', mI_neg (by omega)]
  refine ⟨fun q => ?_, fun q => ?_⟩
  · have : t = c := by omega
    subst this
    exact timed M2 y8 f2 (fun i hi => by
      have := h70 (t - 1 - i) (by omega)
      rw [show t - 1 - (t - 1 - i) = i by omega] at this
      rw [this, rev_get hlenp hi]) hcase
  have htc : t < c := by omega
  have c0 : nI c = 0 ↔ c = 0 := eqk (by omega) rfl (by omega)
  have hwt : w / c ^ t < 2 ^ 31 := Nat.lt_of_le_of_lt (Nat.div_le_self _ _) (by omega)
  have hdc : w / c ^ t % c < c := Nat.mod_lt _ (by omega)
  have erem : nI (w / c ^ t) - nI (w / c ^ t) / nI c * nI c = nI (w / c ^ t % c) := pk_rem hwt (by omega) (by omega)
  have ediv : nI (w / c ^ t) / nI c = nI (w / c ^ (t + 1)) := by
    have : nI (w / c ^ t) / nI c = nI (w / c ^ t / c) := pk_div hwt (by omega) (by omega)
    rw [this, Nat.div_div_eq_div_mul, Nat.pow_succ]
  have esn := rl_snoc (c := c) (by omega) t w
  have hlt : (rl c t w).length = t := rl_len t w
  have emi : mI (c - t) = nI (c - t - 1) := mI_pred (by omega)
  rw [f2.2.1, e6, erem, emi, nI_clamp (show c - t - 1 < 2 ^ 31 by omega), nI_clamp (show w / c ^ t % c < 2 ^ 31 by omega), f2.2.2.1 _ hdc]
  refine ⟨fun z0 => absurd (c0.mp z0) (by omega), vp_in_nI (by omega) (by omega), vp_in_nI (by omega) (by omega), fun M3 m3 => ?_⟩
  have f3 : FI M M3 c sf st := by rw [m3]; exact f2.w70
  have k70 : ∀ j, j < t + 1 → M3.1 70 0 (c - 1 - j) = nI (sf ((rl c (t + 1) w).getD j 0)) := by
    intro j hj
    rw [m3, wI_at, esn, List.getD_eq_getElem?_getD]
    by_cases z0 : j = t
    · rw [if_pos ⟨rfl, rfl, by omega⟩, z0, List.getElem?_append_right (by omega), hlt, Nat.sub_self]
      rfl
    · rw [if_neg (fun q => by omega), List.getElem?_append_left (by omega), ← List.getD_eq_getElem?_getD]
      exact h70 j (by omega)
  generalize hdd : w / c ^ t % c = dgt at *
  have hb := bit7 u hm.1 dgt (by omega)
  have hb2 : u / 2 ^ dgt % 2 < 2 := Nat.mod_lt _ (by omega)
  have m' : mset (rl c (t + 1) w) (if u / 2 ^ dgt % 2 = 1 then u else u + 2 ^ dgt) := by
    have mk := hm.2 dgt (by omega)
    by_cases z0 : u / 2 ^ dgt % 2 = 1
    · rw [if_pos z0]
      refine ⟨hm.1, fun k hk => ?_⟩
      rw [hm.2 k hk, esn, List.mem_append, List.mem_singleton]
      exact ⟨Or.inl, fun y => y.elim (fun z => z) (fun z => by rw [z]; exact mk.mp z0)⟩
    · rw [if_neg z0]
      obtain ⟨⟨n1, n2⟩, -⟩ := mset_c hm (show dgt < 7 by omega) (fun y => z0 (mk.mpr y))
      refine ⟨n1, fun k hk => ?_⟩
      rw [n2 k hk, esn, List.mem_append, List.mem_singleton, List.mem_cons]
      exact ⟨Or.symm, Or.symm⟩
  have go110 : ∀ y : Int32, ((y = 0 ∧ ¬ (rl c (t + 1) w).Nodup) ∨ (y = 1 ∧ (rl c (t + 1) w).Nodup)) → s_X12_findRound_110 (nI dy) (nI mi) x3 (nI (c ^ c)) (nI w) P K2 K3 M3 (nI (w / c ^ t)) (nI u) (nI (c - t - 1)) y := by
    intro y hy
    unfold s_X12_findRound_110
    rw [f3.2.1, erem, ediv, hb.2.1]
    refine ⟨fun z0 => absurd (c0.mp z0) (by omega), fun v7 ev7 => ⟨fun z0 => absurd (c0.mp z0) (by omega), fun v6 ev6 v9 ev9 => ?_⟩⟩
    have ev9' : v9 = mI (c - (t + 1)) := by
      rw [ev9]
      have : nI (c - t - 1) + -1 = nI (c - t - 1) - 1 := (Int32.sub_eq_add_neg _ _).symm
      rw [this, show c - (t + 1) = c - t - 1 by omega]
      rfl
    refine hK3 _ ⟨t + 1, _, by omega, f3, ev6, ev7, m', hy, ev9', k70⟩ ?_
    show (v9 + 1).toNatClampNeg < (y9 + 1).toNatClampNeg
    have zz : ∀ k : Nat, mI k + 1 = nI k := fun k => by
      show nI k - 1 + 1 = nI k
      exact Int32.sub_add_cancel _ _
    rw [ev9', e9'', zz, zz, nI_clamp (by omega), nI_clamp (by omega)]
    omega
  have ndiff : (rl c (t + 1) w).Nodup ↔ (rl c t w).Nodup ∧ dgt ∉ rl c t w := by
    rw [esn, List.nodup_append]
    constructor
    · rintro ⟨a, -, b⟩
      exact ⟨a, fun hmem => b dgt hmem dgt (List.mem_singleton.mpr rfl) rfl⟩
    · rintro ⟨a, b⟩
      refine ⟨a, by simp, fun x hx y hy => ?_⟩
      rw [List.mem_singleton] at hy
      rw [hy]
      intro e
      rw [e] at hx
      exact b hx
  have mk := hm.2 dgt (by omega)
  rcases hcase with ⟨e8, hnd⟩ | ⟨e8, hnd⟩
  · rw [e8, e7]
    exact ⟨fun _ => go110 0 (Or.inl ⟨rfl, fun y => hnd (ndiff.mp y).1⟩), fun z0 => absurd rfl z0⟩
  · rw [e8]
    have e0 : nI (u / 2 ^ dgt % 2) = 0 ↔ u / 2 ^ dgt % 2 = 0 := eqk (by omega) rfl (by omega)
    rw [f3.2.1, erem, e7, hb.1, e0]
    refine ⟨fun z0 => absurd z0 (by decide), fun _ => ⟨fun z0 => absurd (c0.mp z0) (by omega), fun z0 => go110 0 (Or.inl ⟨rfl, fun y => (ndiff.mp y).2 (mk.mp (by omega))⟩), fun z0 => go110 1 (Or.inr ⟨rfl, ndiff.mpr ⟨hnd, fun y => by have := mk.mpr y; omega⟩⟩)⟩⟩
end FRM
theorem tM_round {M : Mem} {S : Sg} {x1 x2 x3 x4 : Int32} {P : Int32 → Mem → Prop} (h : RMX M S) (hw : WfX S) (hp : ∀ M', sameC M M' → RMX M' S → P (sp_round S x1 x2 x3 x4) M') : s_X12_round M x1 x2 x3 x4 P := by
  unfold s_X12_round
  intro M1 m1
  have h1 : RMX M1 S := by rw [m1]; exact h.thrown
  replace hp : ∀ M', sameC M1 M' → RMX M' S → P (sp_round S x1 x2 x3 x4) M' := fun M' a b => hp M' (sameC.tr (by rw [m1]; exact sC10) a) b
  have n5 : S.1.1 1 ≤ 5 := hw.1.2.1
  have h12 : S.1.1 0 ≤ 12 := hw.1.1
  have bad : ∀ v, sp_round S x1 x2 x3 x4 = v → P v M1 := fun v hb => by
    have := hp M1 sameC.rf h1
    rw [hb] at this
    exact this
  have no : ∀ v M', ¬ 0 ≤ v → P v M' → s_X12_round_70 x1 x2 x4 P M' v := fun v M' hv hpv => ⟨fun z => absurd z hv, fun _ => hpv⟩
  refine t_isDairy h1.1.2.1.1 (by omega) (fun g1 => b1 ?_) (fun g1 => b0 (bad _ (by unfold sp_round; rw [if_neg (fun q => g1 q.2.1)])))
  refine t_in (by decide) (n := 601) (by decide) (fun g2 => b1 ?_) (fun g2 => b0 (bad _ (by unfold sp_round; rw [if_neg (fun q => g2 q.2.2.1)])))
  refine t_in (by decide) (n := 8) (by decide) (fun g3 => b1 ?_) (fun g3 => b0 (bad _ (by unfold sp_round; rw [if_neg (fun q => g3 q.1)])))
  refine t_in_i (fun g4 => c1 ?_) (fun g4 => c0 (bad _ (by unfold sp_round; rw [if_neg (fun q => g4 q.2.2.2)])))
  have g := (⟨g3, g1, g2, g4⟩ : rg x3 8 ∧ rg x1 (S.1.1 1) ∧ rg x2 601 ∧ ri x4)
  have hd := rg_lt g3
  obtain ⟨w0, w1, w2, w3, w4, w5, w6⟩ := hw.2.2 _ hd
  refine t_lacks h1.2.2.1 (fun _ => ⟨w0, w4⟩) (fun y => absurd g3 y) (fun _ q => ⟨fun _ => no _ _ (by decide) (bad _ (by unfold sp_round; rw [if_pos g, if_pos q])), fun z => absurd z (by decide)⟩) (fun _ q q4 => ⟨fun z => absurd rfl z, fun _ => ?_⟩) (fun _ q q4 => ⟨fun _ => no _ _ (by decide) (bad _ (by unfold sp_round; rw [if_pos g, if_neg q, if_neg q4])), fun z => absurd z (by decide)⟩)
  have es : sp_round S x1 x2 x3 x4 = rdR S (ix x1) (ix x2) (ix x3) x4 := by unfold sp_round; rw [if_pos g, if_neg (by omega), if_pos ⟨q, q4⟩]
  rw [es] at hp
  unfold rdR at hp
  have l1 := rg_lt g1
  have l2 := rg_lt g2
  have ex1 := rg_nI g1 (by omega)
  have ex2 := rg_nI g2 (by omega)
  refine tM_findStops h1 hw g3 q (fun hv M2 r2 e44 e69 => ?_) (fun hv M2 r2 => ?_)
  · rw [if_pos hv] at hp
    have hlt := fun j hj => sfR_lt (j := j) h12 hv.2 hj
    generalize S.2.2.1 5 (ix x3) = n at *
    generalize S.2.2.2 (ix x3) = gg at *
    have h2 := r2.RMX h1
    refine ⟨fun _ => ?_, fun z => absurd (by decide) z⟩
    have xm : x4 = -1 ↔ x4.toInt = -1 := by rw [eq_i, m1_t]
    rw [e44, lt_i, nI_toInt (by omega)]
    have ok := srS_OK (A := S.1) (dy := ix x1) (mi := ix x2) (c := n) (sf := sfR S.1 gg n) n [] (1000000, []) ⟨Nat.le_refl _, fun t => absurd rfl t⟩ (by show 0 + n = n; omega) (fun k hk => by cases hk)
    have ef : srS S.1 (ix x1) (ix x2) (sfR S.1 gg n) n n [] (1000000, []) = fnd S.1 gg n (ix x1) (ix x2) := rfl
    refine ⟨fun z => ?_, fun z => ?_⟩
    · have key := fun P' hp' => tM_findRound (P := P') (M := M2) (dy := ix x1) (mi := ix x2) (c := n) (sf := sfR S.1 gg n) h2.1 hw.1 l1 (by omega) (by omega) hlt (by omega) e44 e69 hp'
      rw [← ex1, ← ex2] at key
      refine key _ (fun M3 f3 => ?_)
      rw [ef] at f3 ok
      rw [ef]
      have r3 : eqD M1 M3 := r2.tr f3.1
      have kk := hp M3 r3.sameC (r3.RMX h1)
      have ok1 := ok.1
      unfold rdA at kk
      unfold bstI
      by_cases hm : (fnd S.1 gg n (ix x1) (ix x2)).1 = 1000000
      · rw [if_pos hm] at kk ⊢
        exact ⟨fun t => absurd t (by decide), fun _ => kk⟩
      · rw [if_neg hm] at kk ⊢
        refine ⟨fun _ => ⟨fun t => ?_, fun t => ?_⟩, fun t => absurd (nI_pos' (by omega)) t⟩
        · rw [if_neg t, if_pos z] at kk
          rw [xm] at t
          have hr : rg x4 7 := ⟨by have := g4.1; omega, g4.2⟩
          have it := ix_t hr
          refine ⟨rg_in hr, ?_⟩
          rw [f3.2.2.2 hm _ (show ix x4 < n by omega)]
          exact kk
        · rw [if_pos t] at kk
          exact kk
    · have kk := hp M2 r2.sameC h2
      unfold rdA at kk
      have hne : ¬ x4 = -1 := fun t => by rw [xm] at t; omega
      by_cases hm : (fnd S.1 gg n (ix x1) (ix x2)).1 = 1000000
      · rw [if_pos hm] at kk; exact kk
      · rw [if_neg hm, if_neg hne, if_neg z] at kk; exact kk
  · rw [if_neg hv] at hp
    exact no _ _ (by decide) (hp M2 r2.sameC (r2.RMX h1))
