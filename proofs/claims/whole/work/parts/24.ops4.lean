/-! SHELVES -/
theorem eqk {a k : Nat} {K : Int32} (ha : a < 2 ^ 31) (hK : K = nI k) (hk : k < 2 ^ 31) : nI a = K ↔ a = k := by rw [hK]; exact nI_eq ha hk
theorem d1 {A : Prop} {B : Nat → Prop} {d : Nat} (hd : d < 8) (b : B d) : (some d = none → A) ∧ (∀ d2 : Nat, some d = some d2 → d2 < 8 ∧ B d2) := ⟨fun h => absurd h (by simp), fun d2 e => by cases e; exact ⟨hd, b⟩⟩
theorem d0 {A : Prop} {B : Nat → Prop} (a : A) : ((none : Option Nat) = none → A) ∧ (∀ d2 : Nat, none = some d2 → d2 < 8 ∧ B d2) := ⟨fun _ => a, fun d2 e => absurd e (by simp)⟩
theorem t8 : (8 : Int32).toInt = 8 := by decide
theorem t_shelfAt {M : Mem} {x : Int32} {P : Option Nat → Mem → Prop} (h1 : rg x 8 → P (some (ix x)) M) (h0 : ¬ rg x 8 → P none M) : s_X11_shelfAt M x P := by
  unfold s_X11_shelfAt s_X11_shelfAt_22
  refine ⟨fun q => h0 (fun g => by rw [lt_i, t0_i] at q; omega), fun q => ⟨fun r => h0 (fun g => by rw [le_i, t8] at r; omega), fun r => ?_⟩⟩
  rw [lt_i, t0_i] at q
  rw [le_i, t8] at r
  have g : rg x 8 := ⟨by omega, by omega⟩
  exact ⟨rg_in g, fun d e => by rw [e]; exact h1 g⟩
/-- what is on shelf d -/
abbrev hd0 (S : Sg) (d : Nat) : Nat := S.2.2.1 0 d
theorem t_rowRefusal {M : Mem} {S : Sg} {d : Nat} {P : Int32 → Mem → Prop} (h : RCS M S) (hd : d < 8) (hw : hd0 S d ≤ 2) (z : hd0 S d = 0 → P (-11) M) (r : hd0 S d = 2 → P 0 M) (c : hd0 S d = 1 → P (-12) M) : s_X11_rowRefusal d M P := by
  unfold s_X11_rowRefusal s_X9_isEmpty s_X9_isRow
  rw [(h d hd).1]
  have e0 := eqk (a := hd0 S d) (K := 0) (k := 0) (by omega) rfl (by omega)
  have e2 := eqk (a := hd0 S d) (K := 2) (k := 2) (by omega) rfl (by omega)
  exact ⟨fun q => b0 ⟨fun q2 => b0 (c (by rw [e0] at q; rw [(h d hd).1, e2] at q2; omega)), fun q2 => b1 (r (by rw [(h d hd).1, e2] at q2; exact q2))⟩, fun q => b1 (z (e0.mp q))⟩
theorem t_crateRefusal {M : Mem} {S : Sg} {d : Nat} {P : Int32 → Mem → Prop} (h : RCS M S) (hd : d < 8) (hw : hd0 S d ≤ 2) (z : hd0 S d = 0 → P (-11) M) (r : hd0 S d = 2 → P (-12) M) (c : hd0 S d = 1 → P 0 M) : s_X11_crateRefusal d M P := by
  unfold s_X11_crateRefusal s_X9_isEmpty s_X9_isRow
  rw [(h d hd).1]
  have e0 := eqk (a := hd0 S d) (K := 0) (k := 0) (by omega) rfl (by omega)
  have e2 := eqk (a := hd0 S d) (K := 2) (k := 2) (by omega) rfl (by omega)
  exact ⟨fun q => b0 ⟨fun q2 => b0 (c (by rw [e0] at q; rw [(h d hd).1, e2] at q2; omega)), fun q2 => b1 (r (by rw [(h d hd).1, e2] at q2; exact q2))⟩, fun q => b1 (z (e0.mp q))⟩
theorem t_byteRowRefusal {M : Mem} {S : Sg} {d : Nat} {P : Int32 → Mem → Prop} (h : RCS M S) (hd : d < 8) (hw : hd0 S d ≤ 2) (hw4 : S.2.2.1 4 d ≤ 2) (z : hd0 S d = 0 → P (-11) M) (r : hd0 S d = 2 → S.2.2.1 4 d = 0 → P 0 M) (c : hd0 S d ≠ 0 → ¬ (hd0 S d = 2 ∧ S.2.2.1 4 d = 0) → P (-12) M) : s_X11_byteRowRefusal d M P := by
  unfold s_X11_byteRowRefusal
  refine t_rowRefusal h hd hw (fun q => ⟨fun _ => z q, fun q2 => absurd q2 (by decide)⟩) (fun q => ?_) (fun q => ⟨fun _ => c (by omega) (by omega), fun q2 => absurd q2 (by decide)⟩)
  refine ⟨fun q2 => absurd rfl q2, fun _ => ?_⟩
  rw [((h d hd).2.2 q).1]
  have e0 := eqk (a := S.2.2.1 4 d) (K := 0) (k := 0) (by omega) rfl (by omega)
  exact ⟨fun q2 => r q (e0.mp q2), fun q2 => c (by omega) (fun q3 => q2 (e0.mpr q3.2))⟩
/-- the reference's -/
theorem t_wrongRow {M : Mem} {S : Sg} {x : Int32} {P : Int32 → Mem → Prop} (h : RMS M S) (hw : rg x 8 → hd0 S (ix x) ≤ 2) (n : ¬ rg x 8 → P (-1) M) (z : rg x 8 → hd0 S (ix x) = 0 → P (-11) M) (r : rg x 8 → hd0 S (ix x) = 2 → P 0 M) (c : rg x 8 → hd0 S (ix x) = 1 → P (-12) M) : s_X12_wrongRow M x P := by
  unfold s_X12_wrongRow
  refine t_in (by decide) (n := 8) (by decide) (fun g => c1 ⟨rg_in g, ?_⟩) (fun g => c0 (n g))
  rw [(h _ (rg_lt g)).1]
  have hw := hw g
  have e0 := eqk (a := hd0 S (ix x)) (K := 0) (k := 0) (by omega) rfl (by omega)
  have e2 := eqk (a := hd0 S (ix x)) (K := 2) (k := 2) (by omega) rfl (by omega)
  exact ⟨fun q => ⟨rg_in g, fun q2 => r g (e2.mp q2), fun q2 => c g (by rw [e0] at q; rw [e2] at q2; omega)⟩, fun q => z g (e0.mp q)⟩
theorem t_wrongShelf {M : Mem} {S : Sg} {x : Int32} {P : Int32 → Mem → Prop} (h : RMS M S) (hw : rg x 8 → hd0 S (ix x) ≤ 2) (n : ¬ rg x 8 → P (-1) M) (z : rg x 8 → hd0 S (ix x) = 0 → P (-11) M) (r : rg x 8 → hd0 S (ix x) = 2 → P (-12) M) (c : rg x 8 → hd0 S (ix x) = 1 → P 0 M) : s_X12_wrongShelf M x P := by
  unfold s_X12_wrongShelf
  refine t_in (by decide) (n := 8) (by decide) (fun g => c1 ⟨rg_in g, ?_⟩) (fun g => c0 (n g))
  rw [(h _ (rg_lt g)).1]
  have hw := hw g
  have e0 := eqk (a := hd0 S (ix x)) (K := 0) (k := 0) (by omega) rfl (by omega)
  have e2 := eqk (a := hd0 S (ix x)) (K := 2) (k := 2) (by omega) rfl (by omega)
  exact ⟨fun q => ⟨rg_in g, fun q2 => c g (by rw [e0] at q; rw [e2] at q2; omega), fun q2 => r g (e2.mp q2)⟩, fun q => z g (e0.mp q)⟩
/-- shelf d made new -/
def shU (S : Sg) (d : Nat) (f : Nat → Nat) (g : Nat → Int32) : Sg := (S.1, S.2.1, (fun c d' => if d' = d then f c else S.2.2.1 c d'), (fun d' => if d' = d then g else S.2.2.2 d'))
theorem RCS.up {M M' : Mem} {S : Sg} {d : Nat} {f : Nat → Nat} {g : Nat → Int32} (h : RCS M S) (e : ∀ d', d' ≠ d → M'.1 7 d' = M.1 7 d' ∧ M'.1 39 d' = M.1 39 d') (n0 : M'.1 7 d 0 = nI (f 0)) (n1 : f 0 = 1 → M'.1 7 d 1 = nI (f 1) ∧ M'.1 7 d 2 = nI (f 2) ∧ M'.1 7 d 3 = nI (f 3)) (n2 : f 0 = 2 → M'.1 7 d 4 = nI (f 4) ∧ M'.1 7 d 5 = nI (f 5) ∧ ∀ j, j < 80 → M'.1 39 d j = g j) : RCS M' (shU S d f g) := by
  intro d' hd'
  unfold shU
  by_cases q : d' = d
  · subst q
    simp only [if_true]
    exact ⟨n0, n1, n2⟩
  · simp only [if_neg q]
    rw [(e d' q).1, (e d' q).2]
    exact h d' hd'
theorem RMS.up {M M' : Mem} {S : Sg} {d : Nat} {f : Nat → Nat} {g : Nat → Int32} (h : RMS M S) (e : ∀ d', d' ≠ d → ∀ c, 72 ≤ c → c ≤ 77 → M'.1 c 0 d' = M.1 c 0 d') (ej : ∀ d', d' ≠ d → ∀ j, j < 80 → M'.2.1 78 0 (80 * d' + j) = M.2.1 78 0 (80 * d' + j)) (n0 : M'.1 72 0 d = nI (f 0)) (n1 : f 0 = 1 → M'.1 73 0 d = nI (f 1) ∧ M'.1 74 0 d = nI (f 2) ∧ M'.1 75 0 d = nI (f 3)) (n2 : f 0 = 2 → M'.1 76 0 d = nI (f 4) ∧ M'.1 77 0 d = nI (f 5) ∧ ∀ j, j < 80 → M'.2.1 78 0 (80 * d + j) = (g j).toInt64) : RMS M' (shU S d f g) := by
  intro d' hd'
  unfold shU
  by_cases q : d' = d
  · subst q
    simp only [if_true]
    exact ⟨n0, n1, n2⟩
  · simp only [if_neg q]
    rw [e d' q 72 (by omega) (by omega), e d' q 73 (by omega) (by omega), e d' q 74 (by omega) (by omega), e d' q 75 (by omega) (by omega), e d' q 76 (by omega) (by omega), e d' q 77 (by omega) (by omega)]
    obtain ⟨a, b, c⟩ := h d' hd'
    exact ⟨a, b, fun r => ⟨(c r).1, (c r).2.1, fun j hj => by rw [ej d' q j hj]; exact (c r).2.2 j hj⟩⟩
theorem RCX.shelf {M M' : Mem} {S : Sg} {d : Nat} {f : Nat → Nat} {g : Nat → Int32} (h : RCX M S) (hS : RCS M' (shU S d f g)) (e : ∀ c, c ≠ 7 → c ≠ 39 → M'.1 c = M.1 c) (eo : M'.2.2 = M.2.2) : RCX M' (shU S d f g) :=
  ⟨h.1.fr (fun c hc => by rw [e c (by unfold pK at hc; omega) (by unfold pK at hc; omega)]) (by rw [e 1 (by omega) (by omega)]) (fun c hc => e c (by omega) (by omega)) eo, h.2.1.fr (by rw [e 0 (by omega) (by omega)]) (fun B _ hB => hB.fr (fun c hc => by rw [e c (by unfold pK at hc; omega) (by unfold pK at hc; omega)]) (by rw [e 1 (by omega) (by omega)]) (fun c hc => e c (by omega) (by omega)) eo), hS⟩
theorem sameM.shelf {M M' : Mem} (e : ∀ c, c ≠ 7 → c ≠ 39 → M'.1 c = M.1 c) (ej : M'.2.1 = M.2.1) : sameM M M' := ⟨fun c hc => e c (fun q => hc (by rw [q]; unfold cK; omega)) (fun q => hc (by rw [q]; unfold cK; omega)), ej⟩
theorem RMX.shelf {M M' : Mem} {S : Sg} {d : Nat} {f : Nat → Nat} {g : Nat → Int32} (h : RMX M S) (hS : RMS M' (shU S d f g)) (e : ∀ c, ¬ (72 ≤ c ∧ c ≤ 77) → M'.1 c = M.1 c) : RMX M' (shU S d f g) := by
  refine ⟨h.1.fr (fun c hc => by rw [e c (by omega)]), h.2.1.fr (by rw [e 10 (by omega)]) (fun B _ hB => hB.fr (fun c hc => by rw [e c (by omega)])), hS, ?_, by rw [e 10 (by omega)]; exact h.2.2.2.2⟩
  obtain ⟨fd, h1, h2, h3⟩ := h.2.2.2.1
  refine ⟨fd, by rw [e 10 (by omega)]; exact h1, h2, fun h4 => ?_⟩
  rw [e 66 (by omega)]
  exact h3 h4
theorem sameC.shelf {M M' : Mem} (e : ∀ c, ¬ (72 ≤ c ∧ c ≤ 77) → M'.1 c = M.1 c) (ej : ∀ c, ¬ (c = 78 ∨ c = 79) → M'.2.1 c = M.2.1 c) (eo : M'.2.2 = M.2.2) : sameC M M' := ⟨fun c hc => e c (by unfold cK at hc; omega), ej, eo⟩
theorem wJ_I {M : Mem} {c i j : Nat} {v : Int64} : (wJ M c i j v).1 = M.1 := rfl
theorem wJ_O {M : Mem} {c i j : Nat} {v : Int64} : (wJ M c i j v).2.2 = M.2.2 := rfl
theorem wJ_at {M : Mem} {c i j : Nat} {v : Int64} {c' i' j' : Nat} : (wJ M c i j v).2.1 c' i' j' = if c' = c ∧ i' = i ∧ j' = j then v else M.2.1 c' i' j' := by
  show uR M.2.1 c i (vp_updL (M.2.1 c i) j v) c' i' j' = _
  by_cases h : c' = c ∧ i' = i
  · rw [h.1, h.2, uR_eq]
    by_cases hj : j' = j
    · rw [if_pos ⟨rfl, rfl, hj⟩, hj, pk_uLs]
    · rw [if_neg (fun q => hj q.2.2), pk_uLn hj]
  · rw [uR_ne h, if_neg (fun q => h ⟨q.1, q.2.1⟩)]
theorem wJ_nc {M : Mem} {c i j : Nat} {v : Int64} {c' : Nat} (h : c' ≠ c) : (wJ M c i j v).2.1 c' = M.2.1 c' := by
  funext i' j'
  rw [wJ_at, if_neg (fun q => h q.1)]
theorem wI_cc {M : Mem} {c i j : Nat} {v : Int32} {c' : Nat} (h : c' ≠ c) : (wI M c i j v).1 c' = M.1 c' := by
  funext i'
  exact wI_nc h
/-! keep -/
def fClear (S : Sg) (d : Nat) (c : Nat) : Nat := if c = 0 then 0 else S.2.2.1 c d
def fCrate (S : Sg) (d k n s : Nat) (c : Nat) : Nat := if c = 0 then 1 else if c = 1 then k else if c = 2 then n else if c = 3 then s else S.2.2.1 c d
def sp_keep (S : Sg) (x1 x2 x3 x4 x5 : Int32) : Int32 × Sg := if rg x1 8 ∧ rg x2 2 then (if x2 = 0 then (0, shU S (ix x1) (fClear S (ix x1)) (S.2.2.2 (ix x1))) else if rg x3 7 ∧ rg x4 10000 ∧ rg x5 12 then (0, shU S (ix x1) (fCrate S (ix x1) (ix x3) (ix x4) (ix x5)) (S.2.2.2 (ix x1))) else (-1, S)) else (-1, S)
theorem rg2 {x : Int32} (h : rg x 2) : (x = 0 ∧ ix x = 0) ∨ (¬ x = 0 ∧ x = 1 ∧ ix x = 1) := by
  have e := rg_nI h (by omega)
  have l := rg_lt h
  rcases (show ix x = 0 ∨ ix x = 1 by omega) with q | q
  · rw [q] at e; exact Or.inl ⟨e, q⟩
  · rw [q] at e; exact Or.inr ⟨by rw [e]; decide, e, q⟩
theorem tC_keep {M : Mem} {S : Sg} {x1 x2 x3 x4 x5 : Int32} {P : Int32 → Mem → Prop} (h : RCX M S) (hp : ∀ M', sameM M M' → RCX M' (sp_keep S x1 x2 x3 x4 x5).2 → P (sp_keep S x1 x2 x3 x4 x5).1 M') : s_X11_keep M x1 x2 x3 x4 x5 P := by
  unfold s_X11_keep
  have bad : (sp_keep S x1 x2 x3 x4 x5) = (-1, S) → P (-1) M := fun hb => by
    have := hp M sameM.rf
    rw [hb] at this
    exact this h
  refine t_shelfAt (fun g1 => d1 (rg_lt g1) ?_) (fun g1 => d0 (bad (by unfold sp_keep; rw [if_neg (fun q => g1 q.1)])))
  refine t_within (by decide) (n := 2) (by decide) (fun g2 => c1 ?_) (fun g2 => c0 (bad (by unfold sp_keep; rw [if_neg (fun q => g2 q.2)])))
  refine ⟨fun z => ?_, fun z => ?_⟩
  · have bad2 : ¬ (rg x3 7 ∧ rg x4 10000 ∧ rg x5 12) → P (-1) M := fun hb => bad (by unfold sp_keep; rw [if_pos ⟨g1, g2⟩, if_neg z, if_neg hb])
    refine t_within (by decide) (n := 7) (by decide) (fun g3 => b1 ?_) (fun g3 => b0 (bad2 (fun q => g3 q.1)))
    refine t_within (by decide) (n := 10000) (by decide) (fun g4 => b1 ?_) (fun g4 => b0 (bad2 (fun q => g4 q.2.1)))
    refine t_within (by decide) (n := 12) (by decide) (fun g5 => c1 ?_) (fun g5 => c0 (bad2 (fun q => g5 q.2.2)))
    intro Ma ea Mb eb Mc ec Md ed
    have es : sp_keep S x1 x2 x3 x4 x5 = (0, shU S (ix x1) (fCrate S (ix x1) (ix x3) (ix x4) (ix x5)) (S.2.2.2 (ix x1))) := by unfold sp_keep; rw [if_pos ⟨g1, g2⟩, if_neg z, if_pos ⟨g3, g4, g5⟩]
    rw [es] at hp
    have e : ∀ c, c ≠ 7 → c ≠ 39 → Md.1 c = M.1 c := fun c hc _ => by rw [ed, wI_cc hc, ec, wI_cc hc, eb, wI_cc hc, ea, wI_cc hc]
    refine hp Md (sameM.shelf e (by rw [ed, ec, eb, ea]; rfl)) (h.shelf (h.2.2.up (fun d' hd' => ⟨?_, ?_⟩) ?_ ?_ ?_) e (by rw [ed, ec, eb, ea]; rfl))
    · rw [ed, wI_ni hd', ec, wI_ni hd', eb, wI_ni hd', ea, wI_ni hd']
    · rw [ed, wI_nc (by omega), ec, wI_nc (by omega), eb, wI_nc (by omega), ea, wI_nc (by omega)]
    · rw [ed, wI_at, ec, wI_at, eb, wI_at, ea, wI_at]; simp [fCrate]; rfl
    · intro _
      rw [ed, ec, eb, ea]
      simp only [wI_at]
      simp [fCrate]
      exact ⟨rg_nI g3 (by omega), rg_nI g4 (by omega), rg_nI g5 (by omega)⟩
    · intro q
      simp [fCrate] at q
  · intro Ma ea
    have es : sp_keep S x1 x2 x3 x4 x5 = (0, shU S (ix x1) (fClear S (ix x1)) (S.2.2.2 (ix x1))) := by unfold sp_keep; rw [if_pos ⟨g1, g2⟩, if_pos z]
    rw [es] at hp
    have e : ∀ c, c ≠ 7 → c ≠ 39 → Ma.1 c = M.1 c := fun c hc _ => by rw [ea, wI_cc hc]
    refine hp Ma (sameM.shelf e (by rw [ea]; rfl)) (h.shelf (h.2.2.up (fun d' hd' => ⟨?_, ?_⟩) ?_ ?_ ?_) e (by rw [ea]; rfl))
    · rw [ea, wI_ni hd']
    · rw [ea, wI_nc (by omega)]
    · rw [ea, wI_at]; simp [fClear]; rfl
    · intro q; simp [fClear] at q
    · intro q; simp [fClear] at q
theorem tM_keep {M : Mem} {S : Sg} {x1 x2 x3 x4 x5 : Int32} {P : Int32 → Mem → Prop} (h : RMX M S) (hp : ∀ M', sameC M M' → RMX M' (sp_keep S x1 x2 x3 x4 x5).2 → P (sp_keep S x1 x2 x3 x4 x5).1 M') : s_X12_keep M x1 x2 x3 x4 x5 P := by
  unfold s_X12_keep
  intro M1 e1
  have h1 : RMX M1 S := by rw [e1]; exact h.thrown
  replace hp : ∀ M', sameC M1 M' → RMX M' (sp_keep S x1 x2 x3 x4 x5).2 → P (sp_keep S x1 x2 x3 x4 x5).1 M' := fun M' a b => hp M' (sameC.tr (by rw [e1]; exact sC10) a) b
  have bad : (sp_keep S x1 x2 x3 x4 x5) = (-1, S) → P (-1) M1 := fun hb => by
    have := hp M1 sameC.rf
    rw [hb] at this
    exact this h1
  refine t_in (by decide) (n := 8) (by decide) (fun g1 => b1 ?_) (fun g1 => b0 (bad (by unfold sp_keep; rw [if_neg (fun q => g1 q.1)])))
  refine t_in (by decide) (n := 2) (by decide) (fun g2 => b1 ?_) (fun g2 => b0 (bad (by unfold sp_keep; rw [if_neg (fun q => g2 q.2)])))
  have leaf : ∀ (f : Nat → Nat), sp_keep S x1 x2 x3 x4 x5 = (0, shU S (ix x1) f (S.2.2.2 (ix x1))) → x2 = nI (f 0) → f 0 ≤ 1 → (f 0 = 1 → x3 = nI (f 1) ∧ x4 = nI (f 2) ∧ x5 = nI (f 3)) → s_X12_keep_64 x1 x2 x3 x4 x5 P M1 := by
    intro f es e2 hf hf1
    unfold s_X12_keep_64
    refine ⟨rg_in g1, fun Ma ea => ⟨rg_in g1, fun Mb eb => ⟨rg_in g1, fun Mc ec => ⟨rg_in g1, fun Md ed => ?_⟩⟩⟩⟩
    rw [es] at hp
    have e : ∀ c, ¬ (72 ≤ c ∧ c ≤ 77) → Md.1 c = M1.1 c := fun c hc => by rw [ed, wI_cc (by omega), ec, wI_cc (by omega), eb, wI_cc (by omega), ea, wI_cc (by omega)]
    refine hp Md (sameC.shelf e (fun c _ => by rw [ed, ec, eb, ea]; rfl) (by rw [ed, ec, eb, ea]; rfl)) (h1.shelf (h1.2.2.1.up (fun d' hd' c hc1 hc2 => ?_) (fun d' hd' j hj => by rw [ed, ec, eb, ea]; rfl) ?_ ?_ ?_) e)
    · rw [ed, ec, eb, ea]
      simp only [wI_at]
      rw [if_neg (fun q => hd' q.2.2), if_neg (fun q => hd' q.2.2), if_neg (fun q => hd' q.2.2), if_neg (fun q => hd' q.2.2)]
    · rw [ed, ec, eb, ea]
      simp only [wI_at]
      simp
      exact e2
    · intro q
      rw [ed, ec, eb, ea]
      simp only [wI_at]
      simp
      exact hf1 q
    · intro q; omega
  rcases rg2 g2 with ⟨z, z2⟩ | ⟨z, zz, z2⟩
  · refine ⟨fun _ => leaf (fClear S (ix x1)) (by unfold sp_keep; rw [if_pos ⟨g1, g2⟩, if_pos z]) (by rw [z]; rfl) (by simp [fClear]) (fun q => by simp [fClear] at q), fun q => by rw [z] at q; exact absurd q (by decide)⟩
  · refine ⟨fun q => absurd zz q, fun _ => ?_⟩
    have bad2 : ¬ (rg x3 7 ∧ rg x4 10000 ∧ rg x5 12) → P (-1) M1 := fun hb => bad (by unfold sp_keep; rw [if_pos ⟨g1, g2⟩, if_neg z, if_neg hb])
    refine t_in (by decide) (n := 7) (by decide) (fun g3 => b1 ?_) (fun g3 => b0 (bad2 (fun q => g3 q.1)))
    refine t_in (by decide) (n := 10000) (by decide) (fun g4 => b1 ?_) (fun g4 => b0 (bad2 (fun q => g4 q.2.1)))
    refine t_in (by decide) (n := 12) (by decide) (fun g5 => c1 ?_) (fun g5 => c0 (bad2 (fun q => g5 q.2.2)))
    exact leaf (fCrate S (ix x1) (ix x3) (ix x4) (ix x5)) (by unfold sp_keep; rw [if_pos ⟨g1, g2⟩, if_neg z, if_pos ⟨g3, g4, g5⟩]) (by rw [zz]; rfl) (by simp [fCrate]) (fun _ => ⟨rg_nI g3 (by omega), rg_nI g4 (by omega), rg_nI g5 (by omega)⟩)
