/-! HEADS: of a school and age on a day, by what was told by another -/
def cn (A : Abs) (s age d kn : Nat) : Nat → Nat
  | 0 => 0
  | k + 1 => if A.2.1 13 k = age ∧ A.2.1 14 k ≤ kn ∧ A.2.1 15 k ≤ d then hr A age s (k + 1) else cn A s age d kn k
theorem cn_s {A : Abs} {s age d kn k : Nat} : cn A s age d kn (k + 1) = if A.2.1 13 k = age ∧ A.2.1 14 k ≤ kn ∧ A.2.1 15 k ≤ d then hr A age s (k + 1) else cn A s age d kn k := rfl
theorem hr_s {A : Abs} {s age k : Nat} : hr A age s (k + 1) = if A.2.1 13 k = age then (if A.2.1 16 (12 * k + s) = 0 then hr A age s k else A.2.1 16 (12 * k + s) - 1) else hr A age s k := rfl
def headOK (A : Abs) : Prop := A.1 4 ≤ 16 ∧ ∀ r, r < A.1 4 → A.2.1 13 r < 3 ∧ A.2.1 14 r ≤ 400 ∧ A.2.1 15 r ≤ 500 ∧ ∀ s, s < 12 → A.2.1 16 (12 * r + s) ≤ 201
theorem Wf.heads {A : Abs} (h : Wf A) : headOK A := ⟨h.2.2.2.2.1, h.2.2.2.2.2.2.2.2.2.1⟩
theorem hr_le {A : Abs} {s age : Nat} (h : headOK A) (hs : s < 12) : ∀ k, k ≤ A.1 4 → hr A age s k ≤ 200 := by
  intro k
  induction k with
  | zero => intro _; exact Nat.zero_le _
  | succ k ih =>
    intro hk
    have i := ih (by omega)
    have b := (h.2 k (by omega)).2.2.2 s hs
    rw [hr_s]
    split
    · split <;> omega
    · exact i
theorem cn_le {A : Abs} {s age d kn : Nat} (h : headOK A) (hs : s < 12) : ∀ k, k ≤ A.1 4 → cn A s age d kn k ≤ 200 := by
  intro k
  induction k with
  | zero => intro _; exact Nat.zero_le _
  | succ k ih =>
    intro hk
    rw [cn_s]
    split
    · exact hr_le h hs _ hk
    · exact ih (by omega)
theorem mI_dn (k : Nat) : mI (k + 1) + -1 = mI k := by
  rw [mI_s]
  show nI k + -1 = nI k - 1
  rw [Int32.sub_eq_add_neg]
theorem mI_b {k : Nat} (h : k < 2 ^ 31) : (mI k).toInt = (k : Int) - 1 := mI_t h
theorem tC_counting {w : Nat} {M : Mem} {A : Abs} {s age d kn : Nat} {P : Int32 → Mem → Prop} (h : RCh w M A) (hk : headOK A) (hs : s < 12) (ha : age < 1000) (hd : d < 1000) (hn : kn < 1000) (hp : P (nI (cn A s age d kn (A.1 4))) M) : s_X5_counting w M (nI s) (nI age) (nI d) (nI kn) P := by
  unfold s_X5_counting
  rw [h.1]
  intro x5 e5
  rw [e5]
  have h4 := hk.1
  refine Lz_rule (fun a => ∃ k, k ≤ A.1 4 ∧ a = (M, mI k) ∧ cn A s age d kn (A.1 4) = cn A s age d kn k) (fun a => (a.2 + 1).toNatClampNeg) ?_ ⟨A.1 4, Nat.le_refl _, rfl, rfl⟩
  rintro K a ⟨k, hkk, rfl, e⟩ hK
  show s_X5_counting_8 w (nI s) (nI age) (nI d) (nI kn) P K M (mI k)
  unfold s_X5_counting_8
  rw [mI_neg (by omega)]
  refine ⟨fun q => ?_, fun q => ?_⟩
  · rw [e, q] at hp; exact hp
  obtain ⟨r, rfl⟩ : ∃ r, k = r + 1 := ⟨k - 1, by omega⟩
  rw [mI_s]
  have hr4 : r < A.1 4 := by omega
  obtain ⟨r1, r2, r3, r4⟩ := h.2 r hr4
  obtain ⟨b1, b2, b3, b4⟩ := hk.2 r hr4
  have vi : vp_in (nI r) 16 := vp_in_nI (by omega) (by omega)
  have ci : (nI r).toNatClampNeg = r := nI_clamp (by omega)
  rw [ci, r1, r2, r3, nI_eq (by omega) (by omega), nI_ltI (by omega) (by omega), nI_ltI (by omega) (by omega)]
  have go : cn A s age d kn (r + 1) = cn A s age d kn r → ∀ x : Int32, x = nI r + -1 → K (M, x) := by
    intro q2 x ex
    rw [ex, ← mI_s, mI_dn]
    refine hK _ ⟨r, by omega, rfl, e.trans q2⟩ ?_
    show (mI r + 1).toNatClampNeg < (mI (r + 1) + 1).toNatClampNeg
    have z : ∀ k : Nat, mI k + 1 = nI k := fun k => by
      show nI k - 1 + 1 = nI k
      exact Int32.sub_add_cancel _ _
    rw [z, z, nI_clamp (by omega), nI_clamp (by omega)]
    omega
  refine ⟨vi, fun z => go (by rw [cn_s, if_neg (fun y => z y.1)]), fun z => ⟨vi, fun z2 => go (by rw [cn_s, if_neg (fun y => by omega)]), fun z2 => ⟨vi, fun z3 => go (by rw [cn_s, if_neg (fun y => by omega)]), fun z3 => ?_⟩⟩⟩
  have ead : nI r * 12 + nI s = nI (12 * r + s) := by
    show nI r * nI 12 + nI s = _
    rw [pk_mul, nI_add, Nat.mul_comm]
  rw [ead]
  refine ⟨vp_in_nI (by omega) (by omega), ?_⟩
  rw [nI_clamp (by omega), r4 s hs, z]
  rw [e, cn_s, if_pos ⟨z, by omega, by omega⟩] at hp
  exact hp
theorem tM_headOf {M : Mem} {A : Abs} {s age d kn : Nat} {P : Int32 → Mem → Prop} (h : RMh 44 M A) (hk : headOK A) (hs : s < 12) (ha : age < 1000) (hd : d < 1000) (hn : kn < 1000) (hp : P (nI (cn A s age d kn (A.1 4))) M) : s_X12_headOf M (nI s) (nI age) (nI d) (nI kn) P := by
  unfold s_X12_headOf
  rw [h.1]
  intro x6 e6
  rw [e6]
  have h4 := hk.1
  refine Lz_rule (fun a => ∃ k, k ≤ A.1 4 ∧ a.1 = M ∧ a.2.2 = mI k ∧ ((a.2.1 = 0 ∧ cn A s age d kn (A.1 4) = cn A s age d kn k) ∨ (a.2.1 = 1 ∧ cn A s age d kn (A.1 4) = hr A age s k))) (fun a => (a.2.2 + 1).toNatClampNeg) ?_ ⟨A.1 4, Nat.le_refl _, rfl, rfl, Or.inl ⟨rfl, rfl⟩⟩
  rintro K ⟨M', f, x⟩ ⟨k, hkk, e1, e2, e⟩ hK
  dsimp only at e1 e2 e
  subst e1
  subst e2
  show s_X12_headOf_13 (nI s) (nI age) (nI d) (nI kn) P K M' f (mI k)
  unfold s_X12_headOf_13
  rw [mI_neg (by omega)]
  refine ⟨fun q => ?_, fun q => ?_⟩
  · subst q
    rcases e with ⟨_, e⟩ | ⟨_, e⟩ <;> (rw [e] at hp; exact hp)
  obtain ⟨r, rfl⟩ : ∃ r, k = r + 1 := ⟨k - 1, by omega⟩
  rw [mI_s]
  have hr4 : r < A.1 4 := by omega
  obtain ⟨r1, r2, r3, r4⟩ := h.2 r hr4
  obtain ⟨b1, b2, b3, b4⟩ := hk.2 r hr4
  have bs := b4 s hs
  have vi : vp_in (nI r) 16 := vp_in_nI (by omega) (by omega)
  have ci : (nI r).toNatClampNeg = r := nI_clamp (by omega)
  rw [ci, r1, r2, r3, nI_eq (by omega) (by omega), nI_ltI (by omega) (by omega), nI_ltI (by omega) (by omega)]
  have mu : (mI r + 1).toNatClampNeg < (mI (r + 1) + 1).toNatClampNeg := by
    have z : ∀ k : Nat, mI k + 1 = nI k := fun k => by
      show nI k - 1 + 1 = nI k
      exact Int32.sub_add_cancel _ _
    rw [z, z, nI_clamp (by omega), nI_clamp (by omega)]
    omega
  have go : ∀ g : Int32, ((g = 0 ∧ cn A s age d kn (A.1 4) = cn A s age d kn r) ∨ (g = 1 ∧ cn A s age d kn (A.1 4) = hr A age s r)) → ∀ x : Int32, x = nI r + -1 → K (M', g, x) := by
    intro g hg x ex
    rw [ex, ← mI_s, mI_dn]
    exact hK _ ⟨r, by omega, rfl, rfl, hg⟩ mu
  have on : A.2.1 13 r = age → cn A s age d kn (A.1 4) = hr A age s (r + 1) → s_X12_headOf_62 (nI s) (nI age) (nI d) (nI kn) P K M' (nI r) 1 := by
    intro z q2
    unfold s_X12_headOf_62
    refine ⟨fun y => absurd y (by decide), fun _ => ?_⟩
    have ead : 12 * nI r + nI s = nI (12 * r + s) := by
      show nI 12 * nI r + nI s = _
      rw [pk_mul, nI_add]
    rw [ead]
    refine ⟨vp_in_nI (by omega) (by omega), ?_⟩
    rw [nI_clamp (by omega), r4 s hs, mI_neg (by omega)]
    refine ⟨fun y => go 1 (Or.inr ⟨rfl, ?_⟩), fun y => ⟨vp_in_nI (by omega) (by omega), ?_⟩⟩
    · rw [q2, hr_s, if_pos z, if_pos y]
    · rw [q2, hr_s, if_pos z, if_neg y] at hp
      have e9 : mI (A.2.1 16 (12 * r + s)) = nI (A.2.1 16 (12 * r + s) - 1) := by
        conv => lhs; rw [show A.2.1 16 (12 * r + s) = (A.2.1 16 (12 * r + s) - 1) + 1 by omega]
        exact mI_s _
      rw [e9]; exact hp
  have off : f = 0 → cn A s age d kn (A.1 4) = cn A s age d kn (r + 1) → ¬ (A.2.1 14 r ≤ kn ∧ A.2.1 15 r ≤ d) → s_X12_headOf_62 (nI s) (nI age) (nI d) (nI kn) P K M' (nI r) 0 := by
    intro _ q2 z
    unfold s_X12_headOf_62
    refine ⟨fun _ => go 0 (Or.inl ⟨rfl, ?_⟩), fun y => absurd rfl y⟩
    rw [q2, cn_s, if_neg (fun y => z y.2)]
  refine ⟨vi, fun z => go f ?_, fun z => ⟨fun f1 => ?_, fun f0 => ⟨vi, fun z3 => ?_, fun z3 => ⟨vi, fun z4 => ?_, fun z4 => ?_⟩⟩⟩⟩
  · rcases e with ⟨e0, e⟩ | ⟨e0, e⟩
    · exact Or.inl ⟨e0, by rw [e, cn_s, if_neg (fun y => z y.1)]⟩
    · exact Or.inr ⟨e0, by rw [e, hr_s, if_neg z]⟩
  · rcases e with ⟨e0, e⟩ | ⟨e0, e⟩
    · exact absurd e0 f1
    · exact on z e
  · rcases e with ⟨e0, e⟩ | ⟨e0, e⟩
    · exact off f0 e (fun y => by omega)
    · rw [e0] at f0; exact absurd f0 (by decide)
  · rcases e with ⟨e0, e⟩ | ⟨e0, e⟩
    · exact off f0 e (fun y => by omega)
    · rw [e0] at f0; exact absurd f0 (by decide)
  · rcases e with ⟨e0, e⟩ | ⟨e0, e⟩
    · exact on z (by rw [e, cn_s, if_pos ⟨z, by omega, by omega⟩])
    · rw [e0] at f0; exact absurd f0 (by decide)
def sp_head (S : Sg) (x1 x2 x3 x4 : Int32) : Int32 := if rg x1 (S.1.1 0) ∧ rg x2 3 ∧ rg x3 401 ∧ rg x4 401 then nI (cn S.1 (ix x1) (ix x2) (ix x3) (ix x4) (S.1.1 4)) else -1
theorem tC_head {M : Mem} {S : Sg} {x1 x2 x3 x4 : Int32} {P : Int32 → Mem → Prop} (h : RCX M S) (hw : WfX S) (hp : P (sp_head S x1 x2 x3 x4) M) : s_X11_head M x1 x2 x3 x4 P := by
  unfold s_X11_head
  unfold sp_head at hp
  have hn := hw.1.1
  have bad : ¬ (rg x1 (S.1.1 0) ∧ rg x2 3 ∧ rg x3 401 ∧ rg x4 401) → P (-1) M := fun hb => by rw [if_neg hb] at hp; exact hp
  refine t_has8 h.1.1.1 (by omega) (fun g1 => b1 ?_) (fun g1 => b0 (bad (fun q => g1 q.1)))
  refine t_within (by decide) (n := 3) (by decide) (fun g2 => c1 ?_) (fun g2 => c0 (bad (fun q => g2 q.2.1)))
  refine t_within (by decide) (n := 401) (by decide) (fun g3 => b1 ?_) (fun g3 => b0 (bad (fun q => g3 q.2.2.1)))
  refine t_within (by decide) (n := 401) (by decide) (fun g4 => c1 ?_) (fun g4 => c0 (bad (fun q => g4 q.2.2.2)))
  rw [if_pos ⟨g1, g2, g3, g4⟩] at hp
  have l1 := rg_lt g1
  have l2 := rg_lt g2
  have l3 := rg_lt g3
  have l4 := rg_lt g4
  conv => arg 3; rw [rg_nI g1 (by omega)]
  conv => arg 4; rw [rg_nI g2 (by omega)]
  conv => arg 5; rw [rg_nI g3 (by omega)]
  conv => arg 6; rw [rg_nI g4 (by omega)]
  exact tC_counting h.1.2.2.2.1 hw.1.heads (by omega) (by omega) (by omega) (by omega) hp
theorem tM_head {M : Mem} {S : Sg} {x1 x2 x3 x4 : Int32} {P : Int32 → Mem → Prop} (h : RMX M S) (hw : WfX S) (hp : ∀ M', sameC M M' → RMX M' S → P (sp_head S x1 x2 x3 x4) M') : s_X12_head M x1 x2 x3 x4 P := by
  unfold s_X12_head
  intro M1 e1
  have h1 : RMX M1 S := by rw [e1]; exact h.thrown
  replace hp := hp M1 (by rw [e1]; exact sC10) h1
  unfold sp_head at hp
  have hn := hw.1.1
  have bad : ¬ (rg x1 (S.1.1 0) ∧ rg x2 3 ∧ rg x3 401 ∧ rg x4 401) → P (-1) M1 := fun hb => by rw [if_neg hb] at hp; exact hp
  refine t_isSchool h1.1.1.1 (by omega) (fun g1 => b1 ?_) (fun g1 => b0 (bad (fun q => g1 q.1)))
  refine t_isAge (fun g2 => b1 ?_) (fun g2 => b0 (bad (fun q => g2 q.2.1)))
  refine t_isDay (fun g3 => b1 ?_) (fun g3 => b0 (bad (fun q => g3 q.2.2.1)))
  refine t_isDay (fun g4 => b1 ?_) (fun g4 => b0 (bad (fun q => g4 q.2.2.2)))
  rw [if_pos ⟨g1, g2, g3, g4⟩] at hp
  have l1 := rg_lt g1
  have l2 := rg_lt g2
  have l3 := rg_lt g3
  have l4 := rg_lt g4
  conv => arg 2; rw [rg_nI g1 (by omega)]
  conv => arg 3; rw [rg_nI g2 (by omega)]
  conv => arg 4; rw [rg_nI g3 (by omega)]
  conv => arg 5; rw [rg_nI g4 (by omega)]
  exact tM_headOf h1.1.2.2.2.1 hw.1.heads (by omega) (by omega) (by omega) (by omega) hp
/-- heads of all ages -/
def hs3 (A : Abs) (s d : Nat) : Nat := cn A s 0 d 400 (A.1 4) + cn A s 1 d 400 (A.1 4) + cn A s 2 d 400 (A.1 4)
theorem tM_headsOf {M : Mem} {A : Abs} {s d : Nat} {P : Int32 → Mem → Prop} (h : RMh 44 M A) (hk : headOK A) (hs : s < 12) (hd : d < 1000) (hp : P (nI (hs3 A s d)) M) : s_X12_headsOf M (nI s) (nI d) P := by
  unfold s_X12_headsOf
  refine tM_headOf (age := 0) (kn := 400) h hk hs (by omega) hd (by omega) ?_
  refine tM_headOf (age := 1) (kn := 400) h hk hs (by omega) hd (by omega) ?_
  refine tM_headOf (age := 2) (kn := 400) h hk hs (by omega) hd (by omega) ?_
  rw [nI_add, nI_add]
  exact hp
theorem tC_headsOfAll {w : Nat} {M : Mem} {A : Abs} {s d : Nat} {P : Int32 → Mem → Prop} (h : RCh w M A) (hk : headOK A) (hs : s < 12) (hd : d < 1000) (hp : P (nI (hs3 A s d)) M) : s_X10_headsOfAll w M (nI s) (nI d) P := by
  unfold s_X10_headsOfAll
  have step : ∀ (K : Mem × Int32 × Int32 → Prop) (a t : Nat), a < 3 → K (M, nI (t + cn A s a d 400 (A.1 4)), nI (a + 1)) → s_X10_headsOfAll_5 w (nI s) (nI d) P K M (nI t) (nI a) := by
    intro K a t ha hK
    unfold s_X10_headsOfAll_5
    have e3 : (3 : Int32) ≤ nI a ↔ 3 ≤ a := nI_leI (a := 3) (by omega) (by omega)
    rw [e3]
    refine ⟨fun q => by omega, fun _ => tC_counting (kn := 400) h hk hs (by omega) hd (by omega) (fun x ex y ey => ?_)⟩
    rw [ex, ey, nI_add, nI_1]
    exact hK
  refine ⟨4, ?_⟩
  show s_X10_headsOfAll_5 w (nI s) (nI d) P _ M (nI 0) (nI 0)
  refine step _ 0 0 (by omega) ?_
  show s_X10_headsOfAll_5 w (nI s) (nI d) P _ M (nI (0 + cn A s 0 d 400 (A.1 4))) (nI 1)
  refine step _ 1 _ (by omega) ?_
  show s_X10_headsOfAll_5 w (nI s) (nI d) P _ M (nI (0 + cn A s 0 d 400 (A.1 4) + cn A s 1 d 400 (A.1 4))) (nI 2)
  refine step _ 2 _ (by omega) ?_
  show s_X10_headsOfAll_5 w (nI s) (nI d) P _ M (nI (0 + cn A s 0 d 400 (A.1 4) + cn A s 1 d 400 (A.1 4) + cn A s 2 d 400 (A.1 4))) (nI 3)
  unfold s_X10_headsOfAll_5
  refine ⟨fun _ => ?_, fun q => absurd (nI_le (a := 3) (b := 3) (by omega) (by omega)) q⟩
  rw [Nat.zero_add]
  exact hp
