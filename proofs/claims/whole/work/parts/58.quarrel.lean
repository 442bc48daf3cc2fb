/-! QUARREL -/
/-- the least below n with a property (1 more; 0 none) -/
def isL (H : Nat → Prop) (lo n r : Nat) : Prop := (r = 0 ∧ ∀ j, lo ≤ j → j < n → ¬ H j) ∨ (lo + 1 ≤ r ∧ r ≤ n ∧ H (r - 1) ∧ ∀ j, lo ≤ j → j < r - 1 → ¬ H j)
theorem isL_un {H : Nat → Prop} {lo n r s : Nat} (h : isL H lo n r) (g : isL H lo n s) : r = s := by
  rcases h with ⟨h1, h2⟩ | ⟨h1, h2, h3, h4⟩ <;> rcases g with ⟨g1, g2⟩ | ⟨g1, g2, g3, g4⟩
  · omega
  · exact absurd g3 (h2 _ (by omega) (by omega))
  · exact absurd h3 (g2 _ (by omega) (by omega))
  · rcases Nat.lt_trichotomy r s with q | q | q
    · exact absurd h3 (g4 _ (by omega) (by omega))
    · exact q
    · exact absurd g3 (h4 _ (by omega) (by omega))
/-- an act that could be in force and holds, or doesn't -/
def hit (A : Abs) (p s age d : Nat) (b : Bool) (a : Nat) : Prop := cou A a p (A.2.1 0 s) d ∧ A.2.2 a (fld A s (if p = 0 then age else 0) d) = b
def fstA (A : Abs) (p s age d : Nat) (b : Bool) : Nat → Nat
  | 0 => 0
  | n + 1 => if fstA A p s age d b n ≠ 0 then fstA A p s age d b n else if cou A n p (A.2.1 0 s) d ∧ A.2.2 n (fld A s (if p = 0 then age else 0) d) = b then n + 1 else 0
theorem fstA_s {A : Abs} {p s age d n : Nat} {b : Bool} : fstA A p s age d b (n + 1) = if fstA A p s age d b n ≠ 0 then fstA A p s age d b n else if cou A n p (A.2.1 0 s) d ∧ A.2.2 n (fld A s (if p = 0 then age else 0) d) = b then n + 1 else 0 := rfl
theorem fstA_L {A : Abs} {p s age d : Nat} {b : Bool} : ∀ n, isL (hit A p s age d b) 0 n (fstA A p s age d b n) := by
  intro n
  induction n with
  | zero => exact Or.inl ⟨rfl, fun j _ h => absurd h (Nat.not_lt_zero j)⟩
  | succ n ih =>
    rw [fstA_s]
    rcases ih with ⟨h1, h2⟩ | ⟨h1, h2, h3, h4⟩
    · rw [if_neg (by omega)]
      by_cases q : cou A n p (A.2.1 0 s) d ∧ A.2.2 n (fld A s (if p = 0 then age else 0) d) = b
      · rw [if_pos q]
        exact Or.inr ⟨by omega, Nat.le_refl _, q, fun j a c => h2 j a (by omega)⟩
      · rw [if_neg q]
        refine Or.inl ⟨rfl, fun j a c => ?_⟩
        rcases Nat.lt_or_eq_of_le (show j ≤ n by omega) with y | y
        · exact h2 j a y
        · rw [y]; exact q
    · rw [if_pos (by omega)]
      exact Or.inr ⟨h1, by omega, h3, h4⟩
def qr (A : Abs) (p s age d : Nat) : Int32 := if fstA A p s age d true (A.1 2) = 0 ∨ fstA A p s age d false (A.1 2) = 0 then -4 else nI (100 * (fstA A p s age d true (A.1 2) - 1) + (fstA A p s age d false (A.1 2) - 1))
theorem tC_firstThat {w : Nat} {M : Mem} {A : Abs} {p s age d : Nat} {b : Bool} {P : Int32 → Mem → Prop} (h : RC w M A) (hk : acOK A) (hpp : p < 3) (hs : s < A.1 0) (hd : d ≤ 400) (hp : ∀ M', eqW w M M' → P (mI (fstA A p s age d b (A.1 2))) M') : s_X10_firstThat w M (bI b) (nI p) (nI s) (nI age) (nI d) P := by
  obtain ⟨k1, k2, k3, k4⟩ := hk
  have n16 := k2.1
  unfold s_X10_firstThat
  have p0 : nI p = 0 ↔ p = 0 := eqk (by omega) rfl (by omega)
  rw [p0]
  have main : ∀ (g : Nat), g = (if p = 0 then age else 0) → s_X10_firstThat_12 w (bI b) (nI p) (nI s) (nI d) P M (nI g) (nI s) := by
    intro g eg
    unfold s_X10_firstThat_12
    refine tC_fields h k1 hs k3 hd (fun M1 r1 r2 => ?_)
    refine Lz_rule (fun x => ∃ a, a ≤ A.1 2 ∧ x.2 = nI a ∧ eqW w M1 x.1 ∧ x.1.1 13 = M1.1 13 ∧ fstA A p s age d b a = 0) (fun x => 16 - x.2.toNatClampNeg) ?_ ⟨0, Nat.zero_le _, rfl, eqW.rf, rfl, rfl⟩
    rintro K ⟨M2, x⟩ ⟨a, ha, e, r3, r4, r5⟩ hK
    dsimp only at e r3 r4
    show s_X10_firstThat_20 w (bI b) (nI p) (nI s) (nI d) P K M2 x
    unfold s_X10_firstThat_20
    have g2 : eqW w M M2 := r1.tr r3
    have h2 := g2.RC h
    rw [h2.2.2.2.2.2.1, e, nI_leI (by omega) (by omega)]
    refine ⟨fun q => ?_, fun q => ?_⟩
    · have k := hp M2 g2
      rw [show A.1 2 = a by omega, r5] at k
      exact k
    have ha2 : a < A.1 2 := by omega
    have next : ∀ M3, eqW w M1 M3 → M3.1 13 = M1.1 13 → fstA A p s age d b (a + 1) = 0 → ∀ u : Int32, u = nI a + 1 → K (M3, u) := by
      intro M3 s1 s2 s3 u eu
      rw [eu, nI_1]
      refine hK _ ⟨a + 1, by omega, rfl, s1, s2, s3⟩ ?_
      show 16 - (nI (a + 1)).toNatClampNeg < 16 - x.toNatClampNeg
      rw [e, nI_clamp (by omega), nI_clamp (by omega)]; omega
    obtain ⟨a15, -⟩ := h2.1.2.1 s hs
    rw [nI_clamp (by omega), a15]
    refine ⟨vp_in_nI (by omega) (by omega), tC_couldBe h2.2.2.2.2.2 k2 ha2 hpp (k4 s hs) hd (fun c => ⟨fun z => absurd z (by decide), fun _ => ?_⟩) (fun c => ⟨fun _ => next M2 r3 r4 (by rw [fstA_s, if_neg (by omega), if_neg (fun y => c y.1)]), fun z => absurd rfl z⟩)⟩
    refine tC_meets h2.2.2.2.2.2 n16 ha2 (f := fld A s g d) (fun k hk10 => by rw [r4]; exact r2 k hk10) (fun M3 s1 s2 => ?_)
    rw [eg]
    have bb : bI (A.2.2 a (fld A s (if p = 0 then age else 0) d)) = bI b ↔ A.2.2 a (fld A s (if p = 0 then age else 0) d) = b := by
      cases A.2.2 a (fld A s (if p = 0 then age else 0) d) <;> cases b <;> decide
    rw [bb]
    refine ⟨fun z => next M3 (r3.tr s1) (s2.trans r4) (by rw [fstA_s, if_neg (by omega), if_neg (fun y => z y.2)]), fun z => ?_⟩
    have e1 : fstA A p s age d b (a + 1) = a + 1 := by rw [fstA_s, if_neg (by omega), if_pos ⟨c, z⟩]
    have e2 : fstA A p s age d b (A.1 2) = a + 1 := by
      have l1 := fstA_L (A := A) (p := p) (s := s) (age := age) (d := d) (b := b) (a + 1)
      rw [e1] at l1
      refine isL_un (fstA_L (A.1 2)) ?_
      rcases l1 with ⟨y, -⟩ | ⟨y1, y2, y3, y4⟩
      · omega
      · exact Or.inr ⟨y1, by omega, y3, y4⟩
    have k := hp M3 (g2.tr s1)
    rw [e2, mI_s] at k
    exact k
  exact ⟨fun y => main 0 (by rw [if_neg y]), fun y => main age (by rw [if_pos y])⟩
def sp_quarrel (S : Sg) (x1 x2 x3 x4 : Int32) : Int32 := if rg x1 3 ∧ rg x2 (S.1.1 0) ∧ rg x3 3 ∧ rg x4 401 then qr S.1 (ix x1) (ix x2) (ix x3) (ix x4) else -1
theorem fstA_le {A : Abs} {p s age d n : Nat} {b : Bool} : fstA A p s age d b n ≤ n := by
  rcases fstA_L (A := A) (p := p) (s := s) (age := age) (d := d) (b := b) n with ⟨h, -⟩ | ⟨-, h, -⟩ <;> omega
theorem tC_quarrel {M : Mem} {S : Sg} {x1 x2 x3 x4 : Int32} {P : Int32 → Mem → Prop} (h : RCX M S) (hw : WfX S) (hp : ∀ M', sameM M M' → RCX M' S → P (sp_quarrel S x1 x2 x3 x4) M') : s_X11_quarrel M x1 x2 x3 x4 P := by
  unfold s_X11_quarrel
  have hn := hw.1.1
  have n16 := hw.1.2.2.1
  refine t_isCase h.1.1.1 (by omega) (fun g1 g2 g3 g4 => c1 ?_) (fun g => c0 ?_)
  · have es : sp_quarrel S x1 x2 x3 x4 = qr S.1 (ix x1) (ix x2) (ix x3) (ix x4) := if_pos ⟨g1, g2, g3, g4⟩
    have l4 := rg_lt g4
    have key := fun b M1 P' (h1 : RC 0 M1 S.1) hp' => tC_firstThat (b := b) (P := P') (p := ix x1) (s := ix x2) (age := ix x3) (d := ix x4) h1 hw.1.ac (rg_lt g1) (rg_lt g2) (by omega) hp'
    rw [← rg_nI g1 (by omega), ← rg_nI g2 (by omega), ← rg_nI g3 (by omega), ← rg_nI g4 (by omega)] at key
    refine key true M _ h.1 (fun M1 r1 => key false M1 _ (r1.RC h.1) (fun M2 r2 => ?_))
    have k := hp M2 (r1.tr r2).sameM ((r1.tr r2).RCX h)
    rw [es] at k
    unfold qr at k
    have l1 := fstA_le (A := S.1) (p := ix x1) (s := ix x2) (age := ix x3) (d := ix x4) (b := true) (n := S.1.1 2)
    have l2 := fstA_le (A := S.1) (p := ix x1) (s := ix x2) (age := ix x3) (d := ix x4) (b := false) (n := S.1.1 2)
    rw [mI_neg (by omega), mI_ge (by omega)]
    refine ⟨fun z => by rw [if_pos (Or.inl z)] at k; exact k, fun z => ⟨fun z2 => ?_, fun z2 => by rw [if_pos (Or.inr (Decidable.not_not.mp z2))] at k; exact k⟩⟩
    rw [if_neg (fun y => y.elim z z2)] at k
    rw [mI_pred z, mI_pred z2]
    have e1 : (100 : Int32) * nI (fstA S.1 (ix x1) (ix x2) (ix x3) (ix x4) true (S.1.1 2) - 1) = nI (100 * (fstA S.1 (ix x1) (ix x2) (ix x3) (ix x4) true (S.1.1 2) - 1)) := pk_mul 100 _
    rw [e1, nI_add]
    exact k
  · have k := hp M sameM.rf h
    unfold sp_quarrel at k
    rw [if_neg g] at k
    exact k
theorem tM_couldBe {M : Mem} {A : Abs} {a p s d : Nat} {P : Int32 → Mem → Prop} (hR : RM 44 M A) (hk : acOK A) (hl : LK A) (ha : a < A.1 2) (hp : p < 3) (hs : s < A.1 0) (hd : d ≤ 400) (h1 : cou A a p (A.2.1 0 s) d → P 1 M) (h0 : ¬ cou A a p (A.2.1 0 s) d → P 0 M) : s_X12_couldBe M (nI a) (nI p) (nI s) (nI d) P := by
  obtain ⟨k1, k2, k3, k4⟩ := hk
  unfold s_X12_couldBe
  obtain ⟨a47, -⟩ := hR.1.2 s hs
  rw [nI_clamp (by omega), a47]
  exact ⟨vp_in_nI (by omega) (by omega), tM_isOf hR.2.2.2.2.2 k2 hl.1 ha hp (k4 s hs) hd (fun c => ⟨isB_1, h1 c⟩) (fun c => ⟨isB_0, h0 c⟩)⟩
theorem tM_quarrel {M : Mem} {S : Sg} {x1 x2 x3 x4 : Int32} {P : Int32 → Mem → Prop} (h : RMX M S) (hw : WfX S) (hl : LK S.1) (hp : ∀ M', sameC M M' → RMX M' S → P (sp_quarrel S x1 x2 x3 x4) M') : s_X12_quarrel M x1 x2 x3 x4 P := by
  unfold s_X12_quarrel
  have hn := hw.1.1
  have n16 := hw.1.2.2.1
  intro M1 m1
  have h1 : RMX M1 S := by rw [m1]; exact h.thrown
  replace hp : ∀ M', sameC M1 M' → RMX M' S → P (sp_quarrel S x1 x2 x3 x4) M' := fun M' a b => hp M' (sameC.tr (by rw [m1]; exact sC10) a) b
  have bad : ¬ (rg x1 3 ∧ rg x2 (S.1.1 0) ∧ rg x3 3 ∧ rg x4 401) → P (-1) M1 := fun g => by
    have k := hp M1 sameC.rf h1
    unfold sp_quarrel at k
    rw [if_neg g] at k
    exact k
  refine t_in (by decide) (n := 3) (by decide) (fun g1 => b1 ?_) (fun g1 => b0 (bad (fun q => g1 q.1)))
  refine t_isSchool h1.1.1.1 (by omega) (fun g2 => b1 ?_) (fun g2 => b0 (bad (fun q => g2 q.2.1)))
  refine t_isAge (fun g3 => b1 ?_) (fun g3 => b0 (bad (fun q => g3 q.2.2.1)))
  refine t_isDay (fun g4 => c1 ?_) (fun g4 => c0 (bad (fun q => g4 q.2.2.2)))
  have es : sp_quarrel S x1 x2 x3 x4 = qr S.1 (ix x1) (ix x2) (ix x3) (ix x4) := if_pos ⟨g1, g2, g3, g4⟩
  rw [es] at hp
  have l1 := rg_lt g1
  have l2 := rg_lt g2
  have l4 := rg_lt g4
  have e1 := rg_nI g1 (by omega)
  have e2 := rg_nI g2 (by omega)
  have e3 := rg_nI g3 (by omega)
  have e4 := rg_nI g4 (by omega)
  generalize ix x1 = p at *
  generalize ix x2 = s at *
  generalize ix x3 = age at *
  generalize ix x4 = d at *
  rw [e1, e2, e3, e4]
  intro x7 e7
  have e7' : x7 = mI (S.1.1 2) := by rw [e7, h1.1.2.2.2.2.2.1]; rfl
  refine Lz_rule (fun a => ∃ n r1 r0, n ≤ S.1.1 2 ∧ a.2.2.2 = mI n ∧ a.2.1 = noI r1 ∧ a.2.2.1 = noI r0 ∧ isL (hit S.1 p s age d true) n (S.1.1 2) r1 ∧ isL (hit S.1 p s age d false) n (S.1.1 2) r0 ∧ eqV M1 a.1) (fun a => (a.2.2.2 + 1).toNatClampNeg) ?_ ⟨S.1.1 2, 0, 0, Nat.le_refl _, e7', rfl, rfl, Or.inl ⟨rfl, fun j a b => by omega⟩, Or.inl ⟨rfl, fun j a b => by omega⟩, ⟨fun _ _ _ _ => rfl, fun _ _ _ => rfl, rfl⟩⟩
  rintro K ⟨M2, y5, y6, y7⟩ ⟨n, r1, r0, hn2, e7, e5, e6, L1, L0, rv⟩ hK
  dsimp only at e7 e5 e6 rv
  show s_X12_quarrel_57 (nI p) (nI s) (nI age) (nI d) P K M2 y5 y6 y7
  unfold s_X12_quarrel_57
  have bnd : ∀ {b r}, isL (hit S.1 p s age d b) n (S.1.1 2) r → r ≤ S.1.1 2 := fun h => by rcases h with ⟨h, -⟩ | ⟨-, h, -⟩ <;> omega
  have b1' := bnd L1
  have b0' := bnd L0
  have nneg : ∀ {r : Nat}, r ≤ S.1.1 2 → (noI r < 0 ↔ r = 0) := fun {r} hr => by
    rw [lt_i, t0_i, noI_t (by omega)]; split <;> omega
  have nge : ∀ {r : Nat}, r ≤ S.1.1 2 → (0 ≤ noI r ↔ ¬ r = 0) := fun {r} hr => by
    rw [le_i, t0_i, noI_t (by omega)]; split <;> omega
  rw [e7, e5, e6, mI_neg (by omega), nneg b1', nge b0']
  refine ⟨fun z => ?_, fun z => ?_⟩
  · subst z
    have q1 := isL_un L1 (fstA_L (S.1.1 2))
    have q0 := isL_un L0 (fstA_L (S.1.1 2))
    have k := hp M2 rv.sameC (h1.rd rv)
    unfold qr at k
    rw [← q1, ← q0] at k
    refine ⟨fun z => by rw [if_pos (Or.inl z)] at k; exact k, fun z => ⟨fun z2 => ?_, fun z2 => by rw [if_pos (Or.inr (Decidable.not_not.mp z2))] at k; exact k⟩⟩
    rw [if_neg (fun y => y.elim z z2)] at k
    have t1 : noI r1 = nI (r1 - 1) := if_neg z
    have t2 : noI r0 = nI (r0 - 1) := if_neg z2
    rw [t1, t2]
    have t3 : (100 : Int32) * nI (r1 - 1) = nI (100 * (r1 - 1)) := pk_mul 100 _
    rw [t3, nI_add]
    exact k
  · obtain ⟨a, rfl⟩ : ∃ a, n = a + 1 := ⟨n - 1, by omega⟩
    rw [mI_s]
    have hR2 : RM 44 M2 S.1 := rv.RM (by omega) h1.1
    have dec : ∀ u : Int32, u = mI a → (u + 1).toNatClampNeg < (y7 + 1).toNatClampNeg := by
      intro u eu
      have z : ∀ k : Nat, mI k + 1 = nI k := fun k => by
        show nI k - 1 + 1 = nI k
        exact Int32.sub_add_cancel _ _
      rw [eu, e7, z, z, nI_clamp (by omega), nI_clamp (by omega)]
      omega
    have down : ∀ {b r}, isL (hit S.1 p s age d b) (a + 1) (S.1.1 2) r → ¬ hit S.1 p s age d b a → isL (hit S.1 p s age d b) a (S.1.1 2) r := by
      intro b r h hno
      have ext : ∀ m, (∀ j, a + 1 ≤ j → j < m → ¬ hit S.1 p s age d b j) → ∀ j, a ≤ j → j < m → ¬ hit S.1 p s age d b j := by
        intro m hm j ja jm
        rcases Nat.lt_or_eq_of_le ja with q | q
        · exact hm j q jm
        · rw [← q]; exact hno
      rcases h with ⟨h1, h2⟩ | ⟨h1, h2, h3, h4⟩
      · exact Or.inl ⟨h1, ext _ h2⟩
      · exact Or.inr ⟨by omega, h2, h3, ext _ h4⟩
    have take : ∀ {b}, hit S.1 p s age d b a → isL (hit S.1 p s age d b) a (S.1.1 2) (a + 1) := fun h => Or.inr ⟨Nat.le_refl _, by omega, h, fun j ja jm => by omega⟩
    have nA : noI (a + 1) = nI a := if_neg (Nat.succ_ne_zero a)
    refine tM_couldBe hR2 hw.1.ac hl (show a < S.1.1 2 by omega) l1 l2 (by omega) (fun c => ⟨fun z => absurd z (by decide), fun _ => ?_⟩) (fun c => ⟨fun _ u eu => ?_, fun z => absurd rfl z⟩)
    · refine tM_doesHold hR2 hw.1.ac hl (show a < S.1.1 2 by omega) l2 (by omega) (fun M3 rv3 => ?_)
      rw [c.1]
      have rv' := rv.tr rv3
      have fin : ∀ (v5 v6 : Int32) (s1 s0 : Nat), v5 = noI s1 → v6 = noI s0 → isL (hit S.1 p s age d true) a (S.1.1 2) s1 → isL (hit S.1 p s age d false) a (S.1.1 2) s0 → s_X12_quarrel_113 (nI p) (nI s) (nI age) (nI d) P K M3 v5 (nI a) v6 := by
        intro v5 v6 s1 s0 f1 f2 f3 f4 u eu
        have eu' : u = mI a := by rw [eu]; rw [show nI a + -1 = nI a - 1 from (Int32.sub_eq_add_neg _ _).symm]; rfl
        exact hK _ ⟨a, s1, s0, by omega, eu', f1, f2, f3, f4, rv'⟩ (dec u eu')
      unfold s_X12_quarrel_99
      by_cases hb : S.1.2.2 a (fld S.1 s (if p = 0 then age else 0) d) = true
      · rw [hb]
        exact ⟨fun z => absurd z (by decide), fun _ => ⟨fun z => absurd z (by decide), fun _ => fin _ _ (a + 1) r0 nA.symm rfl (take ⟨c, hb⟩) (down L0 (fun y => by have := y.2; rw [hb] at this; cases this))⟩⟩
      · have hb2 : S.1.2.2 a (fld S.1 s (if p = 0 then age else 0) d) = false := by simpa using hb
        rw [hb2]
        exact ⟨fun _ => ⟨fun _ => fin _ _ r1 (a + 1) rfl nA.symm (down L1 (fun y => hb y.2)) (take ⟨c, hb2⟩), fun z => absurd rfl z⟩, fun z => absurd rfl z⟩
    · have eu' : u = mI a := by rw [eu]; rw [show nI a + -1 = nI a - 1 from (Int32.sub_eq_add_neg _ _).symm]; rfl
      exact hK _ ⟨a, r1, r0, by omega, eu', rfl, rfl, down L1 (fun y => c y.1), down L0 (fun y => c y.1), rv⟩ (dec u eu')
