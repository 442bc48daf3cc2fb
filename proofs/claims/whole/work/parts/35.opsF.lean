/-! FORCE -/
def actOK (A : Abs) : Prop := A.1 2 ≤ 16 ∧ ∀ a, a < A.1 2 → A.2.1 17 a ≤ 4 ∧ A.2.1 18 a ≤ 400 ∧ A.2.1 19 a ≤ 401 ∧ A.2.1 20 a < 3 ∧ A.2.1 21 a ≤ 80
theorem Wf.acts {A : Abs} (h : Wf A) : actOK A := ⟨h.2.2.1, fun a ha => by
  obtain ⟨w1, w2, w3, w4, w5, -⟩ := h.act ha
  exact ⟨w1, w2, w3, w4, w5⟩⟩
/-- the first letter of an act is its purpose's -/
def letter (p : Nat) : Nat := if p = 0 then 101 else if p = 1 then 114 else 111
def letOK (A : Abs) : Prop := ∀ a, a < A.1 2 → 1 ≤ A.2.1 21 a ∧ A.2.1 22 (80 * a) = letter (A.2.1 20 a)
theorem letter_eq {p q : Nat} (hp : p < 3) (hq : q < 3) : letter p = letter q ↔ p = q := by
  rcases (show p = 0 ∨ p = 1 ∨ p = 2 by omega) with rfl | rfl | rfl <;> rcases (show q = 0 ∨ q = 1 ∨ q = 2 by omega) with rfl | rfl | rfl <;> simp [letter]
theorem letter_lt (p : Nat) : letter p < 256 := by
  unfold letter
  split
  · omega
  · split <;> omega
theorem tC_couldBe {w : Nat} {M : Mem} {A : Abs} {a p sh d : Nat} {P : Int32 → Mem → Prop} (h : RCa w M A) (hk : actOK A) (ha : a < A.1 2) (hp : p < 3) (hsh : sh < 4) (hd : d ≤ 400) (h1 : cou A a p sh d → P 1 M) (h0 : ¬ cou A a p sh d → P 0 M) : s_X1_couldBeInForce w M (nI a) (nI p) (nI sh) (nI d) P := by
  obtain ⟨n16, hk⟩ := hk
  obtain ⟨w1, w2, w3, w4, w5⟩ := hk a ha
  obtain ⟨⟨id, i1, i2, i3, i4, i5, -⟩, i6⟩ := h.2.1 a ha
  unfold s_X1_couldBeInForce
  have vi : vp_in (nI a) 16 := vp_in_nI (by omega) (by omega)
  have ci : (nI a).toNatClampNeg = a := nI_clamp (by omega)
  refine t_has1 h.1 (by omega) (fun _ => b1 ?_) (fun g => absurd (rg_of ha (by omega)) g)
  rw [ci]
  refine ⟨vi, fun q => by omega, fun a13 e13 => ?_⟩
  have : a13 = id := by omega
  subst this
  refine ⟨i2, ?_⟩
  unfold s_X1_couldBeInForce_18b
  have rest : A.2.1 20 a = p → (A.2.1 17 a = 0 ∨ A.2.1 17 a = sh + 1) → s_X1_couldBeInForce_52 w a13 (nI a) (nI d) P M := by
    intro r1 r2
    unfold s_X1_couldBeInForce_52
    rw [i5, ci, i6, nI_ltI (by omega) (by omega)]
    have e35 : (if A.2.1 19 a = 0 then (401 : Int32) else nI (A.2.1 19 a - 1)) ≤ nI d ↔ ¬ (A.2.1 19 a = 0 ∨ d + 1 < A.2.1 19 a) := by
      split
      · have : (401 : Int32) ≤ nI d ↔ 401 ≤ d := nI_leI (a := 401) (by omega) (by omega)
        rw [this]; omega
      · rw [nI_leI (by omega) (by omega)]; omega
    rw [e35]
    refine ⟨fun q => h0 (fun c => by have := c.2.2.1; omega), fun q => ⟨vi, fun q2 => h0 (fun c => q2 c.2.2.2), fun q2 => h1 ⟨r1, r2, by omega, Decidable.not_not.mp q2⟩⟩⟩
  have e17 : mI (A.2.1 17 a) = nI sh ↔ A.2.1 17 a = sh + 1 := by
    rw [eq_i, mI_t (by omega), nI_toInt (by omega)]; omega
  have e17m : mI (A.2.1 17 a) = -1 ↔ A.2.1 17 a = 0 := by
    rw [eq_i, mI_t (by omega), m1_t]; omega
  rw [i3, i4, nI_eq (by omega) (by omega), e17, e17m]
  exact ⟨fun q => h0 (fun c => q c.1), fun q => ⟨fun q2 => rest q (Or.inl q2), fun q2 => ⟨fun q3 => h0 (fun c => by have := c.2.1; omega), fun q3 => rest q (Or.inr q3)⟩⟩⟩
theorem frN_s {A : Abs} {p sh d a : Nat} : frN A p sh d (a + 1) = if cou A a p sh d ∧ (frN A p sh d a = 0 ∨ A.2.1 18 (frN A p sh d a - 1) ≤ A.2.1 18 a) then a + 1 else frN A p sh d a := rfl
theorem frN_le {A : Abs} {p sh d a : Nat} : frN A p sh d a ≤ a := by
  induction a with
  | zero => exact Nat.le_refl _
  | succ a ih => rw [frN_s]; split <;> omega
def frB (A : Abs) (p sh d a : Nat) : Nat := if frN A p sh d a = 0 then 0 else A.2.1 18 (frN A p sh d a - 1)
theorem tC_inForce {w : Nat} {M : Mem} {A : Abs} {p sh d : Nat} {P : Int32 → Mem → Prop} (h : RCa w M A) (hk : actOK A) (hpp : p < 3) (hsh : sh < 4) (hd : d ≤ 400) (hp : P (mI (frN A p sh d (A.1 2))) M) : s_X1_inForce w M (nI p) (nI sh) (nI d) P := by
  have n16 := hk.1
  unfold s_X1_inForce
  refine Lz_rule (fun x => ∃ a, a ≤ A.1 2 ∧ x = (M, mI (frN A p sh d a), nI (frB A p sh d a), nI a)) (fun x => 16 - x.2.2.2.toNatClampNeg) ?_ ⟨0, Nat.zero_le _, rfl⟩
  rintro K x ⟨a, ha, rfl⟩ hK
  show s_X1_inForce_9 w (nI p) (nI sh) (nI d) P K M (mI (frN A p sh d a)) (nI (frB A p sh d a)) (nI a)
  unfold s_X1_inForce_9
  rw [h.1, nI_leI (by omega) (by omega)]
  refine ⟨fun q => ?_, fun q => ?_⟩
  · rw [show a = A.1 2 by omega]; exact hp
  have ha2 : a < A.1 2 := by omega
  have vi : vp_in (nI a) 16 := vp_in_nI (by omega) (by omega)
  have ci : (nI a).toNatClampNeg = a := nI_clamp (by omega)
  obtain ⟨⟨id, i1, i2, i3, i4, i5, -⟩, i6⟩ := h.2.1 a ha2
  obtain ⟨w1, w2, w3, w4, w5⟩ := hk.2 a ha2
  rw [ci]
  have nx : ∀ y z : Int32, y = mI (frN A p sh d (a + 1)) → z = nI (frB A p sh d (a + 1)) → ∀ u : Int32, u = nI a + 1 → K (M, y, z, u) := by
    intro y z ey ez u eu
    rw [ey, ez, eu, nI_1]
    refine hK _ ⟨a + 1, by omega, rfl⟩ ?_
    show 16 - (nI (a + 1)).toNatClampNeg < 16 - (nI a).toNatClampNeg
    rw [nI_clamp (by omega), nI_clamp (by omega)]
    omega
  have keep : frN A p sh d (a + 1) = frN A p sh d a → ∀ u : Int32, u = nI a + 1 → K (M, mI (frN A p sh d a), nI (frB A p sh d a), u) := fun e => nx _ _ (by rw [e]) (by unfold frB; rw [e])
  refine ⟨vi, fun q0 => by omega, fun a24 e24 => ?_⟩
  have : a24 = id := by omega
  subst this
  refine ⟨i2, tC_couldBe h hk ha2 hpp hsh hd (fun c => ⟨rfl, fun z => absurd z (by decide), fun _ => ?_⟩) (fun c => ⟨rfl, fun _ => keep (by rw [frN_s, if_neg (fun y => c y.1)]), fun z => absurd rfl z⟩)⟩
  have hfl : frN A p sh d a ≤ a := frN_le
  have hB : frB A p sh d a ≤ 400 := by
    unfold frB
    split
    · omega
    · exact (hk.2 _ (by omega)).2.1
  rw [i5, nI_ltI (by omega) (by omega)]
  refine ⟨fun z => keep ?_, fun z u eu => ?_⟩
  · rw [frN_s, if_neg]
    rintro ⟨-, y⟩
    unfold frB at z
    split at z
    · omega
    · omega
  · have e : frN A p sh d (a + 1) = a + 1 := by
      have c2 : frN A p sh d a = 0 ∨ A.2.1 18 (frN A p sh d a - 1) ≤ A.2.1 18 a := by
        unfold frB at z
        split at z
        · rename_i y; exact Or.inl y
        · exact Or.inr (by omega)
      rw [frN_s, if_pos ⟨c, c2⟩]
    exact nx _ _ (by rw [e, mI_s]) (by unfold frB; rw [e, if_neg (by omega), eu]; rfl)
theorem tM_isOf {M : Mem} {A : Abs} {a p sh d : Nat} {P : Int32 → Mem → Prop} (h : RMa 44 M A) (hk : actOK A) (hl : letOK A) (ha : a < A.1 2) (hp : p < 3) (hsh : sh < 4) (hd : d ≤ 400) (h1 : cou A a p sh d → P 1 M) (h0 : ¬ cou A a p sh d → P 0 M) : s_X12_isOf M (nI a) (nI p) (nI sh) (nI d) P := by
  obtain ⟨n16, hk⟩ := hk
  obtain ⟨w1, w2, w3, w4, w5⟩ := hk a ha
  obtain ⟨i1, i2, i3, i4, i5⟩ := h.2 a ha
  obtain ⟨l1, l2⟩ := hl a ha
  unfold s_X12_isOf
  have vi : vp_in (nI a) 16 := vp_in_nI (by omega) (by omega)
  have ci : (nI a).toNatClampNeg = a := nI_clamp (by omega)
  have e80 : 80 * nI a = nI (80 * a) := pk_mul 80 a
  have i0 := i5 0 (by omega)
  rw [Nat.add_zero, l2] at i0
  rw [e80, ci]
  refine ⟨vp_in_nI (by omega) (by omega), ?_⟩
  rw [nI_clamp (by omega), i0]
  have rest : A.2.1 20 a = p → (A.2.1 17 a = 0 ∨ A.2.1 17 a = sh + 1) → s_X12_isOf_36 (nI a) (nI d) P M := by
    intro r1 r2
    unfold s_X12_isOf_36
    have e160 : 160 + nI a = nI (160 + a) := nI_add 160 a
    rw [ci, e160, i3, nI_ltI (by omega) (by omega)]
    refine ⟨vi, fun q => h0 (fun c => by have := c.2.2.1; omega), fun q => ⟨vp_in_nI (by omega) (by omega), ?_⟩⟩
    rw [nI_clamp (by omega), i4]
    have e35 : (if A.2.1 19 a = 0 then (1000000 : Int32) else nI (A.2.1 19 a - 1)) ≤ nI d ↔ ¬ (A.2.1 19 a = 0 ∨ d + 1 < A.2.1 19 a) := by
      split
      · have : (1000000 : Int32) ≤ nI d ↔ 1000000 ≤ d := nI_leI (a := 1000000) (by omega) (by omega)
        rw [this]; omega
      · rw [nI_leI (by omega) (by omega)]; omega
    rw [e35]
    exact ⟨fun q2 => h0 (fun c => q2 c.2.2.2), fun q2 => h1 ⟨r1, r2, by omega, Decidable.not_not.mp q2⟩⟩
  have e17 : mI (A.2.1 17 a) = nI sh ↔ A.2.1 17 a = sh + 1 := by
    rw [eq_i, mI_t (by omega), nI_toInt (by omega)]; omega
  have e17m : mI (A.2.1 17 a) = -1 ↔ A.2.1 17 a = 0 := by
    rw [eq_i, mI_t (by omega), m1_t]; omega
  have key : ∀ v : Int32, v = nI (letter p) → (¬ nI (letter (A.2.1 20 a)) = v → P 0 M) ∧ (nI (letter (A.2.1 20 a)) = v → vp_in (nI a) 16 ∧ ((M.1 59 0 a = -1 → s_X12_isOf_36 (nI a) (nI d) P M) ∧ (¬ M.1 59 0 a = -1 → vp_in (nI a) 16 ∧ ((¬ M.1 59 0 a = nI sh → P 0 M) ∧ (M.1 59 0 a = nI sh → s_X12_isOf_36 (nI a) (nI d) P M))))) := by
    intro v ev
    have b1 := letter_lt p
    have b2 := letter_lt (A.2.1 20 a)
    rw [ev, nI_eq (by omega) (by omega), letter_eq w4 hp, i2, e17, e17m]
    exact ⟨fun q => h0 (fun c => q c.1), fun q => ⟨vi, fun q2 => rest q (Or.inl q2), fun q2 => ⟨vi, fun q3 => h0 (fun c => by have := c.2.1; omega), fun q3 => rest q (Or.inr q3)⟩⟩⟩
  unfold s_X12_letterOf
  rcases (show p = 0 ∨ p = 1 ∨ p = 2 by omega) with rfl | rfl | rfl
  · exact ⟨fun q => absurd rfl q, fun _ => key 101 rfl⟩
  · exact ⟨fun _ => ⟨fun q => absurd rfl q, fun _ => key 114 rfl⟩, fun q => absurd q (by decide)⟩
  · exact ⟨fun _ => ⟨fun _ => key 111 rfl, fun q => absurd q (by decide)⟩, fun q => absurd q (by decide)⟩
/-- the reference's forces are filled in for day d -/
theorem tM_forceOf {M : Mem} {A : Abs} {p s d : Nat} {P : Int32 → Mem → Prop} (h : RMa 44 M A) (hsR : RMs 44 M A) (hf : RMf M A) (hk : actOK A) (hl : letOK A) (hpp : p < 3) (hs : s < A.1 0) (hn : A.1 0 ≤ 12) (hsh : A.2.1 0 s < 4) (hd : d ≤ 400) (hp : ∀ M', (∀ c, c ≠ 66 → c ≠ 10 → M'.1 c = M.1 c) → (∀ i j, ¬ (i = 0 ∧ j = 37) → M'.1 10 i j = M.1 10 i j) → M'.2 = M.2 → RMf M' A → P (noI (frN A p (A.2.1 0 s) d (A.1 2))) M') : s_X12_forceOf M (nI p) (nI s) (nI d) P := by
  have n16 := hk.1
  obtain ⟨fd, f1, f2, f3⟩ := hf
  unfold s_X12_forceOf
  have fin : ∀ Mx : Mem, (∀ c, c ≠ 66 → Mx.1 c = M.1 c) → Mx.2 = M.2 → (∀ k, k < 12 → Mx.1 66 0 k = noI (frN A (k / 4) (k % 4) d (A.1 2))) → s_X12_forceOf_106 (nI p) (nI s) (nI d) P Mx := by
    intro Mx g1 g2 g3 My ey
    have e47 : My.1 47 0 s = nI (A.2.1 0 s) := by rw [ey, wI_nc (by omega), g1 47 (by omega)]; exact (hsR.2 s hs).1
    rw [nI_clamp (by omega), e47]
    have ead : 4 * nI p + nI (A.2.1 0 s) = nI (4 * p + A.2.1 0 s) := by
      show nI 4 * nI p + nI (A.2.1 0 s) = _
      rw [pk_mul, nI_add]
    rw [ead]
    refine ⟨vp_in_nI (by omega) (by omega), vp_in_nI (by omega) (by omega), ?_⟩
    rw [nI_clamp (by omega)]
    have m66 : ∀ k, k < 12 → My.1 66 0 k = noI (frN A (k / 4) (k % 4) d (A.1 2)) := fun k hk => by rw [ey, wI_nc (by omega)]; exact g3 k hk
    rw [m66 _ (by omega), show (4 * p + A.2.1 0 s) / 4 = p by omega, show (4 * p + A.2.1 0 s) % 4 = A.2.1 0 s by omega]
    refine hp My (fun c a b => by rw [ey, wI_cc b, g1 c a]) (fun i j hij => ?_) (by rw [ey]; exact g2) ⟨d + 1, by rw [ey, wI_at, if_pos ⟨rfl, rfl, rfl⟩, mI_s], by omega, fun _ p' sh' a b => ?_⟩
    · rw [ey, wI_at, if_neg (fun y => hij y.2), g1 10 (by omega)]
    · rw [m66 _ (by omega), show (4 * p' + sh') / 4 = p' by omega, show (4 * p' + sh') % 4 = sh' by omega]
      rfl
  refine Lz_rule (fun a => ∃ k, k ≤ 12 ∧ a.2 = nI k ∧ (∀ c, c ≠ 66 → a.1.1 c = M.1 c) ∧ a.1.2 = M.2 ∧ (k = 0 → a.1 = M) ∧ (k ≠ 0 → fd ≠ d + 1) ∧ ∀ j, j < k → a.1.1 66 0 j = noI (frN A (j / 4) (j % 4) d (A.1 2))) (fun a => 12 - a.2.toNatClampNeg) ?_ ⟨0, by omega, rfl, fun _ _ => rfl, rfl, fun _ => rfl, fun z => absurd rfl z, fun j hj => absurd hj (Nat.not_lt_zero j)⟩
  rintro K ⟨Mx, x⟩ ⟨k, hkk, e, i1, i2, i3, i4, i5⟩ hK
  dsimp only at e i1 i2 i3 i4 i5
  show s_X12_forceOf_3 (nI p) (nI s) (nI d) P K Mx x
  unfold s_X12_forceOf_3
  have k12 : (12 : Int32) ≤ nI k ↔ 12 ≤ k := nI_leI (a := 12) (by omega) (by omega)
  have e37 : Mx.1 10 0 37 = nI d ↔ fd = d + 1 := by
    rw [i1 10 (by omega), f1, eq_i, mI_t (by omega), nI_toInt (by omega)]; omega
  rw [e, k12, e37]
  refine ⟨fun z => fin Mx i1 i2 (fun j hj => i5 j (by omega)), fun z => ⟨fun z2 => ?_, fun z2 => ?_⟩⟩
  · have k0 : k = 0 := by
      rcases Nat.eq_zero_or_pos k with q | q
      · exact q
      · exact absurd z2 (i4 (by omega))
    have eM := i3 k0
    rw [eM]
    refine fin M (fun _ _ => rfl) rfl (fun j hj => ?_)
    have := f3 (by omega) (j / 4) (j % 4) (by omega) (by omega)
    rw [show 4 * (j / 4) + j % 4 = j by omega, show fd - 1 = d by omega] at this
    exact this
  refine Lz_rule (fun y => ∃ a, a ≤ A.1 2 ∧ y = (Mx, noI (frN A (k / 4) (k % 4) d a), nI a)) (fun y => 16 - y.2.2.toNatClampNeg) ?_ ⟨0, Nat.zero_le _, rfl⟩
  rintro K2 y ⟨a, ha, rfl⟩ hK2
  show s_X12_forceOf_25 (nI p) (nI s) (nI d) (nI k) P K K2 Mx (noI (frN A (k / 4) (k % 4) d a)) (nI a)
  unfold s_X12_forceOf_25
  have h44 : RMa 44 Mx A := by
    unfold RMa at h ⊢
    rw [i1 44 (by omega), i1 57 (by omega), i1 58 (by omega), i1 59 (by omega), i1 60 (by omega)]
    exact h
  rw [h44.1, nI_leI (by omega) (by omega)]
  refine ⟨fun q => ⟨vp_in_nI (by omega) (by omega), fun My ey u eu => ?_⟩, fun q => ?_⟩
  · have : a = A.1 2 := by omega
    subst this
    rw [nI_clamp (by omega)] at ey
    rw [eu, nI_1]
    refine hK _ ⟨k + 1, by omega, rfl, fun c hc => ?_, ?_, fun z => absurd z (Nat.succ_ne_zero k), fun _ => z2, fun j hj => ?_⟩ ?_
    · rw [ey]; exact (wI_cc hc).trans (i1 c hc)
    · rw [ey]; exact i2
    · rw [ey]
      show (wI Mx 66 0 k (noI (frN A (k / 4) (k % 4) d (A.1 2)))).1 66 0 j = _
      rw [wI_at]
      by_cases z3 : j = k
      · rw [if_pos ⟨rfl, rfl, z3⟩, z3]
      · rw [if_neg (fun y => z3 y.2.2)]; exact i5 j (by omega)
    · show 12 - (nI (k + 1)).toNatClampNeg < 12 - x.toNatClampNeg
      rw [e, nI_clamp (by omega), nI_clamp (by omega)]
      omega
  have ha2 : a < A.1 2 := by omega
  have q4 : nI k / 4 = nI (k / 4) := pk_div (d := 4) (by omega) (by omega) (by omega)
  have r4 : nI k - nI k / 4 * 4 = nI (k % 4) := pk_rem (d := 4) (by omega) (by omega) (by omega)
  rw [r4, q4]
  have nx : ∀ v : Int32, v = noI (frN A (k / 4) (k % 4) d (a + 1)) → s_X12_forceOf_83 (nI p) (nI s) (nI d) (nI k) P K K2 Mx (nI a) v := by
    intro v ev u eu
    rw [ev, eu, nI_1]
    refine hK2 _ ⟨a + 1, by omega, rfl⟩ ?_
    show 16 - (nI (a + 1)).toNatClampNeg < 16 - (nI a).toNatClampNeg
    rw [nI_clamp (by omega), nI_clamp (by omega)]
    omega
  have hfl : frN A (k / 4) (k % 4) d a ≤ a := frN_le
  have keep : frN A (k / 4) (k % 4) d (a + 1) = frN A (k / 4) (k % 4) d a → s_X12_forceOf_83 (nI p) (nI s) (nI d) (nI k) P K K2 Mx (nI a) (noI (frN A (k / 4) (k % 4) d a)) := fun e => nx _ (by rw [e])
  have take : frN A (k / 4) (k % 4) d (a + 1) = a + 1 → s_X12_forceOf_83 (nI p) (nI s) (nI d) (nI k) P K K2 Mx (nI a) (nI a) := fun e => nx _ (by rw [e]; unfold noI; rw [if_neg (by omega)]; rfl)
  refine tM_isOf h44 hk hl ha2 (by omega) (by omega) hd (fun c => ⟨fun z => absurd z (by decide), fun _ => ?_⟩) (fun c => ⟨fun _ => keep (by rw [frN_s, if_neg (fun y => c y.1)]), fun z => absurd rfl z⟩)
  constructor
  · intro z3
    rw [lt_i, t0_i, noI_t (by omega)] at z3
    have c2 : frN A (k / 4) (k % 4) d a = 0 := by split at z3 <;> omega
    exact take (by rw [frN_s, if_pos ⟨c, Or.inl c2⟩])
  · intro z3
    rw [lt_i, t0_i, noI_t (by omega)] at z3
    have nz : frN A (k / 4) (k % 4) d a ≠ 0 := fun q => by rw [if_pos q] at z3; omega
    have eN : noI (frN A (k / 4) (k % 4) d a) = nI (frN A (k / 4) (k % 4) d a - 1) := if_neg nz
    rw [eN]
    refine ⟨vp_in_nI (by omega) (by omega), vp_in_nI (by omega) (by omega), ?_⟩
    have wa := (hk.2 a ha2).2.1
    have wb := (hk.2 (frN A (k / 4) (k % 4) d a - 1) (by omega)).2.1
    rw [nI_clamp (by omega), nI_clamp (by omega), (h44.2 a ha2).2.2.1, (h44.2 _ (show frN A (k / 4) (k % 4) d a - 1 < A.1 2 by omega)).2.2.1, nI_ltI (by omega) (by omega)]
    refine ⟨fun z4 => ?_, fun z4 => ?_⟩
    · rw [← eN]
      exact keep (by rw [frN_s, if_neg (fun y => by omega)])
    · exact take (by rw [frN_s, if_pos ⟨c, Or.inr (by omega)⟩])
