/-! copy, the reference's -/
theorem tM_copy {M : Mem} {S : Sg} {x1 x2 x3 x4 x5 : Int32} {P : Int32 → Mem → Prop} (h : RMX M S) (hw : WfX S) (hp : ∀ M', sameC M M' → RMX M' (sp_copy S x1 x2 x3 x4 x5).2 → P (sp_copy S x1 x2 x3 x4 x5).1 M') : s_X12_copy M x1 x2 x3 x4 x5 P := by
  unfold s_X12_copy
  intro M1 e1
  have h1 : RMX M1 S := by rw [e1]; exact h.thrown
  replace hp : ∀ M', sameC M1 M' → RMX M' (sp_copy S x1 x2 x3 x4 x5).2 → P (sp_copy S x1 x2 x3 x4 x5).1 M' := fun M' a b => hp M' (sameC.tr (by rw [e1]; exact sC10) a) b
  have bad : ∀ v, sp_copy S x1 x2 x3 x4 x5 = (v, S) → P v M1 := fun v hb => by
    have := hp M1 sameC.rf
    rw [hb] at this
    exact this h1
  refine t_in (by decide) (n := 8) (by decide) (fun g1 => b1 ?_) (fun g1 => b0 (bad _ (by unfold sp_copy; rw [if_neg (fun q => g1 q.1)])))
  refine t_in (by decide) (n := 8) (by decide) (fun g3 => c1 ⟨rg_in g1, ?_⟩) (fun g3 => c0 (bad _ (by unfold sp_copy; rw [if_neg (fun q => g3 q.2)])))
  have hd := rg_lt g1
  have he := rg_lt g3
  obtain ⟨w0, w1, w2, w3, w4, w5, -⟩ := hw.2.2 _ hd
  obtain ⟨v0, v1, v2, v3, v4, v5, -⟩ := hw.2.2 _ he
  have i0 : nI (S.2.2.1 0 (ix x1)) = 0 ↔ S.2.2.1 0 (ix x1) = 0 := eqk (by omega) rfl (by omega)
  have j0 : nI (S.2.2.1 0 (ix x3)) = 0 ↔ S.2.2.1 0 (ix x3) = 0 := eqk (by omega) rfl (by omega)
  have i2 : nI (S.2.2.1 0 (ix x1)) = 2 ↔ S.2.2.1 0 (ix x1) = 2 := eqk (by omega) rfl (by omega)
  have j2 : nI (S.2.2.1 0 (ix x3)) = 2 ↔ S.2.2.1 0 (ix x3) = 2 := eqk (by omega) rfl (by omega)
  rw [(h1.2.2.1 _ hd).1, (h1.2.2.1 _ he).1, i0, j0, i2, j2]
  have bad2 : S.2.2.1 0 (ix x1) ≠ 0 → S.2.2.1 0 (ix x3) ≠ 0 → ¬ (hd0 S (ix x1) = 2 ∧ hd0 S (ix x3) = 2 ∧ S.2.2.1 4 (ix x1) = S.2.2.1 4 (ix x3)) → P (-12) M1 := fun q r hb => bad _ (by unfold sp_copy; rw [if_pos ⟨g1, g3⟩, if_neg (by show ¬ (S.2.2.1 0 (ix x1) = 0 ∨ S.2.2.1 0 (ix x3) = 0); omega), if_neg hb])
  refine ⟨fun q => bad _ (by unfold sp_copy; rw [if_pos ⟨g1, g3⟩, if_pos (Or.inl q)]), fun q => ⟨rg_in g3, fun r => ⟨rg_in g1, fun q2 => bad2 q r (fun z => q2 z.1), fun q2 => ⟨rg_in g3, fun r2 => bad2 q r (fun z => r2 z.2.1), fun r2 => ⟨rg_in g1, rg_in g3, ?_⟩⟩⟩, fun r => bad _ (by unfold sp_copy; rw [if_pos ⟨g1, g3⟩, if_pos (Or.inr r)])⟩⟩
  obtain ⟨m1, m2, m3⟩ := (h1.2.2.1 _ he).2.2 r2
  obtain ⟨n1, n2, n3⟩ := (h1.2.2.1 _ hd).2.2 q2
  rw [n1, m1, nI_eq (by omega) (by omega)]
  refine ⟨fun es => ?_, fun es => bad2 q r (fun z => es z.2.2)⟩
  have bad3 : ¬ cpP S x1 x2 x3 x4 x5 → P (-13) M1 := fun hb => bad _ (by unfold sp_copy; rw [if_pos ⟨g1, g3⟩, if_neg (by show ¬ (S.2.2.1 0 (ix x1) = 0 ∨ S.2.2.1 0 (ix x3) = 0); omega), if_pos ⟨q2, r2, es⟩, if_neg hb])
  have b5 := Int32.toInt_lt x5
  refine ⟨fun y5 => bad3 (fun z => by rw [lt_i, t0_i] at y5; have := z.2.2.1; omega), fun y5 => ⟨fun y2 => bad3 (fun z => by rw [lt_i, t0_i] at y2; have := z.1; omega), fun y2 => ⟨fun y4 => bad3 (fun z => by rw [lt_i, t0_i] at y4; have := z.2.1; omega), fun y4 => ⟨rg_in g1, ?_⟩⟩⟩⟩
  rw [lt_i, t0_i] at y5 y2 y4
  have sz : ∀ n : Nat, n ≤ 80 → (nI n - x5).toInt = n - x5.toInt := fun n hn => by
    rw [Int32.toInt_sub, nI_toInt (by omega)]
    exact Int.bmod_eq_of_le (by omega) (by omega)
  rw [n2, m2, lt_i, sz _ w5, le_i, sz _ v5]
  refine ⟨fun z => bad3 (fun y => by have := y.2.2.2.1; omega), fun z => ⟨rg_in g3, fun z2 => ?_, fun z2 => bad3 (fun y => by have := y.2.2.2.2; omega)⟩⟩
  have hc : cpP S x1 x2 x3 x4 x5 := ⟨by omega, by omega, by omega, by omega, by omega⟩
  have ess : sp_copy S x1 x2 x3 x4 x5 = (x5, shU S (ix x3) (fun c => S.2.2.1 c (ix x3)) (fun j => if ix x4 ≤ j ∧ j < ix x4 + ix x5 then S.2.2.2 (ix x1) (ix x2 + (j - ix x4)) else S.2.2.2 (ix x3) j)) := by unfold sp_copy; rw [if_pos ⟨g1, g3⟩, if_neg (by show ¬ (S.2.2.1 0 (ix x1) = 0 ∨ S.2.2.1 0 (ix x3) = 0); omega), if_pos ⟨q2, r2, es⟩, if_pos hc]
  rw [ess] at hp
  have k2 : rg x2 81 := ⟨by omega, by omega⟩
  have k4 : rg x4 81 := ⟨by omega, by omega⟩
  have k5 : rg x5 81 := ⟨by omega, by omega⟩
  have e2 : (ix x2 : Int) = x2.toInt := ix_t k2
  have e4 : (ix x4 : Int) = x4.toInt := ix_t k4
  have e5 : (ix x5 : Int) = x5.toInt := ix_t k5
  have r5 : x5 = nI (ix x5) := rg_nI k5 (by omega)
  have ad : ∀ (x y : Int32) (n k : Nat), rg x 8 → rg y 81 → 80 * x + y + nI k = nI (80 * ix x + ix y + k) := fun x y n k hx hy => by
    rw [(ix2 (B := 0) (C := 80) (b := 0) (k := 80) hx hy rfl rfl (by omega) (by omega) (by omega) (by omega)).2.1, nI_add]
  refine Lz_rule (fun a => ∃ k, k ≤ ix x5 ∧ a.2 = nI k ∧ a.1.1 = M1.1 ∧ a.1.2.2 = M1.2.2 ∧ (∀ c, c ≠ 79 → a.1.2.1 c = M1.2.1 c) ∧ ∀ j, j < k → a.1.2.1 79 0 j = M1.2.1 78 0 (80 * ix x1 + ix x2 + j)) (fun a => 80 - a.2.toNatClampNeg) ?_ ⟨0, by omega, rfl, rfl, rfl, fun _ _ => rfl, fun j hj => absurd hj (by omega)⟩
  rintro K ⟨Mx, x⟩ ⟨k, hk, e, u1, u2, u3, u4⟩ hK
  dsimp only at e u1 u2 u3 u4
  show s_X12_copy_133 x1 x2 x3 x4 x5 P K Mx x
  unfold s_X12_copy_133
  rw [e]
  have kle : x5 ≤ nI k ↔ ix x5 ≤ k := by conv => lhs; rw [r5]
                                         exact nI_leI (by omega) (by omega)
  rw [kle]
  refine ⟨fun y => ?_, fun y => ?_⟩
  · have hk2 : k = ix x5 := by omega
    refine Lz_rule (fun a => ∃ k, k ≤ ix x5 ∧ a.2 = nI k ∧ a.1.1 = M1.1 ∧ a.1.2.2 = M1.2.2 ∧ (∀ c, c ≠ 78 → c ≠ 79 → a.1.2.1 c = M1.2.1 c) ∧ (∀ j, j < ix x5 → a.1.2.1 79 0 j = M1.2.1 78 0 (80 * ix x1 + ix x2 + j)) ∧ (∀ q, ¬ (80 * ix x3 + ix x4 ≤ q ∧ q < 80 * ix x3 + ix x4 + k) → a.1.2.1 78 0 q = M1.2.1 78 0 q) ∧ ∀ j, j < k → a.1.2.1 78 0 (80 * ix x3 + ix x4 + j) = M1.2.1 78 0 (80 * ix x1 + ix x2 + j)) (fun a => 80 - a.2.toNatClampNeg) ?_ ⟨0, by omega, rfl, u1, u2, fun c _ hc => u3 c hc, fun j hj => u4 j (by omega), fun q _ => by rw [u3 78 (by omega)], fun j hj => absurd hj (by omega)⟩
    rintro K2 ⟨My, x'⟩ ⟨k', hk', e', t1, t2, t3, t4, t5, t6⟩ hK2
    dsimp only at e' t1 t2 t3 t4 t5 t6
    show s_X12_copy_170 x3 x4 x5 P K2 My x'
    unfold s_X12_copy_170
    rw [e']
    have kle' : x5 ≤ nI k' ↔ ix x5 ≤ k' := by conv => lhs; rw [r5]
                                              exact nI_leI (by omega) (by omega)
    rw [kle']
    refine ⟨fun y' => ?_, fun y' => ⟨vp_in_nI (by omega) (by omega), ?_⟩⟩
    · have hk3 : k' = ix x5 := by omega
      subst hk3
      have g : ∀ c, ¬ (72 ≤ c ∧ c ≤ 77) → My.1 c = M1.1 c := fun c hc => by rw [t1]
      refine hp My (sameC.shelf g (fun c hc => t3 c (fun q => hc (Or.inl q)) (fun q => hc (Or.inr q))) t2) (h1.shelf (h1.2.2.1.up (fun d' hd' c a b => by rw [t1]) (fun d' hd' j hj => t5 _ (by omega)) ?_ (fun q1 => ?_) (fun _ => ?_)) g)
      · rw [t1]; exact (h1.2.2.1 _ he).1
      · have q' : S.2.2.1 0 (ix x3) = 2 := r2
        have q1' : S.2.2.1 0 (ix x3) = 1 := q1
        omega
      · rw [t1]
        refine ⟨m1, m2, fun j hj => ?_⟩
        by_cases zz : ix x4 ≤ j ∧ j < ix x4 + ix x5
        · rw [if_pos zz, ← n3 _ (by omega)]
          have := t6 (j - ix x4) (by omega)
          rw [show 80 * ix x3 + ix x4 + (j - ix x4) = 80 * ix x3 + j by omega] at this
          rw [this, Nat.add_assoc]
        · rw [if_neg zz, t5 _ (by omega)]
          exact m3 j hj
    · rw [ad x3 x4 80 k' g3 k4]
      refine ⟨vp_in_nI (by omega) (by omega), fun Mz ez z3 ez3 => ?_⟩
      rw [nI_clamp (by omega), nI_clamp (by omega)] at ez
      rw [ez3, nI_1]
      refine hK2 _ ⟨k' + 1, by omega, rfl, ?_, ?_, fun c hc hc9 => ?_, fun j hj => ?_, fun q hq => ?_, fun j hj => ?_⟩ ?_
      · rw [ez]; exact t1
      · rw [ez]; exact t2
      · rw [ez]; exact (wJ_nc hc).trans (t3 c hc hc9)
      · rw [ez]; exact (congrFun (congrFun (wJ_nc (by omega)) 0) j).trans (t4 j hj)
      · rw [ez]
        show (wJ My 78 0 (80 * ix x3 + ix x4 + k') (My.2.1 79 0 k')).2.1 78 0 q = _
        rw [wJ_at, if_neg (fun q4 => hq (by omega))]; exact t5 q (by omega)
      · rw [ez]
        show (wJ My 78 0 (80 * ix x3 + ix x4 + k') (My.2.1 79 0 k')).2.1 78 0 (80 * ix x3 + ix x4 + j) = _
        rw [wJ_at]
        by_cases q3 : j = k'
        · rw [if_pos ⟨rfl, rfl, by omega⟩, q3]; exact t4 k' (by omega)
        · rw [if_neg (fun q4 => q3 (by omega))]; exact t6 j (by omega)
      · show 80 - (nI (k' + 1)).toNatClampNeg < 80 - x'.toNatClampNeg
        rw [e', nI_clamp (by omega), nI_clamp (by omega)]
        omega
  · rw [ad x1 x2 80 k g1 k2]
    refine ⟨vp_in_nI (by omega) (by omega), vp_in_nI (by omega) (by omega), fun Mz ez z3 ez3 => ?_⟩
    rw [nI_clamp (by omega), nI_clamp (by omega)] at ez
    rw [ez3, nI_1]
    refine hK _ ⟨k + 1, by omega, rfl, ?_, ?_, fun c hc => ?_, fun j hj => ?_⟩ ?_
    · rw [ez]; exact u1
    · rw [ez]; exact u2
    · rw [ez]; exact (wJ_nc hc).trans (u3 c hc)
    · rw [ez]
      show (wJ Mx 79 0 k (Mx.2.1 78 0 (80 * ix x1 + ix x2 + k))).2.1 79 0 j = _
      rw [wJ_at]
      by_cases q3 : j = k
      · rw [if_pos ⟨rfl, rfl, q3⟩, u3 78 (by omega), q3]
      · rw [if_neg (fun q4 => q3 q4.2.2)]; exact u4 j (by omega)
    · show 80 - (nI (k + 1)).toNatClampNeg < 80 - x.toNatClampNeg
      rw [e, nI_clamp (by omega), nI_clamp (by omega)]
      omega
