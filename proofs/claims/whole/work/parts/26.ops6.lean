/-! put -/
theorem t_hasPlace {M : Mem} {S : Sg} {d : Nat} {x : Int32} {P : Int32 → Mem → Prop} (h : RCS M S) (hd : d < 8) (h2 : hd0 S d = 2) (hn : S.2.2.1 5 d ≤ 80) (p1 : rg x (S.2.2.1 5 d) → P 1 M) (p0 : ¬ rg x (S.2.2.1 5 d) → P 0 M) : s_X9_hasPlace d M x P := by
  unfold s_X9_hasPlace
  rw [((h d hd).2.2 h2).2.1]
  have e := nI_toInt (n := S.2.2.1 5 d) (by omega)
  refine ⟨fun q => p0 (fun g => by rw [lt_i, t0_i] at q; omega), fun q => ⟨fun r => p0 (fun g => by rw [le_i] at r; omega), fun r => p1 ?_⟩⟩
  rw [lt_i, t0_i] at q
  rw [le_i] at r
  exact ⟨by omega, by omega⟩
def nrw (s : Nat) (x : Int32) : Int32 := if s = 0 then x.toInt8.toInt32 else if s = 1 then x.toInt16.toInt32 else x
def sp_put (S : Sg) (x1 x2 x3 : Int32) : Int32 × Sg := if rg x1 8 then (if hd0 S (ix x1) = 0 then (-11, S) else if hd0 S (ix x1) = 2 then (if rg x2 (S.2.2.1 5 (ix x1)) then (0, shU S (ix x1) (fun c => S.2.2.1 c (ix x1)) (fun j => if j = ix x2 then nrw (S.2.2.1 4 (ix x1)) x3 else S.2.2.2 (ix x1) j)) else (-13, S)) else (-12, S)) else (-1, S)
theorem tC_put {M : Mem} {S : Sg} {x1 x2 x3 : Int32} {P : Int32 → Mem → Prop} (h : RCX M S) (hw : WfX S) (hp : ∀ M', sameM M M' → RCX M' (sp_put S x1 x2 x3).2 → P (sp_put S x1 x2 x3).1 M') : s_X11_put M x1 x2 x3 P := by
  unfold s_X11_put
  have bad : ∀ v, sp_put S x1 x2 x3 = (v, S) → P v M := fun v hb => by
    have := hp M sameM.rf
    rw [hb] at this
    exact this h
  refine t_shelfAt (fun g1 => d1 (rg_lt g1) ?_) (fun g1 => d0 (bad _ (by unfold sp_put; rw [if_neg g1])))
  have hd := rg_lt g1
  obtain ⟨w0, w1, w2, w3, w4, w5, -⟩ := hw.2.2 _ hd
  refine t_rowRefusal h.2.2 hd w0 (fun q => bn (by decide) (bad _ (by unfold sp_put; rw [if_pos g1, if_pos q]))) (fun q => b0 ?_) (fun q => bn (by decide) (bad _ (by unfold sp_put; rw [if_pos g1, if_neg (by omega), if_neg (by omega)])))
  refine t_hasPlace h.2.2 hd q w5 (fun g2 => c1 ?_) (fun g2 => c0 (bad _ (by unfold sp_put; rw [if_pos g1, if_neg (by omega), if_pos q, if_neg g2])))
  have es : sp_put S x1 x2 x3 = (0, shU S (ix x1) (fun c => S.2.2.1 c (ix x1)) (fun j => if j = ix x2 then nrw (S.2.2.1 4 (ix x1)) x3 else S.2.2.2 (ix x1) j)) := by unfold sp_put; rw [if_pos g1, if_neg (by omega), if_pos q, if_pos g2]
  rw [es] at hp
  have l2 := rg_lt g2
  have leaf : ∀ v, v = nrw (S.2.2.1 4 (ix x1)) x3 → s_X9_write_31 (ix x1) (fun Mm45 => P 0 Mm45) M v x2 := by
    intro v ev
    unfold s_X9_write_31
    refine ⟨rg_in ⟨g2.1, by have := g2.2; omega⟩, fun Ma ea => ?_⟩
    have e1 : ∀ c, c ≠ 7 → c ≠ 39 → Ma.1 c = M.1 c := fun c _ hc => by rw [ea, wI_cc hc]
    refine hp Ma (sameM.shelf e1 (by rw [ea]; rfl)) (h.shelf (h.2.2.up (fun d' hd' => ⟨by rw [ea, wI_nc (by omega)], by rw [ea, wI_ni hd']⟩) ?_ (fun q1 => by have q' : S.2.2.1 0 (ix x1) = 2 := q; have q1' : S.2.2.1 0 (ix x1) = 1 := q1; omega) (fun _ => ?_)) e1 (by rw [ea]; rfl))
    · rw [ea, wI_nc (by omega)]; exact (h.2.2 _ hd).1
    · obtain ⟨a1, a2, a3⟩ := (h.2.2 _ hd).2.2 q
      rw [ea, wI_nc (by omega)]
      refine ⟨a1, a2, fun j hj => ?_⟩
      rw [wI_at]
      by_cases z : j = ix x2
      · rw [if_pos ⟨rfl, rfl, z⟩, if_pos z, ev]
      · rw [if_neg (fun y => z y.2.2), if_neg z]; exact a3 j hj
  unfold s_X9_write
  rw [((h.2.2 _ hd).2.2 q).1]
  have q0 : nI (S.2.2.1 4 (ix x1)) = 0 ↔ S.2.2.1 4 (ix x1) = 0 := eqk (by omega) rfl (by omega)
  have q1 : nI (S.2.2.1 4 (ix x1)) = 1 ↔ S.2.2.1 4 (ix x1) = 1 := eqk (by omega) rfl (by omega)
  rw [q0, q1]
  exact ⟨fun z => ⟨fun y => leaf _ (by unfold nrw; rw [if_neg z, if_neg y]), fun y => leaf _ (by unfold nrw; rw [if_neg z, if_pos y])⟩, fun z => leaf _ (by unfold nrw; rw [if_pos z])⟩
theorem tM_put {M : Mem} {S : Sg} {x1 x2 x3 : Int32} {P : Int32 → Mem → Prop} (h : RMX M S) (hw : WfX S) (hp : ∀ M', sameC M M' → RMX M' (sp_put S x1 x2 x3).2 → P (sp_put S x1 x2 x3).1 M') : s_X12_put M x1 x2 x3 P := by
  unfold s_X12_put
  intro M1 e1
  have h1 : RMX M1 S := by rw [e1]; exact h.thrown
  replace hp : ∀ M', sameC M1 M' → RMX M' (sp_put S x1 x2 x3).2 → P (sp_put S x1 x2 x3).1 M' := fun M' a b => hp M' (sameC.tr (by rw [e1]; exact sC10) a) b
  have bad : ∀ v, sp_put S x1 x2 x3 = (v, S) → P v M1 := fun v hb => by
    have := hp M1 sameC.rf
    rw [hb] at this
    exact this h1
  refine t_wrongRow h1.2.2.1 (fun g => (hw.2.2 _ (rg_lt g)).1) (fun g1 => gn (by decide) (bad _ (by unfold sp_put; rw [if_neg g1]))) (fun g1 q => gn (by decide) (bad _ (by unfold sp_put; rw [if_pos g1, if_pos q]))) (fun g1 q => gp (by decide) ⟨rg_in g1, ?_⟩) (fun g1 q => gn (by decide) (bad _ (by unfold sp_put; rw [if_pos g1, if_neg (by omega), if_neg (by omega)])))
  have hd := rg_lt g1
  obtain ⟨w0, w1, w2, w3, w4, w5, -⟩ := hw.2.2 _ hd
  obtain ⟨a1, a2, a3⟩ := (h1.2.2.1 _ hd).2.2 q
  rw [a2]
  refine t_in (by decide) (nI_m1 (by omega)) (fun g2 => c1 ⟨rg_in g1, ?_⟩) (fun g2 => c0 (bad _ (by unfold sp_put; rw [if_pos g1, if_neg (by omega), if_pos q, if_neg g2])))
  have es : sp_put S x1 x2 x3 = (0, shU S (ix x1) (fun c => S.2.2.1 c (ix x1)) (fun j => if j = ix x2 then nrw (S.2.2.1 4 (ix x1)) x3 else S.2.2.2 (ix x1) j)) := by unfold sp_put; rw [if_pos g1, if_neg (by omega), if_pos q, if_pos g2]
  rw [es] at hp
  have l2 := rg_lt g2
  have ead : 80 * x1 + x2 = nI (80 * ix x1 + ix x2) := (ix2 (B := 0) (C := 80) (b := 0) (k := 80) g1 g2 rfl rfl (by omega) (by omega) (by omega) (by omega)).2.1
  have leaf : ∀ v : Int64, v = (nrw (S.2.2.1 4 (ix x1)) x3).toInt64 → vp_in (80 * x1 + x2) 640 ∧ ∀ Ma : Mem, Ma = wJ M1 78 0 (80 * x1 + x2).toNatClampNeg v → P 0 Ma := by
    intro v ev
    rw [ead]
    refine ⟨vp_in_nI (by omega) (by omega), fun Ma ea => ?_⟩
    rw [nI_clamp (by omega)] at ea
    have e2 : ∀ c, ¬ (72 ≤ c ∧ c ≤ 77) → Ma.1 c = M1.1 c := fun c _ => by rw [ea, wJ_I]
    refine hp Ma (sameC.shelf e2 (fun c hc => by rw [ea, wJ_nc (by omega)]) (by rw [ea, wJ_O])) (h1.shelf (h1.2.2.1.up (fun d' hd' c _ _ => by rw [ea, wJ_I]) (fun d' hd' j hj => ?_) ?_ (fun q1 => by have q' : S.2.2.1 0 (ix x1) = 2 := q; have q1' : S.2.2.1 0 (ix x1) = 1 := q1; omega) (fun _ => ?_)) e2)
    · rw [ea, wJ_at, if_neg (fun y => by omega)]
    · rw [ea, wJ_I]; exact (h1.2.2.1 _ hd).1
    · rw [ea, wJ_I]
      refine ⟨a1, a2, fun j hj => ?_⟩
      rw [wJ_at]
      by_cases z : j = ix x2
      · rw [if_pos ⟨rfl, rfl, by omega⟩, if_pos z, ev]
      · rw [if_neg (fun y => z (by omega)), if_neg z]; exact a3 j hj
  unfold s_X12_narrowed
  rw [a1]
  have q0 : nI (S.2.2.1 4 (ix x1)) = 0 ↔ S.2.2.1 4 (ix x1) = 0 := eqk (by omega) rfl (by omega)
  have q1 : nI (S.2.2.1 4 (ix x1)) = 1 ↔ S.2.2.1 4 (ix x1) = 1 := eqk (by omega) rfl (by omega)
  rw [q0, q1]
  exact ⟨fun z => ⟨fun y => leaf _ (by unfold nrw; rw [if_neg z, if_neg y]), fun y => leaf _ (by unfold nrw; rw [if_neg z, if_pos y])⟩, fun z => leaf _ (by unfold nrw; rw [if_pos z])⟩
/-! copy -/
theorem t_hasPlaces {M : Mem} {S : Sg} {d : Nat} {x n : Int32} {P : Int32 → Mem → Prop} (h : RCS M S) (hd : d < 8) (h2 : hd0 S d = 2) (hn : S.2.2.1 5 d ≤ 80) (p1 : 0 ≤ x.toInt → 0 ≤ n.toInt → x.toInt + n.toInt ≤ S.2.2.1 5 d → P 1 M) (p0 : ¬ (0 ≤ x.toInt ∧ 0 ≤ n.toInt ∧ x.toInt + n.toInt ≤ S.2.2.1 5 d) → P 0 M) : s_X9_hasPlaces d M x n P := by
  unfold s_X9_hasPlaces
  rw [((h d hd).2.2 h2).2.1]
  have e := nI_toInt (n := S.2.2.1 5 d) (by omega)
  have el : 0 < lg_cmp (x.toInt64 + n.toInt64) (nI (S.2.2.1 5 d)).toInt64 ↔ (S.2.2.1 5 d : Int) < x.toInt + n.toInt := by
    rw [lg_cmp_gt, Int64.lt_iff_toInt_lt, Int64.toInt_add, Int32.toInt_toInt64, Int32.toInt_toInt64, Int32.toInt_toInt64, e]
    have b1 := Int32.toInt_lt x
    have b2 := Int32.toInt_lt n
    have b3 := Int32.le_toInt x
    have b4 := Int32.le_toInt n
    rw [Int.bmod_eq_of_le (by omega) (by omega)]
  rw [el]
  refine ⟨fun q => p0 (fun g => by rw [lt_i, t0_i] at q; omega), fun q => ⟨fun r => p0 (fun g => by rw [lt_i, t0_i] at r; omega), fun r => ⟨fun z => p0 (fun g => by omega), fun z => p1 (by rw [lt_i, t0_i] at q; omega) (by rw [lt_i, t0_i] at r; omega) (by omega)⟩⟩⟩
abbrev cpP (S : Sg) (x1 x2 x3 x4 x5 : Int32) : Prop := 0 ≤ x2.toInt ∧ 0 ≤ x4.toInt ∧ 0 ≤ x5.toInt ∧ x2.toInt + x5.toInt ≤ S.2.2.1 5 (ix x1) ∧ x4.toInt + x5.toInt ≤ S.2.2.1 5 (ix x3)
def sp_copy (S : Sg) (x1 x2 x3 x4 x5 : Int32) : Int32 × Sg := if rg x1 8 ∧ rg x3 8 then (if hd0 S (ix x1) = 0 ∨ hd0 S (ix x3) = 0 then (-11, S) else if hd0 S (ix x1) = 2 ∧ hd0 S (ix x3) = 2 ∧ S.2.2.1 4 (ix x1) = S.2.2.1 4 (ix x3) then (if cpP S x1 x2 x3 x4 x5 then (x5, shU S (ix x3) (fun c => S.2.2.1 c (ix x3)) (fun j => if ix x4 ≤ j ∧ j < ix x4 + ix x5 then S.2.2.2 (ix x1) (ix x2 + (j - ix x4)) else S.2.2.2 (ix x3) j)) else (-13, S)) else (-12, S)) else (-1, S)
theorem t_isEmpty {M : Mem} {S : Sg} {d : Nat} {P : Int32 → Mem → Prop} (h : RCS M S) (hd : d < 8) (hw : hd0 S d ≤ 2) (p1 : hd0 S d = 0 → P 1 M) (p0 : hd0 S d ≠ 0 → P 0 M) : s_X9_isEmpty d M P := by
  unfold s_X9_isEmpty
  rw [(h d hd).1]
  have e0 : nI (hd0 S d) = 0 ↔ hd0 S d = 0 := eqk (by omega) rfl (by omega)
  rw [e0]
  exact ⟨p0, p1⟩
theorem t_isRow {M : Mem} {S : Sg} {d : Nat} {P : Int32 → Mem → Prop} (h : RCS M S) (hd : d < 8) (hw : hd0 S d ≤ 2) (p1 : hd0 S d = 2 → P 1 M) (p0 : hd0 S d ≠ 2 → P 0 M) : s_X9_isRow d M P := by
  unfold s_X9_isRow
  rw [(h d hd).1]
  have e0 : nI (hd0 S d) = 2 ↔ hd0 S d = 2 := eqk (by omega) rfl (by omega)
  rw [e0]
  exact ⟨p0, p1⟩
theorem tC_copy {M : Mem} {S : Sg} {x1 x2 x3 x4 x5 : Int32} {P : Int32 → Mem → Prop} (h : RCX M S) (hw : WfX S) (hp : ∀ M', sameM M M' → RCX M' (sp_copy S x1 x2 x3 x4 x5).2 → P (sp_copy S x1 x2 x3 x4 x5).1 M') : s_X11_copy M x1 x2 x3 x4 x5 P := by
  unfold s_X11_copy
  have bad : ∀ v, sp_copy S x1 x2 x3 x4 x5 = (v, S) → P v M := fun v hb => by
    have := hp M sameM.rf
    rw [hb] at this
    exact this h
  have badn : ¬ rg x1 8 → P (-1) M := fun g1 => bad (-1) (by unfold sp_copy; rw [if_neg (fun q => g1 q.1)])
  refine t_shelfAt (fun g1 => d1 (rg_lt g1) ?_) (fun g1 => d0 (t_shelfAt (fun g3 => d1 (rg_lt g3) (badn g1)) (fun g3 => d0 (badn g1))))
  refine t_shelfAt (fun g3 => d1 (rg_lt g3) ?_) (fun g3 => d0 (bad (-1) (by unfold sp_copy; rw [if_neg (fun q => g3 q.2)])))
  have hd := rg_lt g1
  have he := rg_lt g3
  obtain ⟨w0, w1, w2, w3, w4, w5, -⟩ := hw.2.2 _ hd
  obtain ⟨v0, v1, v2, v3, v4, v5, -⟩ := hw.2.2 _ he
  refine t_isEmpty h.2.2 hd w0 (fun q => c1 (bad _ (by unfold sp_copy; rw [if_pos ⟨g1, g3⟩, if_pos (Or.inl q)]))) (fun q => c0 ?_)
  refine t_isEmpty h.2.2 he v0 (fun r => b1 (bad _ (by unfold sp_copy; rw [if_pos ⟨g1, g3⟩, if_pos (Or.inr r)]))) (fun r => b0 ?_)
  have bad2 : ¬ (hd0 S (ix x1) = 2 ∧ hd0 S (ix x3) = 2 ∧ S.2.2.1 4 (ix x1) = S.2.2.1 4 (ix x3)) → P (-12) M := fun hb => bad _ (by unfold sp_copy; rw [if_pos ⟨g1, g3⟩, if_neg (by omega), if_neg hb])
  refine t_isRow h.2.2 hd w0 (fun q2 => b1 ?_) (fun q2 => b0 (bad2 (fun z => q2 z.1)))
  refine t_isRow h.2.2 he v0 (fun r2 => b1 ?_) (fun r2 => b0 (bad2 (fun z => r2 z.2.1)))
  rw [((h.2.2 _ hd).2.2 q2).1, ((h.2.2 _ he).2.2 r2).1, nI_eq (by omega) (by omega)]
  refine ⟨fun es => ?_, fun es => bad2 (fun z => es z.2.2)⟩
  have bad3 : ¬ cpP S x1 x2 x3 x4 x5 → P (-13) M := fun hb => bad _ (by unfold sp_copy; rw [if_pos ⟨g1, g3⟩, if_neg (by omega), if_pos ⟨q2, r2, es⟩, if_neg hb])
  refine t_hasPlaces h.2.2 hd q2 w5 (fun a1 a2 a3 => b1 ?_) (fun a => b0 (bad3 (fun z => a ⟨z.1, z.2.2.1, z.2.2.2.1⟩)))
  refine t_hasPlaces h.2.2 he r2 v5 (fun c1 c2 c3 => ?_) (fun a => c0 (bad3 (fun z => a ⟨z.2.1, z.2.2.1, z.2.2.2.2⟩)))
  refine ⟨fun _ => ?_, fun z => absurd z (by decide)⟩
  have hc : cpP S x1 x2 x3 x4 x5 := ⟨a1, c1, a2, a3, c3⟩
  have e2 : (x2.toNatClampNeg : Int) = x2.toInt := by show ((x2.toInt.toNat : Nat) : Int) = _; omega
  have e4 : (x4.toNatClampNeg : Int) = x4.toInt := by show ((x4.toInt.toNat : Nat) : Int) = _; omega
  have e5 : (x5.toNatClampNeg : Int) = x5.toInt := by show ((x5.toInt.toNat : Nat) : Int) = _; omega
  refine ⟨⟨fun z => by rw [lt_i, t0_i] at z; omega, fun z => by rw [lt_i, t0_i] at z; omega, fun z => by rw [lt_i, t0_i] at z; omega, by omega, by omega⟩, fun Ma ea => ?_⟩
  have ess : sp_copy S x1 x2 x3 x4 x5 = (x5, shU S (ix x3) (fun c => S.2.2.1 c (ix x3)) (fun j => if ix x4 ≤ j ∧ j < ix x4 + ix x5 then S.2.2.2 (ix x1) (ix x2 + (j - ix x4)) else S.2.2.2 (ix x3) j)) := by unfold sp_copy; rw [if_pos ⟨g1, g3⟩, if_neg (by omega), if_pos ⟨q2, r2, es⟩, if_pos hc]
  rw [ess] at hp
  have f1 : ∀ c, c ≠ 39 → Ma.1 c = M.1 c := fun c hc => by
    rw [ea]; funext i; exact uR_nc hc
  have f2 : ∀ d', d' ≠ ix x3 → Ma.1 39 d' = M.1 39 d' := fun d' hd' => by rw [ea]; exact uR_ni hd'
  have f3 : Ma.1 39 (ix x3) = va_cpy (M.1 39 (ix x1)) (M.1 39 (ix x3)) (ix x2) (ix x4) (ix x5) := by rw [ea]; exact uR_eq
  refine hp Ma (sameM.shelf (fun c _ hc => f1 c hc) (by rw [ea]; rfl)) (h.shelf (h.2.2.up (fun d' hd' => ⟨by rw [f1 7 (by omega)], f2 d' hd'⟩) ?_ (fun q1 => by have q' : S.2.2.1 0 (ix x3) = 2 := r2; have q1' : S.2.2.1 0 (ix x3) = 1 := q1; omega) (fun _ => ?_)) (fun c _ hc => f1 c hc) (by rw [ea]; rfl))
  · rw [f1 7 (by omega)]; exact (h.2.2 _ he).1
  · obtain ⟨m1, m2, m3⟩ := (h.2.2 _ he).2.2 r2
    obtain ⟨n1, n2, n3⟩ := (h.2.2 _ hd).2.2 q2
    rw [f1 7 (by omega), f3]
    refine ⟨m1, m2, fun j hj => ?_⟩
    by_cases z : ix x4 ≤ j ∧ j < ix x4 + ix x5
    · rw [pk_cpy_in z.1 z.2, if_pos z]
      refine n3 _ ?_
      have e2 : (ix x2 : Int) = x2.toInt := e2
      have e4 : (ix x4 : Int) = x4.toInt := e4
      have e5 : (ix x5 : Int) = x5.toInt := e5
      omega
    · rw [pk_cpy_out (by omega), if_neg z]
      exact m3 j hj
