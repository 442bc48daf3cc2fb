/-! beside, the reference's -/
theorem t_markOf {M : Mem} {S : Sg} {x : Int32} {a : Nat} {P : Int32 → Mem → Prop} (h : RMS M S) (g1 : rg x 8) (h2 : hd0 S (ix x) = 2) (hn : S.2.2.1 5 (ix x) ≤ 80) (ha : a < 80) (p1 : a < S.2.2.1 5 (ix x) → P (S.2.2.2 (ix x) a) M) (p0 : ¬ a < S.2.2.1 5 (ix x) → P (-1) M) : s_X12_markOf M x (nI a) P := by
  unfold s_X12_markOf
  obtain ⟨s4, s5, s39⟩ := (h _ (rg_lt g1)).2.2 h2
  have hd := rg_lt g1
  rw [s5, nI_leI (by omega) (by omega)]
  refine ⟨rg_in g1, fun z => p0 (by omega), fun z => ?_⟩
  have ead : 80 * x + nI a = nI (80 * ix x + a) := by
    conv => lhs; rw [rg_nI g1 (by omega)]
    show nI 80 * nI (ix x) + nI a = _
    rw [pk_mul, nI_add]
  rw [ead]
  refine ⟨vp_in_nI (by omega) (by omega), ?_⟩
  rw [nI_clamp (by omega), s39 a ha, l_i]
  exact p1 (by omega)
theorem tM_beside {M : Mem} {S : Sg} {x1 x2 x3 : Int32} {P : Int32 → Mem → Prop} (h : RMX M S) (hw : WfX S) (hp : ∀ M', sameC M M' → RMX M' S → P (sp_beside S x1 x2 x3) M') : s_X12_beside M x1 x2 x3 P := by
  unfold s_X12_beside
  intro M1 e1
  have h1 : RMX M1 S := by rw [e1]; exact h.thrown
  replace hp := hp M1 (by rw [e1]; exact sC10) h1
  unfold sp_beside at hp
  have n12 : S.1.1 0 ≤ 12 := hw.1.1
  have hday : S.1.2.1 26 0 ≤ 400 := hw.1.2.2.2.2.2.1
  have bad : ¬ (rg x1 8 ∧ rg x2 601 ∧ rg x3 2) → P (-1000000001) M1 := fun hb => by rw [if_neg hb] at hp; exact hp
  refine t_in (by decide) (n := 8) (by decide) (fun g1 => b1 ?_) (fun g1 => b0 (bad (fun q => g1 q.1)))
  refine t_in (by decide) (n := 601) (by decide) (fun g2 => b1 ?_) (fun g2 => b0 (bad (fun q => g2 q.2.1)))
  refine t_in (by decide) (n := 2) (by decide) (fun g3 => c1 ?_) (fun g3 => c0 (bad (fun q => g3 q.2.2)))
  rw [if_pos ⟨g1, g2, g3⟩] at hp
  have hd := rg_lt g1
  obtain ⟨w0, w1, w2, w3, w4, w5, -⟩ := hw.2.2 _ hd
  have k11 : (-1000000000 : Int32) + -11 = -1000000011 := by decide
  have k12 : (-1000000000 : Int32) + -12 = -1000000012 := by decide
  refine t_lacks h1.2.2.1 (fun _ => ⟨w0, w4⟩) (fun g => absurd g1 g) (fun _ q => gn (by decide) (by rw [if_pos q] at hp; rw [k11]; exact hp)) (fun _ q q4 => gp (by decide) ?_) (fun _ q q2 => gn (by decide) (by rw [if_neg q, if_neg q2] at hp; rw [k12]; exact hp))
  rw [if_neg (by omega), if_pos ⟨q, q4⟩] at hp
  refine Lz_rule (fun y => ∃ a, a ≤ S.1.1 0 ∧ y = (M1, (bsO S.1 (S.2.2.2 (ix x1)) (S.2.2.1 5 (ix x1)) x2 a).2, (bsO S.1 (S.2.2.2 (ix x1)) (S.2.2.1 5 (ix x1)) x2 a).1, nI a)) (fun y => 12 - y.2.2.2.toNatClampNeg) ?_ ⟨0, Nat.zero_le _, rfl⟩
  rintro K y ⟨a, ha, rfl⟩ hK
  show s_X12_beside_68 x1 x2 x3 P K M1 (bsO S.1 (S.2.2.2 (ix x1)) (S.2.2.1 5 (ix x1)) x2 a).2 (bsO S.1 (S.2.2.2 (ix x1)) (S.2.2.1 5 (ix x1)) x2 a).1 (nI a)
  unfold s_X12_beside_68
  rw [h1.1.1.1, nI_leI (by omega) (by omega)]
  refine ⟨fun z => ?_, fun z => ?_⟩
  · rw [show S.1.1 0 = a by omega] at hp
    exact ⟨fun z0 => by rw [if_neg z0] at hp; exact hp, fun z0 => by rw [if_pos z0] at hp; exact hp⟩
  have ha2 : a < S.1.1 0 := by omega
  refine Lz_rule (fun y => ∃ b, b ≤ S.1.1 0 ∧ y = (M1, (bsJ S.1 (S.2.2.2 (ix x1)) (S.2.2.1 5 (ix x1)) x2 a (bsO S.1 (S.2.2.2 (ix x1)) (S.2.2.1 5 (ix x1)) x2 a) b).2, (bsJ S.1 (S.2.2.2 (ix x1)) (S.2.2.1 5 (ix x1)) x2 a (bsO S.1 (S.2.2.2 (ix x1)) (S.2.2.1 5 (ix x1)) x2 a) b).1, nI b)) (fun y => 12 - y.2.2.2.toNatClampNeg) ?_ ⟨0, Nat.zero_le _, rfl⟩
  rintro K2 y ⟨b, hb, rfl⟩ hK2
  show s_X12_beside_82 x1 x2 x3 (nI a) P K K2 M1 (bsJ S.1 (S.2.2.2 (ix x1)) (S.2.2.1 5 (ix x1)) x2 a (bsO S.1 (S.2.2.2 (ix x1)) (S.2.2.1 5 (ix x1)) x2 a) b).2 (bsJ S.1 (S.2.2.2 (ix x1)) (S.2.2.1 5 (ix x1)) x2 a (bsO S.1 (S.2.2.2 (ix x1)) (S.2.2.1 5 (ix x1)) x2 a) b).1 (nI b)
  unfold s_X12_beside_82
  rw [h1.1.1.1, nI_leI (by omega) (by omega)]
  refine ⟨fun z2 u eu => ?_, fun z2 => ?_⟩
  · rw [eu, nI_1, show b = S.1.1 0 by omega]
    refine hK _ ⟨a + 1, by omega, rfl⟩ ?_
    show 12 - (nI (a + 1)).toNatClampNeg < 12 - (nI a).toNatClampNeg
    rw [nI_clamp (by omega), nI_clamp (by omega)]
    omega
  have hb2 : b < S.1.1 0 := by omega
  have nx : ∀ v : Int32 × Int32, v = bsJ S.1 (S.2.2.2 (ix x1)) (S.2.2.1 5 (ix x1)) x2 a (bsO S.1 (S.2.2.2 (ix x1)) (S.2.2.1 5 (ix x1)) x2 a) (b + 1) → ∀ u : Int32, u = nI b + 1 → K2 (M1, v.2, v.1, u) := by
    intro v ev u eu
    rw [ev, eu, nI_1]
    refine hK2 _ ⟨b + 1, by omega, rfl⟩ ?_
    show 12 - (nI (b + 1)).toNatClampNeg < 12 - (nI b).toNatClampNeg
    rw [nI_clamp (by omega), nI_clamp (by omega)]
    omega
  have no0 : ¬ bsT S.1 (S.2.2.2 (ix x1)) (S.2.2.1 5 (ix x1)) x2 a b → ∀ u : Int32, u = nI b + 1 → K2 (M1, (bsJ S.1 (S.2.2.2 (ix x1)) (S.2.2.1 5 (ix x1)) x2 a (bsO S.1 (S.2.2.2 (ix x1)) (S.2.2.1 5 (ix x1)) x2 a) b).2, (bsJ S.1 (S.2.2.2 (ix x1)) (S.2.2.1 5 (ix x1)) x2 a (bsO S.1 (S.2.2.2 (ix x1)) (S.2.2.1 5 (ix x1)) x2 a) b).1, u) := fun hn => nx _ (by rw [bsJ_s, if_neg hn])
  have no : ¬ bsT S.1 (S.2.2.2 (ix x1)) (S.2.2.1 5 (ix x1)) x2 a b → s_X12_beside_136 x1 x2 x3 (nI a) P K K2 M1 (bsJ S.1 (S.2.2.2 (ix x1)) (S.2.2.1 5 (ix x1)) x2 a (bsO S.1 (S.2.2.2 (ix x1)) (S.2.2.1 5 (ix x1)) x2 a) b).2 (bsJ S.1 (S.2.2.2 (ix x1)) (S.2.2.1 5 (ix x1)) x2 a (bsO S.1 (S.2.2.2 (ix x1)) (S.2.2.1 5 (ix x1)) x2 a) b).1 (nI b) 0 := fun hn => by
    unfold s_X12_beside_136
    exact ⟨fun _ => no0 hn, fun y => absurd rfl y⟩
  have ca : (nI a).toNatClampNeg = a := nI_clamp (by omega)
  have cb : (nI b).toNatClampNeg = b := nI_clamp (by omega)
  have mm : ¬ (-1 : Int32) = 1 := by decide
  have m0 : ¬ (-1 : Int32) = 0 := by decide
  have rest : (a < S.2.2.1 5 (ix x1) ∧ S.2.2.2 (ix x1) a = 1) → (b < S.2.2.1 5 (ix x1) ∧ S.2.2.2 (ix x1) b = 0) → S.1.2.1 0 a = S.1.2.1 0 b → s_X12_beside_136 x1 x2 x3 (nI a) P K K2 M1 (bsJ S.1 (S.2.2.2 (ix x1)) (S.2.2.1 5 (ix x1)) x2 a (bsO S.1 (S.2.2.2 (ix x1)) (S.2.2.1 5 (ix x1)) x2 a) b).2 (bsJ S.1 (S.2.2.2 (ix x1)) (S.2.2.1 5 (ix x1)) x2 a (bsO S.1 (S.2.2.2 (ix x1)) (S.2.2.1 5 (ix x1)) x2 a) b).1 (nI b) 1 := by
    intro t1 t2 t3
    unfold s_X12_beside_136
    refine ⟨fun y => absurd y (by decide), fun _ => ?_⟩
    rw [h1.1.2.2.1.1]
    refine tM_headsOf h1.1.2.2.2.1 hw.1.heads (by omega) (by omega) ?_
    rw [h1.1.2.2.1.1]
    refine tM_headsOf h1.1.2.2.2.1 hw.1.heads (by omega) (by omega) ?_
    have l1 := hs3_le (d := S.1.2.1 26 0) hw.1.heads (show a < 12 by omega)
    have l2 := hs3_le (d := S.1.2.1 26 0) hw.1.heads (show b < 12 by omega)
    refine tM_apart (by omega) (by omega) ⟨fun t4 => no0 (fun y => y.2.2.2 t4), fun t4 => ?_⟩
    have a11 : ∀ q : Nat, 180 + 11 * nI q + 5 = nI (180 + (11 * q + 5)) := fun q => by
      show nI 180 + nI 11 * nI q + nI 5 = _
      rw [pk_mul, nI_add, nI_add, Nat.add_assoc]
    rw [a11, a11]
    refine ⟨vp_in_nI (by omega) (by omega), vp_in_nI (by omega) (by omega), ?_⟩
    rw [nI_clamp (by omega), nI_clamp (by omega), (h1.1.1.2 a ha2).2.2.2.2.2.2 5 (by omega), (h1.1.1.2 b hb2).2.2.2.2.2.2 5 (by omega)]
    intro u5 e5 u6 e6
    rw [e5, e6]
    exact nx (_, _) (by rw [bsJ_s, if_pos ⟨t1, t2, t3, t4⟩])
  refine t_markOf h1.2.2.1 g1 q w5 (by omega) (fun la => ?_) (fun la => ⟨fun _ => no (fun y => la y.1.1), fun y => absurd y mm⟩)
  refine ⟨fun z3 => no (fun y => z3 y.1.2), fun z3 => ?_⟩
  refine t_markOf h1.2.2.1 g1 q w5 (by omega) (fun lb => ?_) (fun lb => ⟨fun _ => no (fun y => lb y.2.1.1), fun y => absurd y m0⟩)
  refine ⟨fun z4 => no (fun y => z4 y.2.1.2), fun z4 => ⟨vp_in_nI (by omega) (by omega), vp_in_nI (by omega) (by omega), ?_⟩⟩
  have sa := hw.1.shire ha2
  have sb' := hw.1.shire hb2
  rw [ca, cb, (h1.1.1.2 a ha2).1, (h1.1.1.2 b hb2).1, nI_eq (by omega) (by omega)]
  exact ⟨fun z5 => no (fun y => z5 y.2.2.1), fun z5 => rest ⟨la, z3⟩ ⟨lb, z4⟩ z5⟩
