/-! heads, the reference's -/
theorem lst_l (s : Nat) : (lst s).toInt64 = if s = 0 then -128 else if s = 1 then -32768 else -2147483648 := by
  unfold lst
  split
  · rfl
  · split <;> rfl
theorem l_inj {x y : Int32} : x.toInt64 = y.toInt64 ↔ x = y := by
  constructor
  · intro h
    have := congrArg Int64.toInt h
    rw [Int32.toInt_toInt64, Int32.toInt_toInt64] at this
    exact Int32.toInt_inj.mp this
  · intro h; rw [h]
theorem tM_heads {M : Mem} {S : Sg} {x1 x2 : Int32} {P : Int32 → Mem → Prop} (h : RMX M S) (hw : WfX S) (hp : ∀ M', sameC M M' → RMX M' (sp_heads S x1 x2).2 → P (sp_heads S x1 x2).1 M') : s_X12_heads M x1 x2 P := by
  unfold s_X12_heads
  intro M1 e1
  have h1 : RMX M1 S := by rw [e1]; exact h.thrown
  have n16 : S.1.1 4 ≤ 16 := hw.1.2.2.2.2.1
  have hday : S.1.2.1 26 0 ≤ 400 := hw.1.2.2.2.2.2.1
  replace hp : ∀ M', sameC M1 M' → RMX M' (sp_heads S x1 x2).2 → P (sp_heads S x1 x2).1 M' := fun M' a b => hp M' (sameC.tr (by rw [e1]; exact sC10) a) b
  have bad : ∀ v, sp_heads S x1 x2 = (v, S) → P v M1 := fun v hb => by
    have := hp M1 sameC.rf
    rw [hb] at this
    exact this h1
  refine t_isAge (fun g2 => b1 ?_) (fun g2 => b0 (bad _ (by unfold sp_heads; rw [if_neg (fun q => g2 q.2)])))
  refine t_in (by decide) (n := 8) (by decide) (fun g1 => c1 ?_) (fun g1 => c0 (bad _ (by unfold sp_heads; rw [if_neg (fun q => g1 q.1)])))
  have h4 := h1.1.2.2.2.1
  have hd := rg_lt g1
  obtain ⟨w0, w1, w2, w3, w4, w5, -⟩ := hw.2.2 _ hd
  have w0' : hd0 S (ix x2) ≤ 2 := w0
  have e16 : nI (S.1.1 4) = 16 ↔ S.1.1 4 = 16 := eqk (by omega) rfl (by omega)
  have z0 : nI (hd0 S (ix x2)) = 0 ↔ hd0 S (ix x2) = 0 := eqk (by omega) rfl (by omega)
  have z2 : nI (hd0 S (ix x2)) = 2 ↔ hd0 S (ix x2) = 2 := eqk (by omega) rfl (by omega)
  rw [h4.1, e16, (h1.2.2.1 _ hd).1, z0, z2]
  refine ⟨fun q16 => ⟨rg_in g1, fun q0 => ⟨rg_in g1, fun q x3 e3 => ⟨rg_in g1, ?_⟩, fun q2 => bad _ (by unfold sp_heads; rw [if_pos ⟨g1, g2⟩, if_pos (by omega), if_neg q0, if_neg q2])⟩, fun q0 => bad _ (by unfold sp_heads; rw [if_pos ⟨g1, g2⟩, if_pos (by omega), if_pos q0])⟩, fun q16 => bad _ (by unfold sp_heads; rw [if_pos ⟨g1, g2⟩, if_neg (by omega)])⟩
  have es : sp_heads S x1 x2 = (nI (frD (S.1.2.1 26 0)), (headA S.1 (ix x1) (msg S (ix x2)), S.2)) := by unfold sp_heads; rw [if_pos ⟨g1, g2⟩, if_pos (by omega), if_neg q0, if_pos q]
  rw [es] at hp
  have la1 := rg_lt g2
  have ex1 : x1 = nI (ix x1) := rg_nI g2 (by omega)
  obtain ⟨s4, s5, s39⟩ := (h1.2.2.1 _ hd).2.2 q
  have z40 : nI (S.2.2.1 4 (ix x2)) = 0 ↔ S.2.2.1 4 (ix x2) = 0 := eqk (by omega) rfl (by omega)
  have z41 : nI (S.2.2.1 4 (ix x2)) = 1 ↔ S.2.2.1 4 (ix x2) = 1 := eqk (by omega) rfl (by omega)
  have core : ∀ y0 : Int64, y0 = (lst (S.2.2.1 4 (ix x2))).toInt64 → s_X12_heads_104 x1 x2 P M1 x3 y0 := by
    intro y0 ey0
    unfold s_X12_heads_104
    have vi : vp_in x3 16 := by rw [e3]; exact vp_in_nI (by omega) (by omega)
    have c3 : x3.toNatClampNeg = S.1.1 4 := by rw [e3]; exact nI_clamp (by omega)
    rw [c3]
    refine ⟨vi, fun Ma ea => ?_⟩
    have ka : Ma.1 44 0 3 = nI (S.1.2.1 26 0) := by rw [ea, wI_nc (by omega)]; exact h1.1.2.2.1.1
    rw [ka]
    refine ⟨vi, fun Mb eb => ?_⟩
    have kb : Mb.1 44 0 3 = nI (S.1.2.1 26 0) := by rw [eb, wI_nc (by omega)]; exact ka
    rw [kb, (thurs hday).2]
    refine ⟨vi, fun Mc ec => ?_⟩
    have f : ∀ c, ¬ (53 ≤ c ∧ c ≤ 55) → Mc.1 c = M1.1 c := fun c hc => by rw [ec, wI_cc (by omega), eb, wI_cc (by omega), ea, wI_cc (by omega)]
    have fo : Mc.2 = M1.2 := by rw [ec, eb, ea]; rfl
    have g53 : ∀ k, Mc.1 53 0 k = if k = S.1.1 4 then nI (ix x1) else M1.1 53 0 k := by
      intro k
      rw [ec, eb, ea, ← ex1]
      simp only [wI_at]
      simp
    have g54 : ∀ k, Mc.1 54 0 k = if k = S.1.1 4 then nI (S.1.2.1 26 0) else M1.1 54 0 k := by
      intro k
      rw [ec, eb, ea]
      simp only [wI_at]
      simp
    have g55 : ∀ k, Mc.1 55 0 k = if k = S.1.1 4 then nI (frD (S.1.2.1 26 0)) else M1.1 55 0 k := by
      intro k
      rw [ec, eb, ea]
      simp only [wI_at]
      simp
    refine Lz_rule (fun a => ∃ k, k ≤ 12 ∧ a.2 = nI k ∧ (∀ c, c ≠ 56 → a.1.1 c = Mc.1 c) ∧ a.1.2 = Mc.2 ∧ (∀ j, ¬ (12 * S.1.1 4 ≤ j ∧ j < 12 * S.1.1 4 + 12) → a.1.1 56 0 j = Mc.1 56 0 j) ∧ ∀ j, j < k → a.1.1 56 0 (12 * S.1.1 4 + j) = mI (msg S (ix x2) j)) (fun a => 12 - a.2.toNatClampNeg) ?_ ⟨0, by omega, rfl, fun _ _ => rfl, rfl, fun _ _ => rfl, fun j hj => absurd hj (Nat.not_lt_zero j)⟩
    rintro K ⟨Mx, x⟩ ⟨k, hk, e, i1, i2, i3, i4⟩ hK
    dsimp only at e i1 i2 i3 i4
    show s_X12_heads_158 x2 x3 y0 P K Mx x
    unfold s_X12_heads_158
    rw [e]
    have k12 : (12 : Int32) ≤ nI k ↔ 12 ≤ k := nI_leI (a := 12) (by omega) (by omega)
    have kx : Mx.1 44 0 5 = nI (S.1.1 4) := by rw [i1 44 (by omega), f 44 (by omega)]; exact h4.1
    rw [k12, kx, nI_1]
    refine ⟨fun y My ey => ⟨vi, ?_⟩, fun y => ⟨rg_in g1, ?_⟩⟩
    · have hk2 : k = 12 := by omega
      subst hk2
      have g : ∀ c, ¬ (c = 44 ∨ (53 ≤ c ∧ c ≤ 56)) → My.1 c = M1.1 c := fun c hc => by rw [ey, wI_cc (by omega), i1 c (by omega), f c (by omega)]
      have g44 : ∀ j, j ≠ 5 → My.1 44 0 j = M1.1 44 0 j := fun j hj => by rw [ey, wI_at, if_neg (fun z => hj z.2.2), i1 44 (by omega), f 44 (by omega)]
      have go : My.2 = M1.2 := by rw [ey]; exact i2.trans fo
      have gr : ∀ c, 53 ≤ c → c ≤ 55 → My.1 c = Mc.1 c := fun c a b => by rw [ey, wI_cc (by omega), i1 c (by omega)]
      have g56 : My.1 56 = Mx.1 56 := by rw [ey, wI_cc (by omega)]
      have u : ∀ c, ¬ (13 ≤ c ∧ c ≤ 16) → (headA S.1 (ix x1) (msg S (ix x2))).2.1 c = S.1.2.1 c := fun c hc => headA_ne hc
      have ev : My.1 55 0 x3.toNatClampNeg = nI (frD (S.1.2.1 26 0)) := by rw [c3, gr 55 (by omega) (by omega), g55, if_pos rfl]
      rw [ev]
      refine hp My ⟨fun c hc => g c (by unfold cK at hc; omega), fun c _ => by rw [go], by rw [go]⟩ (h1.one hw ?_ (headA_n (by omega)) (fun c a b => u c (by omega)) (fun c hc => g c (by omega)) (fun c a b j _ => by rw [g c (by omega)]) (fun c a b j _ => by rw [g c (by omega)]) ?_ (fun j hj => by rw [g56, i3 _ (by omega), f 56 (by omega)]) (fun j _ => by rw [g 57 (by omega)]) (fun c a b j _ => by rw [g c (by omega)]) (fun c a b j _ => by rw [g c (by omega)]) (by rw [go]))
      · refine ⟨(h1.1.1.fr3 hw.1.1 (fun c a b => by rw [g c (by omega)]) (fun j hj => g44 j (by omega))).of (fun c a => u c (by omega)) (headA_n (by omega)), (h1.1.2.1.fr3 hw.1.2.1 (fun c a b => by rw [g c (by omega)]) (fun j hj => g44 j (by omega))).of (fun c a b => u c (by omega)) (headA_n (by omega)), (h1.1.2.2.1.fr3 (fun j hj => g44 j (by omega))).of (u 26 (by omega)) (u 12 (by omega)), ⟨?_, fun r hr' => ?_⟩, (h1.1.2.2.2.2.1.fr3 (fun c a b => by rw [g c (by omega)]) (g44 4 (by omega))).of (fun c a b => u c (by omega)) (headA_n (by omega)), (h1.1.2.2.2.2.2.fr3 hw.1.2.2.1 (fun c a b => by rw [g c (by omega)]) (fun j hj => g44 j (by omega))).of (fun c a b => u c (by omega)) (headA_n (by omega))⟩
        · rw [ey, wI_at, if_pos ⟨rfl, rfl, rfl⟩]; rfl
        · have hr' : r < S.1.1 4 + 1 := hr'
          rw [gr 53 (by omega) (by omega), gr 54 (by omega) (by omega), gr 55 (by omega) (by omega), g56, g53, g54, g55]
          by_cases z : r = S.1.1 4
          · subst z
            obtain ⟨o1, o2, o3⟩ := headA_new (A := S.1) (age := ix x1) (b := msg S (ix x2))
            rw [o1, o2, o3, if_pos rfl, if_pos rfl, if_pos rfl]
            exact ⟨rfl, rfl, rfl, fun s hs => by rw [headA_row hs, if_pos rfl]; exact i4 s hs⟩
          · rw [headA_old z (by omega), headA_old z (by omega), headA_old z (by omega), if_neg z, if_neg z, if_neg z]
            obtain ⟨a1, a2, a3, a4⟩ := h4.2 r (by omega)
            refine ⟨a1, a2, a3, fun s hs => ?_⟩
            rw [i3 _ (by omega), f 56 (by omega), headA_row hs, if_neg z]
            exact a4 s hs
      · intro c a b j hj
        rw [gr c a b]
        rcases (show c = 53 ∨ c = 54 ∨ c = 55 by omega) with rfl | rfl | rfl
        · rw [g53, if_neg (by omega)]
        · rw [g54, if_neg (by omega)]
        · rw [g55, if_neg (by omega)]
    · have hk2 : k < 12 := by omega
      have wr : ∀ v : Int32, v = mI (msg S (ix x2) k) → s_X12_heads_247 x2 x3 y0 P K Mx (nI k) v (12 * x3 + nI k) := by
        intro v ev
        unfold s_X12_heads_247
        have a12 : 12 * x3 + nI k = nI (12 * S.1.1 4 + k) := by
          rw [e3]
          show nI 12 * nI (S.1.1 4) + nI k = _
          rw [pk_mul, nI_add]
        rw [a12]
        refine ⟨vp_in_nI (by omega) (by omega), fun My ey u eu => ?_⟩
        rw [nI_clamp (by omega), ev] at ey
        rw [eu, nI_1]
        refine hK _ ⟨k + 1, by omega, rfl, fun c hc => ?_, ?_, fun j hj => ?_, fun j hj => ?_⟩ ?_
        · rw [ey]; exact (wI_cc hc).trans (i1 c hc)
        · rw [ey]; exact i2
        · rw [ey]
          show (wI Mx 56 0 (12 * S.1.1 4 + k) _).1 56 0 j = _
          rw [wI_at, if_neg (fun z => by omega)]; exact i3 j hj
        · rw [ey]
          show (wI Mx 56 0 (12 * S.1.1 4 + k) _).1 56 0 (12 * S.1.1 4 + j) = _
          rw [wI_at]
          by_cases q3 : j = k
          · rw [if_pos ⟨rfl, rfl, by omega⟩, q3]
          · rw [if_neg (fun q4 => q3 (by omega))]; exact i4 j (by omega)
        · show 12 - (nI (k + 1)).toNatClampNeg < 12 - x.toNatClampNeg
          rw [e, nI_clamp (by omega), nI_clamp (by omega)]
          omega
      have m77 : Mx.1 77 0 (ix x2) = nI (S.2.2.1 5 (ix x2)) := by rw [i1 77 (by omega), f 77 (by omega)]; exact s5
      rw [m77, nI_leI (by omega) (by omega)]
      have a80 : 80 * x2 + nI k = nI (80 * ix x2 + k) := by
        conv => lhs; rw [rg_nI g1 (by omega)]
        show nI 80 * nI (ix x2) + nI k = _
        rw [pk_mul, nI_add]
      rw [a80]
      refine ⟨fun z => ?_, fun z => ⟨vp_in_nI (by omega) (by omega), ?_⟩⟩
      · unfold s_X12_heads_193
        have ec : lg_cmp y0 y0 = 0 := (lg_cmp_eq y0 y0).mpr rfl
        refine ⟨fun y => absurd ec y, fun _ => wr _ ?_⟩
        rw [show msg S (ix x2) k = 0 by unfold msg; rw [if_pos z]]; rfl
      · have m78 : Mx.2.1 78 0 (80 * ix x2 + k) = (S.2.2.2 (ix x2) k).toInt64 := by rw [i2, fo]; exact s39 k (by omega)
        rw [nI_clamp (by omega), m78]
        unfold s_X12_heads_193
        rw [lg_cmp_eq, lg_cmp_ge, lg_cmp_le, ey0, l_inj]
        have l0 : (0 : Int64) ≤ (S.2.2.2 (ix x2) k).toInt64 ↔ 0 ≤ (S.2.2.2 (ix x2) k).toInt := by
          rw [Int64.le_iff_toInt_le, Int32.toInt_toInt64, show (0 : Int64).toInt = 0 by decide]
        have l2 : (S.2.2.2 (ix x2) k).toInt64 ≤ (200 : Int64) ↔ (S.2.2.2 (ix x2) k).toInt ≤ 200 := by
          rw [Int64.le_iff_toInt_le, Int32.toInt_toInt64, show (200 : Int64).toInt = 200 by decide]
        rw [l0, l2]
        have em : ∀ n, S.2.2.2 (ix x2) k ≠ lst (S.2.2.1 4 (ix x2)) → clampN (S.2.2.2 (ix x2) k) = n → mI (msg S (ix x2) k) = nI n := fun n a b => by
          rw [show msg S (ix x2) k = n + 1 by unfold msg; rw [if_neg z, if_neg a, b], mI_s]
        refine ⟨fun y1 => ⟨fun y2 => ⟨fun y3 => wr _ ?_, fun y3 => wr _ ?_⟩, fun y2 => wr _ ?_⟩, fun y1 => wr _ ?_⟩
        · have hr201 : rg (S.2.2.2 (ix x2) k) 201 := ⟨y2, by omega⟩
          rw [em (ix (S.2.2.2 (ix x2) k)) y1 (by unfold clampN; rw [if_neg (by omega), if_neg (by omega)])]
          rw [← rg_nI hr201 (by omega)]
          rw [eq_i]
          rw [← Int32.toInt_toInt64 (S.2.2.2 (ix x2) k)]
          simp
        · rw [em 200 y1 (by unfold clampN; rw [if_neg (by omega), if_pos (by omega)])]; rfl
        · rw [em 0 y1 (by unfold clampN; rw [if_pos (by omega)])]; rfl
        · rw [show msg S (ix x2) k = 0 by unfold msg; rw [if_neg z, if_pos y1]]; rfl
  rw [s4, z40, z41]
  refine ⟨fun a => ⟨rg_in g1, fun b => core _ ?_, fun b => core _ ?_⟩, fun a => core _ ?_⟩
  · rw [lst_l, if_neg a, if_neg b]
  · rw [lst_l, if_neg a, if_pos b]
  · rw [lst_l, if_pos a]
