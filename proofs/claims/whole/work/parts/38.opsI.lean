/-! heads, the class's and the reference's -/
theorem tC_heads {M : Mem} {S : Sg} {x1 x2 : Int32} {P : Int32 → Mem → Prop} (h : RCX M S) (hw : WfX S) (hp : ∀ M', sameM M M' → RCX M' (sp_heads S x1 x2).2 → P (sp_heads S x1 x2).1 M') : s_X11_heads M x1 x2 P := by
  unfold s_X11_heads
  have n16 : S.1.1 4 ≤ 16 := hw.1.2.2.2.2.1
  have hday : S.1.2.1 26 0 ≤ 400 := hw.1.2.2.2.2.2.1
  have bad : ∀ v, sp_heads S x1 x2 = (v, S) → P v M := fun v hb => by
    have := hp M sameM.rf
    rw [hb] at this
    exact this h
  refine t_shelfAt (fun g1 => d1 (rg_lt g1) ?_) (fun g1 => d0 (bad _ (by unfold sp_heads; rw [if_neg (fun q => g1 q.1)])))
  refine t_within (by decide) (n := 3) (by decide) (fun g2 => c1 ?_) (fun g2 => c0 (bad _ (by unfold sp_heads; rw [if_neg (fun q => g2 q.2)])))
  have h4 := h.1.2.2.2.1
  have e16 : nI (S.1.1 4) < 16 ↔ S.1.1 4 < 16 := nI_ltI (b := 16) (by omega) (by omega)
  rw [h4.1, e16]
  refine ⟨fun q16 => ?_, fun q => bad _ (by unfold sp_heads; rw [if_pos ⟨g1, g2⟩, if_neg q])⟩
  have hd := rg_lt g1
  obtain ⟨w0, w1, w2, w3, w4, w5, -⟩ := hw.2.2 _ hd
  refine t_rowRefusal h.2.2 hd w0 (fun q => bn (by decide) (bad _ (by unfold sp_heads; rw [if_pos ⟨g1, g2⟩, if_pos q16, if_pos q]))) (fun q => b0 ?_) (fun q => bn (by decide) (bad _ (by unfold sp_heads; rw [if_pos ⟨g1, g2⟩, if_pos q16, if_neg (by omega), if_neg (by omega)])))
  have es : sp_heads S x1 x2 = (nI (frD (S.1.2.1 26 0)), (headA S.1 (ix x1) (msg S (ix x2)), S.2)) := by unfold sp_heads; rw [if_pos ⟨g1, g2⟩, if_pos q16, if_neg (by omega), if_pos q]
  rw [es] at hp
  have la1 := rg_lt g2
  have ex1 : x1 = nI (ix x1) := rg_nI g2 (by omega)
  rw [h.1.2.2.1.1]
  unfold s_X5_tell
  rw [ex1]
  refine tC_lastOf h4 hw.1.heads (by omega) (fun x5 e5 => ?_)
  have ef : x5 + 4 = nI (frD (S.1.2.1 26 0)) := by rw [e5]; exact (thurs hday).1
  rw [h4.1, ef]
  have vi : vp_in (nI (S.1.1 4)) 16 := vp_in_nI q16 (by omega)
  have ci : (nI (S.1.1 4)).toNatClampNeg = S.1.1 4 := nI_clamp (by omega)
  rw [ci]
  refine ⟨vi, fun Ma ea => ?_⟩
  have ka : Ma.1 4 0 0 = nI (S.1.1 4) := by rw [ea, wI_nc (by omega)]; exact h4.1
  rw [ka, ci]
  refine ⟨vi, fun Mb eb => ?_⟩
  have kb : Mb.1 4 0 0 = nI (S.1.1 4) := by rw [eb, wI_nc (by omega)]; exact ka
  rw [kb, ci]
  refine ⟨vi, fun Mc ec => ?_⟩
  have kc : Mc.1 4 0 0 = nI (S.1.1 4) := by rw [ec, wI_nc (by omega)]; exact kb
  have f : ∀ c, ¬ (30 ≤ c ∧ c ≤ 32) → Mc.1 c = M.1 c := fun c hc => by rw [ec, wI_cc (by omega), eb, wI_cc (by omega), ea, wI_cc (by omega)]
  have f1 : ∀ c, Mc.1 c 1 = M.1 c 1 := fun c => by rw [ec, wI_ni (by omega), eb, wI_ni (by omega), ea, wI_ni (by omega)]
  have fo : Mc.2 = M.2 := by rw [ec, eb, ea]; rfl
  have g30 : ∀ k, Mc.1 30 0 k = if k = S.1.1 4 then nI (ix x1) else M.1 30 0 k := by
    intro k
    rw [ec, eb, ea]
    simp only [wI_at]
    simp
  have g31 : ∀ k, Mc.1 31 0 k = if k = S.1.1 4 then nI (S.1.2.1 26 0) else M.1 31 0 k := by
    intro k
    rw [ec, eb, ea]
    simp only [wI_at]
    simp
  have g32 : ∀ k, Mc.1 32 0 k = if k = S.1.1 4 then nI (frD (S.1.2.1 26 0)) else M.1 32 0 k := by
    intro k
    rw [ec, eb, ea]
    simp only [wI_at]
    simp
  have hla : la S.1 (ix x1) (S.1.1 4) ≤ S.1.1 4 := la_le
  refine Lz_rule (fun a => ∃ k, k ≤ 12 ∧ a.2 = nI k ∧ (∀ c, c ≠ 33 → a.1.1 c = Mc.1 c) ∧ a.1.2 = Mc.2 ∧ a.1.1 33 1 = Mc.1 33 1 ∧ (∀ j, ¬ (12 * S.1.1 4 ≤ j ∧ j < 12 * S.1.1 4 + 12) → a.1.1 33 0 j = Mc.1 33 0 j) ∧ ∀ j, j < k → a.1.1 33 0 (12 * S.1.1 4 + j) = nI (hr (headA S.1 (ix x1) (msg S (ix x2))) (ix x1) j (S.1.1 4 + 1))) (fun a => 12 - a.2.toNatClampNeg) ?_ ⟨0, by omega, rfl, fun _ _ => rfl, rfl, rfl, fun _ _ => rfl, fun j hj => absurd hj (Nat.not_lt_zero j)⟩
  rintro K ⟨Mx, x⟩ ⟨k, hk, e, i1, i2, i5, i3, i4⟩ hK
  dsimp only at e i1 i2 i3 i4 i5
  show s_X5_tell_59 0 (ix x2) (mI (la S.1 (ix x1) (S.1.1 4))) x5 (fun rr71 Mm71 => P rr71 Mm71) K Mx x
  unfold s_X5_tell_59
  rw [e]
  have k12 : (12 : Int32) ≤ nI k ↔ 12 ≤ k := nI_leI (a := 12) (by omega) (by omega)
  have kx : Mx.1 4 0 0 = nI (S.1.1 4) := by rw [i1 4 (by omega)]; exact kc
  rw [k12, kx, nI_1, ef]
  refine ⟨fun y My ey => ?_, fun y => ?_⟩
  · have hk2 : k = 12 := by omega
    subst hk2
    show P (nI (frD (S.1.2.1 26 0))) My
    have g : ∀ c, ¬ (c = 4 ∨ (30 ≤ c ∧ c ≤ 33)) → My.1 c = M.1 c := fun c hc => by rw [ey, wI_cc (by omega), i1 c (by omega), f c (by omega)]
    have g1' : ∀ c, My.1 c 1 = M.1 c 1 := fun c => by
      rw [ey, wI_ni (by omega)]
      by_cases z : c = 33
      · rw [z, i5]; exact f1 33
      · rw [i1 c z]; exact f1 c
    have go : My.2 = M.2 := by rw [ey]; exact i2.trans fo
    have gr : ∀ c, 30 ≤ c → c ≤ 32 → My.1 c = Mc.1 c := fun c a b => by rw [ey, wI_cc (by omega), i1 c (by omega)]
    have g33 : My.1 33 = Mx.1 33 := by rw [ey, wI_cc (by omega)]
    have u : ∀ c, ¬ (13 ≤ c ∧ c ≤ 16) → (headA S.1 (ix x1) (msg S (ix x2))).2.1 c = S.1.2.1 c := fun c hc => headA_ne hc
    refine hp My ⟨fun c hc => g c (fun q => hc (by unfold cK; omega)), by rw [go]⟩ (h.now ?_ (fun c _ => g1' c) (by rw [g1']) (by rw [g 0 (by omega)]) (fun d => by rw [g 7 (by omega)]) (fun d => by rw [g 39 (by omega)]) (fun c hc => g c (by omega)) (by rw [go]))
    refine ⟨(h.1.1.fr (fun c hc => by rw [g c (by omega)])).of (fun c a => u c (by omega)) (headA_n (by omega)), (h.1.2.1.fr (fun c hc => by rw [g c (by omega)])).of (fun c a b => u c (by omega)) (headA_n (by omega)), (h.1.2.2.1.fr (by rw [g 1 (by omega)]) (by rw [g 12 (by omega)])).of (u 26 (by omega)) (u 12 (by omega)), ⟨?_, fun r hr' => ?_⟩, (h.1.2.2.2.2.1.fr (fun c hc => by rw [g c (by omega)])).of (fun c a b => u c (by omega)) (headA_n (by omega)), (h.1.2.2.2.2.2.fr (fun c hc => by rw [g c (by omega)]) (fun c hc => g c (by omega)) (by rw [go])).of (fun c a b => u c (by omega)) (headA_n (by omega)) rfl⟩
    · rw [ey, wI_at, if_pos ⟨rfl, rfl, rfl⟩]; rfl
    · have hr' : r < S.1.1 4 + 1 := hr'
      rw [gr 30 (by omega) (by omega), gr 31 (by omega) (by omega), gr 32 (by omega) (by omega), g33, g30, g31, g32]
      by_cases z : r = S.1.1 4
      · subst z
        obtain ⟨o1, o2, o3⟩ := headA_new (A := S.1) (age := ix x1) (b := msg S (ix x2))
        rw [o1, o2, o3, if_pos rfl, if_pos rfl, if_pos rfl]
        exact ⟨rfl, rfl, rfl, fun s hs => i4 s hs⟩
      · rw [headA_old z (by omega), headA_old z (by omega), headA_old z (by omega), if_neg z, if_neg z, if_neg z]
        obtain ⟨a1, a2, a3, a4⟩ := h4.2 r (by omega)
        refine ⟨a1, a2, a3, fun s hs => ?_⟩
        rw [i3 _ (by omega), f 33 (by omega), hr_headA hs _ (by omega)]
        exact a4 s hs
  · have hk2 : k < 12 := by omega
    have a12 : ∀ q : Nat, nI q * 12 + nI k = nI (12 * q + k) := fun q => by
      show nI q * nI 12 + nI k = _
      rw [pk_mul, nI_add, Nat.mul_comm]
    have wr : ∀ v : Int32, v = nI (hr (headA S.1 (ix x1) (msg S (ix x2))) (ix x1) k (S.1.1 4 + 1)) → s_X5_tell_161 0 (ix x2) (mI (la S.1 (ix x1) (S.1.1 4))) x5 (fun rr71 Mm71 => P rr71 Mm71) K Mx (nI k) v (nI (S.1.1 4) * 12 + nI k) := by
      intro v ev
      unfold s_X5_tell_161
      rw [a12]
      refine ⟨vp_in_nI (by omega) (by omega), fun My ey u eu => ?_⟩
      rw [nI_clamp (by omega), ev] at ey
      rw [eu, nI_1]
      refine hK _ ⟨k + 1, by omega, rfl, fun c hc => ?_, ?_, ?_, fun j hj => ?_, fun j hj => ?_⟩ ?_
      · rw [ey]; exact (wI_cc hc).trans (i1 c hc)
      · rw [ey]; exact i2
      · rw [ey]; exact (wI_ni (by omega)).trans i5
      · rw [ey]
        show (wI Mx 33 0 (12 * S.1.1 4 + k) _).1 33 0 j = _
        rw [wI_at, if_neg (fun z => by omega)]; exact i3 j hj
      · rw [ey]
        show (wI Mx 33 0 (12 * S.1.1 4 + k) _).1 33 0 (12 * S.1.1 4 + j) = _
        rw [wI_at]
        by_cases q3 : j = k
        · rw [if_pos ⟨rfl, rfl, by omega⟩, q3]
        · rw [if_neg (fun q4 => q3 (by omega))]; exact i4 j (by omega)
      · show 12 - (nI (k + 1)).toNatClampNeg < 12 - x.toNatClampNeg
        rw [e, nI_clamp (by omega), nI_clamp (by omega)]
        omega
    have hx7 : ∀ c, c ≠ 33 → ¬ (30 ≤ c ∧ c ≤ 32) → Mx.1 c = M.1 c := fun c a b => by rw [i1 c a, f c b]
    have r7 : RCS Mx S := h.2.2.fr (fun d => by rw [hx7 7 (by omega) (by omega)]) (fun d => by rw [hx7 39 (by omega) (by omega)])
    obtain ⟨s4, s5, s39⟩ := (r7 _ hd).2.2 q
    have mid : s_X5_tell_88 0 (ix x2) (mI (la S.1 (ix x1) (S.1.1 4))) x5 (fun rr71 Mm71 => P rr71 Mm71) K Mx (nI k) (nI (hr S.1 (ix x1) k (S.1.1 4))) := by
      unfold s_X5_tell_88
      rw [s5, nI_leI (by omega) (by omega)]
      refine ⟨fun z => ?_, fun z => ⟨vp_in_nI (by omega) (by omega), t_leastOfSort r7 hd q w4 ?_⟩⟩
      · unfold s_X5_tell_118
        rw [kx]
        refine ⟨fun y => absurd y (by decide), fun _ => wr _ ?_⟩
        rw [hr_headA_new hk2, if_pos (by unfold msg; rw [if_pos z])]
      · rw [nI_clamp (by omega), s39 k (by omega)]
        unfold s_X5_tell_118
        rw [kx, nI_clamp (by omega), s39 k (by omega), clamp_i]
        refine ⟨fun z2 => ⟨fun _ => ⟨vp_in_nI (by omega) (by omega), wr _ ?_⟩, fun y => absurd rfl y⟩, fun z2 => ⟨fun y => absurd y (by decide), fun _ => wr _ ?_⟩⟩
        · have em : msg S (ix x2) k = clampN (S.2.2.2 (ix x2) k) + 1 := by unfold msg; rw [if_neg z, if_neg z2]
          rw [hr_headA_new hk2, em, if_neg (Nat.succ_ne_zero _)]
          rfl
        · rw [hr_headA_new hk2, if_pos (by unfold msg; rw [if_neg z, if_pos z2])]
    have lz : 0 ≤ mI (la S.1 (ix x1) (S.1.1 4)) ↔ la S.1 (ix x1) (S.1.1 4) ≠ 0 := by rw [le_i, t0_i, mI_t (by omega)]; omega
    rw [lz]
    refine ⟨fun z => ?_, fun z => ?_⟩
    · have e9 : mI (la S.1 (ix x1) (S.1.1 4)) = nI (la S.1 (ix x1) (S.1.1 4) - 1) := by
        conv => lhs; rw [show la S.1 (ix x1) (S.1.1 4) = (la S.1 (ix x1) (S.1.1 4) - 1) + 1 by omega]
        exact mI_s _
      have ead : mI (la S.1 (ix x1) (S.1.1 4)) * 12 + nI k = nI (12 * (la S.1 (ix x1) (S.1.1 4) - 1) + k) := by rw [e9]; exact a12 _
      rw [ead]
      refine ⟨vp_in_nI (by omega) (by omega), ?_⟩
      rw [nI_clamp (by omega), i3 _ (by omega), f 33 (by omega), (h4.2 (la S.1 (ix x1) (S.1.1 4) - 1) (by omega)).2.2.2 k hk2, la_age z]
      have := la_hr (A := S.1) (age := ix x1) (s := k) (k := S.1.1 4)
      rw [show la S.1 (ix x1) (S.1.1 4) - 1 + 1 = la S.1 (ix x1) (S.1.1 4) by omega, ← this]
      exact mid
    · have := la_hr (A := S.1) (age := ix x1) (s := k) (k := S.1.1 4)
      rw [show la S.1 (ix x1) (S.1.1 4) = 0 by omega] at this
      have m2 := mid
      rw [this] at m2
      exact m2
