/-! DAYS GO BY, the reference's -/
theorem RM.cl {M M' : Mem} {A : Abs} {r : Nat → Nat} (h : RM 44 M A) (n0 : A.1 0 ≤ 12) (n1 : A.1 1 ≤ 5) (n2 : A.1 2 ≤ 16) (e : ∀ c, 47 ≤ c → c ≤ 63 → M'.1 c 0 = M.1 c 0) (e44 : ∀ j, ¬ (70 ≤ j ∧ j < 75) → M'.1 44 0 j = M.1 44 0 j) (eb : ∀ d, d < A.1 1 → M'.1 44 0 (70 + d) = nI (A.2.1 9 d + r d)) : RM 44 M' (clA A r) := by
  have u : ∀ c, c ≠ 9 → (clA A r).2.1 c = A.2.1 c := fun c hc => clA_ne hc
  obtain ⟨hs, hd, hm, hh, hl, ha⟩ := h
  refine ⟨?_, ⟨by rw [e44 1 (by omega)]; exact hd.1, fun d hd' => ?_⟩, ?_, ?_, ?_, ?_⟩
  · refine RMs.of (A := A) ⟨by rw [e44 0 (by omega)]; exact hs.1, fun s hs' => ?_⟩ (fun c a => u c (by omega)) rfl
    obtain ⟨a1, a2, a3, a4, a5, a6, a7⟩ := hs.2 s hs'
    rw [e 47 (by omega) (by omega), e 48 (by omega) (by omega), e 49 (by omega) (by omega), e44 _ (by omega), e44 _ (by omega), e44 _ (by omega)]
    exact ⟨a1, a2, a3, a4, a5, a6, fun k hk => by rw [e44 _ (by omega)]; exact a7 k hk⟩
  · have hd' : d < A.1 1 := hd'
    obtain ⟨a1, a2, a3, a4, a5⟩ := hd.2 d hd'
    rw [e 50 (by omega) (by omega), e 51 (by omega) (by omega), e 52 (by omega) (by omega), u 7 (by omega), u 8 (by omega), u 10 (by omega), u 11 (by omega), clA_9 hd']
    exact ⟨a1, a2, eb d hd', a4, fun k hk => by rw [e44 _ (by omega)]; exact a5 k hk⟩
  · refine RMm.of (A := A) ⟨by rw [e44 3 (by omega)]; exact hm.1, fun m k hm' hk => by rw [e44 _ (by omega)]; exact hm.2 m k hm' hk⟩ (u 26 (by omega)) (u 12 (by omega))
  · refine RMh.of (A := A) ?_ (fun c a b => u c (by omega)) rfl
    unfold RMh at hh ⊢
    rw [e44 5 (by omega), e 53 (by omega) (by omega), e 54 (by omega) (by omega), e 55 (by omega) (by omega), e 56 (by omega) (by omega)]
    exact hh
  · refine RMl.of (A := A) ?_ (fun c a b => u c (by omega)) rfl
    unfold RMl at hl ⊢
    rw [e44 4 (by omega), e 61 (by omega) (by omega), e 62 (by omega) (by omega), e 63 (by omega) (by omega)]
    exact hl
  · refine RMa.of (A := A) ⟨by rw [e44 2 (by omega)]; exact ha.1, fun a haa => ?_⟩ (fun c a b => u c (by omega)) rfl
    rw [e 57 (by omega) (by omega), e 58 (by omega) (by omega), e 59 (by omega) (by omega), e 60 (by omega) (by omega), e44 _ (by omega)]
    exact ha.2 a haa
theorem RM.nx {M : Mem} {A : Abs} (h : RM 44 M A) (n0 : A.1 0 ≤ 12) (n1 : A.1 1 ≤ 5) (n2 : A.1 2 ≤ 16) : RM 44 (wI M 44 0 3 (M.1 44 0 3 + 1)) (nxA A) := by
  have u : ∀ c, c ≠ 26 → (nxA A).2.1 c = A.2.1 c := fun c hc => nxA_ne hc
  refine ⟨(h.1.wr n0 (by omega)).of (fun c a => u c (by omega)) rfl, (h.2.1.wr n1 (by omega)).of (fun c h1 h2 => u c (by omega)) rfl, ⟨?_, fun m k hm hk => ?_⟩, (h.2.2.2.1.wr (by omega)).of (fun c h1 h2 => u c (by omega)) rfl, (h.2.2.2.2.1.wr (by omega)).of (fun c h1 h2 => u c (by omega)) rfl, (h.2.2.2.2.2.wr n2 (by omega)).of (fun c h1 h2 => u c (by omega)) rfl⟩
  · rw [wI_at, if_pos ⟨rfl, rfl, rfl⟩, h.2.2.1.1, nI_1, nxA_day]
  · rw [wI_at, if_neg (fun q => by omega), u 12 (by omega)]; exact h.2.2.1.2 m k hm hk
theorem clA_0 {A : Abs} : clA A (fun _ => 0) = A := by
  unfold clA
  have : (fun c j => if c = 9 ∧ j < A.1 1 then A.2.1 9 j + 0 else A.2.1 c j) = A.2.1 := by
    funext c j
    by_cases q : c = 9 ∧ j < A.1 1
    · rw [if_pos q, q.1]; rfl
    · rw [if_neg q]
  rw [this]
theorem RMf_K {M : Mem} {A B : Abs} (e1 : B.1 2 = A.1 2) (e : ∀ c, 17 ≤ c → c ≤ 20 → B.2.1 c = A.2.1 c) (g : RMf M A) : RMf M B := by
  obtain ⟨fd, f1, f2, f3⟩ := g
  exact ⟨fd, f1, f2, fun z p sh hp hsh => by rw [f3 z p sh hp hsh, e1, frN_X e]⟩
/-- the end of a day -/
theorem tM_close {M : Mem} {T : Tr} {P : Mem → Prop} (h : RM 44 M T.1) (n0 : T.1.1 0 ≤ 12) (n1 : T.1.1 1 ≤ 5) (n2 : T.1.1 2 ≤ 16) (hf : RMf M T.1) (hr : ∀ d, d < T.1.1 1 → M.1 68 0 d = nI (T.2.2.1 d)) (hp : ∀ M', eqQ M M' → RM 44 M' (nxA (clA T.1 T.2.2.1)) → RMf M' (nxA (clA T.1 T.2.2.1)) → P M') : s_X12_pass_88 P M := by
  unfold s_X12_pass_88
  refine Lz_rule (fun a => ∃ k, k ≤ T.1.1 1 ∧ a.2 = nI k ∧ (∀ c, c ≠ 44 → a.1.1 c = M.1 c) ∧ a.1.2 = M.2 ∧ (∀ j, ¬ (70 ≤ j ∧ j < 70 + k) → a.1.1 44 0 j = M.1 44 0 j) ∧ ∀ d, d < k → a.1.1 44 0 (70 + d) = nI (T.1.2.1 9 d + T.2.2.1 d)) (fun a => 5 - a.2.toNatClampNeg) ?_ ⟨0, Nat.zero_le _, rfl, fun _ _ => rfl, rfl, fun _ _ => rfl, fun d hd => absurd hd (Nat.not_lt_zero d)⟩
  rintro K ⟨M1, x⟩ ⟨k, hk1, e, i1, i2, i3, i4⟩ hK
  dsimp only at e i1 i2 i3 i4
  show s_X12_pass_90 P K M1 x
  unfold s_X12_pass_90
  rw [i3 1 (by omega), h.2.1.1, e, nI_leI (by omega) (by omega)]
  refine ⟨fun q M2 m2 => ?_, fun q => ?_⟩
  · have hk2 : k = T.1.1 1 := by omega
    have g1 : RM 44 M1 (clA T.1 T.2.2.1) := h.cl n0 n1 n2 (fun c a b => by rw [i1 c (by omega)]) (fun j hj => i3 j (by omega)) (fun d hd => i4 d (by omega))
    have q1 : eqQ M M1 := ⟨fun c a => i1 c (by omega), fun i j _ => by rw [i1 10 (by omega)], i2⟩
    have f1 : RMf M1 T.1 := by
      obtain ⟨fd, f1, f2, f3⟩ := hf
      refine ⟨fd, by rw [i1 10 (by omega)]; exact f1, f2, fun z p sh hp3 hsh => ?_⟩
      rw [i1 66 (by omega)]; exact f3 z p sh hp3 hsh
    refine hp M2 (q1.tr (by rw [m2]; exact eqQ.w (by omega))) (by rw [m2]; exact g1.nx n0 n1 n2) ?_
    have f2 : RMf M1 (nxA (clA T.1 T.2.2.1)) := RMf_K (A := T.1) (B := nxA (clA T.1 T.2.2.1)) rfl (fun c a b => by rw [nxA_ne (by omega), clA_ne (by omega)]) f1
    rw [m2]
    exact f2.w44 (by omega)
  · have e70 : (70 : Int32) + nI k = nI (70 + k) := nI_add 70 k
    have v70 : vp_in (nI (70 + k)) 320 := vp_in_nI (by omega) (by omega)
    rw [e70, nI_clamp (show 70 + k < 2 ^ 31 by omega), nI_clamp (show k < 2 ^ 31 by omega), i3 (70 + k) (by omega), i1 68 (by omega), (h.2.1.2 k (by omega)).2.2.1, hr k (by omega), nI_add]
    refine ⟨v70, vp_in_nI (by omega) (by omega), v70, fun M2 m2 u eu => ?_⟩
    rw [eu, nI_1]
    refine hK _ ⟨k + 1, by omega, rfl, fun c a => ?_, ?_, fun j hj => ?_, fun d hd => ?_⟩ ?_
    · rw [m2]; show (wI M1 44 0 (70 + k) _).1 c = _; rw [wI_cc a]; exact i1 c a
    · rw [m2]; exact i2
    · rw [m2]
      show (wI M1 44 0 (70 + k) (nI (T.1.2.1 9 k + T.2.2.1 k))).1 44 0 j = _
      rw [wI_at, if_neg (fun y => by omega)]; exact i3 j (by omega)
    · rw [m2]
      show (wI M1 44 0 (70 + k) (nI (T.1.2.1 9 k + T.2.2.1 k))).1 44 0 (70 + d) = _
      rw [wI_at]
      by_cases z : d = k
      · rw [if_pos ⟨rfl, rfl, by omega⟩, z]
      · rw [if_neg (fun y => z (by omega))]; exact i4 d (by omega)
    · show 5 - (nI (k + 1)).toNatClampNeg < 5 - x.toNatClampNeg
      rw [e, nI_clamp (by omega), nI_clamp (by omega)]; omega
theorem tM_pass {tk : Nat} {M : Mem} {A : Abs} {lw : Nat → Int32} {P : Mem → Prop} (h : RM 44 M A) (hf : RMf M A) (hk : paOK A) (hl : LK A) (htk : tk ≤ 3) (h22 : M.1 10 0 22 = mI tk) (hp : ∀ M', eqQ M M' → RM 44 M' (day1 tk (A, lw)).1 → RMf M' (day1 tk (A, lw)).1 → P M') : s_X12_pass M P := by
  have n0 := hk.1.2.2.1
  have n1 := hk.2.2.1
  have n2 := hk.1.2.1.1
  have hday := hk.2.2.2.1
  unfold s_X12_pass
  intro x1 e1
  rw [e1, h.2.2.1.1]
  refine Lz_rule (fun a => ∃ k, k ≤ 5 ∧ a.2 = nI k ∧ (∀ c, c ≠ 67 → c ≠ 68 → a.1.1 c = M.1 c) ∧ a.1.2 = M.2 ∧ ∀ d, d < k → a.1.1 67 0 d = M.1 52 0 d ∧ a.1.1 68 0 d = nI 0) (fun a => 5 - a.2.toNatClampNeg) ?_ ⟨0, Nat.zero_le _, rfl, fun _ _ _ => rfl, rfl, fun d hd => absurd hd (Nat.not_lt_zero d)⟩
  rintro K ⟨M1, x⟩ ⟨k, hk5, e, i1, i2, i3⟩ hK
  dsimp only at e i1 i2 i3
  show s_X12_pass_9 (nI (A.2.1 26 0)) P K M1 x
  unfold s_X12_pass_9
  have k5 : (5 : Int32) ≤ nI k ↔ 5 ≤ k := nI_leI (a := 5) (by omega) (by omega)
  rw [e, k5]
  refine ⟨fun q => ?_, fun q => ?_⟩
  · have hk2 : k = 5 := by omega
    subst hk2
    unfold s_X12_monthOf
    rw [month_i hday]
    dsimp only
    have hm : A.2.1 26 0 / 30 % 12 < 12 := Nat.mod_lt _ (by omega)
    have e140 : (140 : Int32) + nI (A.2.1 26 0 / 30 % 12) = nI (140 + A.2.1 26 0 / 30 % 12) := nI_add 140 _
    have em := h.2.2.1.2 _ 2 hm (by omega)
    rw [e140, nI_clamp (by omega), i1 44 (by omega) (by omega)]
    have em : M.1 44 0 (140 + A.2.1 26 0 / 30 % 12) = nI (A.2.1 12 (3 * mo A + 2)) := em
    rw [em]
    refine ⟨vp_in_nI (by omega) (by omega), fun M2 m2 => ?_⟩
    have j2 : ∀ i j, ¬ (i = 0 ∧ j = 40) → M2.1 10 i j = M.1 10 i j := fun i j hj => by rw [m2, wI_at, if_neg (fun x => hj x.2), i1 10 (by omega) (by omega)]
    have c2 : ∀ c, c ≠ 10 → c ≠ 67 → c ≠ 68 → M2.1 c = M.1 c := fun c a b d => by rw [m2, wI_cc a]; exact i1 c b d
    have q2 : eqQ M M2 := ⟨fun c a => c2 c (by omega) (by omega) (by omega), fun i j a => j2 i j (fun y => a ⟨y.1, by omega⟩), by rw [m2]; exact i2⟩
    have g2 : RM 44 M2 A := h.fr (fun c hc => by rw [c2 c (by omega) (by omega) (by omega)])
    have f2 : RMf M2 A := by
      obtain ⟨fd, f1, f2, f3⟩ := hf
      refine ⟨fd, by rw [j2 0 37 (by omega)]; exact f1, f2, fun z p sh hp3 hsh => ?_⟩
      rw [c2 66 (by omega) (by omega) (by omega)]; exact f3 z p sh hp3 hsh
    have t2 : MT M2 tk (opn A lw) := by
      refine ⟨g2, f2, fun d hd => ?_, by rw [m2, wI_at, if_pos ⟨rfl, rfl, rfl⟩]; rfl, by rw [j2 0 22 (by omega)]; exact h22⟩
      have hd' : d < A.1 1 := hd
      obtain ⟨a, b⟩ := i3 d (by omega)
      rw [m2, wI_cc (by omega), wI_cc (by omega)]
      exact ⟨a.trans (h.2.1.2 d hd').2.2.2.1, b⟩
    have OK := fun s hs => srvs_OK (tk := tk) (opn_OK (lw := lw) hk) hk s hs
    have ed : (5 : Int32) ≤ nI (A.2.1 26 0) - nI (A.2.1 26 0) / 7 * 7 ↔ 5 ≤ A.2.1 26 0 % 7 := by
      rw [(week_i hday).2]; exact nI_leI (a := 5) (by omega) (by omega)
    by_cases hsd : A.2.1 26 0 % 7 < 5
    · have e1 : (day1 tk (A, lw)).1 = nxA (clA (srvs tk (opn A lw) (A.1 0)).1 (srvs tk (opn A lw) (A.1 0)).2.2.1) := by unfold day1; rw [if_pos hsd]
      refine Lz_rule (fun a => ∃ s, s ≤ A.1 0 ∧ a.2 = nI s ∧ eqQ M a.1 ∧ MT a.1 tk (srvs tk (opn A lw) s)) (fun a => 12 - a.2.toNatClampNeg) ?_ ⟨0, Nat.zero_le _, rfl, q2, t2⟩
      rintro K3 ⟨M3, y⟩ ⟨s, hs, ey, r3, t3⟩ hK3
      dsimp only at ey r3 t3
      show s_X12_pass_58 (nI (A.2.1 26 0)) P K3 M3 y
      unfold s_X12_pass_58
      have x3 := (OK s hs).1
      have c0 : (srvs tk (opn A lw) s).1.1 0 = A.1 0 := by rw [x3.1]
      have c1 : (srvs tk (opn A lw) s).1.1 1 = A.1 1 := by rw [x3.1]
      have c2' : (srvs tk (opn A lw) s).1.1 2 = A.1 2 := by rw [x3.1]
      rw [t3.1.1.1, c0, ey, nI_leI (by omega) (by omega), ed]
      refine ⟨fun z => ?_, fun z => ⟨fun z2 => by omega, fun _ => tM_srv t3 (OK s hs) hk hl (by omega) htk (fun M4 r4 t4 u eu => ?_)⟩⟩
      · have es : s = A.1 0 := by omega
        subst es
        refine tM_close t3.1 (by omega) (by omega) (by omega) t3.2.1 (fun d hd => (t3.2.2.1 d hd).2) (fun M4 r4 g4 f4 => hp M4 (r3.tr r4) (by rw [e1]; exact g4) (by rw [e1]; exact f4))
      · rw [eu, nI_1]
        refine hK3 _ ⟨s + 1, by omega, rfl, r3.tr r4, t4⟩ ?_
        show 12 - (nI (s + 1)).toNatClampNeg < 12 - y.toNatClampNeg
        rw [ey, nI_clamp (by omega), nI_clamp (by omega)]; omega
    · have e1 : (day1 tk (A, lw)).1 = nxA A := by unfold day1; rw [if_neg hsd]
      have fin : s_X12_pass_88 P M2 := by
        refine tM_close (T := opn A lw) g2 n0 n1 n2 f2 (fun d hd => (t2.2.2.1 d hd).2) (fun M4 r4 g4 f4 => hp M4 (q2.tr r4) ?_ ?_)
        · rw [e1]
          have : nxA (clA A (fun _ => 0)) = nxA A := by rw [clA_0]
          rw [← this]; exact g4
        · rw [e1]
          have : nxA (clA A (fun _ => 0)) = nxA A := by rw [clA_0]
          rw [← this]; exact f4
      refine ⟨1, ?_⟩
      show s_X12_pass_58 (nI (A.2.1 26 0)) P _ M2 0
      unfold s_X12_pass_58
      rw [ed]
      exact ⟨fun _ => fin, fun _ => ⟨fun _ => fin, fun z => by omega⟩⟩
  · have vk : vp_in (nI k) 5 := vp_in_nI (by omega) (by omega)
    rw [nI_clamp (by omega), i1 52 (by omega) (by omega)]
    refine ⟨vk, vk, fun M2 m2 => ⟨vk, fun M3 m3 u eu => ?_⟩⟩
    rw [eu, nI_1]
    refine hK _ ⟨k + 1, by omega, rfl, fun c a b => ?_, ?_, fun d hd => ?_⟩ ?_
    · rw [m3]; show (wI M2 68 0 k 0).1 c = _; rw [wI_cc b, m2, wI_cc a]; exact i1 c a b
    · rw [m3, m2]; exact i2
    · rw [m3]
      show (wI M2 68 0 k 0).1 67 0 d = _ ∧ (wI M2 68 0 k 0).1 68 0 d = _
      rw [wI_cc (show (67 : Nat) ≠ 68 by omega), wI_at, m2, wI_at, wI_cc (show (68 : Nat) ≠ 67 by omega)]
      by_cases z : d = k
      · rw [if_pos (show 67 = 67 ∧ 0 = 0 ∧ d = k from ⟨rfl, rfl, z⟩), if_pos (show 68 = 68 ∧ 0 = 0 ∧ d = k from ⟨rfl, rfl, z⟩), z]
        exact ⟨rfl, rfl⟩
      · rw [if_neg (fun y => z y.2.2), if_neg (fun y => z y.2.2)]
        exact i3 d (by omega)
    · show 5 - (nI (k + 1)).toNatClampNeg < 5 - x.toNatClampNeg
      rw [e, nI_clamp (by omega), nI_clamp (by omega)]; omega
theorem smY_LK {A B : Abs} (h : smY A B) (g : LK A) : LK B := by
  obtain ⟨x1, x2, x3, -⟩ := h
  unfold LK letOK tx at g ⊢
  rw [x1, x2, x3 21 (by omega) (by omega) (by omega), x3 22 (by omega) (by omega) (by omega), x3 20 (by omega) (by omega) (by omega)]
  exact g
theorem eqQ.RMX {M M' : Mem} {S : Sg} {A : Abs} (e : eqQ M M') (hR : RM 44 M' A) (hf : RMf M' A) (h : RMX M S) : RMX M' (A, S.2) :=
  h.now hR hf (fun B _ hB => hB.fr (fun c hc => by rw [e.1 c (by omega)])) (e.2.1 0 4 (by omega)) (e.2.1 0 22 (by omega)) (fun c a b => by rw [e.1 c (by omega)]) (by rw [e.2.2])
theorem eqQ.sameC {M M' : Mem} (h : eqQ M M') : sameC M M' := ⟨fun c hc => h.1 c (by unfold cK at hc; omega), fun c _ => by rw [h.2.2], by rw [h.2.2]⟩
/-- wrongDays -/
theorem tM_wrong {M : Mem} {x hi : Int32} {n d : Nat} {P : Int32 → Mem → Prop} (hn : hi.toInt = n) (hn2 : n ≤ 60) (hd : M.1 44 0 3 = nI d) (hd2 : d ≤ 400) (h0 : rn x n → d + ix x ≤ 400 → P 0 M) (h2 : rn x n → ¬ d + ix x ≤ 400 → P (-2) M) (h1 : ¬ rn x n → P (-1) M) : s_X12_wrongDays M x hi P := by
  unfold s_X12_wrongDays
  refine t_in_n hn (fun g => c1 ?_) (fun g => c0 (h1 g))
  have hr := rn_rg g
  have hl := rg_lt hr
  rw [hd]
  have e : nI d + x = nI (d + ix x) := by
    conv => lhs; rw [rg_nI hr (by omega)]
    exact nI_add _ _
  rw [e, le400 (by omega)]
  exact ⟨h0 g, h2 g⟩
theorem tM_go {M : Mem} {S : Sg} {x : Int32} {P : Int32 → Mem → Prop} (h : RMX M S) (hw : WfX S) (hl : LK S.1) (hp : ∀ M', sameC M M' → RMX M' (sp_go S x).2 → P (sp_go S x).1 M') : s_X12_go M x P := by
  unfold s_X12_go
  intro M1 m1
  have h1 : RMX M1 S := by rw [m1]; exact h.thrown
  replace hp : ∀ M', sameC M1 M' → RMX M' (sp_go S x).2 → P (sp_go S x).1 M' := fun M' a b => hp M' (sameC.tr (by rw [m1]; exact sC10) a) b
  have hday : S.1.2.1 26 0 ≤ 400 := hw.1.2.2.2.2.2.1
  have bad : ∀ v, sp_go S x = (v, S) → P v M1 := fun v hb => by
    have := hp M1 sameC.rf
    rw [hb] at this
    exact this h1
  have out : ∀ v, sp_go S x = (v, S) → ¬ 0 ≤ v → ∃ n, Lz (fun (K15 : Mem × Int32 → Prop) (a : Mem × Int32) => s_X12_go_15 x v P K15 a.1 a.2) n (M1, (0 : Int32)) := by
    intro v hb hv
    refine ⟨1, ?_⟩
    show s_X12_go_15 x v P _ M1 0
    unfold s_X12_go_15 s_X12_go_34
    have b := bad v hb
    have vz : ¬ v = 0 := fun q => hv (by rw [q]; decide)
    exact ⟨fun _ => ⟨fun q => absurd q hv, fun _ => b⟩, fun _ => ⟨fun _ => ⟨fun q => absurd q hv, fun _ => b⟩, fun q => absurd q vz⟩⟩
  refine tM_wrong (n := 60) (by decide) (by omega) h1.1.2.2.1.1 hday (fun g z => ?_) (fun g z => out (-2) (by unfold sp_go; rw [if_pos g, if_neg z]) (by decide)) (fun g => out (-1) (by unfold sp_go; rw [if_neg g]) (by decide))
  have es : sp_go S x = (nI (S.1.2.1 26 0 + ix x), (goA S.1 (ix x) 0, S.2)) := by unfold sp_go; rw [if_pos g, if_pos z]
  rw [es] at hp
  have hr := rn_rg g
  have hl2 := rg_lt hr
  have ex := rg_nI hr (by omega)
  generalize ix x = n at *
  rw [ex]
  have DY := fun k hk => days_Y (tk := 0) (p := (S.1, fun _ => (0 : Int32))) hw.1.pa k hk
  refine Lz_rule (fun a => ∃ k, k ≤ n ∧ a.2 = nI k ∧ eqQ M1 a.1 ∧ RM 44 a.1 (goA S.1 k 0) ∧ RMf a.1 (goA S.1 k 0)) (fun a => n - a.2.toNatClampNeg) ?_ ⟨0, Nat.zero_le _, rfl, eqQ.rf, h1.1, h1.2.2.2.1⟩
  rintro K ⟨M2, y⟩ ⟨k, hkn, e, r2, g2, f2⟩ hK
  dsimp only at e r2 g2 f2
  show s_X12_go_15 (nI n) 0 P K M2 y
  unfold s_X12_go_15 s_X12_go_34
  obtain ⟨y1, y2, y3⟩ := DY k (show S.1.2.1 26 0 + k ≤ 400 by omega)
  have y2' : (goA S.1 k 0).2.1 26 0 = S.1.2.1 26 0 + k := y2
  rw [e, nI_leI (by omega) (by omega)]
  refine ⟨fun q => ⟨fun _ => ?_, fun q2 => absurd (by decide) q2⟩, fun q => ⟨fun q2 => absurd rfl q2, fun _ => ?_⟩⟩
  · have : n = k := by omega
    subst this
    rw [g2.2.2.1.1, y2']
    exact hp M2 r2.sameC (r2.RMX g2 f2 h1)
  · refine tM_pass (tk := 0) (lw := (days 0 (S.1, fun _ => 0) k).2) g2 f2 y3 (smY_LK y1 hl) (by omega) (by rw [r2.2.1 0 22 (by omega)]; exact h1.2.2.2.2) (fun M3 r3 g3 f3 u eu => ?_)
    rw [eu, nI_1]
    refine hK _ ⟨k + 1, by omega, rfl, r2.tr r3, g3, f3⟩ ?_
    show n - (nI (k + 1)).toNatClampNeg < n - y.toNatClampNeg
    rw [e, nI_clamp (by omega), nI_clamp (by omega)]; omega
