/-! DAYS GO BY, the class's -/
theorem tC_open {w : Nat} {M : Mem} {A : Abs} {lw : Nat → Int32} {P : Mem → Prop} (h : RC w M A) (hk : paOK A) (hc : M.1 1 w 9 = nI (A.2.1 12 (3 * mo A + 2))) (hl : ∀ d, d < A.1 1 → M.1 28 w d = lw d) (hp : ∀ M', eqP w M M' → CT w M' (opn A lw) → P M') : s_X4_openDay w M P := by
  have n5 := hk.2.2.1
  unfold s_X4_openDay
  refine Lz_rule (fun a => ∃ k, k ≤ A.1 1 ∧ a.2 = nI k ∧ (∀ c, c ≠ 27 → c ≠ 29 → a.1.1 c = M.1 c) ∧ eqP w M a.1 ∧ ∀ d, d < k → a.1.1 29 w d = nI (A.2.1 10 d) ∧ a.1.1 27 w d = nI 0) (fun a => 5 - a.2.toNatClampNeg) ?_ ⟨0, Nat.zero_le _, rfl, fun _ _ _ => rfl, eqP.rf, fun d hd => absurd hd (Nat.not_lt_zero d)⟩
  rintro K ⟨M1, x⟩ ⟨k, hk1, e, i1, i2, i3⟩ hK
  dsimp only at e i1 i2 i3
  show s_X4_openDay_2 w P K M1 x
  unfold s_X4_openDay_2
  have g1 : RC w M1 A := h.fr (fun c hc => by rw [i1 c (by unfold pK at hc; omega) (by unfold pK at hc; omega)]) (by rw [i1 1 (by omega) (by omega)]) (fun c hc => i1 c (by omega) (by omega)) (by rw [i2.2.2])
  rw [g1.2.1.1, e, nI_leI (by omega) (by omega)]
  refine ⟨fun q => hp M1 i2 ⟨g1, fun d hd => ?_, by rw [i1 1 (by omega) (by omega)]; exact hc⟩, fun q => ?_⟩
  · have hd' : d < A.1 1 := hd
    obtain ⟨a, b⟩ := i3 d (by omega)
    exact ⟨a, b, by rw [i1 28 (by omega) (by omega)]; exact hl d hd'⟩
  · have vk : vp_in (nI k) 5 := vp_in_nI (by omega) (by omega)
    rw [nI_clamp (by omega), (g1.2.1.2 k (by omega)).2.2.2.1]
    refine ⟨vk, vk, fun M2 m2 => ⟨vk, fun M3 m3 u eu => ?_⟩⟩
    rw [eu, nI_1]
    refine hK _ ⟨k + 1, by omega, rfl, fun c a b => ?_, i2.tr (eqP.tr (M1 := M2) (by rw [m2]; exact eqP.w (by omega)) (by rw [m3]; exact eqP.w (by omega))), fun d hd => ?_⟩ ?_
    · rw [m3]; show (wI M2 27 w k 0).1 c = _; rw [wI_cc a, m2, wI_cc b]; exact i1 c a b
    · rw [m3]
      show (wI M2 27 w k 0).1 29 w d = _ ∧ (wI M2 27 w k 0).1 27 w d = _
      rw [wI_cc (show (29 : Nat) ≠ 27 by omega), wI_at, m2, wI_at, wI_cc (show (27 : Nat) ≠ 29 by omega)]
      by_cases z : d = k
      · rw [if_pos (show 29 = 29 ∧ w = w ∧ d = k from ⟨rfl, rfl, z⟩), if_pos (show 27 = 27 ∧ w = w ∧ d = k from ⟨rfl, rfl, z⟩), z]
        exact ⟨rfl, rfl⟩
      · rw [if_neg (fun y => z y.2.2), if_neg (fun y => z y.2.2)]
        exact i3 d (by omega)
    · show 5 - (nI (k + 1)).toNatClampNeg < 5 - x.toNatClampNeg
      rw [e, nI_clamp (by omega), nI_clamp (by omega)]; omega
theorem RC.cl {w : Nat} {M M' : Mem} {A : Abs} {r : Nat → Nat} (h : RC w M A) (e : ∀ c, c ≠ 24 → M'.1 c = M.1 c) (e24 : ∀ d, d < A.1 1 → M'.1 24 w d = nI (A.2.1 9 d + r d)) (eo : M'.2 = M.2) : RC w M' (clA A r) := by
  have u : ∀ c, c ≠ 9 → (clA A r).2.1 c = A.2.1 c := fun c hc => clA_ne hc
  refine ⟨(h.1.fr (fun c hc => by rw [e c (by omega)])).of (fun c a => u c (by omega)) rfl, ⟨by rw [e 3 (by omega)]; exact h.2.1.1, fun d hd => ?_⟩, (h.2.2.1.fr (by rw [e 1 (by omega)]) (by rw [e 12 (by omega)])).of (u 26 (by omega)) (u 12 (by omega)), (h.2.2.2.1.fr (fun c hc => by rw [e c (by omega)])).of (fun c h1 h2 => u c (by omega)) rfl, (h.2.2.2.2.1.fr (fun c hc => by rw [e c (by omega)])).of (fun c h1 h2 => u c (by omega)) rfl, (h.2.2.2.2.2.fr (fun c hc => by rw [e c (by omega)]) (fun c hc => e c (by omega)) (by rw [eo])).of (fun c h1 h2 => u c (by omega)) rfl rfl⟩
  have hd' : d < A.1 1 := hd
  obtain ⟨a1, a2, a3, a4, a5⟩ := h.2.1.2 d hd'
  rw [e 22 (by omega), e 23 (by omega), e 25 (by omega), e 26 (by omega), u 7 (by omega), u 8 (by omega), u 10 (by omega), u 11 (by omega), clA_9 hd']
  exact ⟨a1, a2, e24 d hd', a4, a5⟩
theorem tC_close {w : Nat} {M : Mem} {T : Tr} {P : Mem → Prop} (h : CT w M T) (n5 : T.1.1 1 ≤ 5) (hp : ∀ M', eqP w M M' → RC w M' (clA T.1 T.2.2.1) → M'.1 28 = M.1 28 → P M') : s_X4_closeDay w M P := by
  obtain ⟨h1, h2, h3⟩ := h
  unfold s_X4_closeDay
  refine Lz_rule (fun a => ∃ k, k ≤ T.1.1 1 ∧ a.2 = nI k ∧ (∀ c, c ≠ 24 → a.1.1 c = M.1 c) ∧ eqP w M a.1 ∧ (∀ d, d < k → a.1.1 24 w d = nI (T.1.2.1 9 d + T.2.2.1 d)) ∧ ∀ d, k ≤ d → a.1.1 24 w d = M.1 24 w d) (fun a => 5 - a.2.toNatClampNeg) ?_ ⟨0, Nat.zero_le _, rfl, fun _ _ => rfl, eqP.rf, fun d hd => absurd hd (Nat.not_lt_zero d), fun _ _ => rfl⟩
  rintro K ⟨M1, x⟩ ⟨k, hk1, e, i1, i2, i3, i4⟩ hK
  dsimp only at e i1 i2 i3 i4
  show s_X4_closeDay_2 w P K M1 x
  unfold s_X4_closeDay_2
  rw [i1 3 (by omega), h1.2.1.1, e, nI_leI (by omega) (by omega)]
  refine ⟨fun q => hp M1 i2 (h1.cl i1 (fun d hd => i3 d (by omega)) i2.2.2) (i1 28 (by omega)), fun q => ?_⟩
  have vk : vp_in (nI k) 5 := vp_in_nI (by omega) (by omega)
  rw [nI_clamp (by omega), i4 k (Nat.le_refl _), i1 27 (by omega), (h1.2.1.2 k (by omega)).2.2.1, (h2 k (by omega)).2.1, nI_add]
  refine ⟨vk, vk, vk, fun M2 m2 u eu => ?_⟩
  rw [eu, nI_1]
  refine hK _ ⟨k + 1, by omega, rfl, fun c a => ?_, i2.tr (by rw [m2]; exact eqP.w (by omega)), fun d hd => ?_, fun d hd => ?_⟩ ?_
  · rw [m2]; show (wI M1 24 w k _).1 c = _; rw [wI_cc a]; exact i1 c a
  · rw [m2]
    show (wI M1 24 w k (nI (T.1.2.1 9 k + T.2.2.1 k))).1 24 w d = _
    rw [wI_at]
    by_cases z : d = k
    · rw [if_pos ⟨rfl, rfl, z⟩, z]
    · rw [if_neg (fun y => z y.2.2)]; exact i3 d (by omega)
  · rw [m2]
    show (wI M1 24 w k (nI (T.1.2.1 9 k + T.2.2.1 k))).1 24 w d = _
    rw [wI_at, if_neg (fun y => by omega)]; exact i4 d (by omega)
  · show 5 - (nI (k + 1)).toNatClampNeg < 5 - x.toNatClampNeg
    rw [e, nI_clamp (by omega), nI_clamp (by omega)]; omega
theorem RC.nx {w : Nat} {M : Mem} {A : Abs} (h : RC w M A) : RC w (wI M 1 w 0 (M.1 1 w 0 + 1)) (nxA A) := by
  have e : ∀ c, c ≠ 1 → (wI M 1 w 0 (M.1 1 w 0 + 1)).1 c = M.1 c := fun c hc => wI_cc hc
  have u : ∀ c, c ≠ 26 → (nxA A).2.1 c = A.2.1 c := fun c hc => nxA_ne hc
  refine ⟨(h.1.fr (fun c hc => by rw [e c (by omega)])).of (fun c a => u c (by omega)) rfl, (h.2.1.fr (fun c hc => by rw [e c (by omega)])).of (fun c h1 h2 => u c (by omega)) rfl, ⟨?_, fun m k hm hk => ?_⟩, (h.2.2.2.1.fr (fun c hc => by rw [e c (by omega)])).of (fun c h1 h2 => u c (by omega)) rfl, (h.2.2.2.2.1.fr (fun c hc => by rw [e c (by omega)])).of (fun c h1 h2 => u c (by omega)) rfl, (h.2.2.2.2.2.fr (fun c hc => by rw [e c (by omega)]) (fun c hc => e c (by omega)) rfl).of (fun c h1 h2 => u c (by omega)) rfl rfl⟩
  · rw [wI_at, if_pos ⟨rfl, rfl, rfl⟩, h.2.2.1.1, nI_1, nxA_day]
  · rw [e 12 (by omega), u 12 (by omega)]; exact h.2.2.1.2 m k hm hk
theorem tC_schoolDay {w tk : Nat} {M : Mem} {A : Abs} {lw : Nat → Int32} {P : Mem → Prop} (h : RC w M A) (hk : paOK A) (hl : ∀ d, d < A.1 1 → M.1 28 w d = lw d) (htk : tk ≤ 3) (hp : ∀ M', eqP w M M' → RC w M' (clA (srvs tk (opn A lw) (A.1 0)).1 (srvs tk (opn A lw) (A.1 0)).2.2.1) → (∀ d, d < A.1 1 → M'.1 28 w d = (srvs tk (opn A lw) (A.1 0)).2.2.2.2 d) → P M') : s_X10_passSchoolDay w M (mI tk) P := by
  have n12 := hk.1.2.2.1
  have n5 := hk.2.2.1
  unfold s_X10_passSchoolDay
  rw [h.2.2.1.1]
  refine tC_monthFact (k := 2) h.2.2.1 hk.2.2.2.1 (by omega) (fun M1 m1 => ?_)
  have r1 : eqP w M M1 := by rw [m1]; exact eqP.w (by omega)
  have c1 : ∀ c, c ≠ 1 → M1.1 c = M.1 c := fun c hc => by rw [m1, wI_cc hc]
  have g1 : RC w M1 A := h.fr (fun c hc => by rw [c1 c (by unfold pK at hc; omega)]) (by rw [m1, wI_at, if_neg (by omega)]) (fun c hc => c1 c (by omega)) (by rw [m1]; rfl)
  refine tC_open (lw := lw) g1 hk (by rw [m1, wI_at, if_pos ⟨rfl, rfl, rfl⟩]; rfl) (fun d hd => by rw [c1 28 (by omega)]; exact hl d hd) (fun M2 r2 g2 => ?_)
  have OK := fun s hs => srvs_OK (tk := tk) (opn_OK (lw := lw) hk) hk s hs
  refine Lz_rule (fun a => ∃ s, s ≤ A.1 0 ∧ a.2 = nI s ∧ eqP w M a.1 ∧ CT w a.1 (srvs tk (opn A lw) s)) (fun a => 12 - a.2.toNatClampNeg) ?_ ⟨0, Nat.zero_le _, rfl, r1.tr r2, g2⟩
  rintro K ⟨M3, x⟩ ⟨s, hs, e, r3, g3⟩ hK
  dsimp only at e r3 g3
  show s_X10_passSchoolDay_22 w (mI tk) P K M3 x
  rw [e]
  by_cases q : s < A.1 0
  · refine tC_srv g3 (OK s hs) hk q htk (fun M4 r4 g4 => hK _ ⟨s + 1, q, rfl, r3.tr r4, g4⟩ ?_)
    show 12 - (nI (s + 1)).toNatClampNeg < 12 - x.toNatClampNeg
    rw [e, nI_clamp (by omega), nI_clamp (by omega)]; omega
  · have es : s = A.1 0 := by omega
    subst es
    unfold s_X10_passSchoolDay_22
    have x3 := (OK _ (Nat.le_refl _)).1
    have c0 : (srvs tk (opn A lw) (A.1 0)).1.1 0 = A.1 0 := by rw [x3.1]
    have c1' : (srvs tk (opn A lw) (A.1 0)).1.1 1 = A.1 1 := by rw [x3.1]
    rw [g3.1.1.1, c0]
    refine ⟨fun _ => tC_close g3 (by omega) (fun M4 r4 g4 e28 => hp M4 (r3.tr r4) g4 (fun d hd => ?_)), fun z => absurd ((nI_leI (by omega) (by omega)).mpr (Nat.le_refl _)) z⟩
    rw [e28]
    exact (g3.2.1 d (by omega)).2.2
theorem tC_passDays {w tk n : Nat} {M : Mem} {A : Abs} {lw : Nat → Int32} {P : Mem → Prop} (h : RC w M A) (hk : paOK A) (hl : ∀ d, d < A.1 1 → M.1 28 w d = lw d) (htk : tk ≤ 3) (hn : A.2.1 26 0 + n ≤ 400) (hp : ∀ M', eqP w M M' → RC w M' (days tk (A, lw) n).1 → (∀ d, d < A.1 1 → M'.1 28 w d = (days tk (A, lw) n).2 d) → P M') : s_X10_passDays w M (nI n) (mI tk) P := by
  unfold s_X10_passDays
  refine Lz_rule (fun a => ∃ k, k ≤ n ∧ a.2 = nI k ∧ eqP w M a.1 ∧ RC w a.1 (days tk (A, lw) k).1 ∧ ∀ d, d < A.1 1 → a.1.1 28 w d = (days tk (A, lw) k).2 d) (fun a => n - a.2.toNatClampNeg) ?_ ⟨0, Nat.zero_le _, rfl, eqP.rf, h, hl⟩
  rintro K ⟨M1, x⟩ ⟨k, hkn, e, r1, g1, l1⟩ hK
  dsimp only at e r1 g1 l1
  show s_X10_passDays_2 w (nI n) (mI tk) P K M1 x
  unfold s_X10_passDays_2
  rw [e, nI_leI (by omega) (by omega)]
  refine ⟨fun q => ?_, fun q => ?_⟩
  · have : n = k := by omega
    subst this
    exact hp M1 r1 g1 l1
  obtain ⟨y1, y2, y3⟩ := days_Y (tk := tk) (p := (A, lw)) hk k (show A.2.1 26 0 + k ≤ 400 by omega)
  have y2' : (days tk (A, lw) k).1.2.1 26 0 = A.2.1 26 0 + k := y2
  have n1 : (days tk (A, lw) k).1.1 1 = A.1 1 := by rw [y1.1]
  rw [g1.2.2.1.1]
  have fin : ∀ M2, eqP w M1 M2 → RC w (wI M2 1 w 0 (M2.1 1 w 0 + 1)) (day1 tk (days tk (A, lw) k)).1 → (∀ d, d < A.1 1 → M2.1 28 w d = (day1 tk (days tk (A, lw) k)).2 d) → s_X10_passDays_22 w (nI n) (mI tk) P K M2 (nI k) := by
    intro M2 r2 g2 l2 M3 m3 u eu
    rw [eu, nI_1]
    have r3 : eqP w M2 M3 := by rw [m3]; exact eqP.w (by omega)
    refine hK _ ⟨k + 1, by omega, rfl, r1.tr (r2.tr r3), by rw [m3]; exact g2, fun d hd => ?_⟩ ?_
    · rw [m3]; show (wI M2 1 w 0 _).1 28 w d = _; rw [wI_cc (by omega)]; exact l2 d hd
    · show n - (nI (k + 1)).toNatClampNeg < n - x.toNatClampNeg
      rw [e, nI_clamp (by omega), nI_clamp (by omega)]; omega
  refine t_schoolDay (by omega) (fun hsd => b1 ?_) (fun hsd => b0 ?_)
  · have ed : day1 tk (days tk (A, lw) k) = (nxA (clA (srvs tk (opn (days tk (A, lw) k).1 (days tk (A, lw) k).2) ((days tk (A, lw) k).1.1 0)).1 (srvs tk (opn (days tk (A, lw) k).1 (days tk (A, lw) k).2) ((days tk (A, lw) k).1.1 0)).2.2.1), (srvs tk (opn (days tk (A, lw) k).1 (days tk (A, lw) k).2) ((days tk (A, lw) k).1.1 0)).2.2.2.2) := if_pos hsd
    refine tC_schoolDay g1 y3 (fun d hd => l1 d (by omega)) htk (fun M2 r2 g2 l2 => fin M2 r2 ?_ ?_)
    · rw [ed]; exact g2.nx
    · rw [ed]; exact fun d hd => l2 d (by omega)
  · have ed : day1 tk (days tk (A, lw) k) = (nxA (days tk (A, lw) k).1, (days tk (A, lw) k).2) := if_neg hsd
    refine fin M1 eqP.rf ?_ ?_
    · rw [ed]; exact g1.nx
    · rw [ed]; exact l1
/-! go -/
theorem ds_lw {tk : Nat} {A : Abs} : ∀ (n : Nat) (lw lw' : Nat → Int32), (days tk (A, lw) n).1 = (days tk (A, lw') n).1 := by
  have sv : ∀ (T T' : Tr) s, T.1 = T'.1 → T.2.1 = T'.2.1 → T.2.2.1 = T'.2.2.1 → T.2.2.2.1 = T'.2.2.2.1 → (srv tk T s).1 = (srv tk T' s).1 ∧ (srv tk T s).2.1 = (srv tk T' s).2.1 ∧ (srv tk T s).2.2.1 = (srv tk T' s).2.2.1 ∧ (srv tk T s).2.2.2.1 = (srv tk T' s).2.2.2.1 := by
    rintro ⟨a, b, c, d, e⟩ ⟨a', b', c', d', e'⟩ s h1 h2 h3 h4
    dsimp only at h1 h2 h3 h4
    subst h1 h2 h3 h4
    exact ⟨rfl, rfl, rfl, rfl⟩
  have svs : ∀ (T T' : Tr), T.1 = T'.1 → T.2.1 = T'.2.1 → T.2.2.1 = T'.2.2.1 → T.2.2.2.1 = T'.2.2.2.1 → ∀ s, (srvs tk T s).1 = (srvs tk T' s).1 ∧ (srvs tk T s).2.1 = (srvs tk T' s).2.1 ∧ (srvs tk T s).2.2.1 = (srvs tk T' s).2.2.1 ∧ (srvs tk T s).2.2.2.1 = (srvs tk T' s).2.2.2.1 := by
    intro T T' h1 h2 h3 h4 s
    induction s with
    | zero => exact ⟨h1, h2, h3, h4⟩
    | succ s ih => exact sv _ _ s ih.1 ih.2.1 ih.2.2.1 ih.2.2.2
  intro n
  induction n with
  | zero => intro lw lw'; rfl
  | succ n ih =>
    intro lw lw'
    show (day1 tk (days tk (A, lw) n)).1 = (day1 tk (days tk (A, lw') n)).1
    have e := ih lw lw'
    generalize days tk (A, lw) n = p at *
    generalize days tk (A, lw') n = p' at *
    unfold day1
    rw [← e]
    obtain ⟨e1, -, e3, -⟩ := svs (opn p.1 p.2) (opn p.1 p'.2) rfl rfl rfl rfl (p.1.1 0)
    by_cases q : p.1.2.1 26 0 % 7 < 5
    · rw [if_pos q, if_pos q]
      show nxA (clA _ _) = nxA (clA _ _)
      rw [e1, e3]
    · rw [if_neg q, if_neg q]
def goA (A : Abs) (n tk : Nat) : Abs := (days tk (A, fun _ => 0) n).1
abbrev rn (x : Int32) (n : Nat) : Prop := 1 ≤ x.toInt ∧ x.toInt ≤ n
theorem rn_rg {x : Int32} {n : Nat} (h : rn x n) : rg x (n + 1) := ⟨by have := h.1; omega, by have := h.2; omega⟩
def sp_go (S : Sg) (x : Int32) : Int32 × Sg := if rn x 60 then (if S.1.2.1 26 0 + ix x ≤ 400 then (nI (S.1.2.1 26 0 + ix x), (goA S.1 (ix x) 0, S.2)) else (-2, S)) else (-1, S)
theorem t_within_n {x hi : Int32} {n : Nat} {M : Mem} {P : Int32 → Mem → Prop} (hn : hi.toInt = n) (h1 : rn x n → P 1 M) (h0 : ¬ rn x n → P 0 M) : s_X11_within M x 1 hi P := by
  have t1 : (1 : Int32).toInt = 1 := by decide
  exact ⟨fun c => h0 (fun q => by rw [lt_i] at c; have := q.1; omega), fun c => ⟨fun d => h0 (fun q => by rw [lt_i] at d; have := q.2; omega), fun d => h1 (by rw [lt_i] at c d; exact ⟨by omega, by omega⟩)⟩⟩
theorem t_in_n {x hi : Int32} {n : Nat} {M : Mem} {P : Int32 → Mem → Prop} (hn : hi.toInt = n) (h1 : rn x n → P 1 M) (h0 : ¬ rn x n → P 0 M) : s_X12_in M x 1 hi P := t_within_n hn h1 h0
theorem le400 {n : Nat} (h : n < 2 ^ 31) : nI n ≤ 400 ↔ n ≤ 400 := nI_leI (b := 400) h (by omega)
theorem tC_go {M : Mem} {S : Sg} {x : Int32} {P : Int32 → Mem → Prop} (h : RCX M S) (hw : WfX S) (hp : ∀ M', sameM M M' → RCX M' (sp_go S x).2 → P (sp_go S x).1 M') : s_X11_go M x P := by
  unfold s_X11_go
  have hday : S.1.2.1 26 0 ≤ 400 := hw.1.2.2.2.2.2.1
  have bad : ∀ v, sp_go S x = (v, S) → P v M := fun v hb => by
    have := hp M sameM.rf
    rw [hb] at this
    exact this h
  refine t_within_n (n := 60) (by decide) (fun g1 => c1 ?_) (fun g1 => c0 (bad _ (by unfold sp_go; rw [if_neg g1])))
  have hr := rn_rg g1
  have hl := rg_lt hr
  have ex := rg_nI hr (by omega)
  rw [h.1.2.2.1.1]
  have es0 : sp_go S x = (if S.1.2.1 26 0 + ix x ≤ 400 then (nI (S.1.2.1 26 0 + ix x), (goA S.1 (ix x) 0, S.2)) else (-2, S)) := if_pos g1
  generalize ix x = n at *
  rw [ex, nI_add, le400 (by omega)]
  refine ⟨fun z => ?_, fun z => bad _ (by rw [es0, if_neg z])⟩
  rw [if_pos z] at es0
  rw [es0] at hp
  refine tC_passDays (tk := 0) (lw := fun d => M.1 28 0 d) h.1 hw.1.pa (fun d _ => rfl) (by omega) z (fun M1 r1 g1 l1 => ?_)
  obtain ⟨y1, y2, y3⟩ := days_Y (tk := 0) (p := (S.1, fun d => M.1 28 0 d)) hw.1.pa n z
  rw [g1.2.2.1.1, y2]
  have eg : goA S.1 n 0 = (days 0 (S.1, fun d => M.1 28 0 d) n).1 := ds_lw n _ _
  rw [eg] at hp
  exact hp M1 ⟨fun c hc => r1.1 c (by unfold cK at hc; omega), by rw [r1.2.2]⟩ (h.now g1 (fun c _ => r1.2.1 c 1 (by omega)) (by rw [r1.2.1 1 1 (by omega)]) (by rw [r1.1 0 (by omega)]) (fun d => by rw [r1.1 7 (by omega)]) (fun d => by rw [r1.1 39 (by omega)]) (fun c hc => r1.1 c (by omega)) (by rw [r1.2.2]))
