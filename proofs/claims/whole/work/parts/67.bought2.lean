/-! BOUGHT, the class's and the reference's -/
theorem lw_dep {tk b : Nat} {A : Abs} {lw lw' : Nat → Int32} (h : lw b = lw' b) : ∀ n, (days tk (A, lw) n).2 b = (days tk (A, lw') n).2 b := by
  have svs : ∀ (T T' : Tr), T.1 = T'.1 → T.2.1 = T'.2.1 → T.2.2.1 = T'.2.2.1 → T.2.2.2.1 = T'.2.2.2.1 → T.2.2.2.2 b = T'.2.2.2.2 b → ∀ s, (srvs tk T s).1 = (srvs tk T' s).1 ∧ (srvs tk T s).2.1 = (srvs tk T' s).2.1 ∧ (srvs tk T s).2.2.1 = (srvs tk T' s).2.2.1 ∧ (srvs tk T s).2.2.2.1 = (srvs tk T' s).2.2.2.1 ∧ (srvs tk T s).2.2.2.2 b = (srvs tk T' s).2.2.2.2 b := by
    intro T T' h1 h2 h3 h4 h5 s
    induction s with
    | zero => exact ⟨h1, h2, h3, h4, h5⟩
    | succ s ih =>
      obtain ⟨i1, i2, i3, i4, i5⟩ := ih
      show (srv tk _ s).1 = (srv tk _ s).1 ∧ (srv tk _ s).2.1 = (srv tk _ s).2.1 ∧ (srv tk _ s).2.2.1 = (srv tk _ s).2.2.1 ∧ (srv tk _ s).2.2.2.1 = (srv tk _ s).2.2.2.1 ∧ (srv tk _ s).2.2.2.2 b = (srv tk _ s).2.2.2.2 b
      revert i1 i2 i3 i4 i5
      generalize srvs tk T s = Y
      generalize srvs tk T' s = Y'
      obtain ⟨a, b1, c, d, e⟩ := Y
      obtain ⟨a', b', c', d', e'⟩ := Y'
      intro i1 i2 i3 i4 i5
      dsimp only at i1 i2 i3 i4 i5
      subst i1 i2 i3 i4
      refine ⟨rfl, rfl, rfl, rfl, ?_⟩
      show lwU _ _ _ b = lwU _ _ _ b
      unfold lwU
      dsimp only
      simp only [i5]
      rfl
  intro n
  induction n with
  | zero => exact h
  | succ n ih =>
    show (day1 tk (days tk (A, lw) n)).2 b = (day1 tk (days tk (A, lw') n)).2 b
    have e := ds_lw (tk := tk) (A := A) n lw lw'
    generalize days tk (A, lw) n = p at *
    generalize days tk (A, lw') n = p' at *
    unfold day1
    rw [← e]
    by_cases q : p.1.2.1 26 0 % 7 < 5
    · rw [if_pos q, if_pos q]
      exact (svs (opn p.1 p.2) (opn p.1 p'.2) rfl rfl rfl rfl ih (p.1.1 0)).2.2.2.2
    · rw [if_neg q, if_neg q]; exact ih
/-- what a school wants grows by at most 600 a day -/
theorem un_srvs {tk s' : Nat} {A0 : Abs} {T : Tr} (ht : trOK A0 T) (g : paOK A0) : ∀ s, s ≤ A0.1 0 → (s ≤ s' → (srvs tk T s).1.2.1 6 (11 * s' + 2) = T.1.2.1 6 (11 * s' + 2)) ∧ (srvs tk T s).1.2.1 6 (11 * s' + 2) ≤ T.1.2.1 6 (11 * s' + 2) + 600 := by
  intro s
  induction s with
  | zero => intro _; exact ⟨fun _ => rfl, Nat.le_add_right _ _⟩
  | succ s ih =>
    intro hs
    obtain ⟨i1, i2⟩ := ih (by omega)
    have ok := srvs_OK (tk := tk) ht g s (by omega)
    have ho := cn_600 (A := (srvs tk T s).1) (s := s) (d := (srvs tk T s).1.2.1 26 0) (tk := tk) (ok.pa g).1.1 (by have := g.1.2.2.1; omega)
    have e : (srvs tk T (s + 1)).1.2.1 6 (11 * s' + 2) = (srvs tk T s).1.2.1 6 (11 * s' + 2) + (if s' = s then ordN (srvs tk T s).1 s ((srvs tk T s).1.2.1 26 0) tk - cmN (srvs tk T s) s tk else 0) := srv_6
    rw [e]
    refine ⟨fun q => ?_, ?_⟩
    · rw [if_neg (by omega), i1 (by omega)]; rfl
    · by_cases q : s' = s
      · rw [if_pos q, i1 (by omega)]; omega
      · rw [if_neg q]; omega
theorem un_days {tk s' : Nat} {p : Abs × (Nat → Int32)} (g : paOK p.1) : ∀ n, p.1.2.1 26 0 + n ≤ 400 → (days tk p n).1.2.1 6 (11 * s' + 2) ≤ p.1.2.1 6 (11 * s' + 2) + 600 * n := by
  intro n
  induction n with
  | zero => intro _; exact Nat.le_add_right _ _
  | succ n ih =>
    intro hn
    have i := ih (by omega)
    obtain ⟨y1, y2, y3⟩ := days_Y (tk := tk) g n (by omega)
    show (day1 tk (days tk p n)).1.2.1 6 (11 * s' + 2) ≤ _
    unfold day1
    split
    · show (nxA (clA _ _)).2.1 6 (11 * s' + 2) ≤ _
      rw [nxA_ne (by omega), clA_ne (by omega)]
      have k1 : (srvs tk (opn (days tk p n).1 (days tk p n).2) ((days tk p n).1.1 0)).1.2.1 6 (11 * s' + 2) ≤ (days tk p n).1.2.1 6 (11 * s' + 2) + 600 := (un_srvs (tk := tk) (s' := s') (opn_OK (lw := (days tk p n).2) y3) y3 _ (Nat.le_refl _)).2
      refine Nat.le_trans k1 ?_
      have k2 := Nat.add_le_add_right i 600
      rw [Nat.mul_succ, ← Nat.add_assoc]
      exact k2
    · show (nxA _).2.1 6 (11 * s' + 2) ≤ _
      rw [nxA_ne (by omega)]
      omega
theorem nI_grow {a b : Nat} (h : a ≤ b) (h2 : b ≤ a + 1000000) : nI b = nI a ↔ b = a := by
  constructor
  · intro e
    have t := pk_sub h
    rw [e, Int32.sub_self] at t
    have : nI (b - a) = 0 ↔ b - a = 0 := eqk (by omega) rfl (by omega)
    have := this.mp t.symm
    omega
  · intro e; rw [e]
def enB (A U : Abs) (b : Nat) : Nat → Bool
  | 0 => true
  | s + 1 => enB A U b s && decide (wn A (A.2.1 0 s) (A.1 1) = b + 1 → U.2.1 6 (11 * s + 2) = A.2.1 6 (11 * s + 2))
theorem enB_iff {A U : Abs} {b : Nat} : ∀ n, enB A U b n = true ↔ ∀ s, s < n → wn A (A.2.1 0 s) (A.1 1) = b + 1 → U.2.1 6 (11 * s + 2) = A.2.1 6 (11 * s + 2) := by
  intro n
  induction n with
  | zero => exact ⟨fun _ s h => absurd h (Nat.not_lt_zero s), fun _ => rfl⟩
  | succ n ih =>
    show (enB A U b n && decide _) = true ↔ _
    rw [Bool.and_eq_true, decide_eq_true_iff, ih]
    refine ⟨fun h s hs => ?_, fun h => ⟨fun s hs => h s (by omega), h n (by omega)⟩⟩
    rcases Nat.lt_or_eq_of_le (show s ≤ n by omega) with q | q
    · exact h.1 s q
    · rw [q]; exact h.2
def boN (A : Abs) (b n : Nat) : Int32 := if enB A (runN A b 1000 n).1 b (A.1 0) = true then nI (1000 - ix ((runN A b 1000 n).2 b)) else -4
def sp_bought (S : Sg) (x1 x2 : Int32) : Int32 := if rg x1 (S.1.1 1) then (if rn x2 20 then (if S.1.2.1 26 0 + ix x2 ≤ 400 then boN S.1 (ix x1) (ix x2) else -2) else -1) else -1
theorem run_ge {A : Abs} {b m n j : Nat} : A.2.1 6 j ≤ (runN A b m n).1.2.1 6 j := by
  have := days_le (tk := 0) (p := (mor A b m, fun _ => nI (A.2.1 9 b + m))) (j := j) n
  have e : (mor A b m).2.1 6 = A.2.1 6 := by unfold mor; rw [aU_ne (by omega)]
  have this : (mor A b m).2.1 6 j ≤ (runN A b m n).1.2.1 6 j := this
  rw [e] at this
  exact this
theorem run_le {A : Abs} {b m n s : Nat} (h : Wf A) (hb : b < A.1 1) (hm : m ≤ 1000) (hn : A.2.1 26 0 + n ≤ 400) : (runN A b m n).1.2.1 6 (11 * s + 2) ≤ A.2.1 6 (11 * s + 2) + 600 * n := by
  have := un_days (tk := 0) (s' := s) (p := (mor A b m, fun _ => nI (A.2.1 9 b + m))) (mor_pa h hb hm) n (by show (mor A b m).2.1 26 0 + n ≤ 400; unfold mor; rw [aU_ne (by omega)]; exact hn)
  have e : (mor A b m).2.1 6 = A.2.1 6 := by unfold mor; rw [aU_ne (by omega)]
  have this : (runN A b m n).1.2.1 6 (11 * s + 2) ≤ (mor A b m).2.1 6 (11 * s + 2) + 600 * n := this
  rw [e] at this
  exact this
theorem tC_bought {M : Mem} {S : Sg} {x1 x2 : Int32} {P : Int32 → Mem → Prop} (h : RCX M S) (hw : WfX S) (hp : ∀ M', sameM M M' → RCX M' S → P (sp_bought S x1 x2) M') : s_X11_bought M x1 x2 P := by
  unfold s_X11_bought
  have n5 : S.1.1 1 ≤ 5 := hw.1.2.1
  have n12 : S.1.1 0 ≤ 12 := hw.1.1
  have hday : S.1.2.1 26 0 ≤ 400 := hw.1.2.2.2.2.2.1
  have bad : ∀ v, sp_bought S x1 x2 = v → P v M := fun v hb => by
    have := hp M sameM.rf h
    rw [hb] at this
    exact this
  refine t_has4 h.1.2.1.1 (by omega) (fun g1 => b1 ?_) (fun g1 => b0 (bad _ (by unfold sp_bought; rw [if_neg g1])))
  refine t_within_n (n := 20) (by decide) (fun g2 => c1 ?_) (fun g2 => c0 (bad _ (by unfold sp_bought; rw [if_pos g1, if_neg g2])))
  have hr := rn_rg g2
  have hl2 := rg_lt hr
  have l1 := rg_lt g1
  have e2 : nI (S.1.2.1 26 0) + x2 = nI (S.1.2.1 26 0 + ix x2) := by
    conv => lhs; rw [rg_nI hr (by omega)]
    exact nI_add _ _
  rw [h.1.2.2.1.1, e2, le400 (by omega)]
  refine ⟨fun z => ?_, fun z => bad _ (by unfold sp_bought; rw [if_pos g1, if_pos g2, if_neg z])⟩
  have es0 : sp_bought S x1 x2 = boN S.1 (ix x1) (ix x2) := by unfold sp_bought; rw [if_pos g1, if_pos g2, if_pos z]
  rw [es0] at hp
  have ex2 := rg_nI hr (by omega)
  have ex1 := rg_nI g1 (by omega)
  generalize ix x2 = n at *
  generalize ix x1 = b at *
  rw [ex1, ex2]
  have vb : vp_in (nI b) 5 := vp_in_nI (by omega) (by omega)
  refine tC_mind h hw (fun M1 r1 h1 g1 => ?_)
  unfold s_X4_stock
  rw [nI_clamp (by omega), (g1.2.1.2 b l1).2.2.1]
  have e1000 : nI (S.1.2.1 9 b) + 1000 = nI (S.1.2.1 9 b + 1000) := nI_add _ 1000
  rw [e1000]
  refine ⟨vb, vb, fun M2 m2 => ⟨vb, vb, fun M3 m3 => ?_⟩⟩
  have e24 : M2.1 24 2 b = nI (S.1.2.1 9 b + 1000) := by rw [m2, wI_at, if_pos ⟨rfl, rfl, rfl⟩]
  rw [e24] at m3
  have q2 : eqP 2 M1 M2 := by rw [m2]; exact eqP.w (by omega)
  have q3 : eqP 2 M2 M3 := by rw [m3]; exact eqP.w (by omega)
  have g2 : RC 2 M2 (mor S.1 b 1000) := by rw [m2]; exact g1.bot l1
  have g3 : RC 2 M3 (mor S.1 b 1000) := g2.fr (fun c hc => by rw [m3, wI_cc (by unfold pK at hc; omega)]) (by rw [m3, wI_cc (by omega)]) (fun c hc => by rw [m3, wI_cc (by omega)]) (by rw [m3]; rfl)
  have e28 : M3.1 28 2 b = nI (S.1.2.1 9 b + 1000) := by rw [m3, wI_at, if_pos ⟨rfl, rfl, rfl⟩]
  have d26 : (mor S.1 b 1000).2.1 26 0 = S.1.2.1 26 0 := by unfold mor; rw [aU_ne (by omega)]
  refine tC_passDays (tk := 0) (lw := fun d => M3.1 28 2 d) g3 (mor_pa hw.1 l1 (Nat.le_refl _)) (fun d _ => rfl) (by omega) (by omega) (fun M4 r4 g4 l4 => ?_)
  have eR : (days 0 (mor S.1 b 1000, fun d => M3.1 28 2 d) n).1 = (runN S.1 b 1000 n).1 := ds_lw n _ _
  have eL : (days 0 (mor S.1 b 1000, fun d => M3.1 28 2 d) n).2 b = (runN S.1 b 1000 n).2 b := lw_dep e28 n
  rw [eR] at g4
  have q4 : eqP 2 M1 M4 := q2.tr (q3.tr r4)
  have h4 : RCX M4 S := q4.mind h1
  have s4 : sameM M M4 := r1.tr q4.sameM
  have l4' : M4.1 28 2 b = (runN S.1 b 1000 n).2 b := (l4 b l1).trans eL
  obtain ⟨lo, o1, o2, -⟩ := en_iff (b := b) (m := 1000) hw.1 l1 (Nat.le_refl _) z
  have kk := hp M4 s4 h4
  unfold boN at kk
  refine Lz_rule (fun a => ∃ s, s ≤ S.1.1 0 ∧ a = (M4, nI s) ∧ enB S.1 (runN S.1 b 1000 n).1 b s = true) (fun a => 12 - a.2.toNatClampNeg) ?_ ⟨0, Nat.zero_le _, rfl, rfl⟩
  rintro K a ⟨s, hs, rfl, hen⟩ hK
  show s_X11_bought_80 (nI b) P K M4 (nI s)
  unfold s_X11_bought_80
  rw [h4.1.1.1, nI_leI (by omega) (by omega), nI_clamp (show b < 2 ^ 31 by omega), l4', o1]
  refine ⟨fun q => ⟨vb, ?_⟩, fun q => ?_⟩
  · have es : s = S.1.1 0 := by omega
    rw [es] at hen
    rw [if_pos hen, o1, ix_nI (by omega)] at kk
    have t := pk_sub_toInt (a := 1000) (b := lo) (by omega) (by omega)
    have t' : (1000 - nI lo).toInt = ((1000 : Nat) : Int) - lo := t
    by_cases c : lo < 1000
    · rw [if_pos (by rw [lt_i, t0_i, t']; omega)]
      have : (1000 : Int32) - nI lo = nI (1000 - lo) := pk_sub (a := 1000) (by omega)
      rw [this]; exact kk
    · rw [if_neg (by rw [lt_i, t0_i, t']; omega)]
      rw [show 1000 - lo = 0 by omega] at kk
      exact kk
  · have hs2 : s < S.1.1 0 := by omega
    have w4 := hw.1.shire hs2
    intro x4 e4
    have e4 : x4 = nI (11 * s + 2) := by
      rw [e4]
      show nI s * nI 11 + nI 2 = _
      rw [pk_mul, nI_add, Nat.mul_comm]
    obtain ⟨a15, -⟩ := h4.1.1.2.1 s hs2
    have next : enB S.1 (runN S.1 b 1000 n).1 b (s + 1) = true → ∀ u : Int32, u = nI s + 1 → K (M4, u) := by
      intro y u eu
      rw [eu, nI_1]
      refine hK _ ⟨s + 1, by omega, rfl, y⟩ ?_
      show 12 - (nI (s + 1)).toNatClampNeg < 12 - (nI s).toNatClampNeg
      rw [nI_clamp (by omega), nI_clamp (by omega)]; omega
    have stp1 : (wn S.1 (S.1.2.1 0 s) (S.1.1 1) = b + 1 → (runN S.1 b 1000 n).1.2.1 6 (11 * s + 2) = S.1.2.1 6 (11 * s + 2)) → enB S.1 (runN S.1 b 1000 n).1 b (s + 1) = true := by
      intro y
      show (enB _ _ _ s && decide _) = true
      rw [hen, decide_eq_true y]; rfl
    rw [nI_clamp (show s < 2 ^ 31 by omega), a15]
    refine ⟨vp_in_nI (by omega) (by omega), tC_winner h4.1.2.1 n5 hw.1.bids w4 ?_⟩
    have hle := wn_le (A := S.1) (sh := S.1.2.1 0 s) (d := S.1.1 1)
    have ew : mI (wn S.1 (S.1.2.1 0 s) (S.1.1 1)) = nI b ↔ wn S.1 (S.1.2.1 0 s) (S.1.1 1) = b + 1 := by
      rw [eq_i, mI_t (by omega), nI_toInt (by omega)]; omega
    rw [ew]
    refine ⟨fun y => ⟨fun _ => next (stp1 (fun w => absurd w y)), fun w => absurd rfl w⟩, fun y => ⟨fun w => absurd w (by decide), fun _ => ?_⟩⟩
    have eR0 : (runN S.1 b 1000 n).1.1 0 = S.1.1 0 := by
      obtain ⟨yy, -⟩ := days_Y (tk := 0) (p := (mor S.1 b 1000, fun _ => nI (S.1.2.1 9 b + 1000))) (mor_pa hw.1 l1 (Nat.le_refl _)) n (by show (mor S.1 b 1000).2.1 26 0 + n ≤ 400; omega)
      exact congrFun yy.1 0
    have v1 := (g4.1.2.1 s (by rw [eR0]; exact hs2)).2.2.2.2.2.2 2 (by omega)
    · have v0 := (h4.1.1.2.1 s hs2).2.2.2.2.2.2 2 (by omega)
      have vi : vp_in (nI (11 * s + 2)) 132 := vp_in_nI (by omega) (by omega)
      rw [e4, nI_clamp (by omega), v1, v0, nI_grow run_ge (by have := run_le (s := s) hw.1 l1 (Nat.le_refl 1000) z; omega)]
      refine ⟨vi, vi, fun w => next (stp1 (fun _ => w)), fun w => ?_⟩
      rw [if_neg (fun t => ?_)] at kk
      · exact kk
      · exact w ((enB_iff _).mp t s hs2 y)
/-- whether so many more are enough -/
theorem tM_isEnough {M : Mem} {S : Sg} {b m n : Nat} {P : Int32 → Mem → Prop} (h : RMX M S) (hw : WfX S) (hl : LK S.1) (hb : b < S.1.1 1) (hm : m ≤ 1000) (hn2 : n ≤ 20) (hn : S.1.2.1 26 0 + n ≤ 400) (hp : ∀ M', sameC M M' → RMX M' S → P (bI (enB S.1 (runN S.1 b m n).1 b (S.1.1 0))) M') : s_X12_isEnough M (nI b) (nI n) (nI m) P := by
  have n5 : S.1.1 1 ≤ 5 := hw.1.2.1
  have n12 : S.1.1 0 ≤ 12 := hw.1.1
  have n16 : S.1.1 2 ≤ 16 := hw.1.2.2.1
  unfold s_X12_isEnough
  refine tM_begin (fun M1 b1 b2 b3 => ?_)
  have g1 : RM 44 M1 S.1 := h.1.fr (fun c hc => by rw [b1 c (by omega)])
  have e70 : (70 : Int32) + nI b = nI (70 + b) := nI_add 70 b
  have v70 : vp_in (nI (70 + b)) 320 := vp_in_nI (by omega) (by omega)
  rw [e70, nI_clamp (by omega), (g1.2.1.2 b hb).2.2.1, nI_add]
  refine ⟨v70, v70, fun M2 m2 => ?_⟩
  have c2 : ∀ c, c ≠ 44 → c ≠ 46 → M2.1 c = M.1 c := fun c a d => by rw [m2, wI_cc a]; exact b1 c d
  have k2 : ∀ j, j < 320 → M2.1 46 0 j = M.1 44 0 j := fun j hj => by rw [m2, wI_cc (by omega)]; exact b3 j hj
  have o2 : M2.2 = M.2 := by rw [m2]; exact b2
  have g2 : RM 44 M2 (runN S.1 b m 0).1 := by rw [m2]; exact g1.bot n12 n5 n16 hb
  have f2 : RMf M2 (runN S.1 b m 0).1 := by
    refine RMf_X (smX.u9 (A := S.1) (j := b)) ?_
    obtain ⟨fd, f1, f2, f3⟩ := h.2.2.2.1
    refine ⟨fd, by rw [c2 10 (by omega) (by omega)]; exact f1, f2, fun z p sh hp3 hsh => ?_⟩
    rw [c2 66 (by omega) (by omega)]; exact f3 z p sh hp3 hsh
  have d26 : (mor S.1 b m).2.1 26 0 = S.1.2.1 26 0 := by unfold mor; rw [aU_ne (by omega)]
  have hlm : LK (mor S.1 b m) := LK_X smX.u9 hl
  have DY := fun k hk => days_Y (tk := 0) (p := (mor S.1 b m, fun _ => nI (S.1.2.1 9 b + m))) (mor_pa hw.1 hb hm) k hk
  refine Lz_rule (fun a => ∃ t, t ≤ n ∧ a.2 = nI t ∧ eqQ M2 a.1 ∧ RM 44 a.1 (runN S.1 b m t).1 ∧ RMf a.1 (runN S.1 b m t).1) (fun a => n - a.2.toNatClampNeg) ?_ ⟨0, Nat.zero_le _, rfl, eqQ.rf, g2, f2⟩
  rintro K ⟨M3, y⟩ ⟨t, htn, e, r3, g3, f3⟩ hK
  dsimp only at e r3 g3 f3
  show s_X12_isEnough_20 (nI b) (nI n) P K M3 y
  unfold s_X12_isEnough_20
  obtain ⟨y1, y2, y3⟩ := DY t (show (mor S.1 b m).2.1 26 0 + t ≤ 400 by omega)
  rw [e, nI_leI (by omega) (by omega)]
  refine ⟨fun q => ?_, fun q => ?_⟩
  · have : n = t := by omega
    subst this
    have y1' : smY (mor S.1 b m) (runN S.1 b m n).1 := y1
    have e0 : (runN S.1 b m n).1.1 0 = S.1.1 0 := congrFun y1'.1 0
    have e1 : (runN S.1 b m n).1.1 1 = S.1.1 1 := congrFun y1'.1 1
    have esh : (runN S.1 b m n).1.2.1 0 = S.1.2.1 0 := by rw [y1'.2.2.1 0 (by omega) (by omega) (by omega)]; unfold mor; rw [aU_ne (by omega)]
    have e11 : (runN S.1 b m n).1.2.1 11 = S.1.2.1 11 := by rw [y1'.2.2.1 11 (by omega) (by omega) (by omega)]; unfold mor; rw [aU_ne (by omega)]
    have ewn : ∀ sh k, wn (runN S.1 b m n).1 sh k = wn S.1 sh k := by
      intro sh k
      induction k with
      | zero => rfl
      | succ k ik => rw [wn_s, wn_s, ik, e11]
    have hbo : bidsOK (runN S.1 b m n).1 := y3.2.1
    refine Lz_rule (fun a => ∃ s, s ≤ S.1.1 0 ∧ a = (M3, bI (enB S.1 (runN S.1 b m n).1 b s), nI s)) (fun a => 12 - a.2.2.toNatClampNeg) ?_ ⟨0, Nat.zero_le _, rfl⟩
    rintro K2 a ⟨s, hs, rfl⟩ hK2
    show s_X12_isEnough_42 (nI b) P K2 M3 (bI (enB S.1 (runN S.1 b m n).1 b s)) (nI s)
    unfold s_X12_isEnough_42
    rw [g3.1.1, e0, nI_leI (by omega) (by omega)]
    refine ⟨fun z => tM_comeBack (fun M5 a1 a2 a3 => ⟨bI_B _, ?_⟩), fun z => ?_⟩
    · have es : S.1.1 0 = s := by omega
      rw [← es]
      have cc : ∀ c, ¬ (c = 10 ∨ c = 44 ∨ c = 46 ∨ (64 ≤ c ∧ c ≤ 68)) → M5.1 c = M.1 c := fun c hc => by rw [a1 c (by omega), r3.1 c (by omega), c2 c (by omega) (by omega)]
      have o5 : M5.2 = M.2 := by rw [a2]; exact r3.2.2.trans o2
      refine hp M5 ⟨fun c hc => cc c (by unfold cK at hc; omega), fun c _ => by rw [o5], by rw [o5]⟩ ?_
      have g5 : RM 44 M5 S.1 := h.1.mv n12 n5 n16 (fun j hj => by rw [a3 j hj, r3.1 46 (by omega)]; exact k2 j hj) (fun c a b => by rw [cc c (by omega)])
      have f5 : RMf M5 S.1 := by
        have : RMf M5 (runN S.1 b m n).1 := by
          obtain ⟨fd, q1, q2, q3⟩ := f3
          refine ⟨fd, by rw [a1 10 (by omega)]; exact q1, q2, fun z p sh hp3 hsh => ?_⟩
          rw [a1 66 (by omega)]; exact q3 z p sh hp3 hsh
        refine RMf_K (A := (runN S.1 b m n).1) (B := S.1) (congrFun y1'.1 2).symm (fun c a b' => ?_) this
        rw [y1'.2.2.1 c (by omega) (by omega) (by omega)]
        unfold mor
        rw [aU_ne (by omega)]
      exact h.now (A := S.1) g5 f5 (fun B _ hB => hB.fr (fun c hc => by rw [cc c (by omega)])) (by rw [a1 10 (by omega), r3.2.1 0 4 (by omega), c2 10 (by omega) (by omega)]) (by rw [a1 10 (by omega), r3.2.1 0 22 (by omega), c2 10 (by omega) (by omega)]) (fun c a b => by rw [cc c (by omega)]) (by rw [o5])
    · have hs2 : s < S.1.1 0 := by omega
      have w4 := hw.1.shire hs2
      have next : ∀ (v : Int32), v = bI (enB S.1 (runN S.1 b m n).1 b (s + 1)) → s_X12_isEnough_113 (nI b) P K2 M3 (nI s) v := by
        intro v ev u eu
        rw [ev, eu, nI_1]
        refine hK2 _ ⟨s + 1, by omega, rfl⟩ ?_
        show 12 - (nI (s + 1)).toNatClampNeg < 12 - (nI s).toNatClampNeg
        rw [nI_clamp (by omega), nI_clamp (by omega)]; omega
      have es1 : enB S.1 (runN S.1 b m n).1 b (s + 1) = (enB S.1 (runN S.1 b m n).1 b s && decide (wn S.1 (S.1.2.1 0 s) (S.1.1 1) = b + 1 → (runN S.1 b m n).1.2.1 6 (11 * s + 2) = S.1.2.1 6 (11 * s + 2))) := rfl
      rw [bI_0]
      refine ⟨fun z2 => next 0 (by rw [es1, z2]; rfl), fun z2 => ?_⟩
      have z3 : enB S.1 (runN S.1 b m n).1 b s = true := by simpa using z2
      obtain ⟨a47, -⟩ := g3.1.2 s (by rw [e0]; exact hs2)
      rw [nI_clamp (show s < 2 ^ 31 by omega), a47, esh]
      refine ⟨vp_in_nI (by omega) (by omega), tM_wonBy g3.2.1 (by rw [e1]; exact n5) hbo w4 ?_⟩
      rw [e1, ewn]
      have hle := wn_le (A := S.1) (sh := S.1.2.1 0 s) (d := S.1.1 1)
      have ew : noI (wn S.1 (S.1.2.1 0 s) (S.1.1 1)) = nI b ↔ wn S.1 (S.1.2.1 0 s) (S.1.1 1) = b + 1 := by
        rw [eq_i, noI_t (by omega), nI_toInt (by omega)]; split <;> omega
      rw [ew]
      have ead : 180 + 11 * nI s + 2 = nI (180 + (11 * s + 2)) := by
        show nI 180 + nI 11 * nI s + nI 2 = _
        rw [pk_mul, nI_add, nI_add, Nat.add_assoc]
      have vi : vp_in (nI (180 + (11 * s + 2))) 320 := vp_in_nI (by omega) (by omega)
      have e46 : M3.1 46 0 (180 + (11 * s + 2)) = nI (S.1.2.1 6 (11 * s + 2)) := by
        rw [r3.1 46 (by omega), k2 _ (by omega)]
        exact (h.1.1.2 s hs2).2.2.2.2.2.2 2 (by omega)
      rw [ead, nI_clamp (by omega), (g3.1.2 s (by rw [e0]; exact hs2)).2.2.2.2.2.2 2 (by omega), e46, nI_grow run_ge (by have := run_le (s := s) hw.1 hb hm hn; omega)]
      refine ⟨fun w => next 1 ?_, fun w => ⟨vi, vi, fun t => next 0 ?_, fun t => next 1 ?_⟩⟩
      · rw [es1, z3, decide_eq_true (fun w2 => absurd w2 w)]; rfl
      · rw [es1, z3, decide_eq_false (fun f => t (f w))]; rfl
      · rw [es1, z3, decide_eq_true (fun _ => t)]; rfl
  · refine tM_pass (tk := 0) (lw := (runN S.1 b m t).2) g3 f3 y3 (smY_LK y1 hlm) (by omega) (by rw [r3.2.1 0 22 (by omega), c2 10 (by omega) (by omega)]; exact h.2.2.2.2) (fun M4 r4 g4 f4 u eu => ?_)
    rw [eu, nI_1]
    refine hK _ ⟨t + 1, by omega, rfl, r3.tr r4, g4, f4⟩ ?_
    show n - (nI (t + 1)).toNatClampNeg < n - y.toNatClampNeg
    rw [e, nI_clamp (by omega), nI_clamp (by omega)]; omega
theorem tM_bought {M : Mem} {S : Sg} {x1 x2 : Int32} {P : Int32 → Mem → Prop} (h : RMX M S) (hw : WfX S) (hl : LK S.1) (hp : ∀ M', sameC M M' → RMX M' S → P (sp_bought S x1 x2) M') : s_X12_bought M x1 x2 P := by
  unfold s_X12_bought
  intro M1 m1
  have h1 : RMX M1 S := by rw [m1]; exact h.thrown
  replace hp : ∀ M', sameC M1 M' → RMX M' S → P (sp_bought S x1 x2) M' := fun M' a b => hp M' (sameC.tr (by rw [m1]; exact sC10) a) b
  have n5 : S.1.1 1 ≤ 5 := hw.1.2.1
  have hday : S.1.2.1 26 0 ≤ 400 := hw.1.2.2.2.2.2.1
  have bad : ∀ v, sp_bought S x1 x2 = v → P v M1 := fun v hb => by
    have := hp M1 sameC.rf h1
    rw [hb] at this
    exact this
  refine t_isDairy h1.1.2.1.1 (by omega) (fun g1 => c1 ?_) (fun g1 => c0 (bad _ (by unfold sp_bought; rw [if_neg g1])))
  refine tM_wrong (n := 20) (by decide) (by omega) h1.1.2.2.1.1 hday (fun g2 z => ⟨fun _ => ?_, fun q => absurd (by decide) q⟩) (fun g2 z => ⟨fun q => absurd q (by decide), fun _ => bad _ (by unfold sp_bought; rw [if_pos g1, if_pos g2, if_neg z])⟩) (fun g2 => ⟨fun q => absurd q (by decide), fun _ => bad _ (by unfold sp_bought; rw [if_pos g1, if_neg g2])⟩)
  have es0 : sp_bought S x1 x2 = boN S.1 (ix x1) (ix x2) := by unfold sp_bought; rw [if_pos g1, if_pos g2, if_pos z]
  rw [es0] at hp
  have hr := rn_rg g2
  have hl2 := rg_lt hr
  have l1 := rg_lt g1
  have ex2 := rg_nI hr (by omega)
  have ex1 := rg_nI g1 (by omega)
  generalize ix x2 = n at *
  generalize ix x1 = b at *
  rw [ex1, ex2]
  have EN := fun m hm => en_iff (b := b) (m := m) (n := n) hw.1 l1 hm z
  obtain ⟨lo, o1, o2, -⟩ := EN 0 (by omega)
  have iff : ∀ m, m ≤ 1000 → (enB S.1 (runN S.1 b m n).1 b (S.1.1 0) = true ↔ (1000 ≤ m + lo ∧ enB S.1 (runN S.1 b 1000 n).1 b (S.1.1 0) = true)) := by
    intro m hm
    obtain ⟨lo', p1, p2, p3⟩ := EN m hm
    have : lo' = lo := by
      rw [o1] at p1
      exact ((nI_eq (by omega) (by omega)).mp p1).symm
    rw [this] at p3
    rw [enB_iff, enB_iff]
    exact p3
  have fin : boN S.1 b n = (if enB S.1 (runN S.1 b 1000 n).1 b (S.1.1 0) = true then nI (1000 - lo) else -4) := by
    unfold boN
    rw [o1, ix_nI (by omega)]
  rw [fin] at hp
  refine tM_isEnough (m := 0) h1 hw hl l1 (by omega) (by omega) z (fun M2 r2 h2 => ?_)
  rw [bI_0]
  refine ⟨fun y => ?_, fun y => ?_⟩
  · have y' : ¬ enB S.1 (runN S.1 b 0 n).1 b (S.1.1 0) = true := by rw [y]; decide
    rw [iff 0 (by omega)] at y'
    refine tM_isEnough (m := 1000) h2 hw hl l1 (by omega) (by omega) z (fun M3 r3 h3 => ?_)
    rw [bI_0]
    refine ⟨fun w => ?_, fun w => ?_⟩
    · have w' : enB S.1 (runN S.1 b 1000 n).1 b (S.1.1 0) = true := by simpa using w
      rw [if_pos w'] at hp
      have lo2 : lo < 1000 := Nat.not_le.mp (fun q => y' ⟨by omega, w'⟩)
      refine Lz_rule (fun a => ∃ l hi, l < hi ∧ hi ≤ 1000 ∧ l + lo < 1000 ∧ 1000 ≤ hi + lo ∧ a.2.1 = nI l ∧ a.2.2 = nI hi ∧ sameC M1 a.1 ∧ RMX a.1 S) (fun a => a.2.2.toNatClampNeg - a.2.1.toNatClampNeg) ?_ ⟨0, 1000, by omega, by omega, by omega, by omega, rfl, rfl, r2.tr r3, h3⟩
      rintro K ⟨M4, x4, x5⟩ ⟨l, hi, c1, c2, c3, c4, e4, e5, r4, h4⟩ hK
      dsimp only at e4 e5 r4 h4
      show s_X12_bought_64 (nI b) (nI n) P K M4 x4 x5
      unfold s_X12_bought_64
      rw [e4, e5, nI_1, nI_leI (by omega) (by omega)]
      refine ⟨fun q => ?_, fun q x6 e6 => ?_⟩
      · have : hi = 1000 - lo := by omega
        rw [this]
        exact hp M4 r4 h4
      · have ediv : nI (l + hi) / 2 = nI ((l + hi) / 2) := pk_div (d := 2) (by omega) (by omega) (by omega)
        rw [nI_add, ediv] at e6
        rw [e6]
        refine tM_isEnough (m := (l + hi) / 2) h4 hw hl l1 (by omega) (by omega) z (fun M5 r5 h5 => ?_)
        have ii := iff ((l + hi) / 2) (by omega)
        rw [bI_0]
        refine ⟨fun t => hK _ ⟨(l + hi) / 2, hi, by omega, c2, ?_, c4, rfl, rfl, r4.tr r5, h5⟩ ?_, fun t => hK _ ⟨l, (l + hi) / 2, by omega, by omega, c3, ?_, rfl, rfl, r4.tr r5, h5⟩ ?_⟩
        · have t' : ¬ enB S.1 (runN S.1 b ((l + hi) / 2) n).1 b (S.1.1 0) = true := by rw [t]; decide
          exact Nat.not_le.mp (fun q2 => t' (ii.mpr ⟨q2, w'⟩))
        · show (nI hi).toNatClampNeg - (nI ((l + hi) / 2)).toNatClampNeg < x5.toNatClampNeg - x4.toNatClampNeg
          rw [e4, e5, nI_clamp (by omega), nI_clamp (by omega), nI_clamp (by omega)]; omega
        · have t' : enB S.1 (runN S.1 b ((l + hi) / 2) n).1 b (S.1.1 0) = true := by simpa using t
          exact (ii.mp t').1
        · show (nI ((l + hi) / 2)).toNatClampNeg - (nI l).toNatClampNeg < x5.toNatClampNeg - x4.toNatClampNeg
          rw [e4, e5, nI_clamp (by omega), nI_clamp (by omega), nI_clamp (by omega)]; omega
    · have kk := hp M3 (r2.tr r3) h3
      rw [if_neg (by rw [w]; decide)] at kk
      exact kk
  · have y' : enB S.1 (runN S.1 b 0 n).1 b (S.1.1 0) = true := by simpa using y
    have := (iff 0 (by omega)).mp y'
    have kk := hp M2 r2 h2
    rw [if_pos this.2, show 1000 - lo = 0 by omega] at kk
    exact kk
