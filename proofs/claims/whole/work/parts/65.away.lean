/-! TAKEN AWAY -/
theorem i_cancel (b x y : Int32) : (b + x) - (b + y) = x - y := by grind
theorem sm_mono {A B : Abs} (h : ∀ j, A.2.1 6 j ≤ B.2.1 6 j) (k : Nat) : ∀ s, sm A k s ≤ sm B k s := by
  intro s
  induction s with
  | zero => exact Nat.le_refl _
  | succ s ih =>
    show sm A k s + A.2.1 6 (11 * s + k) ≤ sm B k s + B.2.1 6 (11 * s + k)
    have := h (11 * s + k)
    omega
theorem adS_le {A : Abs} {s k v j : Nat} : A.2.1 6 j ≤ (adS A s k v).2.1 6 j := by
  unfold adS
  rw [aU_at]
  by_cases q : 6 = 6 ∧ j = 11 * s + k
  · rw [if_pos q, q.2]; exact Nat.le_add_right _ _
  · rw [if_neg q]; exact Nat.le_refl _
theorem srv_le {tk : Nat} {T : Tr} {s j : Nat} : T.1.2.1 6 j ≤ (srv tk T s).1.2.1 6 j := by
  have e : (sndA T.1 (by_ T s) (cmN T s tk)).2.1 6 = T.1.2.1 6 := by
    unfold sndA
    split
    · rfl
    · exact aU_ne (by omega)
  show _ ≤ (hnd _ _ _ _ _).2.1 6 j
  rw [← e]
  unfold hnd hnd1 hnd0
  exact Nat.le_trans adS_le (Nat.le_trans adS_le (Nat.le_trans adS_le (Nat.le_trans adS_le (Nat.le_trans adS_le (Nat.le_trans adS_le (Nat.le_trans adS_le (Nat.le_trans adS_le (Nat.le_trans adS_le (Nat.le_trans adS_le adS_le)))))))))
theorem srvs_le {tk : Nat} {T : Tr} {j : Nat} : ∀ s, T.1.2.1 6 j ≤ (srvs tk T s).1.2.1 6 j := by
  intro s
  induction s with
  | zero => exact Nat.le_refl _
  | succ s ih => exact Nat.le_trans ih srv_le
theorem day1_le {tk : Nat} {p : Abs × (Nat → Int32)} {j : Nat} : p.1.2.1 6 j ≤ (day1 tk p).1.2.1 6 j := by
  unfold day1
  split
  · show _ ≤ (nxA (clA _ _)).2.1 6 j
    rw [nxA_ne (by omega), clA_ne (by omega)]
    exact srvs_le (T := opn p.1 p.2) _
  · show _ ≤ (nxA p.1).2.1 6 j
    rw [nxA_ne (by omega)]
    exact Nat.le_refl _
theorem days_le {tk : Nat} {p : Abs × (Nat → Int32)} {j : Nat} : ∀ n, p.1.2.1 6 j ≤ (days tk p n).1.2.1 6 j := by
  intro n
  induction n with
  | zero => exact Nat.le_refl _
  | succ n ih => exact Nat.le_trans ih day1_le
/-- world 2 is only in mind -/
theorem RCX.mind {M M' : Mem} {S : Sg} (h : RCX M S) (e : ∀ c i, i ≠ 2 → M'.1 c i = M.1 c i) (e7 : M'.1 7 = M.1 7) (e39 : M'.1 39 = M.1 39) (ea : ∀ c, c = 1000 ∨ c = 1001 → M'.1 c = M.1 c) (eo : ∀ c i, ¬ (c = 1 ∧ i = 2) → M'.2.2 c i = M.2.2 c i) : RCX M' S := by
  have key : ∀ w A, w ≠ 2 → RC w M A → RC w M' A := by
    intro w A hw hA
    refine ⟨hA.1.fr (fun c hc => e c w hw), hA.2.1.fr (fun c hc => e c w hw), hA.2.2.1.fr (by rw [e 1 w hw]) (e 12 w hw), hA.2.2.2.1.fr (fun c hc => e c w hw), hA.2.2.2.2.1.fr (fun c hc => e c w hw), ?_⟩
    have ha := hA.2.2.2.2.2
    unfold RCa at ha ⊢
    rw [e 5 w hw, e 35 w hw, ea 1000 (by omega), ea 1001 (by omega), eo 1 w (by omega), eo 2 0 (by omega), eo 3 0 (by omega)]
    exact ha
  exact ⟨key 0 _ (by omega) h.1, h.2.1.fr (by rw [e 0 0 (by omega)]) (fun B _ hB => key 1 B (by omega) hB), h.2.2.fr (fun d => by rw [e7]) (fun d => by rw [e39])⟩
theorem tC_mind {M : Mem} {S : Sg} {P : Mem → Prop} (h : RCX M S) (hw : WfX S) (hp : ∀ M', sameM M M' → RCX M' S → RC 2 M' S.1 → P M') : s_X10_copyFrom 2 0 M P := by
  obtain ⟨w0, w1, w2, w3, w4, -⟩ := hw.1
  refine tC_copyFrom (by omega) h.1.2.2.2.2.2.2.2 (fun Ma ha ta => ?_)
  have kK : ∀ c, ¬ (c = 1 ∨ pK c) → Ma.1 c = M.1 c := fun c hc => by
    funext i j
    by_cases z : i = 2
    · rw [z, ha.2.1 c j, LW_o hc, if_neg (by omega)]
    · rw [ha.1 c i z]
  refine hp Ma ⟨fun c hc => kK c (fun q => hc (by unfold pK at q; unfold cK; omega)), ha.2.2⟩ (h.mind ha.1 (kK 7 (by unfold pK; omega)) (kK 39 (by unfold pK; omega)) (fun c hc => kK c (by unfold pK; omega)) ta.1) ?_
  refine h.1.mv w0 w1 w2 w3 w4 (fun c j hj => ?_) (fun c hc => kK c (by unfold pK; omega)) (fun j hj => ?_) (by rw [ta.1 2 0 (by omega)]) (ta.1 3 0 (by omega))
  · rw [ha.2.1 c j, if_pos hj]
  · rw [ta.2 j, if_pos hj]
theorem eqP.mind {M M' : Mem} {S : Sg} (e : eqP 2 M M') (h : RCX M S) : RCX M' S := h.mind e.2.1 (e.1 7 (by omega)) (e.1 39 (by omega)) (fun c hc => e.1 c (by omega)) (fun c i _ => by rw [e.2.2])
theorem eqP.sameM {w : Nat} {M M' : Mem} (e : eqP w M M') : sameM M M' := ⟨fun c hc => e.1 c (by unfold cK at hc; omega), by rw [e.2.2]⟩
def awK (x : Int32) : Nat := if x = 0 then 5 else if x = 1 then 10 else 8
def awN (A : Abs) (age n k : Nat) : Int32 := nI (sm (goA A n 0) k (A.1 0)) - nI (sm (goA A n (age + 1)) k (A.1 0))
def sp_away (S : Sg) (x1 x2 x3 : Int32) : Int32 := if rg x1 3 ∧ rn x2 60 ∧ rg x3 3 then (if S.1.2.1 26 0 + ix x2 ≤ 400 then awN S.1 (ix x1) (ix x2) (awK x3) else -1000000002) else -1000000001
theorem tC_ahead {M : Mem} {S : Sg} {n tk k : Nat} {P : Int32 → Mem → Prop} (h : RCX M S) (hw : WfX S) (hn : S.1.2.1 26 0 + n ≤ 400) (htk : tk ≤ 3) (hk : k < 11) (hp : ∀ M', sameM M M' → RCX M' S → P (nI (sm (goA S.1 n tk) k (S.1.1 0))) M') : s_X10_copyFrom 2 0 M (fun Mm79 => s_X10_passDays 2 Mm79 (nI n) (mI tk) (fun Mm88 => s_X8_all 2 Mm88 (nI k) P)) := by
  refine tC_mind h hw (fun M1 r1 h1 g1 => ?_)
  refine tC_passDays (lw := fun d => M1.1 28 2 d) g1 hw.1.pa (fun d _ => rfl) htk hn (fun M2 r2 g2 _ => ?_)
  obtain ⟨y1, -⟩ := days_Y (tk := tk) (p := (S.1, fun d => M1.1 28 2 d)) hw.1.pa n hn
  have eg : goA S.1 n tk = (days tk (S.1, fun d => M1.1 28 2 d) n).1 := ds_lw n _ _
  have e0 : (days tk (S.1, fun d => M1.1 28 2 d) n).1.1 0 = S.1.1 0 := by rw [y1.1]
  refine tC_all g2.1 (by rw [e0]; exact hw.1.1) hk ?_
  rw [e0, ← eg]
  exact hp M2 (r1.tr r2.sameM) (r2.mind h1)
theorem tC_away {M : Mem} {S : Sg} {x1 x2 x3 : Int32} {P : Int32 → Mem → Prop} (h : RCX M S) (hw : WfX S) (hp : ∀ M', sameM M M' → RCX M' S → P (sp_away S x1 x2 x3) M') : s_X11_away M x1 x2 x3 P := by
  unfold s_X11_away
  have hday : S.1.2.1 26 0 ≤ 400 := hw.1.2.2.2.2.2.1
  have bad : ∀ v, sp_away S x1 x2 x3 = v → P v M := fun v hb => by
    have := hp M sameM.rf h
    rw [hb] at this
    exact this
  refine t_within (by decide) (n := 3) (by decide) (fun g1 => b1 ?_) (fun g1 => b0 (bad _ (by unfold sp_away; rw [if_neg (fun q => g1 q.1)])))
  refine t_within_n (n := 60) (by decide) (fun g2 => b1 ?_) (fun g2 => b0 (bad _ (by unfold sp_away; rw [if_neg (fun q => g2 q.2.1)])))
  refine t_within (by decide) (n := 3) (by decide) (fun g3 => c1 ?_) (fun g3 => c0 (bad _ (by unfold sp_away; rw [if_neg (fun q => g3 q.2.2)])))
  have es0 : sp_away S x1 x2 x3 = (if S.1.2.1 26 0 + ix x2 ≤ 400 then awN S.1 (ix x1) (ix x2) (awK x3) else -1000000002) := if_pos ⟨g1, g2, g3⟩
  have hr := rn_rg g2
  have hl2 := rg_lt hr
  have l1 := rg_lt g1
  have e2 : nI (S.1.2.1 26 0) + x2 = nI (S.1.2.1 26 0 + ix x2) := by
    conv => lhs; rw [rg_nI hr (by omega)]
    exact nI_add _ _
  rw [h.1.2.2.1.1, e2, le400 (by omega)]
  refine ⟨fun z => ?_, fun z => bad _ (by rw [es0, if_neg z])⟩
  rw [if_pos z] at es0
  rw [es0] at hp
  have ex2 := rg_nI hr (by omega)
  have ex1 : x1 = mI (ix x1 + 1) := by rw [mI_s]; exact rg_nI g1 (by omega)
  generalize ix x2 = n at *
  generalize ix x1 = age at *
  have main : ∀ k : Nat, k < 11 → awK x3 = k → s_X11_away_69 x1 x2 P M (nI k) := by
    intro k hk ek
    unfold s_X11_away_69
    rw [ek] at hp
    rw [ex1, ex2]
    refine tC_ahead (tk := 0) h hw z (by omega) hk (fun M1 r1 h1 => ?_)
    exact tC_ahead (tk := age + 1) h1 hw z (by omega) hk (fun M2 r2 h2 => hp M2 (r1.tr r2) h2)
  exact ⟨fun q0 => ⟨fun q1 => main 8 (by omega) (by unfold awK; rw [if_neg q0, if_neg q1]), fun q1 => main 10 (by omega) (by unfold awK; rw [if_neg q0, if_pos q1])⟩, fun q0 => main 5 (by omega) (by unfold awK; rw [if_pos q0])⟩
/-- what the sums grow by -/
def smD (A B : Abs) (k : Nat) : Nat → Nat
  | 0 => 0
  | s + 1 => smD A B k s + (B.2.1 6 (11 * s + k) - A.2.1 6 (11 * s + k))
theorem smD_eq {A B : Abs} (h : ∀ j, A.2.1 6 j ≤ B.2.1 6 j) (k : Nat) : ∀ s, sm A k s + smD A B k s = sm B k s := by
  intro s
  induction s with
  | zero => rfl
  | succ s ih =>
    show sm A k s + A.2.1 6 (11 * s + k) + (smD A B k s + (B.2.1 6 (11 * s + k) - A.2.1 6 (11 * s + k))) = sm B k s + B.2.1 6 (11 * s + k)
    have := h (11 * s + k)
    omega
/-- behind a course in mind all is as it was -/
theorem RMX.back {M M' : Mem} {S : Sg} {A : Abs} (h : RMX M S) (hw : WfX S) (e : ∀ c, ¬ (c = 10 ∨ c = 44 ∨ c = 46 ∨ (64 ≤ c ∧ c ≤ 68)) → M'.1 c = M.1 c) (e44 : ∀ j, j < 320 → M'.1 44 0 j = M.1 44 0 j) (e4 : M'.1 10 0 4 = M.1 10 0 4) (e22 : M'.1 10 0 22 = -1) (eo : M'.2 = M.2) (hf : RMf M' A) (y : smY S.1 A) : RMX M' S := by
  have g : RM 44 M' S.1 := h.1.mv hw.1.1 hw.1.2.1 hw.1.2.2.1 e44 (fun c a b => by rw [e c (by omega)])
  have f : RMf M' S.1 := RMf_K (A := A) (B := S.1) (by rw [y.1]) (fun c a b => (y.2.2.1 c (by omega) (by omega) (by omega)).symm) hf
  exact h.now (A := S.1) g f (fun B _ hB => hB.fr (fun c hc => by rw [e c (by omega)])) e4 (e22.trans h.2.2.2.2.symm) (fun c a b => by rw [e c (by omega)]) (by rw [eo])
theorem tM_sumAhead {M : Mem} {S : Sg} {n tk k : Nat} {P : Int32 → Mem → Prop} (h : RMX M S) (hw : WfX S) (hl : LK S.1) (hn : S.1.2.1 26 0 + n ≤ 400) (htk : tk ≤ 3) (hk : k < 11) (hp : ∀ M', sameC M M' → RMX M' S → P (nI (smD S.1 (goA S.1 n tk) k (S.1.1 0))) M') : s_X12_sumAhead M (nI n) (nI k) (mI tk) P := by
  have n12 := hw.1.1
  unfold s_X12_sumAhead
  refine tM_begin (fun M1 b1 b2 b3 M2 m2 => ?_)
  have c2 : ∀ c, c ≠ 10 → c ≠ 46 → M2.1 c = M.1 c := fun c a b => by rw [m2, wI_cc a]; exact b1 c b
  have j2 : ∀ i j, ¬ (i = 0 ∧ j = 22) → M2.1 10 i j = M.1 10 i j := fun i j hj => by rw [m2, wI_at, if_neg (fun x => hj x.2), b1 10 (by omega)]
  have e222 : M2.1 10 0 22 = mI tk := by rw [m2, wI_at, if_pos ⟨rfl, rfl, rfl⟩]
  have k2 : ∀ j, j < 320 → M2.1 46 0 j = M.1 44 0 j := fun j hj => by rw [m2, wI_cc (by omega)]; exact b3 j hj
  have o2 : M2.2 = M.2 := by rw [m2]; exact b2
  have g2 : RM 44 M2 (goA S.1 0 tk) := h.1.fr (fun c hc => by rw [c2 c (by omega) (by omega)])
  have f2 : RMf M2 (goA S.1 0 tk) := by
    obtain ⟨fd, f1, f2, f3⟩ := h.2.2.2.1
    refine ⟨fd, by rw [j2 0 37 (by omega)]; exact f1, f2, fun z p sh hp3 hsh => ?_⟩
    rw [c2 66 (by omega) (by omega)]; exact f3 z p sh hp3 hsh
  have DY := fun k hk => days_Y (tk := tk) (p := (S.1, fun _ => (0 : Int32))) hw.1.pa k hk
  refine Lz_rule (fun a => ∃ t, t ≤ n ∧ a.2 = nI t ∧ eqQ M2 a.1 ∧ RM 44 a.1 (goA S.1 t tk) ∧ RMf a.1 (goA S.1 t tk)) (fun a => n - a.2.toNatClampNeg) ?_ ⟨0, Nat.zero_le _, rfl, eqQ.rf, g2, f2⟩
  rintro K ⟨M3, y⟩ ⟨t, htn, e, r3, g3, f3⟩ hK
  dsimp only at e r3 g3 f3
  show s_X12_sumAhead_12 (nI n) (nI k) P K M3 y
  unfold s_X12_sumAhead_12
  obtain ⟨y1, y2, y3⟩ := DY t (show S.1.2.1 26 0 + t ≤ 400 by omega)
  rw [e, nI_leI (by omega) (by omega)]
  refine ⟨fun q M4 m4 => ?_, fun q => ?_⟩
  · have : n = t := by omega
    subst this
    have c4 : ∀ c, c ≠ 10 → M4.1 c = M3.1 c := fun c a => by rw [m4, wI_cc a]
    have mono : ∀ j, S.1.2.1 6 j ≤ (goA S.1 n tk).2.1 6 j := fun j => days_le (p := (S.1, fun _ => 0)) n
    have e0 : (goA S.1 n tk).1 0 = S.1.1 0 := congrFun y1.1 0
    have g4 : RM 44 M4 (goA S.1 n tk) := g3.fr (fun c hc => by rw [c4 c (by omega)])
    refine Lz_rule (fun a => ∃ s, s ≤ S.1.1 0 ∧ a = (M4, nI (smD S.1 (goA S.1 n tk) k s), nI s)) (fun a => 12 - a.2.2.toNatClampNeg) ?_ ⟨0, Nat.zero_le _, rfl⟩
    rintro K2 a ⟨s, hs, rfl⟩ hK2
    show s_X12_sumAhead_39 (nI k) P K2 M4 (nI (smD S.1 (goA S.1 n tk) k s)) (nI s)
    unfold s_X12_sumAhead_39
    rw [g4.1.1, e0, nI_leI (by omega) (by omega)]
    refine ⟨fun z => tM_comeBack (fun M5 a1 a2 a3 => ?_), fun z => ?_⟩
    · have : S.1.1 0 = s := by omega
      rw [← this]
      have cc : ∀ c, ¬ (c = 10 ∨ c = 44 ∨ c = 46 ∨ (64 ≤ c ∧ c ≤ 68)) → M5.1 c = M.1 c := fun c hc => by rw [a1 c (by omega), c4 c (by omega), r3.1 c (by omega), c2 c (by omega) (by omega)]
      have o5 : M5.2 = M.2 := by rw [a2, m4]; exact r3.2.2.trans o2
      refine hp M5 ⟨fun c hc => cc c (by unfold cK at hc; omega), fun c _ => by rw [o5], by rw [o5]⟩ (h.back hw cc (fun j hj => ?_) ?_ ?_ o5 (A := goA S.1 n tk) ?_ y1)
      · rw [a3 j hj, c4 46 (by omega), r3.1 46 (by omega)]; exact k2 j hj
      · rw [a1 10 (by omega), m4, wI_at, if_neg (by omega), r3.2.1 0 4 (by omega), j2 0 4 (by omega)]
      · rw [a1 10 (by omega), m4, wI_at, if_pos ⟨rfl, rfl, rfl⟩]
      · obtain ⟨fd, q1, q2, q3⟩ := f3
        refine ⟨fd, by rw [a1 10 (by omega), m4, wI_at, if_neg (by omega)]; exact q1, q2, fun z p sh hp3 hsh => ?_⟩
        rw [a1 66 (by omega), c4 66 (by omega)]; exact q3 z p sh hp3 hsh
    · have ead : 180 + 11 * nI s + nI k = nI (180 + (11 * s + k)) := by
        show nI 180 + nI 11 * nI s + nI k = _
        rw [pk_mul, nI_add, nI_add, Nat.add_assoc]
      have vi : vp_in (nI (180 + (11 * s + k))) 320 := vp_in_nI (by omega) (by omega)
      have e46 : M4.1 46 0 (180 + (11 * s + k)) = nI (S.1.2.1 6 (11 * s + k)) := by
        rw [c4 46 (by omega), r3.1 46 (by omega), k2 _ (by omega)]
        exact (h.1.1.2 s (by omega)).2.2.2.2.2.2 k hk
      rw [ead, nI_clamp (by omega), (g4.1.2 s (by omega)).2.2.2.2.2.2 k hk, e46, pk_sub (mono _), nI_add]
      refine ⟨vi, vi, fun u eu v ev => ?_⟩
      rw [eu, ev, nI_1]
      refine hK2 _ ⟨s + 1, by omega, rfl⟩ ?_
      show 12 - (nI (s + 1)).toNatClampNeg < 12 - (nI s).toNatClampNeg
      rw [nI_clamp (by omega), nI_clamp (by omega)]; omega
  · refine tM_pass (tk := tk) (lw := (days tk (S.1, fun _ => 0) t).2) g3 f3 y3 (smY_LK y1 hl) htk (by rw [r3.2.1 0 22 (by omega)]; exact e222) (fun M4 r4 g4 f4 u eu => ?_)
    rw [eu, nI_1]
    refine hK _ ⟨t + 1, by omega, rfl, r3.tr r4, g4, f4⟩ ?_
    show n - (nI (t + 1)).toNatClampNeg < n - y.toNatClampNeg
    rw [e, nI_clamp (by omega), nI_clamp (by omega)]; omega
theorem tM_away {M : Mem} {S : Sg} {x1 x2 x3 : Int32} {P : Int32 → Mem → Prop} (h : RMX M S) (hw : WfX S) (hl : LK S.1) (hp : ∀ M', sameC M M' → RMX M' S → P (sp_away S x1 x2 x3) M') : s_X12_away M x1 x2 x3 P := by
  unfold s_X12_away
  intro M1 m1
  have h1 : RMX M1 S := by rw [m1]; exact h.thrown
  replace hp : ∀ M', sameC M1 M' → RMX M' S → P (sp_away S x1 x2 x3) M' := fun M' a b => hp M' (sameC.tr (by rw [m1]; exact sC10) a) b
  have hday : S.1.2.1 26 0 ≤ 400 := hw.1.2.2.2.2.2.1
  have bad : ∀ v, sp_away S x1 x2 x3 = v → P v M1 := fun v hb => by
    have := hp M1 sameC.rf h1
    rw [hb] at this
    exact this
  refine t_isAge (fun g1 => b1 ?_) (fun g1 => b0 (bad _ (by unfold sp_away; rw [if_neg (fun q => g1 q.1)])))
  refine t_in (by decide) (n := 3) (by decide) (fun g3 => b1 ?_) (fun g3 => b0 (bad _ (by unfold sp_away; rw [if_neg (fun q => g3 q.2.2)])))
  refine t_in_n (n := 60) (by decide) (fun g2 => c1 ?_) (fun g2 => c0 (bad _ (by unfold sp_away; rw [if_neg (fun q => g2 q.2.1)])))
  have es0 : sp_away S x1 x2 x3 = (if S.1.2.1 26 0 + ix x2 ≤ 400 then awN S.1 (ix x1) (ix x2) (awK x3) else -1000000002) := if_pos ⟨g1, g2, g3⟩
  have hr := rn_rg g2
  have hl2 := rg_lt hr
  have l1 := rg_lt g1
  have e2 : nI (S.1.2.1 26 0) + x2 = nI (S.1.2.1 26 0 + ix x2) := by
    conv => lhs; rw [rg_nI hr (by omega)]
    exact nI_add _ _
  rw [h1.1.2.2.1.1, e2, le400 (by omega)]
  refine ⟨fun z => ?_, fun z => bad _ (by rw [es0, if_neg z])⟩
  rw [if_pos z] at es0
  rw [es0] at hp
  have ex2 := rg_nI hr (by omega)
  have ex1 : x1 = mI (ix x1 + 1) := by rw [mI_s]; exact rg_nI g1 (by omega)
  generalize ix x2 = n at *
  generalize ix x1 = age at *
  have main : ∀ k : Nat, k < 11 → awK x3 = k → s_X12_away_73 x1 x2 P M1 (nI k) := by
    intro k hk ek
    unfold s_X12_away_73
    rw [ek] at hp
    rw [ex1, ex2]
    refine tM_sumAhead (tk := 0) h1 hw hl z (by omega) hk (fun M2 r2 h2 => ?_)
    refine tM_sumAhead (tk := age + 1) h2 hw hl z (by omega) hk (fun M3 r3 h3 => ?_)
    have kk := hp M3 (r2.tr r3) h3
    unfold awN at kk
    have d0 := smD_eq (A := S.1) (B := goA S.1 n 0) (fun j => days_le (p := (S.1, fun _ => 0)) n) k (S.1.1 0)
    have d1 := smD_eq (A := S.1) (B := goA S.1 n (age + 1)) (fun j => days_le (p := (S.1, fun _ => 0)) n) k (S.1.1 0)
    rw [← d0, ← d1, ← nI_add, ← nI_add, i_cancel] at kk
    exact kk
  exact ⟨fun q0 => ⟨fun q1 => main 8 (by omega) (by unfold awK; rw [if_neg q0, if_neg q1]), fun q1 => main 10 (by omega) (by unfold awK; rw [if_neg q0, if_pos q1])⟩, fun q0 => main 5 (by omega) (by unfold awK; rw [if_pos q0])⟩
