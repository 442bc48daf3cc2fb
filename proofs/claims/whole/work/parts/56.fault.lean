/-! THE REFERENCE reads an act -/
theorem rm_Act {M : Mem} {c : Nat → Nat} {N : Nat} {f : Nat → Int32} {P : Int32 → Mem → Prop} (T : TxM M c N) (F : FlM M f)
    (kb : (pAct c N).2 = none → ∀ M', eqR M M' → M'.1 10 0 26 = nI (pAct c N).1 → M'.1 10 0 27 = 1 → (pAct c N).1 ≤ N → P 0 M')
    (kg : ∀ A, (pAct c N).2 = some A → ∀ M', eqR M M' → M'.1 10 0 27 = 0 → P (bI (evS f A)) M') : s_X12_readAct M P := by
  have hN := T.2.1
  have hcE := T.2.2.2.1
  unfold s_X12_readAct
  intro M1 m1
  have q1 : eqR M M1 := by rw [m1]; exact eqR.w (by omega)
  have i1 : M1.1 10 0 26 = nI 0 := by rw [m1, wI_at, if_pos ⟨rfl, rfl, rfl⟩]; rfl
  -- the end
  have end0 : ∀ M' y, eqR M M' → (pAct c N).2 = none → M'.1 10 0 26 = nI (pAct c N).1 → M'.1 10 0 27 = 1 → (pAct c N).1 ≤ N → s_X12_readAct_177 P M' y := by
    intro M' y r1 r2 r3 r4 r5
    unfold s_X12_readAct_177
    rw [r4]
    exact ⟨fun _ => kb r2 M' r1 r3 r4 r5, fun z => absurd z (by decide)⟩
  have end1 : ∀ M' A, eqR M M' → (pAct c N).2 = some A → M'.1 10 0 27 = 0 → s_X12_readAct_177 P M' (bI (evS f A)) := by
    intro M' A r1 r2 r3
    have k := kg A r2 M' r1 r3
    unfold s_X12_readAct_177
    rw [r3, bI_0]
    refine ⟨fun z => absurd rfl z, fun _ => ⟨fun z => by rw [z] at k; exact k, fun z => ?_⟩⟩
    have z2 : evS f A = true := by simpa using z
    rw [z2] at k
    exact k
  -- a fault stays
  have fault128 : ∀ M', eqR M M' → (pAct c N).2 = none → M'.1 10 0 26 = nI (pAct c N).1 → M'.1 10 0 27 = 1 → (pAct c N).1 ≤ N → s_X12_readAct_128 P M' 0 := by
    intro M' r1 r2 r3 r4 r5
    unfold s_X12_readAct_128
    have e := end0 M' 0 r1 r2 r3 r4 r5
    rw [r4]
    exact ⟨fun _ => e, fun z => absurd z (by decide)⟩
  have fault104 : ∀ M' q, eqR M M' → pAct c N = (q, none) → q ≤ N → M'.1 10 0 26 = nI q → M'.1 10 0 27 = 1 → s_X12_readAct_104 P M' 0 (M'.1 10 0 26) := by
    intro M' q r1 r2 r3 r4 r5 M2 m2
    have g2 : eqR M' M2 := by rw [m2]; exact eqR.w (by omega)
    have g26 : M2.1 10 0 26 = nI q := by rw [m2, wI_at, if_pos ⟨rfl, rfl, rfl⟩, r4]; exact Int32.add_zero _
    have g27 : M2.1 10 0 27 = 1 := by rw [m2, wI_at, if_neg (by omega)]; exact r5
    have e := fault128 M2 (r1.tr g2) (by rw [r2]) (by rw [r2]; exact g26) g27 (by rw [r2]; exact r3)
    rw [g27]
    exact ⟨fun _ => e, fun z => absurd z (by decide)⟩
  have fault84 : ∀ M' q, eqR M M' → pAct c N = (q, none) → q ≤ N → M'.1 10 0 26 = nI q → s_X12_readAct_84 P M' 1 := by
    intro M' q r1 r2 r3 r4
    refine ⟨isB_1, fun M2 m2 => ?_⟩
    have g2 : eqR M' M2 := by rw [m2]; exact eqR.w (by omega)
    have g27 : M2.1 10 0 27 = 1 := by rw [m2, wI_at, if_pos ⟨rfl, rfl, rfl⟩]
    have e := fault104 M2 q (r1.tr g2) r2 r3 (by rw [m2, wI_at, if_neg (by omega)]; exact r4) g27
    rw [g27]
    exact ⟨fun z => absurd z (by decide), fun _ => e⟩
  have h58 : ∀ p, hv c N p = 58 ↔ c p = 58 := fun p => hv_eq T (k := 58) rfl (by omega)
  -- no purpose
  have none0 : ∀ M', eqR M M' → M'.1 10 0 26 = nI 0 → ¬ (c 0 = 101 ∨ c 0 = 114 ∨ c 0 = 111) → s_X12_readAct_38 P M' 1 := by
    intro M' r1 r2 r3
    have e : pAct c N = (0, none) := by unfold pAct; rw [if_neg r3]
    refine ⟨isB_1, fun M2 m2 => ?_⟩
    have g2 : eqR M' M2 := by rw [m2]; exact eqR.w (by omega)
    have g27 : M2.1 10 0 27 = 1 := by rw [m2, wI_at, if_pos ⟨rfl, rfl, rfl⟩]
    have g26 : M2.1 10 0 26 = nI 0 := by rw [m2, wI_at, if_neg (by omega)]; exact r2
    rw [g27]
    refine ⟨fun z => absurd z (by decide), fun _ M3 m3 => ?_⟩
    have g3 : eqR M2 M3 := by rw [m3]; exact eqR.w (by omega)
    have k27 : M3.1 10 0 27 = 1 := by rw [m3, wI_at, if_neg (by omega)]; exact g27
    have k26 : M3.1 10 0 26 = nI 0 := by rw [m3, wI_at, if_pos ⟨rfl, rfl, rfl⟩, g26]; rfl
    rw [k27]
    exact ⟨fun _ => fault84 M3 0 (r1.tr (g2.tr g3)) e (Nat.zero_le _) k26, fun z => absurd z (by decide)⟩
  have some0 : ∀ M', eqR M M' → M'.1 10 0 26 = nI 0 → (c 0 = 101 ∨ c 0 = 114 ∨ c 0 = 111) → s_X12_readAct_38 P M' 0 := by
    intro M' r1 r2 r3
    have h0 := hcE.lt (p := 0) (by omega)
    refine ⟨isB_0, fun M2 m2 => ?_⟩
    have g2 : eqR M' M2 := by rw [m2]; exact eqR.w (by omega)
    have g27 : M2.1 10 0 27 = 0 := by rw [m2, wI_at, if_pos ⟨rfl, rfl, rfl⟩]
    have g26 : M2.1 10 0 26 = nI 0 := by rw [m2, wI_at, if_neg (by omega)]; exact r2
    rw [g27]
    refine ⟨fun _ M3 m3 => ?_, fun z => absurd rfl z⟩
    have g3 : eqR M2 M3 := by rw [m3]; exact eqR.w (by omega)
    have k27 : M3.1 10 0 27 = 0 := by rw [m3, wI_at, if_neg (by omega)]; exact g27
    have k26 : M3.1 10 0 26 = nI 1 := by rw [m3, wI_at, if_pos ⟨rfl, rfl, rfl⟩, g26]; rfl
    have a3 : eqR M M3 := r1.tr (g2.tr g3)
    rw [k27]
    refine ⟨fun z => absurd rfl z, fun _ => rm_here (T.mv a3) k26 h0 ?_⟩
    rw [h58]
    refine ⟨fun y => ?_, fun y => fault84 M3 1 a3 (by unfold pAct; rw [if_pos r3, if_neg y]) h0 k26⟩
    have h1 := hcE.lt (p := 1) (by omega)
    have e : pAct c N = bd (pOo (pBr c N 8) c N 2) (fun q A => if c q = 117 then bd (pOo (pBr c N 8) c N (q + 1)) (fun q2 B => if q2 < N then (q2, none) else (q2, some (A ++ B ++ [-33] ++ [-38]))) else if q < N then (q, none) else (q, some A)) := by
      conv => lhs; unfold pAct
      rw [if_pos r3, if_pos y]
    refine ⟨isB_0, fun M4 m4 => ?_⟩
    have g4 : eqR M3 M4 := by rw [m4]; exact eqR.w (by omega)
    have l27 : M4.1 10 0 27 = 0 := by rw [m4, wI_at, if_pos ⟨rfl, rfl, rfl⟩]
    have l26 : M4.1 10 0 26 = nI 1 := by rw [m4, wI_at, if_neg (by omega)]; exact k26
    rw [l27]
    refine ⟨fun _ M5 m5 => ?_, fun z => absurd rfl z⟩
    have g5 : eqR M4 M5 := by rw [m5]; exact eqR.w (by omega)
    have o27 : M5.1 10 0 27 = 0 := by rw [m5, wI_at, if_neg (by omega)]; exact l27
    have o26 : M5.1 10 0 26 = nI 2 := by rw [m5, wI_at, if_pos ⟨rfl, rfl, rfl⟩, l26]; rfl
    have a5 : eqR M M5 := a3.tr (g4.tr g5)
    rw [o27]
    refine ⟨fun z => absurd rfl z, fun _ => ?_⟩
    obtain ⟨G0, G1⟩ := go_Or (f := f) (u := true) hcE (p := 2) h1
    have okO := ok_Oo hcE (ok_Br hcE 8) (p := 2) h1
    cases hr : (pOo (pBr c N 8) c N 2).2 with
    | none =>
      rw [bd_n hr] at e
      refine rm_Or (u := true) (T.mv a5) (F.mv a5) o26 h1 o27 (G0 hr) (fun q M6 er hq r4 r5 r6 => ?_) (fun q v M6 er => by cases er)
      have eq : (pOo (pBr c N 8) c N 2).1 = q := congrArg Prod.fst er
      exact ⟨fun _ => fault128 M6 (a5.tr r4) (by rw [e]) (by rw [e, eq]; exact r5) r6 (by rw [e, eq]; exact hq), fun z => absurd rfl z⟩
    | some A =>
      rw [bd_s hr] at e
      obtain ⟨hEv, Gg, Gb⟩ := G1 A hr
      by_cases hc : N ≤ (pOo (pBr c N 8) c N 2).1 ∨ (c (pOo (pBr c N 8) c N 2).1 = 117 ∧ true = true)
      · refine rm_Or (u := true) (T.mv a5) (F.mv a5) o26 h1 o27 (Gg hc) (fun q M6 er => by cases er) (fun q v M6 er hq r4 r5 r6 => ?_)
        have eq : (pOo (pBr c N 8) c N 2).1 = q := congrArg Prod.fst er
        have ev : evS f A = v := Option.some.inj (congrArg Prod.snd er)
        rw [eq] at e hc
        have a6 : eqR M M6 := a5.tr r4
        have main : ∀ y : Int32, y = bI v → s_X12_readAct_128 P M6 y := by
          intro y0 ey
          unfold s_X12_readAct_128
          have e25 : M6.1 10 0 25 = nI N := (T.mv a6).1
          rw [r6, e25, r5, nI_leI (by omega) (by omega)]
          refine ⟨fun z => absurd rfl z, fun _ => ⟨fun z => ?_, fun z M7 m7 => ?_⟩⟩
          · have c9 := hcE q z
            rw [if_neg (by omega), if_neg (by omega)] at e
            rw [ey, ← ev]
            exact end1 M6 A a6 (by rw [e]) r6
          · have hc117 := (hc.resolve_left z).1
            rw [if_pos hc117] at e
            have hlt : q < N := by omega
            have g7 : eqR M6 M7 := by rw [m7]; exact eqR.w (by omega)
            have t27 : M7.1 10 0 27 = 0 := by rw [m7, wI_at, if_neg (by omega)]; exact r6
            have t26 : M7.1 10 0 26 = nI (q + 1) := by rw [m7, wI_at, if_pos ⟨rfl, rfl, rfl⟩, nI_1]
            have a7 : eqR M M7 := a6.tr g7
            obtain ⟨U0, U1⟩ := go_Or (f := f) (u := false) hcE (p := q + 1) hlt
            cases hr2 : (pOo (pBr c N 8) c N (q + 1)).2 with
            | none =>
              rw [bd_n hr2] at e
              refine rm_Or (u := false) (T.mv a7) (F.mv a7) t26 hlt t27 (U0 hr2) (fun q2 M8 er2 hq2 s4 s5 s6 => ?_) (fun q2 v2 M8 er2 => by cases er2)
              have eq2 : (pOo (pBr c N 8) c N (q + 1)).1 = q2 := congrArg Prod.fst er2
              have fin : ∀ y1, s_X12_readAct_176 P M8 y1 := fun y1 => end0 M8 y1 (a7.tr s4) (by rw [e]) (by rw [e, eq2]; exact s5) s6 (by rw [e, eq2]; exact hq2)
              exact ⟨fun _ => fin 0, fun _ => ⟨fun _ => fin 0, fun _ => fin 1⟩⟩
            | some B =>
              rw [bd_s hr2] at e
              obtain ⟨hEv2, Ug, Ub⟩ := U1 B hr2
              have okO2 := ok_Oo hcE (ok_Br hcE 8) (p := q + 1) hlt
              by_cases hc2 : N ≤ (pOo (pBr c N 8) c N (q + 1)).1 ∨ (c (pOo (pBr c N 8) c N (q + 1)).1 = 117 ∧ false = true)
              · refine rm_Or (u := false) (T.mv a7) (F.mv a7) t26 hlt t27 (Ug hc2) (fun q2 M8 er2 => by cases er2) (fun q2 v2 M8 er2 hq2 s4 s5 s6 => ?_)
                have ev2 : evS f B = v2 := Option.some.inj (congrArg Prod.snd er2)
                have hle : N ≤ (pOo (pBr c N 8) c N (q + 1)).1 := hc2.elim (fun x => x) (fun x => by cases x.2)
                rw [if_neg (by omega)] at e
                have hval : evS f (A ++ B ++ [-33] ++ [-38]) = (evS f A && !(evS f B)) := by
                  have := hEv.and hEv2.not
                  rw [← List.append_assoc] at this
                  exact this.val
                have fin : ∀ y1, y1 = bI (evS f A && !(evS f B)) → s_X12_readAct_176 P M8 y1 := by
                  intro y1 e1
                  rw [e1, ← hval]
                  exact end1 M8 _ (a7.tr s4) (by rw [e]) s6
                rw [ey, ← ev, ← ev2, bI_0, bI_0]
                refine ⟨fun z2 => fin 0 ?_, fun z2 => ⟨fun z3 => fin 0 ?_, fun z3 => fin 1 ?_⟩⟩
                · rw [z2]; rfl
                · have z4 : evS f B = true := by simpa using z3
                  rw [z4]; cases evS f A <;> rfl
                · have z4 : evS f A = true := by simpa using z2
                  rw [z4, z3]; rfl
              · refine rm_Or (u := false) (T.mv a7) (F.mv a7) t26 hlt t27 (Ub hc2) (fun q2 M8 er2 hq2 s4 s5 s6 => ?_) (fun q2 v2 M8 er2 => by cases er2)
                have eq2 : (pOo (pBr c N 8) c N (q + 1)).1 = q2 := congrArg Prod.fst er2
                have hlt2 : (pOo (pBr c N 8) c N (q + 1)).1 < N := Nat.not_le.mp (fun x => hc2 (Or.inl x))
                rw [if_pos hlt2] at e
                have fin : ∀ y1, s_X12_readAct_176 P M8 y1 := fun y1 => end0 M8 y1 (a7.tr s4) (by rw [e]) (by rw [e, eq2]; exact s5) s6 (by rw [e, eq2]; exact hq2)
                exact ⟨fun _ => fin 0, fun _ => ⟨fun _ => fin 0, fun _ => fin 1⟩⟩
        rw [bI_0]
        refine ⟨fun z => main 0 (by rw [z]; rfl), fun z => main 1 ?_⟩
        have z2 : v = true := by simpa using z
        rw [z2]; rfl
      · refine rm_Or (u := true) (T.mv a5) (F.mv a5) o26 h1 o27 (Gb hc) (fun q M6 er hq r4 r5 r6 => ?_) (fun q v M6 er => by cases er)
        have eq : (pOo (pBr c N 8) c N 2).1 = q := congrArg Prod.fst er
        rw [eq] at e hc
        rw [if_neg (fun x => hc (Or.inr ⟨x, rfl⟩)), if_pos (by omega)] at e
        exact ⟨fun _ => fault128 M6 (a5.tr r4) (by rw [e]) (by rw [e]; exact r5) r6 (by rw [e]; exact hq), fun z => absurd rfl z⟩
  have h101 : hv c N 0 = 101 ↔ c 0 = 101 := hv_eq T (k := 101) rfl (by omega)
  have h114 : hv c N 0 = 114 ↔ c 0 = 114 := hv_eq T (k := 114) rfl (by omega)
  have h111 : hv c N 0 = 111 ↔ c 0 = 111 := hv_eq T (k := 111) rfl (by omega)
  have T1 := T.mv q1
  refine rm_here T1 i1 (Nat.zero_le _) ?_
  rw [h101]
  refine ⟨fun y => some0 M1 q1 i1 (Or.inl y), fun y => rm_here T1 i1 (Nat.zero_le _) ?_⟩
  rw [h114]
  refine ⟨fun y2 => some0 M1 q1 i1 (Or.inr (Or.inl y2)), fun y2 => rm_here T1 i1 (Nat.zero_le _) ?_⟩
  rw [h111]
  exact ⟨fun y3 => some0 M1 q1 i1 (Or.inr (Or.inr y3)), fun y3 => none0 M1 q1 i1 (by omega)⟩
/-! what a reading of the reference leaves -/
def eqV (M M' : Mem) : Prop := (∀ c, c ≠ 10 → c ≠ 64 → c ≠ 65 → M'.1 c = M.1 c) ∧ (∀ i j, ¬ (i = 0 ∧ 23 ≤ j ∧ j ≤ 35) → M'.1 10 i j = M.1 10 i j) ∧ M'.2 = M.2
theorem eqR.V {M M' : Mem} (h : eqR M M') : eqV M M' := ⟨h.1, fun i j a => h.2.1 i j (fun q => a ⟨q.1, by omega⟩), h.2.2⟩
theorem eqV.tr {M M1 M2 : Mem} (h : eqV M M1) (g : eqV M1 M2) : eqV M M2 := ⟨fun c a b d => (g.1 c a b d).trans (h.1 c a b d), fun i j a => (g.2.1 i j a).trans (h.2.1 i j a), g.2.2.trans h.2.2⟩
theorem eqV.w {M : Mem} {j : Nat} {v : Int32} (h : 23 ≤ j ∧ j ≤ 35) : eqV M (wI M 10 0 j v) := ⟨fun c a _ _ => wI_cc a, fun i' j' a => by rw [wI_at, if_neg]; intro q; exact a ⟨q.2.1, by omega⟩, rfl⟩
theorem eqV.sameC {M M' : Mem} (h : eqV M M') : sameC M M' := ⟨fun c hc => h.1 c (by unfold cK at hc; omega) (by unfold cK at hc; omega) (by unfold cK at hc; omega), fun c _ => by rw [h.2.2], by rw [h.2.2]⟩
theorem eqV.RM {M M' : Mem} {q : Nat} (hq : 44 ≤ q ∧ q ≤ 46) {A : Abs} (h : eqV M M') (g : RM q M A) : RM q M' A := g.fr (fun c hc => by rw [h.1 c (by omega) (by omega) (by omega)])
theorem eqV.RMf {M M' : Mem} {A : Abs} (h : eqV M M') (g : RMf M A) : RMf M' A := by
  obtain ⟨fd, f1, f2, f3⟩ := g
  refine ⟨fd, by rw [h.2.1 0 37 (by omega)]; exact f1, f2, ?_⟩
  rw [h.1 66 (by omega) (by omega) (by omega)]
  exact f3
theorem RMX.rd {M M' : Mem} {S : Sg} (h : RMX M S) (e : eqV M M') : RMX M' S :=
  h.now (A := S.1) (e.RM (by omega) h.1) (e.RMf h.2.2.2.1) (fun B _ hB => e.RM (by omega) hB) (e.2.1 0 4 (by omega)) (e.2.1 0 22 (by omega)) (fun c a b => by rw [e.1 c (by omega) (by omega) (by omega)]) (by rw [e.2.2])
theorem tM_faultOf {M : Mem} {S : Sg} {x : Int32} {P : Int32 → Mem → Prop} (h : RMX M S) (hx : rg x 8) (h2 : hd0 S (ix x) = 2) (h4 : S.2.2.1 4 (ix x) = 0) (hn : S.2.2.1 5 (ix x) ≤ 80) (hf : ∀ j, j < 80 → fitS (S.2.2.1 4 (ix x)) (S.2.2.2 (ix x) j))
    (kb : ∀ M', (pAct (txt (S.2.2.2 (ix x)) (S.2.2.1 5 (ix x))) (S.2.2.1 5 (ix x))).2 = none → eqV M M' → P (nI (pAct (txt (S.2.2.2 (ix x)) (S.2.2.1 5 (ix x))) (S.2.2.1 5 (ix x))).1) M')
    (kg : ∀ M' A, (pAct (txt (S.2.2.2 (ix x)) (S.2.2.1 5 (ix x))) (S.2.2.1 5 (ix x))).2 = some A → eqV M M' → P (-1) M') : s_X12_faultOf M x P := by
  have hl := rg_lt hx
  have ex : x = nI (ix x) := rg_nI hx (by omega)
  generalize hd : ix x = d at *
  generalize hN : S.2.2.1 5 d = N at *
  generalize hg : S.2.2.2 d = g at *
  rw [h4] at hf
  have hc : ∀ p, p < N → txt g N p < 256 ∧ g p = sc (txt g N p) := fun p hp => txt_sc (hf p (by omega)) hp
  have hcE := txt_E g N
  generalize txt g N = c at *
  obtain ⟨r0, r1, r2⟩ := h.2.2.1 d hl
  obtain ⟨-, s5, s39⟩ := r2 h2
  rw [hN] at s5
  rw [hg] at s39
  unfold s_X12_faultOf
  intro M1 m1 M2 m2
  have e80 : 80 * x = nI (80 * d) := by rw [ex]; exact pk_mul 80 d
  rw [e80] at m2
  have q1 : eqV M M1 := by rw [m1]; exact eqV.w (by omega)
  have q2 : eqV M1 M2 := by rw [m2]; exact eqV.w (by omega)
  rw [ex]
  refine ⟨vp_in_nI (by omega) (by omega), fun M3 m3 => ?_⟩
  rw [nI_clamp (by omega), (q1.tr q2).1 77 (by omega) (by omega) (by omega), s5] at m3
  have q3 : eqV M2 M3 := by rw [m3]; exact eqV.w (by omega)
  have a3 : eqV M M3 := q1.tr (q2.tr q3)
  have j23 : M3.1 10 0 23 = 1 := by rw [m3, wI_at, if_neg (by omega), m2, wI_at, if_neg (by omega), m1, wI_at, if_pos ⟨rfl, rfl, rfl⟩]
  have j24 : M3.1 10 0 24 = nI (80 * d) := by rw [m3, wI_at, if_neg (by omega), m2, wI_at, if_pos ⟨rfl, rfl, rfl⟩]
  have j25 : M3.1 10 0 25 = nI N := by rw [m3, wI_at, if_pos ⟨rfl, rfl, rfl⟩]
  have T : TxM M3 c N := ⟨j25, hn, fun p hp => (hc p hp).1, hcE, 80 * d, j24, Or.inr ⟨by rw [j23]; decide, by omega, fun p hp => by
    rw [a3.2.2, s39 p (by omega), l_i, (hc p hp).2]; exact sc_and _ (hc p hp).1⟩⟩
  have F : FlM M3 (fun _ => 0) := Or.inl ⟨by rw [j23]; decide, fun _ => rfl⟩
  refine rm_Act T F (fun e M4 r1 r2 r3 r4 => ?_) (fun A e M4 r1 r2 => ?_)
  · rw [r3]
    refine ⟨fun z => absurd z (by decide), fun _ => ?_⟩
    rw [r2]
    exact kb M4 e (a3.tr r1.V)
  · rw [r2]
    exact ⟨fun _ => kg M4 A e (a3.tr r1.V), fun z => absurd rfl z⟩
/-! fault -/
abbrev fP (S : Sg) (d : Nat) : Rt := pAct (txt (S.2.2.2 d) (S.2.2.1 5 d)) (S.2.2.1 5 d)
def fltO (r : Rt) : Int32 := match r.2 with
  | none => nI r.1
  | some _ => -4
def sp_fault (S : Sg) (x : Int32) : Int32 := if rg x 8 then (if hd0 S (ix x) = 0 then -11 else if hd0 S (ix x) = 2 ∧ S.2.2.1 4 (ix x) = 0 then fltO (fP S (ix x)) else -12) else -1
theorem pAct_le {c : Nat → Nat} {N : Nat} (h : cE c N) : (pAct c N).1 ≤ N := by
  unfold pAct
  by_cases h0 : c 0 = 101 ∨ c 0 = 114 ∨ c 0 = 111
  · rw [if_pos h0]
    have l0 := h.lt (p := 0) (by omega)
    by_cases h1 : c 1 = 58
    · rw [if_pos h1]
      have l1 := h.lt (p := 1) (by omega)
      have ok := ok_Oo h (ok_Br h 8) (p := 2) l1
      cases hr : (pOo (pBr c N 8) c N 2).2 with
      | none => rw [bd_n hr]; exact ok.2.1
      | some A =>
        rw [bd_s hr]
        by_cases h7 : c (pOo (pBr c N 8) c N 2).1 = 117
        · rw [if_pos h7]
          have l2 := h.lt (p := (pOo (pBr c N 8) c N 2).1) (by omega)
          have ok2 := ok_Oo h (ok_Br h 8) (p := (pOo (pBr c N 8) c N 2).1 + 1) l2
          cases hr2 : (pOo (pBr c N 8) c N ((pOo (pBr c N 8) c N 2).1 + 1)).2 with
          | none => rw [bd_n hr2]; exact ok2.2.1
          | some B =>
            rw [bd_s hr2]
            split
            · exact ok2.2.1
            · exact ok2.2.1
        · rw [if_neg h7]
          split
          · exact ok.2.1
          · exact ok.2.1
    · rw [if_neg h1]; exact l0
  · rw [if_neg h0]; exact Nat.zero_le _
theorem RCX.rd {M M' : Mem} {S : Sg} (h : RCX M S) (e : eqF M M') : RCX M' S := by
  have o : ∀ c, c ≠ 4 → M'.2.2 c = M.2.2 c := fun c hc => by funext i j; exact e.2.2 c i j hc
  have key : ∀ w A, RC w M A → RC w M' A := by
    intro w A hA
    refine ⟨hA.1.fr (fun c hc => by rw [e.1 c (by omega) (by omega)]), hA.2.1.fr (fun c hc => by rw [e.1 c (by omega) (by omega)]), hA.2.2.1.fr (by rw [e.1 1 (by omega) (by omega)]) (by rw [e.1 12 (by omega) (by omega)]), hA.2.2.2.1.fr (fun c hc => by rw [e.1 c (by omega) (by omega)]), hA.2.2.2.2.1.fr (fun c hc => by rw [e.1 c (by omega) (by omega)]), ?_⟩
    have ha := hA.2.2.2.2.2
    unfold RCa at ha ⊢
    rw [e.1 5 (by omega) (by omega), e.1 35 (by omega) (by omega), e.1 1000 (by omega) (by omega), e.1 1001 (by omega) (by omega), o 1 (by omega), o 2 (by omega), o 3 (by omega)]
    exact ha
  exact ⟨key 0 _ h.1, h.2.1.fr (by rw [e.1 0 (by omega) (by omega)]) (fun B _ hB => key 1 B hB), h.2.2.fr (fun d => by rw [e.1 7 (by omega) (by omega)]) (fun d => by rw [e.1 39 (by omega) (by omega)])⟩
theorem eqF.sameM {M M' : Mem} (h : eqF M M') : sameM M M' := ⟨fun c hc => h.1 c (by unfold cK at hc; omega) (by unfold cK at hc; omega), h.2.1⟩
theorem tC_fault {M : Mem} {S : Sg} {x : Int32} {P : Int32 → Mem → Prop} (h : RCX M S) (hw : WfX S) (hp : ∀ M', sameM M M' → RCX M' S → P (sp_fault S x) M') : s_X11_fault M x P := by
  unfold s_X11_fault
  have bad : ∀ v, sp_fault S x = v → P v M := fun v hb => by
    have := hp M sameM.rf h
    rw [hb] at this
    exact this
  refine t_shelfAt (fun g1 => d1 (rg_lt g1) ?_) (fun g1 => d0 (bad _ (by unfold sp_fault; rw [if_neg g1])))
  obtain ⟨w0, w1, w2, w3, w4, w5, w6⟩ := hw.2.2 _ (rg_lt g1)
  refine t_byteRowRefusal h.2.2 (rg_lt g1) w0 w4 (fun q => bn (by decide) (bad _ (by unfold sp_fault; rw [if_pos g1, if_pos q]))) (fun q q4 => b0 ?_) (fun q q4 => bn (by decide) (bad _ (by unfold sp_fault; rw [if_pos g1, if_neg q, if_neg q4])))
  have es : sp_fault S x = fltO (fP S (ix x)) := by unfold sp_fault; rw [if_pos g1, if_neg (by omega), if_pos ⟨q, q4⟩]
  rw [es] at hp
  have hle := pAct_le (txt_E (S.2.2.2 (ix x)) (S.2.2.1 5 (ix x)))
  refine tC_first h.2.2 (rg_lt g1) q q4 w5 w6 (fun M1 e r1 => ?_) (fun M1 A e r1 _ _ _ _ _ => ?_)
  · have k := hp M1 r1.sameM (h.rd r1)
    unfold fltO at k
    rw [e] at k
    have n0 := nI_pos' (n := (pAct (txt (S.2.2.2 (ix x)) (S.2.2.1 5 (ix x))) (S.2.2.1 5 (ix x))).1) (by omega)
    exact ⟨fun _ => k, fun z => absurd n0 z⟩
  · have k := hp M1 r1.sameM (h.rd r1)
    unfold fltO at k
    rw [e] at k
    exact ⟨fun z => absurd z (by decide), fun _ => k⟩
theorem tM_fault {M : Mem} {S : Sg} {x : Int32} {P : Int32 → Mem → Prop} (h : RMX M S) (hw : WfX S) (hp : ∀ M', sameC M M' → RMX M' S → P (sp_fault S x) M') : s_X12_fault M x P := by
  unfold s_X12_fault
  intro M1 m1
  have h1 : RMX M1 S := by rw [m1]; exact h.thrown
  replace hp : ∀ M', sameC M1 M' → RMX M' S → P (sp_fault S x) M' := fun M' a b => hp M' (sameC.tr (by rw [m1]; exact sC10) a) b
  have bad : ∀ v, sp_fault S x = v → ¬ 0 ≤ v → (0 ≤ v → s_X12_faultOf M1 x (fun rr20 Mm20 => (0 ≤ rr20 → P rr20 Mm20) ∧ (¬ 0 ≤ rr20 → P (-4) Mm20))) ∧ (¬ 0 ≤ v → P v M1) := fun v hb hv => by
    have := hp M1 sameC.rf h1
    rw [hb] at this
    exact ⟨fun z => absurd z hv, fun _ => this⟩
  refine t_lacks h1.2.2.1 (fun g => ⟨(hw.2.2 _ (rg_lt g)).1, (hw.2.2 _ (rg_lt g)).2.2.2.2.1⟩) (fun g1 => bad _ (by unfold sp_fault; rw [if_neg g1]) (by decide)) (fun g1 q => bad _ (by unfold sp_fault; rw [if_pos g1, if_pos q]) (by decide)) (fun g1 q q4 => ⟨fun _ => ?_, fun z => absurd (by decide) z⟩) (fun g1 q q4 => bad _ (by unfold sp_fault; rw [if_pos g1, if_neg q, if_neg q4]) (by decide))
  obtain ⟨w0, w1, w2, w3, w4, w5, w6⟩ := hw.2.2 _ (rg_lt g1)
  have es : sp_fault S x = fltO (fP S (ix x)) := by unfold sp_fault; rw [if_pos g1, if_neg (by omega), if_pos ⟨q, q4⟩]
  rw [es] at hp
  have hle := pAct_le (txt_E (S.2.2.2 (ix x)) (S.2.2.1 5 (ix x)))
  refine tM_faultOf h1 g1 q q4 w5 w6 (fun M2 e r1 => ?_) (fun M2 A e r1 => ?_)
  · have k := hp M2 r1.sameC (h1.rd r1)
    unfold fltO at k
    rw [e] at k
    have n0 := nI_pos' (n := (pAct (txt (S.2.2.2 (ix x)) (S.2.2.1 5 (ix x))) (S.2.2.1 5 (ix x))).1) (by omega)
    exact ⟨fun _ => k, fun z => absurd n0 z⟩
  · have k := hp M2 r1.sameC (h1.rd r1)
    unfold fltO at k
    rw [e] at k
    exact ⟨fun z => absurd z (by decide), fun _ => k⟩
