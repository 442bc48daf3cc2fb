/-! THE CLASS reads a text: tests, brackets, the whole -/
section CTX2
variable {M0 : Mem} {c : Nat → Nat} {N d : Nat}
/-- what is known of the reading in brackets, k of them being left -/
def RoC (M0 : Mem) (c : Nat → Nat) (N k : Nat) (RO : Mem → Int32 → (Mem → Prop) → Prop) : Prop := ∀ j dp, k = j + 1 → dp + k = 8 → RdC M0 c N (pOo (pBr c N j) c N) (fun M P => RO M (nI (dp + 1)) P)
theorem bI_nz {b : Bool} : ¬ bI b = 0 ↔ b = true := by cases b <;> decide
theorem rc_Test (T : TxC M0 c N d) {RO : Mem → Int32 → (Mem → Prop) → Prop} {k dp : Nat} (hk : dp + k = 8) (hR : RoC M0 c N k RO) : RdC M0 c N (pTs (pBr c N k) c N) (fun M P => s_X2_readTest RO M (nI dp) P) := by
  intro M p L P h hp hl kb kg
  have hN := T.2.2.2.1
  have hcE := T.2.2.2.2.2.1
  show s_X2_readTest RO M (nI dp) P
  unfold s_X2_readTest
  obtain ⟨a1, a2, a3⟩ := pNt_le hcE N p false hp
  have inner : ∀ M1 : Mem, CRd M0 M1 (pNt c N p false).1 0 L → s_X2_readTest_54 RO (nI dp) P M1 (bI (pNt c N p false).2) := by
    intro M1 h1
    unfold s_X2_readTest_54
    have h40 : hw c N (pNt c N p false).1 = 40 ↔ c (pNt c N p false).1 = 40 := hw_eq T (k := 40) rfl (by omega)
    have good : ∀ q B, (if c (pNt c N p false).1 = 40 then pBr c N k (pNt c N p false).1 else pCm c N (pNt c N p false).1) = (q, some B) → q ≤ N → B.length + 2 + L.length ≤ q → ((pNt c N p false).2 = true → B.length + L.length + 3 ≤ q) → ∀ M2, CRd M0 M2 q 0 (L ++ B) → s_X2_readTest_82 RO P M2 (bI (pNt c N p false).2) := by
      intro q B eB hq hB hB2 M2 h2
      have er : pTs (pBr c N k) c N p = (q, some (if (pNt c N p false).2 = true then B ++ [-33] else B)) := by unfold pTs; rw [eB]; rfl
      rw [er] at kg
      unfold s_X2_readTest_82
      rw [bI_0]
      refine ⟨fun z => ?_, fun z => ?_⟩
      · rw [z] at kg; exact kg _ rfl M2 h2
      · have zt : (pNt c N p false).2 = true := by simpa using z
        rw [zt] at kg
        have hb := hB2 zt
        refine rc_step h2 (fun M3 L3 h3 hL => kg _ rfl M3 ?_)
        rw [hL (by rw [List.length_append]; omega)] at h3
        rw [if_pos rfl, ← List.append_assoc]
        exact h3
    have bad : ∀ q, (if c (pNt c N p false).1 = 40 then pBr c N k (pNt c N p false).1 else pCm c N (pNt c N p false).1) = (q, none) → q ≤ N → ∀ M2, Fdd M0 M2 N (q + 1) → s_X2_readTest_82 RO P M2 (bI (pNt c N p false).2) := by
      intro q eB hq M2 h2
      have er : pTs (pBr c N k) c N p = (q, none) := by unfold pTs; rw [eB]; rfl
      rw [er] at kb
      unfold s_X2_readTest_82
      exact ⟨fun _ => kb rfl M2 h2, fun _ => rc_stepF h2 (kb rfl)⟩
    have strict : (pNt c N p false).2 = true → p + 1 ≤ (pNt c N p false).1 := fun z => a3 (by rw [z]; simp)
    refine rc_here (T.mv h1.1) h1.2.1 a2 ?_
    rw [h40]
    refine ⟨fun z => ?_, fun z => ⟨fun z2 => absurd z2 h1.lt, fun _ => ?_⟩⟩
    · rw [if_neg z] at good bad
      unfold s_X2_readTest_78
      have ok := ok_Cm hcE a2
      refine rc_Cmp T M1 _ L _ h1 a2 (by omega) (fun hn M2 h2 => bad _ (by rw [← hn]) ok.2.1 M2 h2) (fun B hB M2 h2 => ?_)
      have oB := ok.2.2 B hB
      exact good _ B (by rw [← hB]) ok.2.1 (by omega) (fun y => by have := strict y; omega) M2 h2
    · rw [if_pos z] at good bad
      have hlt := hcE.lt (p := (pNt c N p false).1) (by omega)
      unfold s_X2_readBracket
      have e8 : nI dp < 8 ↔ dp < 8 := nI_ltI (b := 8) (by omega) (by omega)
      rw [e8]
      refine ⟨fun y M2 m2 => ?_, fun y => ?_⟩
      · obtain ⟨j, rfl⟩ : ∃ j, k = j + 1 := ⟨k - 1, by omega⟩
        have ok := ok_Oo hcE (ok_Br hcE j) (p := (pNt c N p false).1 + 1) hlt
        have eb : pBr c N (j + 1) (pNt c N p false).1 = bd (pOo (pBr c N j) c N ((pNt c N p false).1 + 1)) (fun q2 A => if c q2 = 41 then (q2 + 1, some A) else (q2, none)) := rfl
        have o1 := ok.2.1
        have edp : nI dp + 1 = nI (dp + 1) := nI_1 dp
        rw [edp]
        refine hR j dp rfl hk M2 _ L _ (h1.at m2 rfl) hlt (by omega) (fun hn M3 h3 => ?_) (fun B hB M3 h3 => ?_)
        · rw [bd_n hn] at eb
          exact fd_Sign T h3 (by omega) (by omega) (fun M4 h4 => bad _ eb o1 M4 h4)
        · rw [bd_s hB] at eb
          have oB := ok.2.2 B hB
          unfold s_X2_readSign
          refine ⟨fun z2 => absurd z2 h3.lt, fun _ => rc_here (T.mv h3.1) h3.2.1 o1 ?_⟩
          have h41 : hw c N (pOo (pBr c N j) c N ((pNt c N p false).1 + 1)).1 = 41 ↔ c (pOo (pBr c N j) c N ((pNt c N p false).1 + 1)).1 = 41 := hw_eq T (k := 41) rfl (by omega)
          rw [h41]
          refine ⟨fun z2 => ?_, fun z2 M4 m4 => ?_⟩
          · rw [if_neg z2] at eb
            unfold s_X2_readSign_28
            exact rc_failG T h3 o1 (fun M4 h4 => bad _ eb o1 M4 h4)
          · rw [if_pos z2] at eb
            have hlt2 := hcE.lt (p := (pOo (pBr c N j) c N ((pNt c N p false).1 + 1)).1) (by omega)
            exact good _ B eb hlt2 (by omega) (fun y => by have := strict y; omega) M4 (h3.at m4 rfl)
      · have hk0 : k = 0 := by omega
        subst hk0
        exact rc_failG T h1 a2 (fun M2 h2 => bad _ rfl a2 M2 h2)
  refine Lz_rule (fun a => ∃ t q b, t ≤ N ∧ a.2.2 = nI t ∧ a.2.1 = bI b ∧ q ≤ N ∧ CRd M0 a.1 q 0 L ∧ pNt c N p false = pNt c (N - t) q b) (fun a => N - a.2.2.toNatClampNeg) ?_ ⟨0, p, false, Nat.zero_le _, rfl, rfl, hp, h, rfl⟩
  rintro K ⟨M1, x2, x3⟩ ⟨t, q, b, ht, e3, e2, hq, h1, e⟩ hK
  dsimp only at e3 e2 h1
  show s_X2_readTest_4 RO (nI dp) P K M1 x2 x3
  unfold s_X2_readTest_4
  have e4 : M1.1 8 0 4 = nI N := (T.mv h1.1).2.2.1
  rw [e4, e3, e2, nI_leI (by omega) (by omega)]
  have stop : pNt c N p false = (q, b) → s_X2_readTest_54 RO (nI dp) P M1 (bI b) := by
    intro e5
    have := inner M1 (by rw [e5]; exact h1)
    rw [e5] at this
    exact this
  refine ⟨fun z => stop (by rw [e, show N - t = 0 by omega]; rfl), fun z => ⟨fun z2 => absurd z2 h1.lt, fun _ => rc_here (T.mv h1.1) h1.2.1 hq ?_⟩⟩
  obtain ⟨j, hj⟩ : ∃ j, N - t = j + 1 := ⟨N - t - 1, by omega⟩
  rw [hj] at e
  have h33 : hw c N q = 33 ↔ c q = 33 := hw_eq T (k := 33) rfl (by omega)
  rw [h33]
  refine ⟨fun y => stop (by rw [e]; unfold pNt; rw [if_neg y]), fun y M2 m2 => ?_⟩
  have hlt := hcE.lt (p := q) (by omega)
  have e5 : pNt c N p false = pNt c j (q + 1) (!b) := by
    rw [e]; conv => lhs; unfold pNt
    rw [if_pos y]
  have next : ∀ v : Int32, v = bI (!b) → s_X2_readTest_47 RO (nI dp) P K M2 (nI t) v := by
    intro v ev u eu
    rw [eu, nI_1]
    refine hK _ ⟨t + 1, q + 1, !b, by omega, rfl, ev, hlt, h1.at m2 rfl, by rw [e5, show N - (t + 1) = j by omega]⟩ ?_
    show N - (nI (t + 1)).toNatClampNeg < N - x3.toNatClampNeg
    rw [e3, nI_clamp (by omega), nI_clamp (by omega)]; omega
  rw [bI_0]
  exact ⟨fun z2 => next 0 (by have : b = true := by simpa using z2
                              rw [this]; rfl), fun z2 => next 1 (by rw [z2]; rfl)⟩
theorem rc_And (T : TxC M0 c N d) {RO : Mem → Int32 → (Mem → Prop) → Prop} {k dp : Nat} (hk : dp + k = 8) (hR : RoC M0 c N k RO) : RdC M0 c N (pAn (pBr c N k) c N) (fun M P => s_X2_readAnd RO M (nI dp) P) := by
  intro M p L P h hp hl kb kg
  have hN := T.2.2.2.1
  have hcE := T.2.2.2.2.2.1
  have hO := ok_Br hcE k
  have ok1 := ok_Ts hcE hO hp
  show s_X2_readAnd RO M (nI dp) P
  unfold s_X2_readAnd
  have loop : ∀ M1 : Mem, ((∃ q B, q ≤ N ∧ CRd M0 M1 q 0 (L ++ B) ∧ (L ++ B).length + 2 ≤ q ∧ pAn (pBr c N k) c N p = pAl (pBr c N k) c N N q B) ∨ (∃ ft, ft < 1000 ∧ Fdd M0 M1 N (ft + 1) ∧ pAn (pBr c N k) c N p = (ft, none))) →
      ∃ n, Lz (fun (K7 : Mem × Int32 → Prop) (a : Mem × Int32) => s_X2_readAnd_7 RO (nI dp) P K7 a.1 a.2) n (M1, (0 : Int32)) := by
    intro M1 hI
    refine Lz_rule (fun a => ∃ t, t ≤ N ∧ a.2 = nI t ∧ ((∃ q B, q ≤ N ∧ CRd M0 a.1 q 0 (L ++ B) ∧ (L ++ B).length + 2 ≤ q ∧ pAn (pBr c N k) c N p = pAl (pBr c N k) c N (N - t) q B) ∨ (∃ ft, ft < 1000 ∧ Fdd M0 a.1 N (ft + 1) ∧ pAn (pBr c N k) c N p = (ft, none)))) (fun a => N - a.2.toNatClampNeg) ?_ ⟨0, Nat.zero_le _, rfl, hI⟩
    rintro K ⟨M2, x⟩ ⟨t, ht, e, hI⟩ hK
    dsimp only at e hI
    show s_X2_readAnd_7 RO (nI dp) P K M2 x
    unfold s_X2_readAnd_7
    rcases hI with ⟨q, B, hq, h2, hl2, er⟩ | ⟨ft, hft, h2, er⟩
    · have e4 : M2.1 8 0 4 = nI N := (T.mv h2.1).2.2.1
      rw [e4, e, nI_leI (by omega) (by omega)]
      have stop : pAn (pBr c N k) c N p = (q, some B) → P M2 := fun e5 => kg B (by rw [e5]) M2 (by rw [e5]; exact h2)
      refine ⟨fun z => stop (by rw [er, show N - t = 0 by omega]; rfl), fun z => ⟨fun z2 => absurd z2 h2.lt, fun _ => ?_⟩⟩
      obtain ⟨j, hj⟩ : ∃ j, N - t = j + 1 := ⟨N - t - 1, by omega⟩
      rw [hj] at er
      refine rc_here (T.mv h2.1) h2.2.1 hq ?_
      have h38 : hw c N q = 38 ↔ c q = 38 := hw_eq T (k := 38) rfl (by omega)
      rw [h38]
      refine ⟨fun z2 => stop ?_, fun hc M3 m3 => ?_⟩
      · rw [er]; unfold pAl; rw [if_neg z2]
      · have hlt := hcE.lt (p := q) (by omega)
        have ok := ok_Ts hcE hO (p := q + 1) hlt
        have er2 : pAn (pBr c N k) c N p = bd (pTs (pBr c N k) c N (q + 1)) (fun q2 A => pAl (pBr c N k) c N j q2 (B ++ A ++ [-38])) := by
          rw [er]; conv => lhs; unfold pAl
          rw [if_pos hc]
        have dec : N - (nI (t + 1)).toNatClampNeg < N - x.toNatClampNeg := by
          rw [e, nI_clamp (by omega), nI_clamp (by omega)]; omega
        refine rc_Test T hk hR M3 (q + 1) (L ++ B) _ (h2.at m3 rfl) hlt (by omega) (fun hn M4 h4 => rc_stepF h4 (fun M5 h5 u eu => ?_)) (fun A hA M4 h4 => rc_step h4 (fun M5 L5 h5 hL u eu => ?_))
        · rw [eu, nI_1]
          exact hK _ ⟨t + 1, by omega, rfl, Or.inr ⟨_, by have := ok.2.1; omega, h5, by rw [er2, bd_n hn]⟩⟩ dec
        · rw [eu, nI_1]
          have oA := ok.2.2 A hA
          have o1 := ok.2.1
          have ell : (L ++ B ++ A).length = (L ++ B).length + A.length := List.length_append
          rw [hL (by omega)] at h5
          have es : L ++ B ++ A ++ [-38] = L ++ (B ++ A ++ [-38]) := by simp
          rw [es] at h5
          refine hK _ ⟨t + 1, by omega, rfl, Or.inl ⟨_, B ++ A ++ [-38], ok.2.1, h5, ?_, ?_⟩⟩ dec
          · rw [← es, List.length_append, ell]; show _ + 1 + 2 ≤ _; omega
          · rw [er2, bd_s hA, show N - (t + 1) = j by omega]
    · have g := h2.ge (by omega) (by omega)
      have done : P M2 := kb (by rw [er]) M2 (by rw [er]; exact h2)
      exact ⟨fun _ => done, fun _ => ⟨fun _ => done, fun z => absurd g z⟩⟩
  refine rc_Test T hk hR M p L _ h hp hl (fun hn M1 h1 => loop M1 (Or.inr ⟨_, by have := ok1.2.1; omega, h1, by unfold pAn; rw [bd_n hn]⟩)) (fun A hA M1 h1 => loop M1 (Or.inl ⟨_, A, ok1.2.1, h1, ?_, by unfold pAn; rw [bd_s hA]⟩))
  have oA := ok1.2.2 A hA
  rw [List.length_append]; omega
theorem rc_Oo (T : TxC M0 c N d) {RO : Mem → Int32 → (Mem → Prop) → Prop} {k dp : Nat} (hk : dp + k = 8) (hR : RoC M0 c N k RO) : RdC M0 c N (pOo (pBr c N k) c N) (fun M P => s_X2_readOr RO M (nI dp) P) := by
  intro M p L P h hp hl kb kg
  have hN := T.2.2.2.1
  have hcE := T.2.2.2.2.2.1
  have hO := ok_Br hcE k
  have ok1 := ok_An hcE hO hp
  show s_X2_readOr RO M (nI dp) P
  unfold s_X2_readOr
  have loop : ∀ M1 : Mem, ((∃ q B, q ≤ N ∧ CRd M0 M1 q 0 (L ++ B) ∧ (L ++ B).length + 2 ≤ q ∧ pOo (pBr c N k) c N p = pOl (pBr c N k) c N N q B) ∨ (∃ ft, ft < 1000 ∧ Fdd M0 M1 N (ft + 1) ∧ pOo (pBr c N k) c N p = (ft, none))) →
      ∃ n, Lz (fun (K7 : Mem × Int32 → Prop) (a : Mem × Int32) => s_X2_readOr_7 RO (nI dp) P K7 a.1 a.2) n (M1, (0 : Int32)) := by
    intro M1 hI
    refine Lz_rule (fun a => ∃ t, t ≤ N ∧ a.2 = nI t ∧ ((∃ q B, q ≤ N ∧ CRd M0 a.1 q 0 (L ++ B) ∧ (L ++ B).length + 2 ≤ q ∧ pOo (pBr c N k) c N p = pOl (pBr c N k) c N (N - t) q B) ∨ (∃ ft, ft < 1000 ∧ Fdd M0 a.1 N (ft + 1) ∧ pOo (pBr c N k) c N p = (ft, none)))) (fun a => N - a.2.toNatClampNeg) ?_ ⟨0, Nat.zero_le _, rfl, hI⟩
    rintro K ⟨M2, x⟩ ⟨t, ht, e, hI⟩ hK
    dsimp only at e hI
    show s_X2_readOr_7 RO (nI dp) P K M2 x
    unfold s_X2_readOr_7
    rcases hI with ⟨q, B, hq, h2, hl2, er⟩ | ⟨ft, hft, h2, er⟩
    · have e4 : M2.1 8 0 4 = nI N := (T.mv h2.1).2.2.1
      rw [e4, e, nI_leI (by omega) (by omega)]
      have stop : pOo (pBr c N k) c N p = (q, some B) → P M2 := fun e5 => kg B (by rw [e5]) M2 (by rw [e5]; exact h2)
      refine ⟨fun z => stop (by rw [er, show N - t = 0 by omega]; rfl), fun z => ⟨fun z2 => absurd z2 h2.lt, fun _ => ?_⟩⟩
      obtain ⟨j, hj⟩ : ∃ j, N - t = j + 1 := ⟨N - t - 1, by omega⟩
      rw [hj] at er
      refine rc_here (T.mv h2.1) h2.2.1 hq ?_
      have h124 : hw c N q = 124 ↔ c q = 124 := hw_eq T (k := 124) rfl (by omega)
      rw [h124]
      refine ⟨fun z2 => stop ?_, fun hc M3 m3 => ?_⟩
      · rw [er]; unfold pOl; rw [if_neg z2]
      · have hlt := hcE.lt (p := q) (by omega)
        have ok := ok_An hcE hO (p := q + 1) hlt
        have er2 : pOo (pBr c N k) c N p = bd (pAn (pBr c N k) c N (q + 1)) (fun q2 A => pOl (pBr c N k) c N j q2 (B ++ A ++ [-124])) := by
          rw [er]; conv => lhs; unfold pOl
          rw [if_pos hc]
        have dec : N - (nI (t + 1)).toNatClampNeg < N - x.toNatClampNeg := by
          rw [e, nI_clamp (by omega), nI_clamp (by omega)]; omega
        refine rc_And T hk hR M3 (q + 1) (L ++ B) _ (h2.at m3 rfl) hlt (by omega) (fun hn M4 h4 => rc_stepF h4 (fun M5 h5 u eu => ?_)) (fun A hA M4 h4 => rc_step h4 (fun M5 L5 h5 hL u eu => ?_))
        · rw [eu, nI_1]
          exact hK _ ⟨t + 1, by omega, rfl, Or.inr ⟨_, by have := ok.2.1; omega, h5, by rw [er2, bd_n hn]⟩⟩ dec
        · rw [eu, nI_1]
          have oA := ok.2.2 A hA
          have o1 := ok.2.1
          have ell : (L ++ B ++ A).length = (L ++ B).length + A.length := List.length_append
          rw [hL (by omega)] at h5
          have es : L ++ B ++ A ++ [-124] = L ++ (B ++ A ++ [-124]) := by simp
          rw [es] at h5
          refine hK _ ⟨t + 1, by omega, rfl, Or.inl ⟨_, B ++ A ++ [-124], ok.2.1, h5, ?_, ?_⟩⟩ dec
          · rw [← es, List.length_append, ell]; show _ + 1 + 2 ≤ _; omega
          · rw [er2, bd_s hA, show N - (t + 1) = j by omega]
    · have g := h2.ge (by omega) (by omega)
      have done : P M2 := kb (by rw [er]) M2 (by rw [er]; exact h2)
      exact ⟨fun _ => done, fun _ => ⟨fun _ => done, fun z => absurd g z⟩⟩
  refine rc_And T hk hR M p L _ h hp hl (fun hn M1 h1 => loop M1 (Or.inr ⟨_, by have := ok1.2.1; omega, h1, by unfold pOo; rw [bd_n hn]⟩)) (fun A hA M1 h1 => loop M1 (Or.inl ⟨_, A, ok1.2.1, h1, ?_, by unfold pOo; rw [bd_s hA]⟩))
  have oA := ok1.2.2 A hA
  rw [List.length_append]; omega
theorem rc_sr (T : TxC M0 c N d) : ∀ k n dp, k < n → dp + k = 8 → RdC M0 c N (pOo (pBr c N k) c N) (fun M P => sr_X2_readOr n M (nI dp) P) := by
  intro k
  induction k with
  | zero =>
    intro n dp hn hk
    obtain ⟨n, rfl⟩ : ∃ j, n = j + 1 := ⟨n - 1, by omega⟩
    exact rc_Oo T hk (fun j dp' e _ => by omega)
  | succ k ih =>
    intro n dp hn hk
    obtain ⟨n, rfl⟩ : ∃ j, n = j + 1 := ⟨n - 1, by omega⟩
    refine rc_Oo T hk (fun j dp' e e2 => ?_)
    have : j = k := by omega
    subst this
    exact ih n (dp' + 1) (by omega) (by omega)
end CTX2
/-- the class's reading of a text leaves all but its own cells -/
def eqF (M M' : Mem) : Prop := (∀ c, c ≠ 8 → c ≠ 40 → M'.1 c = M.1 c) ∧ M'.2.1 = M.2.1 ∧ ∀ c i j, c ≠ 4 → M'.2.2 c i j = M.2.2 c i j
theorem eqC.F {M M' : Mem} (h : eqC M M') : eqF M M' := ⟨h.1, by rw [h.2.2], fun c i j _ => by rw [h.2.2]⟩
theorem eqF.tr {M M1 M2 : Mem} (h : eqF M M1) (g : eqF M1 M2) : eqF M M2 := ⟨fun c a b => (g.1 c a b).trans (h.1 c a b), g.2.1.trans h.2.1, fun c i j a => (g.2.2 c i j a).trans (h.2.2 c i j a)⟩
theorem eqF.w {M : Mem} {j : Nat} {v : Int32} : eqF M (wI M 8 0 j v) := ⟨fun c a _ => wI_cc a, rfl, fun _ _ _ _ => rfl⟩
/-- the text of a row of bytes -/
def txt (g : Nat → Int32) (n : Nat) (p : Nat) : Nat := if p < n then (if (g p).toInt < 0 then ((g p).toInt + 256).toNat else (g p).toInt.toNat) else 999
theorem txt_E (g : Nat → Int32) (n : Nat) : cE (txt g n) n := fun p hp => if_neg (by omega)
theorem fit_t {x : Int32} (h : x.toInt8.toInt32 = x) : -128 ≤ x.toInt ∧ x.toInt < 128 := by
  have h1 := x.toInt8.le_toInt
  have h2 := x.toInt8.toInt_lt
  have h3 : x.toInt = x.toInt8.toInt := by
    conv => lhs; rw [← h]
    exact Int8.toInt_toInt32 _
  omega
theorem txt_sc {g : Nat → Int32} {n p : Nat} (h : fitS 0 (g p)) (hp : p < n) : txt g n p < 256 ∧ g p = sc (txt g n p) := by
  have hb := fit_t (h.1 rfl)
  unfold txt
  rw [if_pos hp]
  by_cases q : (g p).toInt < 0
  · rw [if_pos q]
    refine ⟨by omega, ?_⟩
    rw [eq_i, sc_t (by omega), if_neg (by omega)]
    omega
  · rw [if_neg q]
    refine ⟨by omega, ?_⟩
    rw [eq_i, sc_t (by omega), if_pos (by omega)]
    omega
/-- firstFault: the fault, or the steps and the purpose -/
theorem tC_first {M : Mem} {S : Sg} {d : Nat} {P : Int32 → Mem → Prop} (h : RCS M S) (hd : d < 8) (h2 : hd0 S d = 2) (h4 : S.2.2.1 4 d = 0) (hn : S.2.2.1 5 d ≤ 80) (hf : ∀ j, j < 80 → fitS (S.2.2.1 4 d) (S.2.2.2 d j))
    (kb : ∀ M', (pAct (txt (S.2.2.2 d) (S.2.2.1 5 d)) (S.2.2.1 5 d)).2 = none → eqF M M' → P (nI (pAct (txt (S.2.2.2 d) (S.2.2.1 5 d)) (S.2.2.1 5 d)).1) M')
    (kg : ∀ M' A, (pAct (txt (S.2.2.2 d) (S.2.2.1 5 d)) (S.2.2.1 5 d)).2 = some A → eqF M M' → M'.1 8 0 1 = nI A.length → A.length ≤ 80 → (∀ j, j < A.length → M'.1 40 0 j = A.getD j 0) → purN (txt (S.2.2.2 d) (S.2.2.1 5 d) 0) ≠ 0 → M'.1 8 0 2 = nI (purN (txt (S.2.2.2 d) (S.2.2.1 5 d) 0) - 1) → P (-1) M') : s_X2_firstFault d M P := by
  generalize hN : S.2.2.1 5 d = N at *
  generalize hg : S.2.2.2 d = g at *
  rw [h4] at hf
  have hc : ∀ p, p < N → txt g N p < 256 ∧ g p = sc (txt g N p) := fun p hp => txt_sc (hf p (by omega)) hp
  have hcE := txt_E g N
  generalize txt g N = c at *
  obtain ⟨r0, r1, r2⟩ := h d hd
  obtain ⟨-, s5, s39⟩ := r2 h2
  rw [hN] at s5
  rw [hg] at s39
  unfold s_X2_firstFault
  intro M1 m1
  have o4 : M1.2.2 4 0 0 = d + 1 := by rw [m1]; simp [wO, uR, va_up]
  have f1 : eqF M M1 := by
    rw [m1]
    refine ⟨fun _ _ _ => rfl, rfl, fun c i j hc => ?_⟩
    show (uR M.2.2 4 0 _) c i j = _
    unfold uR
    rw [if_neg (fun x => hc x.1)]
  have i1 : M1.1 = M.1 := by rw [m1]; rfl
  refine ⟨d, o4, hd, fun M2 m2 M3 m3 M4 m4 M5 m5 => ?_⟩
  have f5 : eqF M1 M5 := by
    have a2 : eqF M1 M2 := by rw [m2]; exact eqF.w
    have a3 : eqF M2 M3 := by rw [m3]; exact eqF.w
    have a4 : eqF M3 M4 := by rw [m4]; exact eqF.w
    have a5 : eqF M4 M5 := by rw [m5]; exact eqF.w
    exact a2.tr (a3.tr (a4.tr a5))
  have z4 : M5.1 8 0 4 = nI N := by
    rw [m5, wI_at, if_neg (by omega), m4, wI_at, if_neg (by omega), m3, wI_at, if_neg (by omega), m2, wI_at, if_pos ⟨rfl, rfl, rfl⟩, i1, s5]
    have : (80 : Int32) < nI N ↔ 80 < N := nI_ltI (a := 80) (by omega) (by omega)
    rw [if_neg (by rw [this]; omega)]
  have z5 : M5.1 8 0 5 = nI 0 := by
    rw [m5, wI_at, if_neg (by omega), m4, wI_at, if_neg (by omega), m3, wI_at, if_pos ⟨rfl, rfl, rfl⟩]; rfl
  have z6 : M5.1 8 0 6 = mI 0 := by
    rw [m5, wI_at, if_neg (by omega), m4, wI_at, if_pos ⟨rfl, rfl, rfl⟩]; rfl
  have z1 : M5.1 8 0 1 = nI 0 := by rw [m5, wI_at, if_pos ⟨rfl, rfl, rfl⟩]; rfl
  have o5 : M5.2.2 4 0 0 = d + 1 := by
    rw [m5, m4, m3, m2]; exact o4
  have T5 : TxC M5 c N d := ⟨hd, o5, z4, hn, fun p hp => (hc p hp).1, hcE, fun p hp => by
    rw [f5.1 39 (by omega) (by omega), i1, s39 p (by omega)]; exact (hc p hp).2⟩
  refine rc_here T5 z5 (Nat.zero_le _) ?_
  unfold s_X2_placeOf
  rw [(hw_plc T5 0).2.1]
  dsimp only
  intro M6 m6
  have f6 : eqF M5 M6 := by rw [m6]; exact eqF.w
  have fM : eqF M M6 := f1.tr (f5.tr f6)
  have j6 : ∀ j, j ≠ 2 → M6.1 8 0 j = M5.1 8 0 j := fun j hj => by rw [m6, wI_at, if_neg (fun x => hj x.2.2)]
  have e62 : M6.1 8 0 2 = mI (purN (c 0)) := by rw [m6, wI_at, if_pos ⟨rfl, rfl, rfl⟩]
  have T6 : TxC M6 c N d := by
    obtain ⟨t1, t2, t3, t4, t5, t6, t7⟩ := T5
    exact ⟨t1, by rw [m6]; exact t2, by rw [j6 4 (by omega)]; exact t3, t4, t5, t6, fun p hp => by rw [m6, wI_cc (by omega)]; exact t7 p hp⟩
  have hp3 : purN (c 0) ≤ 3 ∧ (purN (c 0) ≠ 0 ↔ (c 0 = 101 ∨ c 0 = 114 ∨ c 0 = 111)) := by
    unfold purN
    split
    · exact ⟨by omega, by omega⟩
    · split
      · exact ⟨by omega, by omega⟩
      · split
        · exact ⟨by omega, by omega⟩
        · exact ⟨by omega, by omega⟩
  rw [e62, mI_ge (by omega)]
  refine ⟨fun z => ?_, fun z => ?_⟩
  · have hz := hp3.2.mp z
    have h0 := hcE.lt (p := 0) (by omega)
    intro M7 m7
    have C6 : CRd M6 M6 0 0 [] := ⟨eqC.rf, by rw [j6 5 (by omega)]; exact z5, by rw [j6 6 (by omega)]; exact z6, by rw [j6 1 (by omega)]; exact z1, Nat.zero_le _, fun j hj => absurd hj (Nat.not_lt_zero j)⟩
    have C7 : CRd M6 M7 1 0 [] := C6.at m7 rfl
    -- how it ends
    have endB : ∀ q M', Fdd M6 M' N (q + 1) → q ≤ N → pAct c N = (q, none) → s_X2_firstFault_125 d P M' := by
      intro q M' h' hq e
      rw [e] at kb
      unfold s_X2_firstFault_125 s_X2_firstFault_150
      have g := h'.ge (by omega) (by omega)
      refine ⟨fun _ => ?_, fun y => absurd g y⟩
      obtain ⟨p, L, hp, h'⟩ := h'
      rw [h'.2.2.1, mI_s]
      exact kb M' rfl (fM.tr h'.1.F)
    have endG : ∀ q A M', CRd M6 M' q 0 A → q ≤ N → (q < N → pAct c N = (q, none)) → (q = N → pAct c N = (q, some A)) → s_X2_firstFault_125 d P M' := by
      intro q A M' h' hq e1 e2
      unfold s_X2_firstFault_125 s_X2_firstFault_150
      refine ⟨fun y => absurd y h'.lt, fun _ => ?_⟩
      have e4 : M'.1 8 0 4 = nI N := (T6.mv h'.1).2.2.1
      rw [e4, h'.2.1, nI_leI (by omega) (by omega)]
      refine ⟨fun y => ?_, fun y => ?_⟩
      · rw [e2 (by omega)] at kg
        rw [h'.2.2.1]
        refine kg M' A rfl (fM.tr h'.1.F) h'.2.2.2.1 h'.2.2.2.2.1 h'.2.2.2.2.2 z ?_
        rw [h'.1.2.1 0 2 (by omega), e62, mI_pred z]
      · rw [e1 (by omega)] at kb
        exact kb M' rfl (fM.tr h'.1.F)
    have e58 : hw c N 1 = 58 ↔ c 1 = 58 := hw_eq T6 (k := 58) rfl (by omega)
    have after : ∀ M8, ((∃ q, q ≤ N ∧ Fdd M6 M8 N (q + 1) ∧ pAct c N = (q, none)) ∨ (∃ q A, q ≤ N ∧ CRd M6 M8 q 0 A ∧ A.length + 2 ≤ q ∧ pAct c N = (if c q = 117 then bd (pOo (pBr c N 8) c N (q + 1)) (fun q2 B => if q2 < N then (q2, none) else (q2, some (A ++ B ++ [-33] ++ [-38]))) else if q < N then (q, none) else (q, some A)))) → (0 ≤ M8.1 8 0 6 → s_X2_firstFault_125 d P M8) ∧ (¬ 0 ≤ M8.1 8 0 6 → s_X2_here M8 (fun rr90 Mm90 => (¬ rr90 = (117 : Int32) → s_X2_firstFault_125 d P Mm90) ∧ (rr90 = (117 : Int32) → ∀ Mm105 : Mem, Mm105 = wI Mm90 8 0 5 ((Mm90.1 8 0 5) + (1 : Int32)) → sr_X2_readOr 10 Mm105 (0 : Int32) (fun Mm110 => s_X2_addStep Mm110 (-33 : Int32) (fun Mm116 => s_X2_addStep Mm116 (-38 : Int32) (fun Mm122 => s_X2_firstFault_125 d P Mm122)))))) := by
      intro M8 hh
      rcases hh with ⟨q, hq, h8, e⟩ | ⟨q, A, hq, h8, hl, e⟩
      · have g := h8.ge (by omega) (by omega)
        exact ⟨fun _ => endB q M8 h8 hq e, fun y => absurd g y⟩
      · refine ⟨fun y => absurd y h8.lt, fun _ => rc_here (T6.mv h8.1) h8.2.1 hq ?_⟩
        have e117 : hw c N q = 117 ↔ c q = 117 := hw_eq T6 (k := 117) rfl (by omega)
        rw [e117]
        refine ⟨fun y => endG q A M8 h8 hq (fun w => by rw [e, if_neg y, if_pos w]) (fun w => by rw [e, if_neg y, if_neg (by omega)]), fun y M9 m9 => ?_⟩
        have hlt := hcE.lt (p := q) (by omega)
        rw [if_pos y] at e
        have ok := ok_Oo hcE (ok_Br hcE 8) (p := q + 1) hlt
        have o1 := ok.2.1
        refine rc_sr T6 8 10 0 (by omega) rfl M9 (q + 1) A _ (h8.at m9 rfl) hlt (by omega) (fun hn2 M10 h10 => ?_) (fun B hB M10 h10 => ?_)
        · rw [bd_n hn2] at e
          exact rc_stepF h10 (fun M11 h11 => rc_stepF h11 (fun M12 h12 => endB _ M12 h12 o1 e))
        · rw [bd_s hB] at e
          have oB := ok.2.2 B hB
          have ell : (A ++ B).length = A.length + B.length := List.length_append
          refine rc_step h10 (fun M11 L11 h11 hL11 => rc_step h11 (fun M12 L12 h12 hL12 => ?_))
          have x1 := hL11 (by omega)
          have ell2 : L11.length = A.length + B.length + 1 := by rw [x1, List.length_append, ell]; rfl
          have x2 := hL12 (by omega)
          rw [x2, x1] at h12
          exact endG _ _ M12 h12 o1 (fun w => by rw [e, if_pos w]) (fun w => by rw [e, if_neg (by omega)])
    unfold s_X2_readSign
    refine ⟨fun y => absurd y C7.lt, fun _ => rc_here (T6.mv C7.1) C7.2.1 h0 ?_⟩
    rw [e58]
    refine ⟨fun y => ?_, fun y M8 m8 => ?_⟩
    · unfold s_X2_readSign_28
      have e : pAct c N = (1, none) := by unfold pAct; rw [if_pos hz, if_neg y]
      refine rc_failG T6 C7 h0 (fun M8 h8 => ?_)
      show sr_X2_readOr (9 + 1) M8 0 _
      exact fd_Or T6 h8 (by omega) (by omega) (fun M9 h9 => after M9 (Or.inl ⟨1, h0, h9, e⟩))
    · have h1 := hcE.lt (p := 1) (by omega)
      have C8 : CRd M6 M8 2 0 [] := C7.at m8 rfl
      have e : pAct c N = bd (pOo (pBr c N 8) c N 2) (fun q A => if c q = 117 then bd (pOo (pBr c N 8) c N (q + 1)) (fun q2 B => if q2 < N then (q2, none) else (q2, some (A ++ B ++ [-33] ++ [-38]))) else if q < N then (q, none) else (q, some A)) := by
        conv => lhs; unfold pAct
        rw [if_pos hz, if_pos y]
      have ok := ok_Oo hcE (ok_Br hcE 8) (p := 2) h1
      refine rc_sr T6 8 10 0 (by omega) rfl M8 2 [] _ C8 h1 (Nat.le_refl _) (fun hn2 M9 h9 => after M9 (Or.inl ⟨_, ok.2.1, h9, by rw [e, bd_n hn2]⟩)) (fun A hA M9 h9 => after M9 (Or.inr ⟨_, A, ok.2.1, h9, ?_, by rw [e, bd_s hA]⟩))
      have oA := ok.2.2 A hA
      omega
  · have e : pAct c N = (0, none) := by
      unfold pAct
      rw [if_neg (fun y => z (hp3.2.mpr y))]
    rw [e] at kb
    exact kb M6 rfl fM
