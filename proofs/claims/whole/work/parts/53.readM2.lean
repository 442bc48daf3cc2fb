/-! THE REFERENCE's signs and values -/
def stN (R : Nat → Int32) : List Nat → Prop
  | [] => True
  | v :: S => R S.length = nI v ∧ v < 256 ∧ stN R S
def stB (R : Nat → Int32) : List Bool → Prop
  | [] => True
  | v :: V => R V.length = bI v ∧ stB R V
theorem stN.fr {R R' : Nat → Int32} : ∀ {S : List Nat}, stN R S → (∀ j, j < S.length → R' j = R j) → stN R' S
  | [], _, _ => trivial
  | v :: S, h, e => ⟨by rw [e S.length (by show S.length < S.length + 1; omega)]; exact h.1, h.2.1, stN.fr h.2.2 (fun j hj => e j (by show j < S.length + 1; omega))⟩
theorem stB.fr {R R' : Nat → Int32} : ∀ {V : List Bool}, stB R V → (∀ j, j < V.length → R' j = R j) → stB R' V
  | [], _, _ => trivial
  | v :: V, h, e => ⟨by rw [e V.length (by show V.length < V.length + 1; omega)]; exact h.1, stB.fr h.2 (fun j hj => e j (by show j < V.length + 1; omega))⟩
def StM (M : Mem) (S : List Nat) (V : List Bool) : Prop := M.1 10 0 35 = nI S.length ∧ M.1 10 0 33 = nI V.length ∧ stN (M.1 65 0) S ∧ stB (M.1 64 0) V ∧ S.length ≤ 100 ∧ V.length ≤ 90
def nb : List Nat → Nat
  | [] => 0
  | x :: S => (if x = 38 ∨ x = 124 then 1 else 0) + nb S
theorem nar_bool {x : Int32} (h : isB x) : vp_nar .boolean x = x := by
  unfold vp_nar
  rw [isB_n h]
theorem bI_B (b : Bool) : isB (bI b) := by cases b; exact isB_0; exact isB_1
theorem bI_0 {b : Bool} : bI b = 0 ↔ b = false := by cases b <;> decide
theorem tp_lt {R : Nat → Int32} {S : List Nat} (h : stN R S) : tp S < 256 := by
  cases S with
  | nil => show 0 < 256; omega
  | cons x S => exact h.2.1
theorem rm_top {M : Mem} {S : List Nat} {V : List Bool} {P : Int32 → Mem → Prop} (h : StM M S V) (k : P (nI (tp S)) M) : s_X12_topSign M P := by
  obtain ⟨h1, h2, h3, h4, h5, h6⟩ := h
  unfold s_X12_topSign
  rw [h1]
  have e0 : nI S.length = 0 ↔ S.length = 0 := eqk (by omega) rfl (by omega)
  rw [e0]
  refine ⟨fun q => ?_, fun q => ?_⟩
  · cases S with
    | nil => exact absurd rfl q
    | cons x S =>
      have e1 : nI (x :: S).length - 1 = nI S.length := nI_pred _
      have hl : S.length + 1 ≤ 100 := h5
      rw [e1]
      refine ⟨vp_in_nI (by omega) (by omega), ?_⟩
      rw [nI_clamp (by omega), h3.1]
      exact k
  · cases S with
    | nil => exact k
    | cons x S => cases q
theorem rm_te {M : Mem} {S : List Nat} {v : Bool} {V : List Bool} {P : Mem → Prop} (h : StM M S (v :: V)) (k : ∀ M', eqT M M' → StM M' (te S (v :: V)).1 (te S (v :: V)).2 → (te S (v :: V)).2.length = V.length + 1 → nb (te S (v :: V)).1 = nb S → n40 (te S (v :: V)).1 = n40 S → (te S (v :: V)).1.length ≤ S.length → P M') : s_X12_testEnds M P := by
  unfold s_X12_testEnds
  refine Lz_rule (fun a => ∃ S' v', eqT M a ∧ StM a S' (v' :: V) ∧ te S (v :: V) = te S' (v' :: V) ∧ nb S' = nb S ∧ n40 S' = n40 S ∧ S'.length ≤ S.length) (fun a => (a.1 10 0 35).toNatClampNeg) ?_ ⟨S, v, eqT.rf, h, rfl, rfl, rfl, Nat.le_refl _⟩
  rintro K M1 ⟨S', v', e1, e2, e3, e4, e5, e6⟩ hK
  have tl := tp_lt e2.2.2.1
  unfold s_X12_testEnds_0
  refine rm_top e2 ?_
  have h33 : nI (tp S') = 33 ↔ tp S' = 33 := eqk (by omega) rfl (by omega)
  rw [h33]
  refine ⟨fun q => ?_, fun q => ?_⟩
  · have ee := te_ne (V := v' :: V) q
    rw [e3, ee] at k
    exact k M1 e1 e2 rfl e4 e5 e6
  · cases S' with
    | nil => exact absurd q (by decide)
    | cons x S' =>
      have hx : x = 33 := q
      subst hx
      obtain ⟨h1, h2, h3, h4, h5, h6⟩ := e2
      have hv6 : V.length + 1 ≤ 90 := h6
      have hs5 : S'.length + 1 ≤ 100 := h5
      have ep : M1.1 10 0 33 - 1 = nI V.length := by rw [h2]; exact nI_pred _
      rw [ep, nI_clamp (by omega), h4.1, bI_0]
      have step : ∀ y : Int32, y = bI (!v') → s_X12_testEnds_38 P K M1 y (nI V.length) := by
        intro y ey
        unfold s_X12_testEnds_38
        refine ⟨vp_in_nI (by omega) (by omega), fun M2 m2 M3 m3 => ?_⟩
        rw [nI_clamp (by omega), nar_bool (by rw [ey]; exact bI_B _)] at m2
        have q2 : eqT M1 M2 := by rw [m2]; exact eqT.w64
        have q3 : eqT M2 M3 := by rw [m3]; exact eqT.w (Or.inr rfl)
        have a35 : M3.1 10 0 35 = nI S'.length := by
          rw [m3, wI_at, if_pos ⟨rfl, rfl, rfl⟩, m2, wI_cc (by omega), h1]; exact nI_pred _
        have a33 : M3.1 10 0 33 = nI (V.length + 1) := by
          rw [m3, wI_at, if_neg (by omega), m2, wI_cc (by omega), h2]; rfl
        have a65 : M3.1 65 0 = M1.1 65 0 := by rw [m3, wI_cc (by omega), m2, wI_cc (by omega)]
        have a64 : ∀ j, M3.1 64 0 j = if j = V.length then y else M1.1 64 0 j := by
          intro j
          rw [m3, wI_cc (by omega), m2, wI_at]
          by_cases z : j = V.length
          · rw [if_pos ⟨rfl, rfl, z⟩, if_pos z]
          · rw [if_neg (fun x => z x.2.2), if_neg z]
        refine hK M3 ⟨S', !v', e1.tr (q2.tr q3), ⟨a35, a33, by rw [a65]; exact h3.2.2, ⟨?_, h4.2.fr (fun j hj => by rw [a64, if_neg (by omega)])⟩, by omega, h6⟩, by rw [e3, te_eq], ?_, ?_, ?_⟩ ?_
        · rw [a64, if_pos rfl, ey]
        · rw [← e4]; show nb S' = (if (33 : Nat) = 38 ∨ (33 : Nat) = 124 then 1 else 0) + nb S'; rw [if_neg (by omega)]; omega
        · rw [← e5, n40_ne (by omega)]
        · have : S'.length + 1 ≤ S.length := e6
          omega
        · show (M3.1 10 0 35).toNatClampNeg < (M1.1 10 0 35).toNatClampNeg
          rw [a35, h1, nI_clamp (by omega), nI_clamp (by omega)]
          show S'.length < S'.length + 1
          omega
      refine ⟨vp_in_nI (by omega) (by omega), fun z => step 0 ?_, fun z => step 1 ?_⟩
      · have : v' = true := by cases v'; exact absurd rfl z; rfl
        rw [this]; rfl
      · rw [z]; rfl
theorem rm_jn {M : Mem} {g : Nat} {G : Int32} (hg : g = 38 ∨ g = 124) (hG : G = nI g) {S : List Nat} {V : List Bool} {P : Mem → Prop} (h : StM M S V) (hn : nb S + 1 = V.length) (k : ∀ M', eqT M M' → StM M' (jn g S V).1 (jn g S V).2 → nb (jn g S V).1 + 1 = (jn g S V).2.length → n40 (jn g S V).1 = n40 S → (jn g S V).1.length + (jn g S V).2.length ≤ S.length + V.length → P M') : s_X12_join M G P := by
  subst hG
  unfold s_X12_join
  refine Lz_rule (fun a => ∃ S' V', eqT M a ∧ StM a S' V' ∧ jn g S V = jn g S' V' ∧ nb S' + 1 = V'.length ∧ n40 S' = n40 S ∧ S'.length + V'.length ≤ S.length + V.length) (fun a => (a.1 10 0 35).toNatClampNeg) ?_ ⟨S, V, eqT.rf, h, rfl, hn, rfl, Nat.le_refl _⟩
  rintro K M1 ⟨S', V', e1, e2, e3, e4, e5, e6⟩ hK
  have tl := tp_lt e2.2.2.1
  unfold s_X12_join_0
  refine rm_top e2 ?_
  have hgg : nI (tp S') = nI g ↔ tp S' = g := nI_eq (by omega) (by omega)
  rw [hgg]
  refine ⟨fun q => ?_, fun q M2 m2 => ?_⟩
  · have ee := jn_ne (V := V') q
    rw [e3, ee] at k
    exact k M1 e1 e2 e4 e5 e6
  · cases S' with
    | nil => have : (0 : Nat) = g := q; omega
    | cons x S' =>
      have hx : x = g := q
      subst hx
      have e4' : (if x = 38 ∨ x = 124 then 1 else 0) + nb S' + 1 = V'.length := e4
      rw [if_pos hg] at e4'
      cases V' with
      | nil => cases e4'
      | cons a V' =>
        cases V' with
        | nil => simp at e4'
        | cons b V' =>
          obtain ⟨h1, h2, h3, h4, h5, h6⟩ := e2
          have hv6 : V'.length + 2 ≤ 90 := h6
          have hs5 : S'.length + 1 ≤ 100 := h5
          have a2 : M2.1 10 0 33 = nI (V'.length + 1) := by rw [m2, wI_at, if_pos ⟨rfl, rfl, rfl⟩, h2]; exact nI_pred _
          have a64 : M2.1 64 = M1.1 64 := by rw [m2, wI_cc (by omega)]
          have ep : M2.1 10 0 33 - 1 = nI V'.length := by rw [a2]; exact nI_pred _
          have v1 : M1.1 64 0 (V'.length + 1) = bI a := h4.1
          have v2 : M1.1 64 0 V'.length = bI b := h4.2.1
          rw [ep, a2, nI_clamp (show V'.length < 2 ^ 31 by omega), nI_clamp (show V'.length + 1 < 2 ^ 31 by omega), a64, v1, v2, bI_0, bI_0]
          have i0 : vp_in (nI V'.length) 100 := vp_in_nI (by omega) (by omega)
          have i1 : vp_in (nI (V'.length + 1)) 100 := vp_in_nI (by omega) (by omega)
          have step : ∀ y : Int32, y = bI (if x = 38 then (b && a) else (b || a)) → s_X12_join_99 (nI x) P K M2 y (nI V'.length) := by
            intro y ey
            unfold s_X12_join_99
            refine ⟨i0, fun M3 m3 M4 m4 => ?_⟩
            rw [nI_clamp (by omega), nar_bool (by rw [ey]; exact bI_B _)] at m3
            have q2 : eqT M1 M2 := by rw [m2]; exact eqT.w (Or.inl rfl)
            have q3 : eqT M2 M3 := by rw [m3]; exact eqT.w64
            have q4 : eqT M3 M4 := by rw [m4]; exact eqT.w (Or.inr rfl)
            have b35 : M4.1 10 0 35 = nI S'.length := by
              rw [m4, wI_at, if_pos ⟨rfl, rfl, rfl⟩, m3, wI_cc (by omega), m2, wI_at, if_neg (by omega), h1]; exact nI_pred _
            have b33 : M4.1 10 0 33 = nI (V'.length + 1) := by
              rw [m4, wI_at, if_neg (by omega), m3, wI_cc (by omega)]; exact a2
            have b65 : M4.1 65 0 = M1.1 65 0 := by rw [m4, wI_cc (by omega), m3, wI_cc (by omega), m2, wI_cc (by omega)]
            have b64 : ∀ j, M4.1 64 0 j = if j = V'.length then y else M1.1 64 0 j := by
              intro j
              rw [m4, wI_cc (by omega), m3, wI_at, a64]
              by_cases z : j = V'.length
              · rw [if_pos ⟨rfl, rfl, z⟩, if_pos z]
              · rw [if_neg (fun x => z x.2.2), if_neg z]
            refine hK M4 ⟨S', (if x = 38 then (b && a) else (b || a)) :: V', e1.tr (q2.tr (q3.tr q4)), ⟨b35, b33, by rw [b65]; exact h3.2.2, ⟨?_, h4.2.2.fr (fun j hj => by rw [b64, if_neg (by omega)])⟩, by omega, by show V'.length + 1 ≤ 90; omega⟩, by rw [e3, jn_eq], ?_, ?_, ?_⟩ ?_
            · rw [b64, if_pos rfl, ey]
            · show nb S' + 1 = V'.length + 1
              have : 1 + nb S' + 1 = V'.length + 1 + 1 := e4'
              omega
            · rw [← e5, n40_ne (by omega)]
            · have : S'.length + 1 + (V'.length + 1 + 1) ≤ S.length + V.length := e6
              show S'.length + (V'.length + 1) ≤ _
              omega
            · show (M4.1 10 0 35).toNatClampNeg < (M1.1 10 0 35).toNatClampNeg
              rw [b35, h1, nI_clamp (by omega), nI_clamp (by omega)]
              show S'.length < S'.length + 1
              omega
          have h38 : nI x = 38 ↔ x = 38 := eqk (by omega) rfl (by omega)
          rw [h38]
          refine ⟨fun z => ⟨i0, fun z1 => step 1 ?_, fun z1 => ⟨i1, fun z2 => step 0 ?_, fun z2 => step 1 ?_⟩⟩, fun z => ⟨i0, fun z1 => step 0 ?_, fun z1 => ⟨i1, fun z2 => step 0 ?_, fun z2 => step 1 ?_⟩⟩⟩
          · rw [if_neg z]; cases b; exact absurd rfl z1; rfl
          · rw [if_neg z, z1, z2]; rfl
          · rw [if_neg z, z1]; cases a; exact absurd rfl z2; rfl
          · rw [if_pos z, z1]; rfl
          · rw [if_pos z, z2]; cases b <;> rfl
          · rw [if_pos z]; cases a; exact absurd rfl z2; cases b; exact absurd rfl z1; rfl
theorem StM.push {M M' : Mem} {S : List Nat} {V : List Bool} {x : Nat} (h : StM M S V) (hx : x < 256) (hl : S.length < 100) (e35 : M'.1 10 0 35 = nI (S.length + 1)) (e33 : M'.1 10 0 33 = M.1 10 0 33) (e64 : M'.1 64 0 = M.1 64 0) (e65 : ∀ j, M'.1 65 0 j = if j = S.length then nI x else M.1 65 0 j) : StM M' (x :: S) V := by
  obtain ⟨h1, h2, h3, h4, h5, h6⟩ := h
  exact ⟨e35, by rw [e33]; exact h2, ⟨by rw [e65, if_pos rfl], hx, h3.fr (fun j hj => by rw [e65, if_neg (by omega)])⟩, by rw [e64]; exact h4, hl, h6⟩
/-- an OR of the reference from its beginning -/
theorem rm_Or {M : Mem} {c : Nat → Nat} {N p : Nat} {f : Nat → Int32} {u : Bool} {ρ : Nat × Option Bool} {P : Int32 → Mem → Prop} (T : TxM M c N) (F : FlM M f) (h26 : M.1 10 0 26 = nI p) (hp : p ≤ N) (h27 : M.1 10 0 27 = 0) (G : Go c N f u true p [] [] ρ)
    (kb : ∀ q M', ρ = (q, none) → q ≤ N → eqR M M' → M'.1 10 0 26 = nI q → M'.1 10 0 27 = 1 → P 0 M')
    (kg : ∀ q v M', ρ = (q, some v) → q ≤ N → eqR M M' → M'.1 10 0 26 = nI q → M'.1 10 0 27 = 0 → P (bI v) M') : s_X12_readOr M (bI u) P := by
  have hN := T.2.1
  have hcE := T.2.2.2.1
  unfold s_X12_readOr
  intro M1 m1 M2 m2 M3 m3
  have q1 : eqR M M1 := by rw [m1]; exact eqR.w (by omega)
  have q2 : eqR M1 M2 := by rw [m2]; exact eqR.w (by omega)
  have q3 : eqR M2 M3 := by rw [m3]; exact eqR.w (by omega)
  have s26 : M3.1 10 0 26 = nI p := by rw [m3, wI_at, if_neg (by omega), m2, wI_at, if_neg (by omega), m1, wI_at, if_neg (by omega)]; exact h26
  have s27 : M3.1 10 0 27 = 0 := by rw [m3, wI_at, if_neg (by omega), m2, wI_at, if_neg (by omega), m1, wI_at, if_neg (by omega)]; exact h27
  have s28 : M3.1 10 0 28 = nI 0 := by rw [m3, wI_at, if_neg (by omega), m2, wI_at, if_neg (by omega), m1, wI_at, if_pos ⟨rfl, rfl, rfl⟩]; rfl
  have s33 : M3.1 10 0 33 = nI 0 := by rw [m3, wI_at, if_neg (by omega), m2, wI_at, if_pos ⟨rfl, rfl, rfl⟩]; rfl
  have s35 : M3.1 10 0 35 = nI 0 := by rw [m3, wI_at, if_pos ⟨rfl, rfl, rfl⟩]; rfl
  refine Lz_rule (fun a => eqR M a.1 ∧ ∃ q, q ≤ N ∧ a.1.1 10 0 26 = nI q ∧
      ((a.1.1 10 0 27 = 0 ∧ a.2.2 = 0 ∧ ∃ n w S V, a.2.1 = bI w ∧ mr c N f u n w q S V = some ρ ∧ StM a.1 S V ∧ a.1.1 10 0 28 = nI (n40 S) ∧ nb S + (if w = true then 0 else 1) = V.length ∧ S.length + V.length ≤ q) ∨
       (a.1.1 10 0 27 = 1 ∧ ρ = (q, none)) ∨ (a.1.1 10 0 27 = 0 ∧ a.2.2 = 1 ∧ ∃ v, ρ = (q, some v) ∧ StM a.1 [] [v])))
    (fun a => 2 * (N - (a.1.1 10 0 26).toNatClampNeg) + (if a.1.1 10 0 27 = 0 ∧ a.2.2 = 0 then 1 else 0)) ?_
    ⟨q1.tr (q2.tr q3), p, hp, s26, Or.inl ⟨s27, rfl, ?_⟩⟩
  case refine_2 =>
    obtain ⟨n, hn⟩ := G
    exact ⟨n, true, [], [], rfl, hn, ⟨s35, s33, trivial, trivial, by show 0 ≤ 100; omega, by show 0 ≤ 90; omega⟩, s28, rfl, by show 0 + 0 ≤ p; omega⟩
  rintro K ⟨M4, x2, x3⟩ ⟨z0, q, hq, z1, z2⟩ hK
  dsimp only at z0 z1 z2
  show s_X12_readOr_19 (bI u) P K M4 x2 x3
  unfold s_X12_readOr_19
  rcases z2 with ⟨z2, z3, n, w, S, V, e2, en, hS, e28, enb, hlen⟩ | ⟨z2, e⟩ | ⟨z2, z3, v, e, hS⟩
  · -- running
    rw [z2, z3]
    refine ⟨fun y => absurd rfl y, fun _ => ⟨fun y => absurd rfl y, fun _ => ?_⟩⟩
    have T4 := T.mv z0
    have F4 := F.mv z0
    have b5 := hS.2.2.2.2.1
    have b6 := hS.2.2.2.2.2
    obtain ⟨n, rfl⟩ : ∃ j, n = j + 1 := by cases n with
      | zero => cases en
      | succ j => exact ⟨j, rfl⟩
    have mu : ∀ q', q' ≤ N → ∀ (M5 : Mem) (y2 y3 : Int32), M5.1 10 0 26 = nI q' → (q < q' ∨ (q = q' ∧ (M5.1 10 0 27 = 1 ∨ y3 = 1))) →
        2 * (N - (M5.1 10 0 26).toNatClampNeg) + (if M5.1 10 0 27 = 0 ∧ y3 = 0 then 1 else 0) < 2 * (N - (M4.1 10 0 26).toNatClampNeg) + (if M4.1 10 0 27 = 0 ∧ x3 = 0 then 1 else 0) := by
      intro q' hq' M5 y2 y3 r1 r2
      have hif : (if M4.1 10 0 27 = 0 ∧ x3 = 0 then 1 else 0) = 1 := if_pos ⟨z2, z3⟩
      rw [r1, z1, nI_clamp (by omega), nI_clamp (by omega), hif]
      rcases r2 with r2 | ⟨r2, r3⟩
      · split <;> omega
      · rw [if_neg]
        · omega
        · rintro ⟨t1, t2⟩
          rcases r3 with r3 | r3
          · rw [r3] at t1; exact absurd t1 (by decide)
          · rw [r3] at t2; exact absurd t2 (by decide)
    -- the three ways on
    have toBad : ∀ (M5 : Mem) (y2 y3 : Int32), eqR M M5 → M5.1 10 0 26 = nI q → M5.1 10 0 27 = 1 → ρ = (q, none) → K (M5, y2, y3) :=
      fun M5 y2 y3 r1 r2 r3 r4 => hK _ ⟨r1, q, hq, r2, Or.inr (Or.inl ⟨r3, r4⟩)⟩ (mu q hq M5 y2 y3 r2 (Or.inr ⟨rfl, Or.inl r3⟩))
    have toRun : ∀ (M5 : Mem) (y2 : Int32) (q' : Nat) (w' : Bool) (S' : List Nat) (V' : List Bool), q < q' → q' ≤ N → eqR M M5 → M5.1 10 0 26 = nI q' → M5.1 10 0 27 = 0 → y2 = bI w' → mr c N f u n w' q' S' V' = some ρ → StM M5 S' V' → M5.1 10 0 28 = nI (n40 S') → nb S' + (if w' = true then 0 else 1) = V'.length → S'.length + V'.length ≤ q' → K (M5, y2, 0) :=
      fun M5 y2 q' w' S' V' r0 r1 r2 r3 r4 r5 r6 r7 r8 r9 r10 => hK _ ⟨r2, q', r1, r3, Or.inl ⟨r4, rfl, n, w', S', V', r5, r6, r7, r8, r9, r10⟩⟩ (mu q' r1 M5 y2 0 r3 (Or.inl r0))
    have body : (w = true ∨ q < N) → s_X12_readOr_45 (bI u) P K M4 x2 0 := by
      intro hwq
      unfold s_X12_readOr_45
      refine rm_here T4 z1 hq ?_
      have h33 : hv c N q = 33 ↔ c q = 33 := hv_eq T (k := 33) rfl (by omega)
      have h40 : hv c N q = 40 ↔ c q = 40 := hv_eq T (k := 40) rfl (by omega)
      have h38 : hv c N q = 38 ↔ c q = 38 := hv_eq T (k := 38) rfl (by omega)
      have h124 : hv c N q = 124 ↔ c q = 124 := hv_eq T (k := 124) rfl (by omega)
      have h117 : hv c N q = 117 ↔ c q = 117 := hv_eq T (k := 117) rfl (by omega)
      have h41 : hv c N q = 41 ↔ c q = 41 := hv_eq T (k := 41) rfl (by omega)
      cases w with
      | true =>
        have ex2 : x2 = 1 := e2
        rw [mr_t] at en
        have hpush : (c q = 33 ∨ c q = 40) → s_X12_readOr_69 (bI u) P K M4 x2 0 (hv c N q) := by
          intro hc
          rw [if_pos hc] at en
          have hlt := hcE.lt (p := q) (by omega)
          unfold s_X12_readOr_69
          have e8 : M4.1 10 0 28 = 8 ↔ n40 S = 8 := by
            rw [e28]
            have : ∀ L : List Nat, n40 L ≤ L.length := by
              intro L
              induction L with
              | nil => exact Nat.le_refl _
              | cons x L ih =>
                show (if x = 40 then 1 else 0) + n40 L ≤ L.length + 1
                split <;> omega
            have := this S
            exact eqk (by omega) rfl (by omega)
          have hgood : ¬ (c q = 40 ∧ n40 S = 8) → s_X12_readOr_91 (bI u) P K M4 x2 0 (hv c N q) 0 := by
            intro hno
            rw [if_neg hno] at en
            unfold s_X12_readOr_91
            refine ⟨isB_0, fun M5 m5 => ?_⟩
            have g5 : eqR M4 M5 := by rw [m5]; exact eqR.w (by omega)
            have g27 : M5.1 10 0 27 = 0 := by rw [m5, wI_at, if_pos ⟨rfl, rfl, rfl⟩]
            have gj : ∀ j, j ≠ 27 → M5.1 10 0 j = M4.1 10 0 j := fun j hj => by rw [m5, wI_at, if_neg (fun x => hj x.2.2)]
            have gc : ∀ k, k ≠ 10 → M5.1 k = M4.1 k := fun k hk => by rw [m5, wI_cc hk]
            rw [g27]
            refine ⟨fun y => absurd rfl y, fun _ => ?_⟩
            have stp1 : ∀ y0 : Int32, y0 = nI (if c q = 40 then 1 else 0) → s_X12_readOr_118 (bI u) P K M5 x2 0 (hv c N q) y0 (M5.1 10 0 28) := by
              intro y0 ey M6 m6
              have j6 : ∀ j, j ≠ 28 → M6.1 10 0 j = M5.1 10 0 j := fun j hj => by rw [m6, wI_at, if_neg (fun x => hj x.2.2)]
              have c6 : ∀ k, k ≠ 10 → M6.1 k = M5.1 k := fun k hk => by rw [m6, wI_cc hk]
              have e35 : M6.1 10 0 35 = nI S.length := by rw [j6 35 (by omega), gj 35 (by omega)]; exact hS.1
              rw [e35]
              refine ⟨vp_in_nI (by omega) (by omega), fun M7 m7 M8 m8 M9 m9 => ?_⟩
              rw [nI_clamp (by omega), hv_nn T (by omega)] at m7
              have g6 : eqR M5 M6 := by rw [m6]; exact eqR.w (by omega)
              have g7 : eqR M6 M7 := by rw [m7]; exact eqR.w65
              have g8 : eqR M7 M8 := by rw [m8]; exact eqR.w (by omega)
              have g9 : eqR M8 M9 := by rw [m9]; exact eqR.w (by omega)
              have j7 : ∀ j, M7.1 10 0 j = M6.1 10 0 j := fun j => by rw [m7, wI_cc (by omega)]
              have j8 : ∀ j, j ≠ 35 → M8.1 10 0 j = M7.1 10 0 j := fun j hj => by rw [m8, wI_at, if_neg (fun x => hj x.2.2)]
              have j9 : ∀ j, j ≠ 26 → M9.1 10 0 j = M8.1 10 0 j := fun j hj => by rw [m9, wI_at, if_neg (fun x => hj x.2.2)]
              have a64 : M9.1 64 0 = M4.1 64 0 := by rw [m9, wI_cc (by omega), m8, wI_cc (by omega), m7, wI_cc (by omega), c6 64 (by omega), gc 64 (by omega)]
              have a65 : ∀ j, M9.1 65 0 j = if j = S.length then nI (c q) else M4.1 65 0 j := by
                intro j
                rw [m9, wI_cc (by omega), m8, wI_cc (by omega), m7, wI_at, c6 65 (by omega), gc 65 (by omega)]
                by_cases z : j = S.length
                · rw [if_pos ⟨rfl, rfl, z⟩, if_pos z]
                · rw [if_neg (fun x => z x.2.2), if_neg z]
              refine toRun M9 x2 (q + 1) true (c q :: S) V (by omega) hlt (z0.tr (g5.tr (g6.tr (g7.tr (g8.tr g9))))) ?_ ?_ ex2 en (hS.push (by omega) (by omega) ?_ ?_ a64 a65) ?_ ?_ (by show S.length + 1 + V.length ≤ q + 1; omega)
              · rw [m9, wI_at, if_pos ⟨rfl, rfl, rfl⟩, j8 26 (by omega), j7, j6 26 (by omega), gj 26 (by omega), z1, nI_1]
              · rw [j9 27 (by omega), j8 27 (by omega), j7, j6 27 (by omega)]; exact g27
              · rw [j9 35 (by omega), m8, wI_at, if_pos ⟨rfl, rfl, rfl⟩, j7, e35, nI_1]
              · rw [j9 33 (by omega), j8 33 (by omega), j7, j6 33 (by omega), gj 33 (by omega)]
              · rw [j9 28 (by omega), j8 28 (by omega), j7, m6, wI_at, if_pos ⟨rfl, rfl, rfl⟩, gj 28 (by omega), e28, ey, nI_add, Nat.add_comm]
                rfl
              · show (if c q = 38 ∨ c q = 124 then 1 else 0) + nb S + 0 = V.length
                rw [if_neg (by omega)]
                have : nb S + 0 = V.length := enb
                omega
            rw [h40]
            exact ⟨fun y => stp1 0 (by rw [if_neg y]; rfl), fun y => stp1 1 (by rw [if_pos y]; rfl)⟩
          rw [h40, e8]
          refine ⟨fun y => hgood (fun z => y z.1), fun y => ⟨fun y2 => hgood (fun z => y2 z.2), fun y2 => ?_⟩⟩
          rw [if_pos ⟨y, y2⟩] at en
          have er : ρ = (q, none) := (Option.some.inj en).symm
          unfold s_X12_readOr_91
          refine ⟨isB_1, fun M5 m5 => ?_⟩
          have g27 : M5.1 10 0 27 = 1 := by rw [m5, wI_at, if_pos ⟨rfl, rfl, rfl⟩]
          rw [g27]
          refine ⟨fun _ => toBad M5 x2 0 (z0.tr (by rw [m5]; exact eqR.w (by omega))) (by rw [m5, wI_at, if_neg (by omega)]; exact z1) g27 er, fun z => absurd z (by decide)⟩
        rw [h33, h40]
        refine ⟨fun y => absurd y (by rw [ex2]; decide), fun _ => ⟨fun y => hpush (Or.inl y), fun y => ⟨fun y2 => ?_, fun y2 => hpush (Or.inr y2)⟩⟩⟩
        rw [if_neg (by omega)] at en
        unfold s_X12_readOr_156
        refine ⟨fun y => absurd y (by rw [ex2]; decide), fun _ => ?_⟩
        have ok := ok_Cm hcE hq
        have e33 : M4.1 10 0 33 = nI V.length := hS.2.1
        rw [e33]
        have vin : vp_in (nI V.length) 100 := vp_in_nI (by omega) (by omega)
        rw [nI_clamp (by omega)]
        -- the value is laid down
        have lay : ∀ (b : Bool) (M5 M6 M7 : Mem), eqA M4 M5 → M6 = wI M5 64 0 V.length (vp_nar .boolean (bI b)) → M7 = wI M6 10 0 33 (M6.1 10 0 33 + 1) → eqR M4 M7 ∧ StM M7 S (b :: V) ∧ M7.1 10 0 26 = M5.1 10 0 26 ∧ M7.1 10 0 27 = M5.1 10 0 27 ∧ M7.1 10 0 28 = M4.1 10 0 28 := by
          intro b M5 M6 M7 r5 m6 m7
          rw [nar_bool (bI_B b)] at m6
          have g6 : eqR M5 M6 := by rw [m6]; exact eqR.w64
          have g7 : eqR M6 M7 := by rw [m7]; exact eqR.w (by omega)
          have j6 : ∀ j, M6.1 10 0 j = M5.1 10 0 j := fun j => by rw [m6, wI_cc (by omega)]
          have j7 : ∀ j, j ≠ 33 → M7.1 10 0 j = M6.1 10 0 j := fun j hj => by rw [m7, wI_at, if_neg (fun x => hj x.2.2)]
          have j5 : ∀ j, j ≠ 26 → j ≠ 27 → M5.1 10 0 j = M4.1 10 0 j := fun j x y => r5.2.1 0 j (by omega)
          obtain ⟨t1, t2, t3, t4, t5, t6⟩ := hS
          refine ⟨r5.R.tr (g6.tr g7), ⟨by rw [j7 35 (by omega), j6, j5 35 (by omega) (by omega)]; exact t1, ?_, ?_, ⟨?_, t4.fr (fun j hj => ?_)⟩, t5, by show V.length + 1 ≤ 90; omega⟩, by rw [j7 26 (by omega), j6], by rw [j7 27 (by omega), j6], by rw [j7 28 (by omega), j6, j5 28 (by omega) (by omega)]⟩
          · rw [m7, wI_at, if_pos ⟨rfl, rfl, rfl⟩, j6, j5 33 (by omega) (by omega), t2, nI_1]; rfl
          · rw [m7, wI_cc (by omega), m6, wI_cc (by omega), r5.1 65 (by omega)]; exact t3
          · rw [m7, wI_cc (by omega), m6, wI_at, if_pos ⟨rfl, rfl, rfl⟩]
          · rw [m7, wI_cc (by omega), m6, wI_at, if_neg (by omega), r5.1 64 (by omega)]
        have hnb : nb S + 0 = V.length := enb
        refine rm_Test T4 F4 z1 hq z2 (fun hn v M5 hv r1 r2 r3 => ⟨vin, fun M6 m6 M7 m7 => ?_⟩) (fun A M5 hA r1 r2 r3 => ⟨vin, fun M6 m6 M7 m7 => ?_⟩)
        · have hb : ∃ b, v = bI b := by
            rcases hv with rfl | rfl
            · exact ⟨false, rfl⟩
            · exact ⟨true, rfl⟩
          obtain ⟨b, rfl⟩ := hb
          obtain ⟨l1, l2, l3, l4, l5⟩ := lay b M5 M6 M7 r1 m6 m7
          refine rm_te l2 (fun M8 s1 s2 s3 s4 s5 s6 => ?_)
          rw [hn] at en
          have er : ρ = ((pCm c N q).1, none) := (Option.some.inj en).symm
          have t26 : M8.1 10 0 26 = nI (pCm c N q).1 := by rw [s1.2.1 0 26 (by omega), l3]; exact r2
          have t27 : M8.1 10 0 27 = 1 := by rw [s1.2.1 0 27 (by omega), l4]; exact r3
          refine hK _ ⟨z0.tr (l1.tr s1.R), (pCm c N q).1, ok.2.1, t26, Or.inr (Or.inl ⟨t27, er⟩)⟩ (mu _ ok.2.1 M8 0 0 t26 ?_)
          rcases Nat.lt_or_eq_of_le ok.1 with y | y
          · exact Or.inl y
          · exact Or.inr ⟨y, Or.inl t27⟩
        · obtain ⟨l1, l2, l3, l4, l5⟩ := lay _ M5 M6 M7 r1 m6 m7
          refine rm_te l2 (fun M8 s1 s2 s3 s4 s5 s6 => ?_)
          rw [hA] at en
          have oA := ok.2.2 A hA
          refine toRun M8 0 (pCm c N q).1 false (te S (evS f A :: V)).1 (te S (evS f A :: V)).2 (by omega) ok.2.1 (z0.tr (l1.tr s1.R)) ?_ ?_ rfl en s2 ?_ ?_ (by rw [s3]; omega)
          · rw [s1.2.1 0 26 (by omega), l3]; exact r2
          · rw [s1.2.1 0 27 (by omega), l4]; exact r3
          · rw [s1.2.1 0 28 (by omega), l5, e28, s5]
          · rw [s4, s3]; show nb S + 1 = V.length + 1; omega
      | false =>
        have ex2 : x2 = 0 := e2
        have hlt : q < N := hwq.resolve_left (by decide)
        rw [mr_f, if_neg (by omega)] at en
        have hnb : nb S + 1 = V.length := enb
        rw [ex2]
        refine ⟨fun _ => ?_, fun y => absurd rfl y⟩
        unfold s_X12_readOr_156
        refine ⟨fun _ => ?_, fun y => absurd rfl y⟩
        -- a sign is laid down
        have push : ∀ (M5 : Mem) (S' : List Nat) (V' : List Bool), eqT M4 M5 → StM M5 S' V' → nb S' + 1 = V'.length → n40 S' = n40 S → S'.length + V'.length ≤ S.length + V.length → (c q = 38 ∨ c q = 124) → mr c N f u n true (q + 1) (c q :: S') V' = some ρ → s_X12_readOr_225 (bI u) P K M5 0 (hv c N q) := by
          intro M5 S' V' g5 s5 s6 s7 s8 hc en'
          unfold s_X12_readOr_225
          obtain ⟨t1, t2, t3, t4, t5, t6⟩ := s5
          have hl : S'.length < 100 := by
            have : S'.length ≤ S.length + V.length := by omega
            omega
          rw [t1]
          refine ⟨vp_in_nI (by omega) (by omega), fun M7 m7 M8 m8 M9 m9 => ?_⟩
          rw [nI_clamp (by omega), hv_nn T (by omega)] at m7
          have g7 : eqR M5 M7 := by rw [m7]; exact eqR.w65
          have g8 : eqR M7 M8 := by rw [m8]; exact eqR.w (by omega)
          have g9 : eqR M8 M9 := by rw [m9]; exact eqR.w (by omega)
          have j7 : ∀ j, M7.1 10 0 j = M5.1 10 0 j := fun j => by rw [m7, wI_cc (by omega)]
          have j8 : ∀ j, j ≠ 35 → M8.1 10 0 j = M7.1 10 0 j := fun j hj => by rw [m8, wI_at, if_neg (fun x => hj x.2.2)]
          have j9 : ∀ j, j ≠ 26 → M9.1 10 0 j = M8.1 10 0 j := fun j hj => by rw [m9, wI_at, if_neg (fun x => hj x.2.2)]
          have a64 : M9.1 64 0 = M5.1 64 0 := by rw [m9, wI_cc (by omega), m8, wI_cc (by omega), m7, wI_cc (by omega)]
          have a65 : ∀ j, M9.1 65 0 j = if j = S'.length then nI (c q) else M5.1 65 0 j := by
            intro j
            rw [m9, wI_cc (by omega), m8, wI_cc (by omega), m7, wI_at]
            by_cases z : j = S'.length
            · rw [if_pos ⟨rfl, rfl, z⟩, if_pos z]
            · rw [if_neg (fun x => z x.2.2), if_neg z]
          refine toRun M9 1 (q + 1) true (c q :: S') V' (by omega) hlt (z0.tr (g5.R.tr (g7.tr (g8.tr g9)))) ?_ ?_ rfl en' (StM.push ⟨t1, t2, t3, t4, t5, t6⟩ (by omega) hl ?_ ?_ a64 a65) ?_ ?_ ?_
          · rw [m9, wI_at, if_pos ⟨rfl, rfl, rfl⟩, j8 26 (by omega), j7, g5.2.1 0 26 (by omega), z1, nI_1]
          · rw [j9 27 (by omega), j8 27 (by omega), j7, g5.2.1 0 27 (by omega)]; exact z2
          · rw [j9 35 (by omega), m8, wI_at, if_pos ⟨rfl, rfl, rfl⟩, j7, t1, nI_1]
          · rw [j9 33 (by omega), j8 33 (by omega), j7]
          · rw [j9 28 (by omega), j8 28 (by omega), j7, g5.2.1 0 28 (by omega), e28, n40_ne (by omega), s7]
          · show (if c q = 38 ∨ c q = 124 then 1 else 0) + nb S' + 0 = V'.length
            rw [if_pos hc]; omega
          · show S'.length + 1 + V'.length ≤ q + 1
            omega
        have do2 : ∀ {P2 : Mem → Prop}, (∀ M5, eqT M4 M5 → StM M5 (jn2 S V).1 (jn2 S V).2 → nb (jn2 S V).1 + 1 = (jn2 S V).2.length → n40 (jn2 S V).1 = n40 S → (jn2 S V).1.length + (jn2 S V).2.length ≤ S.length + V.length → P2 M5) → s_X12_join M4 38 (fun Mm => s_X12_join Mm 124 P2) := by
          intro P2 k2
          refine rm_jn (g := 38) (Or.inl rfl) rfl hS hnb (fun M5 g5 s5 s6 s7 s8 => rm_jn (g := 124) (Or.inr rfl) rfl s5 s6 (fun M6 g6 t5 t6 t7 t8 => k2 M6 (g5.tr g6) t5 t6 (t7.trans s7) (Nat.le_trans t8 s8)))
        rw [h38, h124, h117]
        refine ⟨fun y => ?_, fun y => ⟨fun y2 => ?_, fun y2 => ?_⟩⟩
        · rw [if_pos y] at en
          unfold s_X12_readOr_206
          rw [h124]
          refine rm_jn (g := 38) (Or.inl rfl) rfl hS hnb (fun M5 g5 s5 s6 s7 s8 => ⟨fun _ => push M5 _ _ g5 s5 s6 s7 s8 (Or.inl y) (by rw [y]; exact en), fun z => by omega⟩)
        · rw [if_neg y, if_neg y2] at en
          refine do2 (fun M5 g5 s5 s6 s7 s8 => ?_)
          have l5 := s5.2.2.2.2.1
          have l6 := s5.2.2.2.2.2
          -- a bracket that closes, or a fault
          have shut : ¬ (c q = 117 ∧ u = true ∧ (jn2 S V).1 = []) → s_X12_readOr_296 (bI u) P K M5 0 (hv c N q) 0 := by
            intro hno
            rw [if_neg hno] at en
            unfold s_X12_readOr_296
            refine ⟨fun z => absurd rfl z, fun _ => ?_⟩
            have no : ¬ (c q = 41 ∧ tp (jn2 S V).1 = 40) → s_X12_readOr_323 (bI u) P K M5 0 0 1 := by
              intro h2
              rw [if_neg h2] at en
              have er : ρ = (q, none) := (Option.some.inj en).symm
              unfold s_X12_readOr_323
              refine ⟨isB_1, fun M6 m6 => ?_⟩
              have g27 : M6.1 10 0 27 = 1 := by rw [m6, wI_at, if_pos ⟨rfl, rfl, rfl⟩]
              rw [g27]
              refine ⟨fun _ => toBad M6 0 0 (z0.tr (g5.R.tr (by rw [m6]; exact eqR.w (by omega)))) (by rw [m6, wI_at, if_neg (by omega), g5.2.1 0 26 (by omega)]; exact z1) g27 er, fun z => absurd z (by decide)⟩
            have tl := tp_lt s5.2.2.1
            have e40 : nI (tp (jn2 S V).1) = 40 ↔ tp (jn2 S V).1 = 40 := eqk (by omega) rfl (by omega)
            rw [h41]
            refine ⟨fun z => no (fun t => z t.1), fun z => rm_top s5 ?_⟩
            rw [e40]
            refine ⟨fun z2 => ?_, fun z2 => no (fun t => z2 t.2)⟩
            rw [if_pos ⟨z, z2⟩] at en
            unfold s_X12_readOr_323
            refine ⟨isB_0, fun M6 m6 => ?_⟩
            have g27 : M6.1 10 0 27 = 0 := by rw [m6, wI_at, if_pos ⟨rfl, rfl, rfl⟩]
            rw [g27]
            refine ⟨fun t => absurd rfl t, fun _ => ⟨fun t => absurd rfl t, fun _ M7 m7 M8 m8 M9 m9 => ?_⟩⟩
            generalize hSS : (jn2 S V).1 = SS at *
            generalize hVV : (jn2 S V).2 = VV at *
            cases SS with
            | nil => exact absurd z2 (by decide)
            | cons x SS =>
              have hx : x = 40 := z2
              subst hx
              cases VV with
              | nil => cases s6
              | cons v VV =>
                have j6 : ∀ j, j ≠ 27 → M6.1 10 0 j = M5.1 10 0 j := fun j hj => by rw [m6, wI_at, if_neg (fun x => hj x.2.2)]
                have j7 : ∀ j, j ≠ 35 → M7.1 10 0 j = M6.1 10 0 j := fun j hj => by rw [m7, wI_at, if_neg (fun x => hj x.2.2)]
                have j8 : ∀ j, j ≠ 28 → M8.1 10 0 j = M7.1 10 0 j := fun j hj => by rw [m8, wI_at, if_neg (fun x => hj x.2.2)]
                have j9 : ∀ j, j ≠ 26 → M9.1 10 0 j = M8.1 10 0 j := fun j hj => by rw [m9, wI_at, if_neg (fun x => hj x.2.2)]
                have cc : ∀ k, k ≠ 10 → M9.1 k = M5.1 k := fun k hk => by rw [m9, wI_cc hk, m8, wI_cc hk, m7, wI_cc hk, m6, wI_cc hk]
                obtain ⟨t1, t2, t3, t4, t5, t6⟩ := s5
                have g9 : eqR M5 M9 := by
                  have a6 : eqR M5 M6 := by rw [m6]; exact eqR.w (by omega)
                  have a7 : eqR M6 M7 := by rw [m7]; exact eqR.w (by omega)
                  have a8 : eqR M7 M8 := by rw [m8]; exact eqR.w (by omega)
                  have a9 : eqR M8 M9 := by rw [m9]; exact eqR.w (by omega)
                  exact a6.tr (a7.tr (a8.tr a9))
                have s9 : StM M9 SS (v :: VV) := by
                  refine ⟨?_, ?_, ?_, ?_, by have : SS.length + 1 ≤ 100 := t5; omega, t6⟩
                  · rw [j9 35 (by omega), j8 35 (by omega), m7, wI_at, if_pos ⟨rfl, rfl, rfl⟩, j6 35 (by omega), t1]; exact nI_pred _
                  · rw [j9 33 (by omega), j8 33 (by omega), j7 33 (by omega), j6 33 (by omega)]; exact t2
                  · rw [cc 65 (by omega)]; exact t3.2.2
                  · rw [cc 64 (by omega)]; exact t4
                have s7' : 1 + n40 SS = n40 S := s7
                have s6' : nb SS + 1 = (v :: VV).length := by
                  have : (if (40 : Nat) = 38 ∨ (40 : Nat) = 124 then 1 else 0) + nb SS + 1 = (v :: VV).length := s6
                  rw [if_neg (by omega)] at this
                  omega
                have hl : SS.length + 1 + (VV.length + 1) ≤ S.length + V.length := s8
                refine rm_te s9 (fun M10 r1 r2 r3 r4 r5 r6 => ?_)
                refine toRun M10 0 (q + 1) false (te SS (v :: VV)).1 (te SS (v :: VV)).2 (by omega) hlt (z0.tr (g5.R.tr (g9.tr r1.R))) ?_ ?_ rfl en r2 ?_ ?_ ?_
                · rw [r1.2.1 0 26 (by omega), m9, wI_at, if_pos ⟨rfl, rfl, rfl⟩, j8 26 (by omega), j7 26 (by omega), j6 26 (by omega), g5.2.1 0 26 (by omega), z1, nI_1]
                · rw [r1.2.1 0 27 (by omega), j9 27 (by omega), j8 27 (by omega), j7 27 (by omega)]; exact g27
                · rw [r1.2.1 0 28 (by omega), j9 28 (by omega), m8, wI_at, if_pos ⟨rfl, rfl, rfl⟩, j7 28 (by omega), j6 28 (by omega), g5.2.1 0 28 (by omega), e28, r5, ← s7']
                  have := pk_sub (a := 1 + n40 SS) (b := 1) (by omega)
                  rw [show 1 + n40 SS - 1 = n40 SS by omega] at this
                  exact this
                · rw [r4, r3]; show nb SS + 1 = VV.length + 1; exact s6'
                · rw [r3]; omega
          have bu : bI u = 0 ↔ u = false := bI_0
          have e35 : M5.1 10 0 35 = 0 ↔ (jn2 S V).1 = [] := by
            rw [s5.1]
            have : nI (jn2 S V).1.length = 0 ↔ (jn2 S V).1.length = 0 := eqk (by omega) rfl (by omega)
            rw [this]
            exact List.length_eq_zero_iff
          rw [bu, e35]
          refine ⟨fun z => shut (fun t => z t.1), fun z => ⟨fun z2 => shut (fun t => by rw [t.2.1] at z2; cases z2), fun z2 => ⟨fun z3 => shut (fun t => z3 t.2.2), fun z3 => ?_⟩⟩⟩
          have hu : u = true := by cases u; exact absurd rfl z2; rfl
          rw [if_pos ⟨z, hu, z3⟩] at en
          unfold s_X12_readOr_296
          refine ⟨fun _ => ?_, fun t => absurd t (by decide)⟩
          unfold s_X12_readOr_323
          refine ⟨isB_0, fun M6 m6 => ?_⟩
          have g27 : M6.1 10 0 27 = 0 := by rw [m6, wI_at, if_pos ⟨rfl, rfl, rfl⟩]
          have g26 : M6.1 10 0 26 = nI q := by rw [m6, wI_at, if_neg (by omega), g5.2.1 0 26 (by omega)]; exact z1
          rw [g27]
          refine ⟨fun t => absurd rfl t, fun _ => ⟨fun _ => ?_, fun t => absurd t (by decide)⟩⟩
          rw [z3] at s5 s6
          obtain ⟨v, hV⟩ : ∃ v, (jn2 S V).2 = [v] := by
            have : (jn2 S V).2.length = 1 := s6.symm
            exact List.length_eq_one_iff.mp this
          rw [hV] at s5 en
          have er : ρ = (q, some v) := (Option.some.inj en).symm
          obtain ⟨t1, t2, t3, t4, t5, t6⟩ := s5
          refine hK _ ⟨z0.tr (g5.R.tr (by rw [m6]; exact eqR.w (by omega))), q, hq, g26, Or.inr (Or.inr ⟨g27, rfl, v, er, ?_, ?_, ?_, ?_, t5, t6⟩)⟩ (mu q hq M6 0 1 g26 (Or.inr ⟨rfl, Or.inr rfl⟩))
          · rw [m6, wI_at, if_neg (by omega)]; exact t1
          · rw [m6, wI_at, if_neg (by omega)]; exact t2
          · rw [m6, wI_cc (by omega)]; exact t3
          · rw [m6, wI_cc (by omega)]; exact t4
        · rw [if_neg (by omega), if_pos y2] at en
          unfold s_X12_readOr_206
          rw [h124]
          refine rm_jn (g := 38) (Or.inl rfl) rfl hS hnb (fun M5 g5 s5 s6 s7 s8 => ⟨fun z => absurd y2 z, fun _ => rm_jn (g := 124) (Or.inr rfl) rfl s5 s6 (fun M6 g6 t5 t6 t7 t8 => push M6 _ _ (g5.tr g6) t5 t6 (t7.trans s7) (Nat.le_trans t8 s8) (Or.inr y2) (by rw [y2]; exact en))⟩)
    have e25 : M4.1 10 0 25 = nI N := T4.1
    rw [e25, z1, nI_leI (by omega) (by omega)]
    refine ⟨fun y => body (Or.inl ?_), fun y => ⟨fun y2 => ?_, fun y2 => body (Or.inr (by omega))⟩⟩
    · cases w with
      | true => rfl
      | false => exact absurd e2 y
    · -- the end of the text
      have hw : w = false := by
        cases w with
        | false => rfl
        | true => rw [e2] at y; exact absurd y (by decide)
      subst hw
      have hnb : nb S + 1 = V.length := enb
      rw [mr_f, if_pos y2] at en
      unfold s_X12_readOr_374
      rw [z2]
      refine ⟨fun t => absurd rfl t, fun _ => rm_jn (g := 38) (Or.inl rfl) rfl hS hnb (fun M5 g5 s5 s6 s7 s8 => rm_jn (g := 124) (Or.inr rfl) rfl s5 s6 (fun M6 g6 t5 t6 t7 t8 => ?_))⟩
      have l5 := t5.2.2.2.2.1
      have e35 : M6.1 10 0 35 ≤ 0 ↔ (jn2 S V).1 = [] := by
        rw [t5.1, le0 (by omega)]
        exact List.length_eq_zero_iff
      rw [e35]
      have er : ρ = (q, if (jn2 S V).1 = [] then some ((jn2 S V).2.headD false) else none) := (Option.some.inj en).symm
      have g6' : eqR M M6 := z0.tr (g5.tr g6).R
      have t26 : M6.1 10 0 26 = nI q := by rw [g6.2.1 0 26 (by omega), g5.2.1 0 26 (by omega)]; exact z1
      refine ⟨fun y3 => ?_, fun y3 => ?_⟩
      · rw [if_pos y3] at er
        obtain ⟨v, hV⟩ : ∃ v, (jn2 S V).2 = [v] := by
          have : (jn2 S V).2.length = 1 := by rw [← t6]; show nb (jn2 S V).1 + 1 = 1; rw [y3]; rfl
          exact List.length_eq_one_iff.mp this
        rw [hV] at er
        have t4 := t5.2.2.2.1
        have t4' : stB (M6.1 64 0) [v] := by rw [← hV]; exact t4
        refine ⟨isB_0, fun M7 m7 => ?_⟩
        have r27 : M7.1 10 0 27 = 0 := by rw [m7, wI_at, if_pos ⟨rfl, rfl, rfl⟩]
        have r64 : M7.1 64 0 0 = bI v := by rw [m7, wI_cc (by omega)]; exact t4'.1
        have r26 : M7.1 10 0 26 = nI q := by rw [m7, wI_at, if_neg (by omega)]; exact t26
        have := kg q v M7 er hq (g6'.tr (by rw [m7]; exact eqR.w (by omega))) r26 r27
        unfold s_X12_readOr_409
        rw [r27, r64]
        refine ⟨fun t => absurd rfl t, fun _ => ⟨fun t => by rw [t] at this; exact this, fun t => ?_⟩⟩
        rcases bI_B v with b | b
        · exact absurd b t
        · rw [b] at this; exact this
      · rw [if_neg y3] at er
        refine ⟨isB_1, fun M7 m7 => ?_⟩
        have r27 : M7.1 10 0 27 = 1 := by rw [m7, wI_at, if_pos ⟨rfl, rfl, rfl⟩]
        have r26 : M7.1 10 0 26 = nI q := by rw [m7, wI_at, if_neg (by omega)]; exact t26
        unfold s_X12_readOr_409
        rw [r27]
        exact ⟨fun _ => kb q M7 er hq (g6'.tr (by rw [m7]; exact eqR.w (by omega))) r26 r27, fun t => absurd t (by decide)⟩
  · -- bad
    rw [z2]
    refine ⟨fun _ => ?_, fun y => absurd y (by decide)⟩
    unfold s_X12_readOr_374 s_X12_readOr_409
    rw [z2]
    exact ⟨fun _ => ⟨fun _ => kb q M4 e hq z0 z1 z2, fun y => absurd y (by decide)⟩, fun y => absurd y (by decide)⟩
  · -- ended
    rw [z2, z3]
    refine ⟨fun y => absurd rfl y, fun _ => ⟨fun _ => ?_, fun y => absurd y (by decide)⟩⟩
    unfold s_X12_readOr_374
    rw [z2]
    refine ⟨fun t => absurd rfl t, fun _ => rm_jn (g := 38) (Or.inl rfl) rfl hS rfl (fun M5 g5 s5 s6 s7 s8 => rm_jn (g := 124) (Or.inr rfl) rfl s5 s6 (fun M6 g6 t5 t6 t7 t8 => ?_))⟩
    have t5' : StM M6 [] [v] := t5
    have e35 : M6.1 10 0 35 ≤ 0 := by rw [t5'.1]; decide
    refine ⟨fun _ => ?_, fun y => absurd e35 y⟩
    refine ⟨isB_0, fun M7 m7 => ?_⟩
    have t26 : M6.1 10 0 26 = nI q := by rw [g6.2.1 0 26 (by omega), g5.2.1 0 26 (by omega)]; exact z1
    have r27 : M7.1 10 0 27 = 0 := by rw [m7, wI_at, if_pos ⟨rfl, rfl, rfl⟩]
    have r64 : M7.1 64 0 0 = bI v := by rw [m7, wI_cc (by omega)]; exact t5'.2.2.2.1.1
    have r26 : M7.1 10 0 26 = nI q := by rw [m7, wI_at, if_neg (by omega)]; exact t26
    have := kg q v M7 e hq ((z0.tr (g5.tr g6).R).tr (by rw [m7]; exact eqR.w (by omega))) r26 r27
    unfold s_X12_readOr_409
    rw [r27, r64]
    refine ⟨fun t => absurd rfl t, fun _ => ⟨fun t => by rw [t] at this; exact this, fun t => ?_⟩⟩
    rcases bI_B v with b | b
    · exact absurd b t
    · rw [b] at this; exact this
