/-! A DAY GOES BY, the class's -/
def eqP (w : Nat) (M M' : Mem) : Prop := (∀ c, ¬ (c = 1 ∨ c = 13 ∨ c = 14 ∨ c = 21 ∨ c = 24 ∨ c = 27 ∨ c = 28 ∨ c = 29) → M'.1 c = M.1 c) ∧ (∀ c i, i ≠ w → M'.1 c i = M.1 c i) ∧ M'.2 = M.2
theorem eqP.rf {w : Nat} {M : Mem} : eqP w M M := ⟨fun _ _ => rfl, fun _ _ _ => rfl, rfl⟩
theorem eqP.tr {w : Nat} {M M1 M2 : Mem} (h : eqP w M M1) (g : eqP w M1 M2) : eqP w M M2 := ⟨fun c a => (g.1 c a).trans (h.1 c a), fun c i a => (g.2.1 c i a).trans (h.2.1 c i a), g.2.2.trans h.2.2⟩
theorem eqP.w {w : Nat} {M : Mem} {c j : Nat} {v : Int32} (h : c = 1 ∨ c = 13 ∨ c = 14 ∨ c = 21 ∨ c = 24 ∨ c = 27 ∨ c = 28 ∨ c = 29) : eqP w M (wI M c w j v) := ⟨fun c' a => wI_cc (fun q => a (by rw [q]; exact h)), fun c' i a => wI_ni a, rfl⟩
theorem eqW.P {w : Nat} {M M' : Mem} (h : eqW w M M') : eqP w M M' := ⟨fun c a => h.1 c (by omega) (by omega), h.2.1, h.2.2⟩
/-- sums alone -/
def eqS (w : Nat) (M M' : Mem) : Prop := (∀ c, c ≠ 13 → c ≠ 14 → c ≠ 21 → M'.1 c = M.1 c) ∧ (∀ c i, i ≠ w → M'.1 c i = M.1 c i) ∧ M'.2 = M.2
theorem eqS.rf {w : Nat} {M : Mem} : eqS w M M := ⟨fun _ _ _ _ => rfl, fun _ _ _ => rfl, rfl⟩
theorem eqS.tr {w : Nat} {M M1 M2 : Mem} (h : eqS w M M1) (g : eqS w M1 M2) : eqS w M M2 := ⟨fun c a b d => (g.1 c a b d).trans (h.1 c a b d), fun c i a => (g.2.1 c i a).trans (h.2.1 c i a), g.2.2.trans h.2.2⟩
theorem eqW.S {w : Nat} {M M' : Mem} (h : eqW w M M') : eqS w M M' := ⟨fun c a b _ => h.1 c a b, h.2.1, h.2.2⟩
theorem eqS.P {w : Nat} {M M' : Mem} (h : eqS w M M') : eqP w M M' := ⟨fun c a => h.1 c (by omega) (by omega) (by omega), h.2.1, h.2.2⟩
theorem eqS.w {w : Nat} {M : Mem} {j : Nat} {v : Int32} : eqS w M (wI M 21 w j v) := ⟨fun c' _ _ a => wI_cc a, fun c' i a => wI_ni a, rfl⟩
theorem RC.sum {w : Nat} {M : Mem} {A : Abs} (h : RC w M A) {s k v : Nat} (hs : s < A.1 0) (hk : k < 11) : RC w (wI M 21 w (11 * s + k) (nI v)) (aU A 6 (11 * s + k) v) := by
  have e : ∀ c, c ≠ 21 → (wI M 21 w (11 * s + k) (nI v)).1 c = M.1 c := fun c hc => wI_cc hc
  have u : ∀ c, c ≠ 6 → (aU A 6 (11 * s + k) v).2.1 c = A.2.1 c := fun c hc => aU_ne hc
  refine ⟨?_, (h.2.1.fr (fun c hc => by rw [e c (by omega)])).of (fun c h1 h2 => u c (by omega)) rfl, (h.2.2.1.fr (by rw [e 1 (by omega)]) (by rw [e 12 (by omega)])).of (u 26 (by omega)) (u 12 (by omega)), (h.2.2.2.1.fr (fun c hc => by rw [e c (by omega)])).of (fun c h1 h2 => u c (by omega)) rfl, (h.2.2.2.2.1.fr (fun c hc => by rw [e c (by omega)])).of (fun c h1 h2 => u c (by omega)) rfl, (h.2.2.2.2.2.fr (fun c hc => by rw [e c (by omega)]) (fun c hc => e c (by omega)) rfl).of (fun c h1 h2 => u c (by omega)) rfl rfl⟩
  refine ⟨by rw [e 2 (by omega)]; exact h.1.1, fun s' hs' => ?_, fun s' h1 h2 => ?_⟩
  · obtain ⟨a1, a2, a3, a4, a5, a6, a7⟩ := h.1.2.1 s' hs'
    rw [e 15 (by omega), e 16 (by omega), e 17 (by omega), e 18 (by omega), e 19 (by omega), e 20 (by omega), u 0 (by omega), u 1 (by omega), u 2 (by omega), u 3 (by omega), u 4 (by omega), u 5 (by omega)]
    refine ⟨a1, a2, a3, a4, a5, a6, fun k' hk' => ?_⟩
    rw [wI_at, aU_at]
    by_cases q : 11 * s' + k' = 11 * s + k
    · rw [if_pos ⟨rfl, rfl, q⟩, if_pos ⟨rfl, q⟩]
    · rw [if_neg (fun y => q y.2.2), if_neg (fun y => q y.2)]; exact a7 k' hk'
  · obtain ⟨a4, a5, a7⟩ := h.1.2.2 s' h1 h2
    have h1' : A.1 0 ≤ s' := h1
    rw [e 18 (by omega), e 19 (by omega)]
    refine ⟨a4, a5, fun k' hk' => ?_⟩
    rw [wI_at, if_neg (fun y => by omega)]; exact a7 k' hk'
theorem tC_add {w : Nat} {M : Mem} {A : Abs} {s k v : Nat} {P : Mem → Prop} (h : RC w M A) (hn : A.1 0 ≤ 12) (hs : s < A.1 0) (hk : k < 11) (hp : ∀ M', eqS w M M' → RC w M' (adS A s k v) → P M') : s_X8_addTo w M (nI s) (nI k) (nI v) P := by
  unfold s_X8_addTo
  have e : nI s * 11 + nI k = nI (11 * s + k) := by
    show nI s * nI 11 + nI k = _
    rw [pk_mul, nI_add, Nat.mul_comm]
  have vi : vp_in (nI (11 * s + k)) 132 := vp_in_nI (by omega) (by omega)
  rw [e, nI_clamp (by omega), (h.1.2.1 s hs).2.2.2.2.2.2 k hk, nI_add]
  exact ⟨vi, vi, fun M1 m1 => hp M1 (by rw [m1]; exact eqS.w) (by rw [m1]; exact h.sum hs hk)⟩
theorem RC.bot {w : Nat} {M : Mem} {A : Abs} (h : RC w M A) {d v : Nat} (hd : d < A.1 1) : RC w (wI M 24 w d (nI v)) (aU A 9 d v) := by
  have e : ∀ c, c ≠ 24 → (wI M 24 w d (nI v)).1 c = M.1 c := fun c hc => wI_cc hc
  have u : ∀ c, c ≠ 9 → (aU A 9 d v).2.1 c = A.2.1 c := fun c hc => aU_ne hc
  refine ⟨(h.1.fr (fun c hc => by rw [e c (by omega)])).of (fun c a => u c (by omega)) rfl, ⟨by rw [e 3 (by omega)]; exact h.2.1.1, fun d' hd' => ?_⟩, (h.2.2.1.fr (by rw [e 1 (by omega)]) (by rw [e 12 (by omega)])).of (u 26 (by omega)) (u 12 (by omega)), (h.2.2.2.1.fr (fun c hc => by rw [e c (by omega)])).of (fun c h1 h2 => u c (by omega)) rfl, (h.2.2.2.2.1.fr (fun c hc => by rw [e c (by omega)])).of (fun c h1 h2 => u c (by omega)) rfl, (h.2.2.2.2.2.fr (fun c hc => by rw [e c (by omega)]) (fun c hc => e c (by omega)) rfl).of (fun c h1 h2 => u c (by omega)) rfl rfl⟩
  obtain ⟨a1, a2, a3, a4, a5⟩ := h.2.1.2 d' hd'
  rw [e 22 (by omega), e 23 (by omega), e 25 (by omega), e 26 (by omega), u 7 (by omega), u 8 (by omega), u 10 (by omega), u 11 (by omega), wI_at, aU_at]
  refine ⟨a1, a2, ?_, a4, a5⟩
  by_cases q : d' = d
  · rw [if_pos ⟨rfl, rfl, q⟩, if_pos ⟨rfl, q⟩]
  · rw [if_neg (fun y => q y.2.2), if_neg (fun y => q y.2)]; exact a3
theorem prc_le {A : Abs} {sh : Nat} (hb : bidsOK A) (hs : sh < 4) : prc A sh ≤ 999 := by
  unfold prc
  split
  · omega
  · have := wn_le (A := A) (sh := sh) (d := A.1 1)
    have := hb (wn A sh (A.1 1) - 1) (by omega) sh hs
    omega
theorem tC_price {w : Nat} {M : Mem} {A : Abs} {sh : Nat} {P : Int32 → Mem → Prop} (h : RCd w M A) (hn : A.1 1 ≤ 5) (hb : bidsOK A) (hs : sh < 4) (hp : P (nI (prc A sh)) M) : s_X4_price w M (nI sh) P := by
  unfold s_X4_price
  refine tC_winner h hn hb hs ?_
  have hle := wn_le (A := A) (sh := sh) (d := A.1 1)
  unfold prc at hp
  rw [mI_ge (by omega)]
  refine ⟨fun z => ?_, fun z => by rw [if_pos (Decidable.not_not.mp z)] at hp; exact hp⟩
  rw [if_neg z] at hp
  rw [mI_pred z]
  have e : nI (wn A sh (A.1 1) - 1) * 4 + nI sh = nI (4 * (wn A sh (A.1 1) - 1) + sh) := by
    show nI _ * nI 4 + nI sh = _
    rw [pk_mul, nI_add, Nat.mul_comm]
  rw [e]
  refine ⟨vp_in_nI (by omega) (by omega), ?_⟩
  rw [nI_clamp (by omega), (h.2 _ (show wn A sh (A.1 1) - 1 < A.1 1 by omega)).2.2.2.2 sh hs, mI_pred (wn_nz z)]
  exact hp
theorem lt20 {n : Nat} (h : n < 2 ^ 31) : nI n < 20 ↔ n < 20 := nI_ltI (b := 20) h (by omega)
theorem pct_i {a b : Nat} (ha : a ≤ 9999) (hb : b ≤ 100) : nI a * nI b / 100 = nI (a * b / 100) ∧ a * b ≤ 999900 := by
  have h1 := Nat.mul_le_mul ha hb
  have h2 : a * b ≤ 999900 := h1
  rw [pk_mul]
  exact ⟨pk_div (d := 100) (by omega) (by omega) (by omega), h2⟩
/-- what is handed out -/
theorem tC_hand {w : Nat} {M : Mem} {A0 A : Abs} {s cm um : Nat} {P : Int32 → Mem → Prop} (h : RC w M A) (hx : smX A0 A) (hk : paOK A0) (hs : s < A0.1 0) (hcm : cm ≤ 600) (hum : um ≤ 600) (hp : ∀ M', eqS w M M' → RC w M' (hnd A0 A s cm um) → P (nI (bkN A0 s cm)) M') : s_X10_handOut w M (nI s) (nI cm) (nI um) P := by
  obtain ⟨k1, k2, k3, k4, k5, k6, k7⟩ := id hk
  have n12 := k1.2.2.1
  have w4 := k1.2.2.2 s hs
  have hm : mo A0 < 12 := Nat.mod_lt _ (by omega)
  obtain ⟨c1, c2, c3⟩ := k7 _ hm
  obtain ⟨l1, l2⟩ := k5 s hs
  obtain ⟨b1, b2, b3, b4, b5⟩ := hand_le hk (s := s) (cm := cm) hs
  have eA : ∀ {B : Abs}, smX A0 B → B.1 0 = A0.1 0 := fun hB => by rw [hB.1]
  have eday : ∀ {M1 : Mem} {B : Abs}, RC w M1 B → smX A0 B → M1.1 1 w 0 = nI (A0.2.1 26 0) := fun h1 hB => by rw [h1.2.2.1.1, hB.2.2 26 (by omega) (by omega)]
  unfold s_X10_handOut
  rw [eday h hx]
  have mf : ∀ {M1 : Mem} {B : Abs} {k : Nat} {Q : Int32 → Mem → Prop}, RC w M1 B → smX A0 B → k < 3 → Q (nI (A0.2.1 12 (3 * mo A0 + k))) M1 → s_X10_monthFact w M1 (nI (A0.2.1 26 0)) (nI k) Q := fun {M1 B k Q} h1 hB hk3 hq => tC_monthFact h1.2.2.1 k4 hk3 (by rw [hB.2.2 12 (by omega) (by omega)]; exact hq)
  refine mf (k := 0) h hx (by omega) (fun x4 e4 => ?_)
  rw [(pct_i (by omega) (show A0.2.1 12 (3 * mo A0 + 0) ≤ 100 from c1)).1] at e4
  have e4 : x4 = nI (buN A0 cm) := e4
  rw [e4, eday h hx]
  refine mf (k := 1) h hx (by omega) ?_
  rw [lt20 (by omega)]
  -- behind the refusal
  have p64 : ∀ (M1 : Mem) (y : Int32), eqS w M M1 → RC w M1 A → y = nI (rfN A0 s cm) → s_X10_handOut_64 w (nI s) (nI cm) (nI um) P M1 (nI (buN A0 cm)) y := by
    intro M1 y r1 h1 ey x7 e7
    rw [ey, pk_sub b1, pk_sub (by omega)] at e7
    have e7 : x7 = nI (gvN A0 s cm) := e7
    have vs : vp_in (nI s) 12 := vp_in_nI (by omega) (by omega)
    obtain ⟨-, -, -, a18, a19, -⟩ := h1.1.2.1 s (by rw [eA hx]; exact hs)
    have gle : gvN A0 s cm ≤ 9999 := by omega
    have h18 : A.2.1 3 = A0.2.1 3 := hx.2.2 3 (by omega) (by omega)
    have h19 : A.2.1 4 = A0.2.1 4 := hx.2.2 4 (by omega) (by omega)
    rw [e7, nI_clamp (by omega), a18, a19, h18, h19, (pct_i gle l1).1, (pct_i gle l2).1]
    refine ⟨vs, fun x8 e8 => ⟨vs, fun x9 e9 => ?_⟩⟩
    have e8 : x8 = nI (lfN A0 s cm) := e8
    have e9 : x9 = nI (gnN A0 s cm) := e9
    rw [e8, e9, pk_sub b4, ey]
    have eB : ∀ {B : Abs}, smX A B → B.1 0 ≤ 12 ∧ s < B.1 0 := fun hB => by rw [hB.1, hx.1]; exact ⟨n12, hs⟩
    refine tC_add (k := 3) h1 (eB smX.rf).1 (eB smX.rf).2 (by omega) (fun M3 r3 h3 => ?_)
    refine tC_add (k := 4) h3 (eB adS_X).1 (eB adS_X).2 (by omega) (fun M4 r4 h4 => ?_)
    refine tC_add (k := 5) h4 (eB (adS_X.tr adS_X)).1 (eB (adS_X.tr adS_X)).2 (by omega) (fun M5 r5 h5 => ?_)
    refine tC_add (k := 6) h5 (eB ((adS_X.tr adS_X).tr adS_X)).1 (eB ((adS_X.tr adS_X).tr adS_X)).2 (by omega) (fun M6 r6 h6 => ?_)
    refine tC_add (k := 7) h6 (eB (((adS_X.tr adS_X).tr adS_X).tr adS_X)).1 (eB (((adS_X.tr adS_X).tr adS_X).tr adS_X)).2 (by omega) (fun M7 r7 h7 => ?_)
    refine tC_add (k := 8) h7 (eB ((((adS_X.tr adS_X).tr adS_X).tr adS_X).tr adS_X)).1 (eB ((((adS_X.tr adS_X).tr adS_X).tr adS_X).tr adS_X)).2 (by omega) (fun M8 r8 h8 => ?_)
    have x8' : smX A (hnd1 A0 A s cm) := ((((adS_X.tr adS_X).tr adS_X).tr adS_X).tr adS_X).tr adS_X
    have h8 : RC w M8 (hnd1 A0 A s cm) := h8
    have r8' : eqS w M M8 := r1.tr (r3.tr (r4.tr (r5.tr (r6.tr (r7.tr r8)))))
    -- the price and the end
    have fin : ∀ M9, eqS w M M9 → RC w M9 (adS (hnd1 A0 A s cm) s 9 (owN A0 s cm)) → s_X10_handOut_212 w (nI s) (nI um) P M9 (nI (buN A0 cm)) (nI (rfN A0 s cm)) (nI (gvN A0 s cm)) (nI (lfN A0 s cm)) (nI (gnN A0 s cm)) := by
      intro M9 r9 h9
      have x9' : smX A (adS (hnd1 A0 A s cm) s 9 (owN A0 s cm)) := x8'.tr adS_X
      have x9'' := hx.tr x9'
      unfold s_X10_handOut_212
      have a15 := (h9.1.2.1 s (eB x9').2).1
      have hpl := prc_le (A := A0) k2 w4
      rw [nI_clamp (by omega), a15, x9''.2.2 0 (by omega) (by omega), pk_sub b3]
      refine ⟨vs, tC_price h9.2.1 (by rw [x9''.1]; exact k3) (bids_X x9'' k2) w4 ?_⟩
      rw [prc_X x9'']
      refine tC_paid (k := 1) (by omega) (by omega) hpl ?_
      refine tC_paid (k := 3) (by omega) (by omega) hpl ?_
      refine tC_paid (k := 4) (by omega) (by omega) hpl ?_
      refine tC_paid (k := 5) (by omega) (by omega) hpl ?_
      refine tC_paid (k := 6) (by omega) (by omega) hpl ?_
      rw [nI_add, nI_add, nI_add, nI_add, nI_add, pk_sub (show gnN A0 s cm ≤ rfN A0 s cm + gvN A0 s cm by omega)]
      exact tC_add (k := 10) h9 (eB x9').1 (eB x9').2 (by omega) (fun M10 r10 h10 => hp M10 (r9.tr r10) h10)
    rw [le0 (by omega)]
    have noOw : owN A0 s cm = 0 → s_X10_handOut_212 w (nI s) (nI um) P M8 (nI (buN A0 cm)) (nI (rfN A0 s cm)) (nI (gvN A0 s cm)) (nI (lfN A0 s cm)) (nI (gnN A0 s cm)) := fun z => fin M8 r8' (by rw [z, adS_0]; exact h8)
    refine ⟨fun z => noOw (by unfold owN; rw [if_neg (by omega)]), fun z => ?_⟩
    have xx := hx.tr x8'
    rw [eday h8 xx]
    refine tC_pH (p := 2) h8 (acOK_X xx k1) (by omega) (by rw [xx.1]; exact hs) k4 (fun M9 r9 => ?_)
    rw [hld_X xx, bI_0]
    refine ⟨fun y => ?_, fun y => ?_⟩
    · have eo : owN A0 s cm = 0 := by unfold owN; rw [if_neg (fun q => by rw [y] at q; cases q.2)]
      exact fin M9 (r8'.tr r9.S) (by rw [eo, adS_0]; exact r9.RC h8)
    · have y2 : hld A0 2 s 0 (A0.2.1 26 0) = true := by simpa using y
      have eo : owN A0 s cm = gnN A0 s cm := by unfold owN; rw [if_pos ⟨by omega, y2⟩]
      exact tC_add (k := 9) (r9.RC h8) (eB x8').1 (eB x8').2 (by omega) (fun M10 r10 h10 => fin M10 (r8'.tr (r9.S.tr r10)) (by rw [eo]; exact h10))
  have p49 : ∀ (M1 : Mem), eqS w M M1 → RC w M1 A → rfN A0 s cm = 0 → s_X10_handOut_49 w (nI s) (nI cm) (nI um) P M1 (nI (buN A0 cm)) 0 := fun M1 r1 h1 z => ⟨fun _ => p64 M1 0 r1 h1 (by rw [z]; rfl), fun q => absurd rfl q⟩
  refine ⟨fun z => p49 M eqS.rf h (by unfold rfN; rw [if_neg (by omega)]), fun z => ?_⟩
  rw [eday h hx]
  refine tC_pH (p := 1) h (acOK_X hx k1) (by omega) (by rw [hx.1]; exact hs) k4 (fun M1 r1 => ?_)
  rw [hld_X hx, bI_0]
  refine ⟨fun y => p49 M1 r1.S (r1.RC h) (by unfold rfN; rw [if_neg (fun q => by rw [y] at q; cases q.2)]), fun y => ⟨fun q => absurd q (by decide), fun _ => p64 M1 _ r1.S (r1.RC h) ?_⟩⟩
  have y2 : hld A0 1 s 0 (A0.2.1 26 0) = true := by simpa using y
  rw [pk_sub b1]
  unfold rfN
  rw [if_pos ⟨by omega, y2⟩]
/-- a course in the class's cells -/
def CT (w : Nat) (M : Mem) (T : Tr) : Prop := RC w M T.1 ∧ (∀ d, d < T.1.1 1 → M.1 29 w d = nI (T.2.1 d) ∧ M.1 27 w d = nI (T.2.2.1 d) ∧ M.1 28 w d = T.2.2.2.2 d) ∧ M.1 1 w 9 = nI T.2.2.2.1
theorem tC_srv {w tk : Nat} {M : Mem} {A0 : Abs} {T : Tr} {s : Nat} {P : Mem → Prop} {K : Mem × Int32 → Prop} (h : CT w M T) (ht : trOK A0 T) (hk : paOK A0) (hs : s < A0.1 0) (htk : tk ≤ 3) (hp : ∀ M', eqP w M M' → CT w M' (srv tk T s) → K (M', nI (s + 1))) : s_X10_passSchoolDay_22 w (mI tk) P K M (nI s) := by
  have hkT := ht.pa hk
  obtain ⟨h1, h2, h3⟩ := h
  obtain ⟨x, t2, t3⟩ := id ht
  have n12 := hk.1.2.2.1
  have n5 := hk.2.2.1
  have k4 := hkT.2.2.2.1
  have hs' : s < T.1.1 0 := by rw [x.1]; exact hs
  have w4 := hkT.1.2.2.2 s hs'
  unfold s_X10_passSchoolDay_22
  have c1 : T.1.1 0 = A0.1 0 := by rw [x.1]
  rw [h1.1.1, c1, nI_leI (by omega) (by omega)]
  refine ⟨fun q => by omega, fun _ => ?_⟩
  rw [h1.2.2.1.1]
  refine tC_ordered h1 hkT.1 hs' k4 htk (fun M1 r1 => ?_)
  have g1 := r1.RC h1
  obtain ⟨a15, -⟩ := g1.1.2.1 s hs'
  rw [nI_clamp (by omega), a15]
  have ho := cn_600 (A := T.1) (s := s) (d := T.1.2.1 26 0) (tk := tk) hkT.1.1 (by omega)
  refine ⟨vp_in_nI (by omega) (by omega), tC_winner g1.2.1 hkT.2.2.1 hkT.2.1 w4 ?_⟩
  have hby : wn T.1 (T.1.2.1 0 s) (T.1.1 1) = by_ T s := rfl
  have hle : by_ T s ≤ A0.1 1 := by_le x
  have d1 : T.1.1 1 = A0.1 1 := by rw [x.1]
  obtain ⟨m1, m2, m3⟩ := cm_le (T := T) (s := s) (tk := tk)
  have xS : smX T.1 (srv tk T s).1 := (sndA_X.tr hnd0_X).tr hnd_X
  have dS : (srv tk T s).1.1 1 = T.1.1 1 := by rw [xS.1]
  have e19 : M1.1 1 w 9 = nI T.2.2.2.1 := by rw [r1.1 1 (by omega) (by omega)]; exact h3
  rw [hby, mI_ge (by omega), e19]
  -- behind the sending
  have p88 : ∀ (M2 : Mem), eqP w M M2 → RC w M2 (sndA T.1 (by_ T s) (cmN T s tk)) → (∀ d, d < T.1.1 1 → M2.1 29 w d = nI (if by_ T s ≠ 0 ∧ d = by_ T s - 1 then T.2.1 d - cmN T s tk else T.2.1 d) ∧ M2.1 27 w d = nI (T.2.2.1 d) ∧ M2.1 28 w d = lwU T (by_ T s) (cmN T s tk) d) → M2.1 1 w 9 = nI T.2.2.2.1 →
      s_X10_passSchoolDay_88 w (mI tk) P K M2 (nI s) (nI (ordN T.1 s (T.1.2.1 26 0) tk)) (mI (by_ T s)) (nI (cmN T s tk)) := by
    intro M2 r2 g2 f2 e2 M3 em3
    rw [e2, pk_sub m2] at em3
    have r3 : eqP w M2 M3 := by rw [em3]; exact eqP.w (by omega)
    have c3 : ∀ c, c ≠ 1 → M3.1 c = M2.1 c := fun c hc => by rw [em3, wI_cc hc]
    have e39 : M3.1 1 w 9 = nI (T.2.2.2.1 - cmN T s tk) := by rw [em3, wI_at, if_pos ⟨rfl, rfl, rfl⟩]
    have g3 : RC w M3 (sndA T.1 (by_ T s) (cmN T s tk)) := g2.fr (fun c hc => by rw [c3 c (by unfold pK at hc; omega)]) (by rw [em3, wI_at, if_neg (by omega)]) (fun c hc => c3 c (by omega)) (by rw [em3]; rfl)
    have xs := sndA_X (A := T.1) (b := by_ T s) (cm := cmN T s tk)
    have eB : ∀ {B : Abs}, smX T.1 B → B.1 0 ≤ 12 ∧ s < B.1 0 := fun hB => by rw [hB.1, x.1]; exact ⟨n12, hs⟩
    rw [pk_sub m1]
    refine tC_add (k := 0) g3 (eB xs).1 (eB xs).2 (by omega) (fun M4 r4 g4 => ?_)
    refine tC_add (k := 1) g4 (eB (xs.tr adS_X)).1 (eB (xs.tr adS_X)).2 (by omega) (fun M5 r5 g5 => ?_)
    refine tC_add (k := 2) g5 (eB ((xs.tr adS_X).tr adS_X)).1 (eB ((xs.tr adS_X).tr adS_X)).2 (by omega) (fun M6 r6 g6 => ?_)
    have g6 : RC w M6 (hnd0 (sndA T.1 (by_ T s) (cmN T s tk)) s (ordN T.1 s (T.1.2.1 26 0) tk) (cmN T s tk)) := g6
    have x6 : smX T.1 (hnd0 (sndA T.1 (by_ T s) (cmN T s tk)) s (ordN T.1 s (T.1.2.1 26 0) tk) (cmN T s tk)) := xs.tr hnd0_X
    refine tC_hand g6 x6 hkT hs' (by omega) (by omega) (fun M7 r7 g7 => ?_)
    have r37 : eqS w M3 M7 := r4.tr (r5.tr (r6.tr r7))
    have r07 : eqP w M M7 := r2.tr (r3.tr r37.P)
    have c7 : ∀ c, c ≠ 1 → c ≠ 13 → c ≠ 14 → c ≠ 21 → M7.1 c = M2.1 c := fun c a b d e => by rw [r37.1 c b d e, c3 c a]
    have e79 : M7.1 1 w 9 = nI (T.2.2.2.1 - cmN T s tk) := by rw [r37.1 1 (by omega) (by omega) (by omega)]; exact e39
    rw [mI_neg (by omega)]
    refine ⟨fun z u eu => ?_, fun z => ?_⟩
    · rw [eu, nI_1]
      refine hp M7 r07 ⟨g7, fun d hd => ?_, e79⟩
      rw [c7 29 (by omega) (by omega) (by omega) (by omega), c7 27 (by omega) (by omega) (by omega) (by omega), c7 28 (by omega) (by omega) (by omega) (by omega)]
      obtain ⟨y1, y2, y3⟩ := f2 d (by rw [← dS]; exact hd)
      refine ⟨y1, ?_, y3⟩
      rw [y2]
      show nI (T.2.2.1 d) = nI (if by_ T s ≠ 0 ∧ d = by_ T s - 1 then _ else T.2.2.1 d)
      rw [if_neg (fun q => q.1 z)]
    · have z' : by_ T s ≠ 0 := z
      have vb : vp_in (nI (by_ T s - 1)) 5 := vp_in_nI (by omega) (by omega)
      rw [mI_pred z', nI_clamp (by omega)]
      refine ⟨vb, vb, fun M8 em8 u eu => ?_⟩
      rw [c7 27 (by omega) (by omega) (by omega) (by omega), (f2 _ (by rw [d1]; omega)).2.1, nI_add] at em8
      have r8 : eqP w M7 M8 := by rw [em8]; exact eqP.w (by omega)
      have c8 : ∀ c, c ≠ 27 → M8.1 c = M7.1 c := fun c hc => by rw [em8, wI_cc hc]
      rw [eu, nI_1]
      refine hp M8 (r07.tr r8) ⟨g7.fr (fun c hc => by rw [c8 c (by unfold pK at hc; omega)]) (by rw [c8 1 (by omega)]) (fun c hc => c8 c (by omega)) (by rw [em8]; rfl), fun d hd => ?_, by rw [c8 1 (by omega)]; exact e79⟩
      rw [c8 29 (by omega), c8 28 (by omega), c7 29 (by omega) (by omega) (by omega) (by omega), c7 28 (by omega) (by omega) (by omega) (by omega)]
      obtain ⟨y1, y2, y3⟩ := f2 d (by rw [← dS]; exact hd)
      refine ⟨y1, ?_, y3⟩
      show M8.1 27 w d = nI (if by_ T s ≠ 0 ∧ d = by_ T s - 1 then T.2.2.1 d + bkN T.1 s (cmN T s tk) else T.2.2.1 d)
      rw [em8, wI_at]
      by_cases q : d = by_ T s - 1
      · rw [if_pos ⟨rfl, rfl, q⟩, if_pos ⟨z', q⟩, q]
      · rw [if_neg (fun y => q y.2.2), if_neg (fun y => q y.2), c7 27 (by omega) (by omega) (by omega) (by omega)]; exact y2
  refine ⟨fun z => ?_, fun z => ?_⟩
  · have z' : by_ T s ≠ 0 := z
    have hb : by_ T s - 1 < T.1.1 1 := by omega
    rw [mI_pred z']
    unfold s_X4_send
    have vb : vp_in (nI (by_ T s - 1)) 5 := vp_in_nI (by omega) (by omega)
    obtain ⟨u29, u27, u28⟩ := h2 _ hb
    have v29 : M1.1 29 w (by_ T s - 1) = nI (T.2.1 (by_ T s - 1)) := by rw [r1.1 29 (by omega) (by omega)]; exact u29
    have v28 : M1.1 28 w (by_ T s - 1) = T.2.2.2.2 (by_ T s - 1) := by rw [r1.1 28 (by omega) (by omega)]; exact u28
    have v24 := (g1.2.1.2 _ hb).2.2.1
    have cc := (hkT.2.2.2.2.2.1 _ hb)
    have tt := t2 (by_ T s - 1) (by omega)
    rw [nI_clamp (by omega), v29, v24, min_i (by omega) (by omega), min_i (by omega) (by omega), min_i (by omega) (by omega)]
    have ec : min (min (T.1.2.1 9 (by_ T s - 1)) (T.2.1 (by_ T s - 1))) (min T.2.2.2.1 (ordN T.1 s (T.1.2.1 26 0) tk)) = cmN T s tk := by
      unfold cmN
      rw [if_neg z']
      omega
    rw [ec]
    refine ⟨vb, vb, fun x3 e3 => ?_⟩
    rw [e3]
    obtain ⟨m4, m5⟩ := m3 z'
    refine ⟨vb, vb, fun M2 em2 => ?_⟩
    rw [pk_sub m4] at em2
    have w24 : M2.1 24 w (by_ T s - 1) = nI (T.1.2.1 9 (by_ T s - 1)) := by rw [em2, wI_cc (by omega)]; exact v24
    rw [w24]
    refine ⟨vb, vb, fun M3 em3 => ?_⟩
    rw [pk_sub m5] at em3
    have w24' : M3.1 24 w (by_ T s - 1) = nI (T.1.2.1 9 (by_ T s - 1) - cmN T s tk) := by rw [em3, wI_at, if_pos ⟨rfl, rfl, rfl⟩]
    have w28 : M3.1 28 w (by_ T s - 1) = T.2.2.2.2 (by_ T s - 1) := by rw [em3, wI_cc (by omega), em2, wI_cc (by omega)]; exact v28
    rw [w24', w28]
    refine ⟨vb, vb, vb, fun M4 em4 => ?_⟩
    have s2 : eqP w M1 M2 := by rw [em2]; exact eqP.w (by omega)
    have s3 : eqP w M2 M3 := by rw [em3]; exact eqP.w (by omega)
    have s4 : eqP w M3 M4 := by rw [em4]; exact eqP.w (by omega)
    have c4 : ∀ c, c ≠ 24 → c ≠ 28 → c ≠ 29 → M4.1 c = M1.1 c := fun c a b d => by rw [em4, wI_cc b, em3, wI_cc a, em2, wI_cc d]
    rw [← mI_pred z']
    refine p88 M4 (r1.P.tr (s2.tr (s3.tr s4))) ?_ (fun d hd => ?_) (by rw [c4 1 (by omega) (by omega) (by omega)]; exact e19)
    · have gb := g1.bot (d := by_ T s - 1) (v := T.1.2.1 9 (by_ T s - 1) - cmN T s tk) hb
      unfold sndA
      rw [if_neg z']
      have n24 : M4.1 24 w = (wI M1 24 w (by_ T s - 1) (nI (T.1.2.1 9 (by_ T s - 1) - cmN T s tk))).1 24 w := by
        funext j
        rw [em4, wI_cc (by omega), em3, wI_at, wI_at, em2, wI_cc (by omega)]
      refine gb.fr (fun c hc => ?_) ?_ (fun c hc => ?_) (by rw [em4, em3, em2]; rfl)
      · by_cases q : c = 24
        · rw [q]; exact n24
        · rw [c4 c q (by unfold pK at hc; omega) (by unfold pK at hc; omega), wI_cc q]
      · rw [c4 1 (by omega) (by omega) (by omega), wI_cc (by omega)]
      · rw [c4 c (by omega) (by omega) (by omega), wI_cc (by omega)]
    · obtain ⟨y29, y27, y28⟩ := h2 d hd
      refine ⟨?_, ?_, ?_⟩
      · rw [em4, wI_cc (by omega), em3, wI_cc (by omega), em2, wI_at]
        by_cases q : d = by_ T s - 1
        · rw [if_pos ⟨rfl, rfl, q⟩, if_pos ⟨z', q⟩, q]
        · rw [if_neg (fun y => q y.2.2), if_neg (fun y => q y.2), r1.1 29 (by omega) (by omega)]; exact y29
      · rw [c4 27 (by omega) (by omega) (by omega), r1.1 27 (by omega) (by omega)]; exact y27
      · unfold lwU
        rw [em4, wI_at]
        by_cases q : d = by_ T s - 1
        · rw [if_pos (show 28 = 28 ∧ w = w ∧ d = by_ T s - 1 from ⟨rfl, rfl, q⟩), if_pos (show by_ T s ≠ 0 ∧ d = by_ T s - 1 from ⟨z', q⟩), q]
        · rw [if_neg (fun y => q y.2.2), if_neg (fun y => q y.2), em3, wI_cc (by omega), em2, wI_cc (by omega), r1.1 28 (by omega) (by omega)]; exact y28
  · have z' : by_ T s = 0 := Decidable.not_not.mp z
    have ec : cmN T s tk = 0 := by unfold cmN; rw [if_pos z']
    have e0 : (0 : Int32) = nI (cmN T s tk) := by rw [ec]; rfl
    rw [e0]
    refine p88 M1 r1.P ?_ (fun d hd => ?_) e19
    · unfold sndA; rw [if_pos z']; exact g1
    · obtain ⟨y29, y27, y28⟩ := h2 d hd
      unfold lwU
      rw [if_neg (fun q => q.1 z'), if_neg (fun q => q.1 z'), r1.1 29 (by omega) (by omega), r1.1 27 (by omega) (by omega), r1.1 28 (by omega) (by omega)]
      exact ⟨y29, y27, y28⟩
