/-! A DAY GOES BY, the reference's -/
def eqQ (M M' : Mem) : Prop := (∀ c, ¬ (c = 10 ∨ c = 44 ∨ (64 ≤ c ∧ c ≤ 68)) → M'.1 c = M.1 c) ∧ (∀ i j, ¬ (i = 0 ∧ ((23 ≤ j ∧ j ≤ 35) ∨ j = 37 ∨ j = 40)) → M'.1 10 i j = M.1 10 i j) ∧ M'.2 = M.2
theorem eqQ.rf {M : Mem} : eqQ M M := ⟨fun _ _ => rfl, fun _ _ _ => rfl, rfl⟩
theorem eqQ.tr {M M1 M2 : Mem} (h : eqQ M M1) (g : eqQ M1 M2) : eqQ M M2 := ⟨fun c a => (g.1 c a).trans (h.1 c a), fun i j a => (g.2.1 i j a).trans (h.2.1 i j a), g.2.2.trans h.2.2⟩
theorem eqU.Q {M M' : Mem} (h : eqU M M') : eqQ M M' := ⟨fun c a => h.1 c (by omega) (by omega) (by omega) (by omega), fun i j a => h.2.1 i j (fun q => a ⟨q.1, by omega⟩), h.2.2⟩
theorem eqQ.w {M : Mem} {c j : Nat} {v : Int32} (h : c = 44 ∨ c = 67 ∨ c = 68) : eqQ M (wI M c 0 j v) := ⟨fun c' a => wI_cc (by omega), fun i' j' a => by rw [wI_cc (by omega)], rfl⟩
theorem eqQ.w40 {M : Mem} {v : Int32} : eqQ M (wI M 10 0 40 v) := ⟨fun c' a => wI_cc (by omega), fun i' j' a => by rw [wI_at, if_neg]; intro q; exact a ⟨q.2.1, by omega⟩, rfl⟩
/-- sums alone -/
def eqB (M M' : Mem) : Prop := (∀ c, ¬ (c = 10 ∨ c = 44 ∨ (64 ≤ c ∧ c ≤ 66)) → M'.1 c = M.1 c) ∧ (∀ i j, ¬ (i = 0 ∧ ((23 ≤ j ∧ j ≤ 35) ∨ j = 37)) → M'.1 10 i j = M.1 10 i j) ∧ M'.2 = M.2
theorem eqB.rf {M : Mem} : eqB M M := ⟨fun _ _ => rfl, fun _ _ _ => rfl, rfl⟩
theorem eqB.tr {M M1 M2 : Mem} (h : eqB M M1) (g : eqB M1 M2) : eqB M M2 := ⟨fun c a => (g.1 c a).trans (h.1 c a), fun i j a => (g.2.1 i j a).trans (h.2.1 i j a), g.2.2.trans h.2.2⟩
theorem eqU.B {M M' : Mem} (h : eqU M M') : eqB M M' := ⟨fun c a => h.1 c (by omega) (by omega) (by omega) (by omega), h.2.1, h.2.2⟩
theorem eqB.Q {M M' : Mem} (h : eqB M M') : eqQ M M' := ⟨fun c a => h.1 c (by omega), fun i j a => h.2.1 i j (fun q => a ⟨q.1, by omega⟩), h.2.2⟩
theorem eqB.w {M : Mem} {j : Nat} {v : Int32} : eqB M (wI M 44 0 j v) := ⟨fun c' a => wI_cc (by omega), fun i' j' a => by rw [wI_cc (by omega)], rfl⟩
theorem RM.sum {M : Mem} {A : Abs} (h : RM 44 M A) (n0 : A.1 0 ≤ 12) (n1 : A.1 1 ≤ 5) (n2 : A.1 2 ≤ 16) {s k v : Nat} (hs : s < A.1 0) (hk : k < 11) : RM 44 (wI M 44 0 (180 + (11 * s + k)) (nI v)) (aU A 6 (11 * s + k) v) := by
  have u : ∀ c, c ≠ 6 → (aU A 6 (11 * s + k) v).2.1 c = A.2.1 c := fun c hc => aU_ne hc
  refine ⟨?_, (h.2.1.wr n1 (by omega)).of (fun c h1 h2 => u c (by omega)) rfl, (h.2.2.1.wr (by omega)).of (u 26 (by omega)) (u 12 (by omega)), (h.2.2.2.1.wr (by omega)).of (fun c h1 h2 => u c (by omega)) rfl, (h.2.2.2.2.1.wr (by omega)).of (fun c h1 h2 => u c (by omega)) rfl, (h.2.2.2.2.2.wr n2 (by omega)).of (fun c h1 h2 => u c (by omega)) rfl⟩
  have e : ∀ j, j ≠ 180 + (11 * s + k) → (wI M 44 0 (180 + (11 * s + k)) (nI v)).1 44 0 j = M.1 44 0 j := fun j hj => by rw [wI_at, if_neg (fun q => hj q.2.2)]
  have g : ∀ c, c ≠ 44 → (wI M 44 0 (180 + (11 * s + k)) (nI v)).1 c 0 = M.1 c 0 := fun c hc => wI_nc hc
  refine ⟨by rw [e 0 (by omega)]; exact h.1.1, fun s' hs' => ?_⟩
  have hs' : s' < A.1 0 := hs'
  obtain ⟨a1, a2, a3, a4, a5, a6, a7⟩ := h.1.2 s' hs'
  rw [g 47 (by omega), g 48 (by omega), g 49 (by omega), u 0 (by omega), u 1 (by omega), u 2 (by omega), u 3 (by omega), u 4 (by omega), u 5 (by omega), e _ (by omega), e _ (by omega), e _ (by omega)]
  refine ⟨a1, a2, a3, a4, a5, a6, fun k' hk' => ?_⟩
  rw [wI_at, aU_at]
  by_cases q : 11 * s' + k' = 11 * s + k
  · rw [if_pos ⟨rfl, rfl, by omega⟩, if_pos ⟨rfl, q⟩]
  · rw [if_neg (fun y => q (by omega)), if_neg (fun y => q y.2)]; exact a7 k' hk'
theorem RMf.w44 {M : Mem} {A : Abs} {j : Nat} {v : Int32} {c : Nat} (hc : c ≠ 10 ∧ c ≠ 66) (h : RMf M A) : RMf (wI M c 0 j v) A := by
  obtain ⟨fd, f1, f2, f3⟩ := h
  refine ⟨fd, by rw [wI_cc (by omega)]; exact f1, f2, fun z p sh hp hsh => ?_⟩
  rw [wI_cc (by omega)]
  exact f3 z p sh hp hsh
theorem tM_add {M : Mem} {A : Abs} {s k v : Nat} {P : Mem → Prop} (h : RM 44 M A) (hf : RMf M A) (n0 : A.1 0 ≤ 12) (n1 : A.1 1 ≤ 5) (n2 : A.1 2 ≤ 16) (hs : s < A.1 0) (hk : k < 11) (hp : ∀ M', eqB M M' → RM 44 M' (adS A s k v) → RMf M' (adS A s k v) → P M') : s_X12_add M (nI s) (nI k) (nI v) P := by
  unfold s_X12_add
  have e : 180 + 11 * nI s + nI k = nI (180 + (11 * s + k)) := by
    show nI 180 + nI 11 * nI s + nI k = _
    rw [pk_mul, nI_add, nI_add, Nat.add_assoc]
  have vi : vp_in (nI (180 + (11 * s + k))) 320 := vp_in_nI (by omega) (by omega)
  rw [e, nI_clamp (by omega), (h.1.2 s hs).2.2.2.2.2.2 k hk, nI_add]
  exact ⟨vi, vi, fun M1 m1 => hp M1 (by rw [m1]; exact eqB.w) (by rw [m1]; exact h.sum n0 n1 n2 hs hk) (RMf_X adS_X (by rw [m1]; exact hf.w44 (by omega)))⟩
theorem RM.bot {M : Mem} {A : Abs} (h : RM 44 M A) (n0 : A.1 0 ≤ 12) (n1 : A.1 1 ≤ 5) (n2 : A.1 2 ≤ 16) {d v : Nat} (hd : d < A.1 1) : RM 44 (wI M 44 0 (70 + d) (nI v)) (aU A 9 d v) := by
  have u : ∀ c, c ≠ 9 → (aU A 9 d v).2.1 c = A.2.1 c := fun c hc => aU_ne hc
  refine ⟨(h.1.wr n0 (by omega)).of (fun c a => u c (by omega)) rfl, ?_, (h.2.2.1.wr (by omega)).of (u 26 (by omega)) (u 12 (by omega)), (h.2.2.2.1.wr (by omega)).of (fun c h1 h2 => u c (by omega)) rfl, (h.2.2.2.2.1.wr (by omega)).of (fun c h1 h2 => u c (by omega)) rfl, (h.2.2.2.2.2.wr n2 (by omega)).of (fun c h1 h2 => u c (by omega)) rfl⟩
  have e : ∀ j, j ≠ 70 + d → (wI M 44 0 (70 + d) (nI v)).1 44 0 j = M.1 44 0 j := fun j hj => by rw [wI_at, if_neg (fun q => hj q.2.2)]
  have g : ∀ c, c ≠ 44 → (wI M 44 0 (70 + d) (nI v)).1 c 0 = M.1 c 0 := fun c hc => wI_nc hc
  refine ⟨by rw [e 1 (by omega)]; exact h.2.1.1, fun d' hd' => ?_⟩
  have hd' : d' < A.1 1 := hd'
  obtain ⟨a1, a2, a3, a4, a5⟩ := h.2.1.2 d' hd'
  rw [g 50 (by omega), g 51 (by omega), g 52 (by omega), u 7 (by omega), u 8 (by omega), u 10 (by omega), u 11 (by omega), wI_at, aU_at]
  refine ⟨a1, a2, ?_, a4, fun k hk => by rw [e _ (by omega)]; exact a5 k hk⟩
  by_cases q : d' = d
  · rw [if_pos ⟨rfl, rfl, by omega⟩, if_pos ⟨rfl, q⟩]
  · rw [if_neg (fun y => q (by omega)), if_neg (fun y => q y.2)]; exact a3
/-- what is handed out -/
theorem tM_hand {M : Mem} {A0 A : Abs} {s o cm : Nat} {x3 x4 : Int32} {P : Mem → Prop} (h : RM 44 M A) (hf : RMf M A) (hx : smX A0 A) (hk : paOK A0) (hl : LK A0) (hs : s < A0.1 0) (ho : o ≤ 600) (hcm : cm ≤ o) (h4 : x4 = nI (prc A0 (A0.2.1 0 s)))
    (hp : ∀ M', eqB M M' → RM 44 M' (hnd A0 (hnd0 A s o cm) s cm (o - cm)) → RMf M' (hnd A0 (hnd0 A s o cm) s cm (o - cm)) → (x3 < 0 → P M') ∧ (¬ x3 < 0 → vp_in x3 5 ∧ (vp_in x3 5 ∧ (∀ Mm487 : Mem, Mm487 = wI M' 68 0 (x3.toNatClampNeg) ((M'.1 68 0 x3.toNatClampNeg) + nI (bkN A0 s cm)) → P Mm487)))) : s_X12_serve_173 (nI s) (nI (A0.2.1 26 0)) P M x3 x4 (nI o) (nI cm) := by
  obtain ⟨k1, k2, k3, k4, k5, k6, k7⟩ := id hk
  have n12 := k1.2.2.1
  have n16 := k1.2.1.1
  have w4 := k1.2.2.2 s hs
  have hm : mo A0 < 12 := Nat.mod_lt _ (by omega)
  obtain ⟨c1, c2, c3⟩ := k7 _ hm
  obtain ⟨l1, l2⟩ := k5 s hs
  obtain ⟨b1, b2, b3, b4, b5⟩ := hand_le hk (s := s) (cm := cm) hs
  unfold s_X12_serve_173 s_X12_monthOf
  rw [month_i k4]
  have em : A0.2.1 26 0 / 30 % 12 = mo A0 := rfl
  rw [em]
  dsimp only
  have e100 : (100 : Int32) + nI (mo A0) = nI (100 + mo A0) := nI_add 100 _
  have e120 : (120 : Int32) + nI (mo A0) = nI (120 + mo A0) := nI_add 120 _
  have m0 := h.2.2.1.2 (mo A0) 0 hm (by omega)
  have m1 := h.2.2.1.2 (mo A0) 1 hm (by omega)
  rw [hx.2.2 12 (by omega) (by omega)] at m0 m1
  have m0 : M.1 44 0 (100 + mo A0) = nI (A0.2.1 12 (3 * mo A0)) := m0
  have m1 : M.1 44 0 (120 + mo A0) = nI (A0.2.1 12 (3 * mo A0 + 1)) := m1
  rw [e100, e120, nI_clamp (show 100 + mo A0 < 2 ^ 31 by omega), nI_clamp (show 120 + mo A0 < 2 ^ 31 by omega), m0, m1, (pct_i (by omega) c1).1, lt20 (by omega)]
  refine ⟨vp_in_nI (by omega) (by omega), fun x7 e7 => ?_⟩
  have e7 : x7 = nI (buN A0 cm) := e7
  rw [e7]
  -- behind the refusal
  have p263 : ∀ (M1 : Mem) (y z : Int32), eqU M M1 → RMf M1 A → y = nI (rfN A0 s cm) → z = nI (gvN A0 s cm) → s_X12_serve_263 (nI s) (nI (A0.2.1 26 0)) P M1 x3 x4 (nI o) (nI cm) (nI (buN A0 cm)) y z := by
    intro M1 y z r1 f1 ey ez
    have h1 := r1.RM (by omega) h
    unfold s_X12_serve_263
    have e10 : (10 : Int32) + nI s = nI (10 + s) := nI_add 10 _
    have e30 : (30 : Int32) + nI s = nI (30 + s) := nI_add 30 _
    obtain ⟨-, -, -, a3, a4, -⟩ := h1.1.2 s (by rw [hx.1]; exact hs)
    have gle : gvN A0 s cm ≤ 9999 := by omega
    rw [e10, e30, nI_clamp (show 10 + s < 2 ^ 31 by omega), nI_clamp (show 30 + s < 2 ^ 31 by omega), a3, a4, hx.2.2 3 (by omega) (by omega), hx.2.2 4 (by omega) (by omega), ez, (pct_i gle l1).1, (pct_i gle l2).1]
    refine ⟨vp_in_nI (by omega) (by omega), fun x11 e11 => ⟨vp_in_nI (by omega) (by omega), fun x12 e12 => ?_⟩⟩
    have e11 : x11 = nI (lfN A0 s cm) := e11
    have e12 : x12 = nI (gnN A0 s cm) := e12
    rw [e11, e12, pk_sub b4, pk_sub hcm, ey]
    have eB : ∀ {B : Abs}, smX A B → B.1 0 ≤ 12 ∧ B.1 1 ≤ 5 ∧ B.1 2 ≤ 16 ∧ s < B.1 0 := fun hB => by rw [hB.1, hx.1]; exact ⟨n12, k3, n16, hs⟩
    have st : ∀ {M5 : Mem} {B : Abs} {k v : Nat} {Q : Mem → Prop}, RM 44 M5 B → RMf M5 B → smX A B → k < 11 → (∀ M', eqB M5 M' → RM 44 M' (adS B s k v) → RMf M' (adS B s k v) → smX A (adS B s k v) → Q M') → s_X12_add M5 (nI s) (nI k) (nI v) Q := fun {M5 B k v Q} g f x hk11 q => tM_add g f (eB x).1 (eB x).2.1 (eB x).2.2.1 (eB x).2.2.2 hk11 (fun M' a b c => q M' a b c (x.tr adS_X))
    refine st (k := 0) h1 f1 smX.rf (by omega) (fun N0 s0 g0 f0 x0 => ?_)
    refine st (k := 1) g0 f0 x0 (by omega) (fun N1 s1 g1 f1 x1 => ?_)
    refine st (k := 2) g1 f1 x1 (by omega) (fun N2 s2 g2 f2 x2 => ?_)
    refine st (k := 3) g2 f2 x2 (by omega) (fun N3 s3 g3 f3 x3' => ?_)
    refine st (k := 4) g3 f3 x3' (by omega) (fun N4 s4 g4 f4 x4' => ?_)
    refine st (k := 5) g4 f4 x4' (by omega) (fun N5 s5 g5 f5 x5 => ?_)
    refine st (k := 6) g5 f5 x5 (by omega) (fun N6 s6 g6 f6 x6 => ?_)
    refine st (k := 7) g6 f6 x6 (by omega) (fun N7 s7 g7 f7 x7 => ?_)
    refine st (k := 8) g7 f7 x7 (by omega) (fun N8 s8 g8 f8 x8 => ?_)
    have r8 : eqB M N8 := r1.B.tr (s0.tr (s1.tr (s2.tr (s3.tr (s4.tr (s5.tr (s6.tr (s7.tr s8))))))))
    have g8 : RM 44 N8 (hnd1 A0 (hnd0 A s o cm) s cm) := g8
    have f8 : RMf N8 (hnd1 A0 (hnd0 A s o cm) s cm) := f8
    have x8 : smX A (hnd1 A0 (hnd0 A s o cm) s cm) := x8
    have fin : ∀ (M9 : Mem) (y : Int32), eqB M M9 → RM 44 M9 (hnd1 A0 (hnd0 A s o cm) s cm) → RMf M9 (hnd1 A0 (hnd0 A s o cm) s cm) → y = nI (owN A0 s cm) → s_X12_serve_406 (nI s) P M9 x3 x4 (nI o) (nI cm) (nI (buN A0 cm)) (nI (rfN A0 s cm)) (nI (gvN A0 s cm)) (nI (lfN A0 s cm)) (nI (gnN A0 s cm)) y 9 (nI s) := by
      intro M9 y r9 g9 f9 ey9
      unfold s_X12_serve_406
      rw [ey9]
      refine st (k := 9) g9 f9 x8 (by omega) (fun N9 s9 t9 u9 x9 => ?_)
      have hpl := prc_le (A := A0) k2 w4
      rw [h4, pk_sub b3, pk_sub hcm]
      refine tM_paid (k := 1) (by omega) (by omega) hpl ?_
      refine tM_paid (k := 3) (by omega) (by omega) hpl ?_
      refine tM_paid (k := 4) (by omega) (by omega) hpl ?_
      refine tM_paid (k := 5) (by omega) (by omega) hpl ?_
      refine tM_paid (k := 6) (by omega) (by omega) hpl ?_
      rw [nI_add, nI_add, nI_add, nI_add, nI_add, pk_sub (show gnN A0 s cm ≤ rfN A0 s cm + gvN A0 s cm by omega)]
      exact st (k := 10) t9 u9 x9 (by omega) (fun N10 s10 t10 u10 x10 => hp N10 (r9.tr (s9.tr s10)) t10 u10)
    rw [le0 (by omega)]
    refine ⟨fun z => fin N8 0 r8 g8 f8 (by unfold owN; rw [if_neg (by omega)]; rfl), fun z => ?_⟩
    have xx := hx.tr x8
    refine tM_hF (p := 2) g8 f8 (acOK_X xx k1) (LK_X xx hl) (by omega) (by rw [xx.1]; exact hs) k4 (fun N9 r9 f9 => ?_)
    rw [hld_X xx, bI_0]
    have g9 := r9.RM (by omega) g8
    refine ⟨fun y => fin N9 0 (r8.tr r9.B) g9 f9 (by unfold owN; rw [if_neg (fun q => by rw [y] at q; cases q.2)]; rfl), fun y => fin N9 _ (r8.tr r9.B) g9 f9 ?_⟩
    have y2 : hld A0 2 s 0 (A0.2.1 26 0) = true := by simpa using y
    unfold owN; rw [if_pos ⟨by omega, y2⟩]
  have p231_0 : ∀ (M1 : Mem), eqU M M1 → RMf M1 A → rfN A0 s cm = 0 → s_X12_serve_231 (nI s) (nI (A0.2.1 26 0)) P M1 x3 x4 (nI o) (nI cm) (nI (buN A0 cm)) 0 := by
    intro M1 r1 f1 z
    refine ⟨fun _ => ⟨fun _ => p263 M1 _ _ r1 f1 (by rw [z]; rfl) ?_, fun q => absurd rfl q⟩, fun q => absurd rfl q⟩
    rw [pk_sub b1]
    unfold gvN
    rw [z, Nat.sub_zero]
  have p231_1 : ∀ (M1 : Mem), eqU M M1 → RMf M1 A → rfN A0 s cm = cm - buN A0 cm → s_X12_serve_231 (nI s) (nI (A0.2.1 26 0)) P M1 x3 x4 (nI o) (nI cm) (nI (buN A0 cm)) 1 := by
    intro M1 r1 f1 z
    refine ⟨fun q => absurd q (by decide), fun _ => ⟨fun q => absurd q (by decide), fun _ => p263 M1 _ _ r1 f1 ?_ ?_⟩⟩
    · rw [pk_sub b1, z]
    · unfold gvN
      rw [z, Nat.sub_self]; rfl
  have rle := rfN_le (A := A0) (s := s) (cm := cm)
  rw [le0 (by omega)]
  refine ⟨fun z => p231_0 M eqU.rf hf (by omega), fun z => ⟨vp_in_nI (by omega) (by omega), fun z2 => p231_0 M eqU.rf hf (by unfold rfN; rw [if_neg (by omega)]), fun z2 => ?_⟩⟩
  refine tM_hF (p := 1) h hf (acOK_X hx k1) (LK_X hx hl) (by omega) (by rw [hx.1]; exact hs) k4 (fun M1 r1 f1 => ?_)
  rw [hld_X hx, bI_0]
  refine ⟨fun y => p231_0 M1 r1 f1 (by unfold rfN; rw [if_neg (fun q => by rw [y] at q; cases q.2)]), fun y => p231_1 M1 r1 f1 ?_⟩
  have y2 : hld A0 1 s 0 (A0.2.1 26 0) = true := by simpa using y
  unfold rfN
  rw [if_pos ⟨by omega, y2⟩]
/-- a course in the reference's cells -/
def MT (M : Mem) (tk : Nat) (T : Tr) : Prop := RM 44 M T.1 ∧ RMf M T.1 ∧ (∀ d, d < T.1.1 1 → M.1 67 0 d = nI (T.2.1 d) ∧ M.1 68 0 d = nI (T.2.2.1 d)) ∧ M.1 10 0 40 = nI T.2.2.2.1 ∧ M.1 10 0 22 = mI tk
theorem tM_srv {tk : Nat} {M : Mem} {A0 : Abs} {T : Tr} {s : Nat} {P : Mem → Prop} (h : MT M tk T) (ht : trOK A0 T) (hk : paOK A0) (hl : LK A0) (hs : s < A0.1 0) (htk : tk ≤ 3) (hp : ∀ M', eqQ M M' → MT M' tk (srv tk T s) → P M') : s_X12_serve M (nI s) (nI (A0.2.1 26 0)) P := by
  have hkT := ht.pa hk
  obtain ⟨h1, hf, h2, h3, h22⟩ := h
  obtain ⟨x, t2, t3⟩ := id ht
  have hlT := LK_X x hl
  have n12 := hk.1.2.2.1
  have n16 := hk.1.2.1.1
  have n5 := hk.2.2.1
  have k4 := hkT.2.2.2.1
  have hs' : s < T.1.1 0 := by rw [x.1]; exact hs
  have w4 := hkT.1.2.2.2 s hs'
  have eday : A0.2.1 26 0 = T.1.2.1 26 0 := by rw [x.2.2 26 (by omega) (by omega)]
  rw [eday]
  unfold s_X12_serve
  obtain ⟨a47, -⟩ := h1.1.2 s hs'
  rw [nI_clamp (show s < 2 ^ 31 by omega), a47]
  have vs : vp_in (nI s) 12 := vp_in_nI (by omega) (by omega)
  refine ⟨vs, tM_wonBy h1.2.1 hkT.2.2.1 hkT.2.1 w4 ?_⟩
  have hby : wn T.1 (T.1.2.1 0 s) (T.1.1 1) = by_ T s := rfl
  have hle : by_ T s ≤ A0.1 1 := by_le x
  have d1 : T.1.1 1 = A0.1 1 := by rw [x.1]
  obtain ⟨m1, m2, m3⟩ := cm_le (T := T) (s := s) (tk := tk)
  have ho := cn_600 (A := T.1) (s := s) (d := T.1.2.1 26 0) (tk := tk) hkT.1.1 (by omega)
  have xS : smX T.1 (srv tk T s).1 := (sndA_X.tr hnd0_X).tr hnd_X
  have dS : (srv tk T s).1.1 1 = T.1.1 1 := by rw [xS.1]
  rw [hby]
  have nge : 0 ≤ noI (by_ T s) ↔ ¬ by_ T s = 0 := by
    rw [le_i, t0_i, noI_t (by omega)]; split <;> omega
  have nlt : noI (by_ T s) < 0 ↔ by_ T s = 0 := by
    rw [lt_i, t0_i, noI_t (by omega)]; split <;> omega
  -- behind the sending
  have p173 : ∀ (M2 : Mem) (x4 : Int32), eqQ M M2 → RM 44 M2 (sndA T.1 (by_ T s) (cmN T s tk)) → RMf M2 (sndA T.1 (by_ T s) (cmN T s tk)) → (∀ d, d < T.1.1 1 → M2.1 67 0 d = nI (if by_ T s ≠ 0 ∧ d = by_ T s - 1 then T.2.1 d - cmN T s tk else T.2.1 d) ∧ M2.1 68 0 d = nI (T.2.2.1 d)) → M2.1 10 0 40 = nI (T.2.2.2.1 - cmN T s tk) → M2.1 10 0 22 = mI tk → x4 = nI (prc T.1 (T.1.2.1 0 s)) →
      s_X12_serve_173 (nI s) (nI (T.1.2.1 26 0)) P M2 (noI (by_ T s)) x4 (nI (ordN T.1 s (T.1.2.1 26 0) tk)) (nI (cmN T s tk)) := by
    intro M2 x4 r2 g2 fr2 f2 e40 e22 e4
    have xs := sndA_X (A := T.1) (b := by_ T s) (cm := cmN T s tk)
    refine tM_hand g2 fr2 xs hkT hlT hs' ho m1 e4 (fun M7 r7 g7 f7 => ?_)
    have r27 : eqQ M M7 := r2.tr r7.Q
    have c67 : M7.1 67 = M2.1 67 := r7.1 67 (by omega)
    have c68 : M7.1 68 = M2.1 68 := r7.1 68 (by omega)
    have e740 : M7.1 10 0 40 = nI (T.2.2.2.1 - cmN T s tk) := by rw [r7.2.1 0 40 (by omega)]; exact e40
    have e722 : M7.1 10 0 22 = mI tk := by rw [r7.2.1 0 22 (by omega)]; exact e22
    rw [nlt]
    refine ⟨fun z => ?_, fun z => ?_⟩
    · refine hp M7 r27 ⟨g7, f7, fun d hd => ?_, e740, e722⟩
      obtain ⟨y1, y2⟩ := f2 d (by rw [← dS]; exact hd)
      rw [c67, c68]
      refine ⟨y1, ?_⟩
      rw [y2]
      show nI (T.2.2.1 d) = nI (if by_ T s ≠ 0 ∧ d = by_ T s - 1 then _ else T.2.2.1 d)
      rw [if_neg (fun q => q.1 z)]
    · have en : noI (by_ T s) = nI (by_ T s - 1) := if_neg z
      have vb : vp_in (nI (by_ T s - 1)) 5 := vp_in_nI (by omega) (by omega)
      rw [en, nI_clamp (by omega)]
      refine ⟨vb, vb, fun M8 em8 => ?_⟩
      rw [c68, (f2 _ (by rw [d1]; omega)).2, nI_add] at em8
      have r8 : eqQ M7 M8 := by rw [em8]; exact eqQ.w (by omega)
      have c8 : ∀ c, c ≠ 68 → M8.1 c = M7.1 c := fun c hc => by rw [em8, wI_cc hc]
      refine hp M8 (r27.tr r8) ⟨g7.fr (fun c hc => by rw [c8 c (by omega)]), by rw [em8]; exact f7.w44 (by omega), fun d hd => ?_, by rw [c8 10 (by omega)]; exact e740, by rw [c8 10 (by omega)]; exact e722⟩
      obtain ⟨y1, y2⟩ := f2 d (by rw [← dS]; exact hd)
      rw [c8 67 (by omega), c67]
      refine ⟨y1, ?_⟩
      show M8.1 68 0 d = nI (if by_ T s ≠ 0 ∧ d = by_ T s - 1 then T.2.2.1 d + bkN T.1 s (cmN T s tk) else T.2.2.1 d)
      rw [em8, wI_at]
      by_cases q : d = by_ T s - 1
      · rw [if_pos (show 68 = 68 ∧ 0 = 0 ∧ d = by_ T s - 1 from ⟨rfl, rfl, q⟩), if_pos (show by_ T s ≠ 0 ∧ d = by_ T s - 1 from ⟨z, q⟩), q]
      · rw [if_neg (fun y => q y.2.2), if_neg (fun y => q y.2), c68]; exact y2
  have p37 : ∀ x4 : Int32, x4 = nI (prc T.1 (T.1.2.1 0 s)) → s_X12_serve_37 (nI s) (nI (T.1.2.1 26 0)) P M (noI (by_ T s)) x4 := by
    intro x4 e4
    unfold s_X12_serve_37
    refine tM_orderOf h1 hf hkT.1 hlT hs' k4 htk h22 (fun M1 r1 f1 => ?_)
    have g1 := r1.RM (by omega) h1
    have e40 : M1.1 10 0 40 = nI T.2.2.2.1 := by rw [r1.2.1 0 40 (by omega)]; exact h3
    have e22 : M1.1 10 0 22 = mI tk := by rw [r1.2.1 0 22 (by omega)]; exact h22
    have c67 : M1.1 67 = M.1 67 := r1.1 67 (by omega) (by omega) (by omega) (by omega)
    have c68 : M1.1 68 = M.1 68 := r1.1 68 (by omega) (by omega) (by omega) (by omega)
    rw [nge]
    refine ⟨fun z => ?_, fun z => ?_⟩
    · unfold s_X12_serve_57
      rw [nlt]
      refine ⟨fun q => absurd q z, fun _ => ?_⟩
      have en : noI (by_ T s) = nI (by_ T s - 1) := if_neg z
      have hb : by_ T s - 1 < T.1.1 1 := by omega
      have vb : vp_in (nI (by_ T s - 1)) 5 := vp_in_nI (by omega) (by omega)
      obtain ⟨u67, u68⟩ := h2 _ hb
      have v44 := (g1.2.1.2 _ hb).2.2.1
      have cc := (hkT.2.2.2.2.2.1 _ hb)
      have tt := t2 (by_ T s - 1) (by omega)
      have e70 : (70 : Int32) + nI (by_ T s - 1) = nI (70 + (by_ T s - 1)) := nI_add 70 _
      have v70 : vp_in (nI (70 + (by_ T s - 1))) 320 := vp_in_nI (by omega) (by omega)
      have p135 : s_X12_serve_135 (nI s) (nI (T.1.2.1 26 0)) P M1 (noI (by_ T s)) x4 (nI (ordN T.1 s (T.1.2.1 26 0) tk)) (nI (cmN T s tk)) := by
        obtain ⟨m4, m5⟩ := m3 z
        unfold s_X12_serve_135
        rw [en, e70, nI_clamp (show by_ T s - 1 < 2 ^ 31 by omega), nI_clamp (show 70 + (by_ T s - 1) < 2 ^ 31 by omega), c67, u67, pk_sub m4]
        refine ⟨vb, vb, fun M2 em2 => ?_⟩
        have w44 : M2.1 44 0 (70 + (by_ T s - 1)) = nI (T.1.2.1 9 (by_ T s - 1)) := by rw [em2, wI_cc (by omega)]; exact v44
        rw [w44, pk_sub m5]
        refine ⟨v70, v70, fun M3 em3 M4 em4 => ?_⟩
        have w40 : M3.1 10 0 40 = nI T.2.2.2.1 := by rw [em3, wI_cc (by omega), em2, wI_cc (by omega)]; exact e40
        rw [w40, pk_sub m2] at em4
        have s2 : eqQ M1 M2 := by rw [em2]; exact eqQ.w (by omega)
        have s3 : eqQ M2 M3 := by rw [em3]; exact eqQ.w (by omega)
        have s4 : eqQ M3 M4 := by rw [em4]; exact eqQ.w40
        have cM : ∀ c, c ≠ 10 → c ≠ 44 → c ≠ 67 → M4.1 c = M1.1 c := fun c a b d => by rw [em4, wI_cc a, em3, wI_cc b, em2, wI_cc d]
        rw [← en]
        refine p173 M4 x4 (r1.Q.tr (s2.tr (s3.tr s4))) ?_ ?_ (fun d hd => ?_) (by rw [em4, wI_at, if_pos ⟨rfl, rfl, rfl⟩]) (by rw [em4, wI_at, if_neg (by omega), em3, wI_cc (by omega), em2, wI_cc (by omega)]; exact e22) e4
        · have gb := g1.bot (show T.1.1 0 ≤ 12 by rw [x.1]; exact n12) (show T.1.1 1 ≤ 5 by rw [x.1]; exact n5) (show T.1.1 2 ≤ 16 by rw [x.1]; exact n16) (d := by_ T s - 1) (v := T.1.2.1 9 (by_ T s - 1) - cmN T s tk) hb
          unfold sndA
          rw [if_neg z]
          refine gb.fr (fun c hc => ?_)
          by_cases q : c = 44
          · rw [q]
            funext j
            rw [em4, wI_cc (by omega), em3, wI_at, wI_at, em2, wI_cc (by omega)]
          · rw [cM c (by omega) q (by omega), wI_cc q]
        · refine RMf_X sndA_X ?_
          obtain ⟨fd, q1, q2, q3⟩ := f1
          refine ⟨fd, by rw [em4, wI_at, if_neg (by omega), em3, wI_cc (by omega), em2, wI_cc (by omega)]; exact q1, q2, fun y p sh hp3 hsh => ?_⟩
          rw [cM 66 (by omega) (by omega) (by omega)]
          exact q3 y p sh hp3 hsh
        · obtain ⟨y67, y68⟩ := h2 d hd
          rw [cM 68 (by omega) (by omega) (by omega), c68]
          refine ⟨?_, y68⟩
          rw [em4, wI_cc (by omega), em3, wI_cc (by omega), em2, wI_at]
          by_cases q : d = by_ T s - 1
          · rw [if_pos (show 67 = 67 ∧ 0 = 0 ∧ d = by_ T s - 1 from ⟨rfl, rfl, q⟩), if_pos (show by_ T s ≠ 0 ∧ d = by_ T s - 1 from ⟨z, q⟩), q]
          · rw [if_neg (fun y => q y.2.2), if_neg (fun y => q y.2), c67]; exact y67
      have ecm : cmN T s tk = min (min (ordN T.1 s (T.1.2.1 26 0) tk) T.2.2.2.1) (min (T.2.1 (by_ T s - 1)) (T.1.2.1 9 (by_ T s - 1))) := if_neg z
      have p115 : ∀ v : Nat, v ≤ 20000 → cmN T s tk = min v T.2.2.2.1 → s_X12_serve_115 (nI s) (nI (T.1.2.1 26 0)) P M1 (noI (by_ T s)) x4 (nI (ordN T.1 s (T.1.2.1 26 0) tk)) (nI v) := by
        intro v hv ev
        unfold s_X12_serve_115
        rw [e40, nI_leI (by omega) (by omega)]
        refine ⟨fun q => ?_, fun q => ?_⟩
        · have : v = cmN T s tk := by omega
          rw [this]; exact p135
        · have : T.2.2.2.1 = cmN T s tk := by omega
          rw [this]; exact p135
      have p85 : ∀ v : Nat, v ≤ 20000 → cmN T s tk = min (min v (T.1.2.1 9 (by_ T s - 1))) T.2.2.2.1 → s_X12_serve_85 (nI s) (nI (T.1.2.1 26 0)) P M1 (noI (by_ T s)) x4 (nI (ordN T.1 s (T.1.2.1 26 0) tk)) (nI v) := by
        intro v hv ev
        unfold s_X12_serve_85
        rw [en, e70, nI_clamp (show 70 + (by_ T s - 1) < 2 ^ 31 by omega), v44, nI_leI (by omega) (by omega), ← en]
        refine ⟨v70, fun q => p115 v hv (by omega), fun q => ⟨v70, p115 _ (by omega) (by omega)⟩⟩
      rw [en, nI_clamp (show by_ T s - 1 < 2 ^ 31 by omega), c67, u67, nI_leI (by omega) (by omega), ← en]
      rw [en]
      refine ⟨vb, fun q => ?_, fun q => ⟨vb, ?_⟩⟩
      · rw [← en]; exact p85 _ (by omega) (by omega)
      · rw [← en]; exact p85 _ (by omega) (by omega)
    · have z' : by_ T s = 0 := Decidable.not_not.mp z
      have ec : cmN T s tk = 0 := by unfold cmN; rw [if_pos z']
      unfold s_X12_serve_57
      rw [nlt]
      refine ⟨fun _ => ?_, fun q => absurd z' q⟩
      have e0 : (0 : Int32) = nI (cmN T s tk) := by rw [ec]; rfl
      rw [e0]
      refine p173 M1 x4 r1.Q ?_ ?_ (fun d hd => ?_) (by rw [ec, Nat.sub_zero]; exact e40) e22 e4
      · unfold sndA; rw [if_pos z']; exact g1
      · unfold sndA; rw [if_pos z']; exact f1
      · obtain ⟨y67, y68⟩ := h2 d hd
        rw [if_neg (fun q => q.1 z'), c67, c68]
        exact ⟨y67, y68⟩
  rw [nge]
  refine ⟨fun z => ⟨vs, ?_⟩, fun z => ?_⟩
  · have en : noI (by_ T s) = nI (by_ T s - 1) := if_neg z
    have hb : by_ T s - 1 < T.1.1 1 := by omega
    have e80 : 80 + 4 * noI (by_ T s) + nI (T.1.2.1 0 s) = nI (80 + (4 * (by_ T s - 1) + T.1.2.1 0 s)) := by
      rw [en]
      show nI 80 + nI 4 * nI _ + nI _ = _
      rw [pk_mul, nI_add, nI_add, Nat.add_assoc]
    rw [a47, e80, nI_clamp (by omega), (h1.2.1.2 _ hb).2.2.2.2 _ w4]
    refine ⟨vp_in_nI (by omega) (by omega), p37 _ ?_⟩
    have ew := mI_pred (wn_nz (A := T.1) (sh := T.1.2.1 0 s) (d := T.1.1 1) z)
    unfold prc
    rw [if_neg (show ¬ wn T.1 (T.1.2.1 0 s) (T.1.1 1) = 0 from z)]
    exact ew
  · refine p37 0 ?_
    unfold prc
    rw [if_pos (show wn T.1 (T.1.2.1 0 s) (T.1.1 1) = 0 from Decidable.not_not.mp z)]
    rfl
