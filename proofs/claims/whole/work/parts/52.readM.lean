/-! THE REFERENCE reads a text -/
def eqA (M M' : Mem) : Prop := (∀ c, c ≠ 10 → M'.1 c = M.1 c) ∧ (∀ i j, ¬ (i = 0 ∧ (j = 26 ∨ j = 27)) → M'.1 10 i j = M.1 10 i j) ∧ M'.2 = M.2
def eqT (M M' : Mem) : Prop := (∀ c, c ≠ 10 → c ≠ 64 → M'.1 c = M.1 c) ∧ (∀ i j, ¬ (i = 0 ∧ (j = 33 ∨ j = 35)) → M'.1 10 i j = M.1 10 i j) ∧ M'.2 = M.2
def eqR (M M' : Mem) : Prop := (∀ c, c ≠ 10 → c ≠ 64 → c ≠ 65 → M'.1 c = M.1 c) ∧ (∀ i j, ¬ (i = 0 ∧ (j = 26 ∨ j = 27 ∨ j = 28 ∨ j = 33 ∨ j = 35)) → M'.1 10 i j = M.1 10 i j) ∧ M'.2 = M.2
theorem eqA.rf {M : Mem} : eqA M M := ⟨fun _ _ => rfl, fun _ _ _ => rfl, rfl⟩
theorem eqT.rf {M : Mem} : eqT M M := ⟨fun _ _ _ => rfl, fun _ _ _ => rfl, rfl⟩
theorem eqR.rf {M : Mem} : eqR M M := ⟨fun _ _ _ _ => rfl, fun _ _ _ => rfl, rfl⟩
theorem eqA.tr {M M1 M2 : Mem} (h : eqA M M1) (g : eqA M1 M2) : eqA M M2 := ⟨fun c a => (g.1 c a).trans (h.1 c a), fun i j a => (g.2.1 i j a).trans (h.2.1 i j a), g.2.2.trans h.2.2⟩
theorem eqT.tr {M M1 M2 : Mem} (h : eqT M M1) (g : eqT M1 M2) : eqT M M2 := ⟨fun c a b => (g.1 c a b).trans (h.1 c a b), fun i j a => (g.2.1 i j a).trans (h.2.1 i j a), g.2.2.trans h.2.2⟩
theorem eqR.tr {M M1 M2 : Mem} (h : eqR M M1) (g : eqR M1 M2) : eqR M M2 := ⟨fun c a b d => (g.1 c a b d).trans (h.1 c a b d), fun i j a => (g.2.1 i j a).trans (h.2.1 i j a), g.2.2.trans h.2.2⟩
theorem eqA.R {M M' : Mem} (h : eqA M M') : eqR M M' := ⟨fun c a _ _ => h.1 c a, fun i j a => h.2.1 i j (fun q => a ⟨q.1, by omega⟩), h.2.2⟩
theorem eqT.R {M M' : Mem} (h : eqT M M') : eqR M M' := ⟨fun c a b _ => h.1 c a b, fun i j a => h.2.1 i j (fun q => a ⟨q.1, by omega⟩), h.2.2⟩
theorem eqA.w {M : Mem} {j : Nat} {v : Int32} (h : j = 26 ∨ j = 27) : eqA M (wI M 10 0 j v) := ⟨fun c a => wI_cc a, fun i' j' a => by rw [wI_at, if_neg]; intro q; exact a ⟨q.2.1, by omega⟩, rfl⟩
theorem eqT.w {M : Mem} {j : Nat} {v : Int32} (h : j = 33 ∨ j = 35) : eqT M (wI M 10 0 j v) := ⟨fun c a _ => wI_cc a, fun i' j' a => by rw [wI_at, if_neg]; intro q; exact a ⟨q.2.1, by omega⟩, rfl⟩
theorem eqT.w64 {M : Mem} {j : Nat} {v : Int32} : eqT M (wI M 64 0 j v) := ⟨fun c _ a => wI_cc a, fun i' j' a => by rw [wI_cc (by omega)], rfl⟩
theorem eqR.w {M : Mem} {j : Nat} {v : Int32} (h : j = 26 ∨ j = 27 ∨ j = 28 ∨ j = 33 ∨ j = 35) : eqR M (wI M 10 0 j v) := ⟨fun c a _ _ => wI_cc a, fun i' j' a => by rw [wI_at, if_neg]; intro q; exact a ⟨q.2.1, by omega⟩, rfl⟩
theorem eqR.w65 {M : Mem} {j : Nat} {v : Int32} : eqR M (wI M 65 0 j v) := ⟨fun c _ _ a => wI_cc a, fun i' j' a => by rw [wI_cc (by omega)], rfl⟩
theorem eqR.w64 {M : Mem} {j : Nat} {v : Int32} : eqR M (wI M 64 0 j v) := ⟨fun c _ a _ => wI_cc a, fun i' j' a => by rw [wI_cc (by omega)], rfl⟩
def TxM (M : Mem) (c : Nat → Nat) (N : Nat) : Prop := M.1 10 0 25 = nI N ∧ N ≤ 80 ∧ (∀ p, p < N → c p < 256) ∧ cE c N ∧ ∃ b, M.1 10 0 24 = nI b ∧
  ((M.1 10 0 23 = 0 ∧ b + 80 ≤ 1280 ∧ ∀ p, p < N → M.1 57 0 (b + p) = nI (c p)) ∨ (¬ M.1 10 0 23 = 0 ∧ b + 80 ≤ 640 ∧ ∀ p, p < N → (M.2.1 78 0 (b + p)).toInt32 &&& 255 = nI (c p)))
theorem TxM.mv {M M' : Mem} {c : Nat → Nat} {N : Nat} (h : TxM M c N) (e : eqR M M') : TxM M' c N := by
  unfold TxM at h ⊢
  rw [e.2.1 0 25 (by omega), e.2.1 0 24 (by omega), e.2.1 0 23 (by omega), e.1 57 (by omega) (by omega) (by omega), e.2.2]
  exact h
def FlM (M : Mem) (f : Nat → Int32) : Prop := (¬ M.1 10 0 23 = 0 ∧ ∀ k, f k = 0) ∨ (M.1 10 0 23 = 0 ∧ ∀ (M' : Mem) (x : Nat) (P : Int32 → Mem → Prop), eqR M M' → fldN x ≠ 0 → P (f (fldN x - 1)) M' → s_X12_field M' (nI x) P)
theorem FlM.mv {M M' : Mem} {f : Nat → Int32} (h : FlM M f) (e : eqR M M') : FlM M' f := by
  unfold FlM at h ⊢
  rw [e.2.1 0 23 (by omega)]
  exact h.imp (fun x => x) (fun x => ⟨x.1, fun M2 y P e2 hy hp => x.2 M2 y P (e.tr e2) hy hp⟩)
def hv (c : Nat → Nat) (N p : Nat) : Int32 := if p < N then nI (c p) else -1
section RTX
variable {M : Mem} {c : Nat → Nat} {N p : Nat} {f : Nat → Int32}
theorem rm_here {P : Int32 → Mem → Prop} (T : TxM M c N) (h26 : M.1 10 0 26 = nI p) (hp : p ≤ N) (k : P (hv c N p) M) : s_X12_here M P := by
  obtain ⟨t1, t2, t3, t4, b, t5, t6⟩ := T
  unfold s_X12_here
  rw [h26, t1, t5, nI_ltI (by omega) (by omega), nI_add]
  unfold hv at k
  refine ⟨fun hlt => ?_, fun hlt => by rw [if_neg hlt] at k; exact k⟩
  rw [if_pos hlt] at k
  rcases t6 with ⟨a1, a2, a3⟩ | ⟨a1, a2, a3⟩
  · refine ⟨fun _ => ⟨vp_in_nI (by omega) (by omega), ?_⟩, fun q => absurd a1 q⟩
    rw [nI_clamp (by omega), a3 p hlt]; exact k
  · refine ⟨fun q => absurd q a1, fun _ => ⟨vp_in_nI (by omega) (by omega), ?_⟩⟩
    rw [nI_clamp (by omega), a3 p hlt]; exact k
theorem hv_eq (T : TxM M c N) {k : Nat} {K : Int32} (hK : K = nI k) (hk : k < 256) : hv c N p = K ↔ c p = k := by
  unfold hv
  rw [hK]
  by_cases hlt : p < N
  · rw [if_pos hlt]
    have := T.2.2.1 p hlt
    exact nI_eq (by omega) (by omega)
  · rw [if_neg hlt, T.2.2.2.1 p (by omega)]
    refine ⟨fun q => ?_, fun q => by omega⟩
    rw [eq_i, nI_toInt (by omega), m1_t] at q
    omega
theorem hv_dig (T : TxM M c N) {M2 : Mem} {P : Int32 → Mem → Prop} (h1 : isD (c p) → P 1 M2) (h0 : ¬ isD (c p) → P 0 M2) : s_X12_in M2 (hv c N p) 48 57 P := by
  have key : ∀ lo hi : Int32, lo = nI 48 → hi = nI 57 → s_X12_in M2 (hv c N p) lo hi P := by
    intro lo hi e1 e2
    unfold s_X12_in
    by_cases hlt : p < N
    · have hc := T.2.2.1 p hlt
      have hh : hv c N p = nI (c p) := if_pos hlt
      rw [hh, e1, e2, nI_ltI (by omega) (by omega), nI_ltI (by omega) (by omega)]
      exact ⟨fun q => h0 (by omega), fun q => ⟨fun q2 => h0 (by omega), fun q2 => h1 (by omega)⟩⟩
    · have h9 := T.2.2.2.1 p (by omega)
      have hh : hv c N p = -1 := if_neg hlt
      rw [hh]
      exact ⟨fun q => h0 (by omega), fun q => absurd (by rw [e1]; decide) q⟩
  exact key 48 57 rfl rfl
theorem hv_nn (T : TxM M c N) (hz : c p ≠ 999) : hv c N p = nI (c p) := if_pos (T.2.2.2.1.lt hz)
theorem hv_fld (T : TxM M c N) {M2 : Mem} {P : Int32 → Mem → Prop} (h1 : fldN (c p) ≠ 0 → P 1 M2) (h0 : fldN (c p) = 0 → P 0 M2) : s_X12_isField M2 (hv c N p) P := by
  unfold s_X12_isField
  refine ⟨fun q => h1 (by rw [(hv_eq T (k := 97) rfl (by omega)).mp q]; decide),
    fun q => h0 (by rw [(hv_eq T (k := 98) rfl (by omega)).mp q]; decide),
    fun q => h1 (by rw [(hv_eq T (k := 99) rfl (by omega)).mp q]; decide),
    fun q => h1 (by rw [(hv_eq T (k := 100) rfl (by omega)).mp q]; decide),
    fun q => h0 (by rw [(hv_eq T (k := 101) rfl (by omega)).mp q]; decide),
    fun q => h0 (by rw [(hv_eq T (k := 102) rfl (by omega)).mp q]; decide),
    fun q => h0 (by rw [(hv_eq T (k := 103) rfl (by omega)).mp q]; decide),
    fun q => h1 (by rw [(hv_eq T (k := 104) rfl (by omega)).mp q]; decide),
    fun q => h0 (by rw [(hv_eq T (k := 105) rfl (by omega)).mp q]; decide),
    fun q => h0 (by rw [(hv_eq T (k := 106) rfl (by omega)).mp q]; decide),
    fun q => h0 (by rw [(hv_eq T (k := 107) rfl (by omega)).mp q]; decide),
    fun q => h0 (by rw [(hv_eq T (k := 108) rfl (by omega)).mp q]; decide),
    fun q => h1 (by rw [(hv_eq T (k := 109) rfl (by omega)).mp q]; decide),
    fun q => h1 (by rw [(hv_eq T (k := 110) rfl (by omega)).mp q]; decide),
    fun q => h0 (by rw [(hv_eq T (k := 111) rfl (by omega)).mp q]; decide),
    fun q => h0 (by rw [(hv_eq T (k := 112) rfl (by omega)).mp q]; decide),
    fun q => h0 (by rw [(hv_eq T (k := 113) rfl (by omega)).mp q]; decide),
    fun q => h0 (by rw [(hv_eq T (k := 114) rfl (by omega)).mp q]; decide),
    fun q => h1 (by rw [(hv_eq T (k := 115) rfl (by omega)).mp q]; decide),
    fun q => h0 (by rw [(hv_eq T (k := 116) rfl (by omega)).mp q]; decide),
    fun q => h0 (by rw [(hv_eq T (k := 117) rfl (by omega)).mp q]; decide),
    fun q => h0 (by rw [(hv_eq T (k := 118) rfl (by omega)).mp q]; decide),
    fun q => h1 (by rw [(hv_eq T (k := 119) rfl (by omega)).mp q]; decide),
    fun q => h1 (by rw [(hv_eq T (k := 120) rfl (by omega)).mp q]; decide),
    fun q => h1 (by rw [(hv_eq T (k := 121) rfl (by omega)).mp q]; decide),
    fun n97 n98 n99 n100 n101 n102 n103 n104 n105 n106 n107 n108 n109 n110 n111 n112 n113 n114 n115 n116 n117 n118 n119 n120 n121 => h0 ?_⟩
  have z97 : ¬ c p = 97 := fun q => n97 ((hv_eq T (k := 97) rfl (by omega)).mpr q)
  have z99 : ¬ c p = 99 := fun q => n99 ((hv_eq T (k := 99) rfl (by omega)).mpr q)
  have z100 : ¬ c p = 100 := fun q => n100 ((hv_eq T (k := 100) rfl (by omega)).mpr q)
  have z104 : ¬ c p = 104 := fun q => n104 ((hv_eq T (k := 104) rfl (by omega)).mpr q)
  have z109 : ¬ c p = 109 := fun q => n109 ((hv_eq T (k := 109) rfl (by omega)).mpr q)
  have z110 : ¬ c p = 110 := fun q => n110 ((hv_eq T (k := 110) rfl (by omega)).mpr q)
  have z115 : ¬ c p = 115 := fun q => n115 ((hv_eq T (k := 115) rfl (by omega)).mpr q)
  have z119 : ¬ c p = 119 := fun q => n119 ((hv_eq T (k := 119) rfl (by omega)).mpr q)
  have z120 : ¬ c p = 120 := fun q => n120 ((hv_eq T (k := 120) rfl (by omega)).mpr q)
  have z121 : ¬ c p = 121 := fun q => n121 ((hv_eq T (k := 121) rfl (by omega)).mpr q)
  unfold fldN
  rw [if_neg z97, if_neg z115, if_neg z109, if_neg z100, if_neg z119, if_neg z104, if_neg z110, if_neg z120, if_neg z121, if_neg z99]
theorem rm_Atom {P : Int32 → Mem → Prop} (T : TxM M c N) (F : FlM M f) (h26 : M.1 10 0 26 = nI p) (hp : p ≤ N) (h27 : M.1 10 0 27 = 0)
    (kb : (pAt c p).2 = none → ∀ w M', eqA M M' → M'.1 10 0 26 = nI (pAt c p).1 → M'.1 10 0 27 = 1 → P w M')
    (kg : ∀ A v M', (pAt c p).2 = some A → Ev f A v → eqA M M' → M'.1 10 0 26 = nI (pAt c p).1 → M'.1 10 0 27 = 0 → P v M') : s_X12_readAtom M P := by
  have hN := T.2.1
  unfold s_X12_readAtom
  refine rm_here T h26 hp (hv_fld T (fun hf => b1 ?_) (fun hf => b0 (hv_dig T (fun hd => c1 ?_) (fun hd => c0 ?_))))
  · -- a field
    intro M1 e1
    have hnd : ¬ isD (c p) := fun q => hf (by
      unfold fldN
      rw [if_neg (by omega), if_neg (by omega), if_neg (by omega), if_neg (by omega), if_neg (by omega), if_neg (by omega), if_neg (by omega), if_neg (by omega), if_neg (by omega), if_neg (by omega)])
    have ea : pAt c p = (p + 1, some [nI (9999 + fldN (c p))]) := by unfold pAt; rw [if_neg hnd, if_neg hf]
    have q1 : eqA M M1 := by rw [e1]; exact eqA.w (Or.inl rfl)
    have q2 : M1.1 10 0 26 = nI (p + 1) := by rw [e1, wI_at, if_pos ⟨rfl, rfl, rfl⟩, h26, nI_1]
    have q3 : M1.1 10 0 27 = 0 := by rw [e1, wI_at, if_neg (by omega)]; exact h27
    have q23 : M1.1 10 0 23 = M.1 10 0 23 := q1.2.1 0 23 (by omega)
    have hle := fldN_le (x := c p)
    rw [q23]
    have good : ∀ v, v = f (fldN (c p) - 1) → P v M1 := fun v ev => kg [nI (9999 + fldN (c p))] v M1 (by rw [ea]) (by rw [ev]; exact Ev.fld (by omega) hle) q1 (by rw [ea]; exact q2) q3
    rcases F with ⟨a1, a2⟩ | ⟨a1, a2⟩
    · exact ⟨fun q => absurd q a1, fun _ => good 0 (a2 _).symm⟩
    · refine ⟨fun _ => ?_, fun q => absurd a1 q⟩
      rw [hv_nn T (fun q => hf (by rw [q]; decide))]
      exact a2 M1 (c p) _ q1.R hf (good _ rfl)
  · -- a number
    intro x2 e2 M1 e1
    have hlt := T.2.2.2.1.lt (p := p) (by omega)
    have hh : hv c N p = nI (c p) := if_pos hlt
    have ev : x2 = nI (c p - 48) := by rw [e2, hh]; exact pk_sub (a := c p) (b := 48) (by omega)
    have q1 : eqA M M1 := by rw [e1]; exact eqA.w (Or.inl rfl)
    have q2 : M1.1 10 0 26 = nI (p + 1) := by rw [e1, wI_at, if_pos ⟨rfl, rfl, rfl⟩, h26, nI_1]
    have q3 : M1.1 10 0 27 = 0 := by rw [e1, wI_at, if_neg (by omega)]; exact h27
    have h48 : hv c N p = 48 ↔ c p = 48 := hv_eq T (k := 48) rfl (by omega)
    have hstep : ∀ k n q, pNm c (k + 1) q n = if isD (c q) then pNm c k (q + 1) (10 * n + (c q - 48)) else (q, n) := fun k n q => rfl
    have fin : ∀ q n M2, pNm c (if c p = 48 then 1 else 4) p 0 = (q, n) → eqA M M2 → M2.1 10 0 26 = nI q → M2.1 10 0 27 = 0 → P (nI n) M2 := by
      intro q n M2 e z1 z2 z3
      have ea : pAt c p = (q, some [nI n]) := by unfold pAt; rw [if_pos hd, e]
      have hn : n < 10000 := by
        have l := pNm_lt (c := c) (if c p = 48 then 1 else 4) p 0
        rw [e] at l
        by_cases z : c p = 48
        · rw [if_pos z] at l; have l : n + 1 ≤ (0 + 1) * 10 ^ 1 := l; omega
        · rw [if_neg z] at l; have l : n + 1 ≤ (0 + 1) * 10 ^ 4 := l; omega
      exact kg [nI n] (nI n) M2 (by rw [ea]) (Ev.num hn) z1 (by rw [ea]; exact z2) z3
    refine Lz_rule (fun a => ∃ k q n, k ≤ 4 ∧ 1 ≤ k ∧ a.2.2 = nI k ∧ a.2.1 = nI n ∧ q ≤ N ∧ eqA M a.1 ∧ a.1.1 10 0 26 = nI q ∧ a.1.1 10 0 27 = 0 ∧ pNm c (if c p = 48 then 1 else 4) p 0 = pNm c (if c p = 48 then 0 else 4 - k) q n) (fun a => 4 - a.2.2.toNatClampNeg) ?_ ⟨1, p + 1, c p - 48, by omega, by omega, rfl, ev, hlt, q1, q2, q3, ?_⟩
    · rintro K ⟨M2, y2, y3⟩ ⟨k, q, n, k4, k1, e3, e4, hq, z1, z2, z3, e5⟩ hK
      dsimp only at e3 e4 z1 z2 z3
      show s_X12_readAtom_74 (hv c N p) P K M2 y2 y3
      unfold s_X12_readAtom_74
      have T2 := T.mv z1.R
      have k4i : (4 : Int32) ≤ nI k ↔ 4 ≤ k := nI_leI (a := 4) (by omega) (by omega)
      rw [e3, e4, k4i, h48]
      refine ⟨fun z => fin q n M2 ?_ z1 z2 z3, fun z => ⟨fun y => fin q n M2 ?_ z1 z2 z3, fun y => ?_⟩⟩
      · rw [e5]
        by_cases z : c p = 48
        · rw [if_pos z]; rfl
        · rw [if_neg z, show 4 - k = 0 by omega]; rfl
      · rw [e5, if_pos y]; rfl
      · rw [if_neg y, if_neg y] at e5
        obtain ⟨j, hj⟩ : ∃ j, 4 - k = j + 1 := ⟨3 - k, by omega⟩
        rw [hj, hstep j] at e5
        refine rm_here T2 z2 hq (hv_dig T2 (fun hd2 => b1 (rm_here T2 z2 hq (fun x5 e6 M3 e7 x6 e8 => ?_))) (fun hd2 => b0 (fin q n M2 ?_ z1 z2 z3)))
        · have hlt2 := T.2.2.2.1.lt (p := q) (by omega)
          have hh2 : hv c N q = nI (c q) := if_pos hlt2
          have ex : x5 = nI (10 * n + (c q - 48)) := by
            rw [e6, hh2]
            have t1 : (10 : Int32) * nI n = nI (10 * n) := pk_mul 10 n
            rw [t1, nI_add]
            have t2 := pk_sub (a := 10 * n + c q) (b := 48) (by omega)
            rw [show 10 * n + c q - 48 = 10 * n + (c q - 48) by omega] at t2
            exact t2
          rw [if_pos hd2] at e5
          rw [e8, nI_1]
          refine hK _ ⟨k + 1, q + 1, 10 * n + (c q - 48), by omega, by omega, rfl, ex, hlt2, z1.tr (by rw [e7]; exact eqA.w (Or.inl rfl)), ?_, ?_, ?_⟩ ?_
          · rw [e7]; show (wI M2 10 0 26 _).1 10 0 26 = _; rw [wI_at, if_pos ⟨rfl, rfl, rfl⟩, z2, nI_1]
          · rw [e7]; show (wI M2 10 0 26 _).1 10 0 27 = _; rw [wI_at, if_neg (by omega)]; exact z3
          · rw [if_neg y, show 4 - (k + 1) = j by omega]; rw [if_neg y]; exact e5
          · show 4 - (nI (k + 1)).toNatClampNeg < 4 - y3.toNatClampNeg
            rw [e3, nI_clamp (by omega), nI_clamp (by omega)]; omega
        · rw [if_neg y, e5, if_neg hd2]
    · by_cases z : c p = 48
      · rw [if_pos z, if_pos z, hstep, if_pos hd, Nat.mul_zero, Nat.zero_add]
      · rw [if_neg z, if_neg z, hstep, if_pos hd, Nat.mul_zero, Nat.zero_add]
  · -- neither
    intro M1 e1
    have ea : pAt c p = (p, none) := by unfold pAt; rw [if_neg hd, if_pos hf]
    refine kb (by rw [ea]) 0 M1 (by rw [e1]; exact eqA.w (Or.inr rfl)) ?_ ?_
    · rw [ea, e1, wI_at, if_neg (by omega)]; exact h26
    · rw [e1, wI_at, if_pos ⟨rfl, rfl, rfl⟩]
theorem rm_Sum {P : Int32 → Mem → Prop} (T : TxM M c N) (F : FlM M f) (h26 : M.1 10 0 26 = nI p) (hp : p ≤ N) (h27 : M.1 10 0 27 = 0)
    (kb : (pSm c N p).2 = none → ∀ w M', eqA M M' → M'.1 10 0 26 = nI (pSm c N p).1 → M'.1 10 0 27 = 1 → P w M')
    (kg : ∀ A v M', (pSm c N p).2 = some A → Ev f A v → eqA M M' → M'.1 10 0 26 = nI (pSm c N p).1 → M'.1 10 0 27 = 0 → P v M') : s_X12_readSum M P := by
  have hN := T.2.1
  have hcE := T.2.2.2.1
  unfold s_X12_readSum
  have ok1 := ok_At hcE hp
  have loop : ∀ (M1 : Mem) (v1 : Int32), eqA M M1 → (∃ q, q ≤ N ∧ M1.1 10 0 26 = nI q ∧ ((M1.1 10 0 27 = 0 ∧ ∃ k L, Ev f L v1 ∧ pSm c N p = pSl c k q L ∧ N ≤ q + k) ∨ (M1.1 10 0 27 = 1 ∧ pSm c N p = (q, none)))) →
      ∃ n, Lz (fun (K5 : Mem × Int32 → Prop) (a : Mem × Int32) => s_X12_readSum_5 P K5 a.1 a.2) n (M1, v1) := by
    intro M1 v1 hA hI
    refine Lz_rule (fun a => eqA M a.1 ∧ ∃ q, q ≤ N ∧ a.1.1 10 0 26 = nI q ∧ ((a.1.1 10 0 27 = 0 ∧ ∃ k L, Ev f L a.2 ∧ pSm c N p = pSl c k q L ∧ N ≤ q + k) ∨ (a.1.1 10 0 27 = 1 ∧ pSm c N p = (q, none)))) (fun a => N - (a.1.1 10 0 26).toNatClampNeg) ?_ ⟨hA, hI⟩
    rintro K ⟨M2, v2⟩ ⟨z1, q, hq, z2, z3⟩ hK
    dsimp only at z1 z2 z3
    show s_X12_readSum_5 P K M2 v2
    have T2 := T.mv z1.R
    have F2 := F.mv z1.R
    unfold s_X12_readSum_5
    rcases z3 with ⟨z3, k, L, hL, e, hk⟩ | ⟨z3, e⟩
    · rw [z3]
      refine ⟨fun y => absurd rfl y, fun _ => rm_here T2 z2 hq ?_⟩
      have stop : ¬ (c q = 43 ∨ c q = 45) → P v2 M2 := by
        intro hno
        have e2 : pSm c N p = (q, some L) := by
          rw [e]
          cases k with
          | zero => rfl
          | succ k => unfold pSl; rw [if_neg hno]
        exact kg L v2 M2 (by rw [e2]) hL z1 (by rw [e2]; exact z2) z3
      have go : (c q = 43 ∨ c q = 45) → s_X12_readSum_30 P K M2 v2 := by
        intro hyes
        have hlt := hcE.lt (p := q) (by omega)
        unfold s_X12_readSum_30
        refine rm_here T2 z2 hq (fun M3 e3 => ?_)
        have q1 : eqA M2 M3 := by rw [e3]; exact eqA.w (Or.inl rfl)
        have q2 : M3.1 10 0 26 = nI (q + 1) := by rw [e3, wI_at, if_pos ⟨rfl, rfl, rfl⟩, z2, nI_1]
        have q3 : M3.1 10 0 27 = 0 := by rw [e3, wI_at, if_neg (by omega)]; exact z3
        have ok := ok_At hcE (p := q + 1) hlt
        have h43 : hv c N q = 43 ↔ c q = 43 := hv_eq T (k := 43) rfl (by omega)
        obtain ⟨j, rfl⟩ : ∃ j, k = j + 1 := ⟨k - 1, by omega⟩
        have e4 : pSm c N p = bd (pAt c (q + 1)) (fun q2 A => pSl c j q2 (L ++ A ++ [sg (c q)])) := by
          rw [e]; conv => lhs; unfold pSl
          rw [if_pos hyes]
        have dec : ∀ M4 : Mem, M4.1 10 0 26 = nI (pAt c (q + 1)).1 → N - (M4.1 10 0 26).toNatClampNeg < N - (M2.1 10 0 26).toNatClampNeg := by
          intro M4 e5
          have o1 := ok.1
          have o2 := ok.2.1
          rw [e5, z2, nI_clamp (by omega), nI_clamp (by omega)]
          omega
        refine rm_Atom (T2.mv q1.R) (F2.mv q1.R) q2 hlt q3 (fun hn w M4 r1 r2 r3 => ?_) (fun A v M4 hA hv4 r1 r2 r3 => ?_)
        · have e5 : pSm c N p = ((pAt c (q + 1)).1, none) := by rw [e4, bd_n hn]
          have next : ∀ v9, K (M4, v9) := fun v9 => hK (M4, v9) ⟨z1.tr (q1.tr r1), (pAt c (q + 1)).1, ok.2.1, r2, Or.inr ⟨r3, e5⟩⟩ (dec M4 r2)
          exact ⟨fun _ => next _, fun _ => next _⟩
        · have e5 : pSm c N p = pSl c j (pAt c (q + 1)).1 (L ++ A ++ [sg (c q)]) := by rw [e4, bd_s hA]
          have next : ∀ v9, Ev f (L ++ A ++ [sg (c q)]) v9 → K (M4, v9) := fun v9 h9 => hK (M4, v9) ⟨z1.tr (q1.tr r1), (pAt c (q + 1)).1, ok.2.1, r2, Or.inl ⟨r3, j, _, h9, e5, by have := ok.1; omega⟩⟩ (dec M4 r2)
          rw [h43]
          refine ⟨fun y => next _ ?_, fun y => next _ ?_⟩
          · rw [show c q = 45 by omega, sg45]; exact hL.op hv4 (by decide) (by decide) rfl
          · rw [y, sg43]; exact hL.op hv4 (by decide) (by decide) rfl
      have h43 : hv c N q = 43 ↔ c q = 43 := hv_eq T (k := 43) rfl (by omega)
      have h45 : hv c N q = 45 ↔ c q = 45 := hv_eq T (k := 45) rfl (by omega)
      rw [h43]
      refine ⟨fun y => go (Or.inl y), fun y => rm_here T2 z2 hq ?_⟩
      rw [h45]
      exact ⟨fun y2 => stop (by omega), fun y2 => go (Or.inr y2)⟩
    · rw [z3]
      exact ⟨fun _ => kb (by rw [e]) v2 M2 z1 (by rw [e]; exact z2) z3, fun y => absurd y (by decide)⟩
  refine rm_Atom T F h26 hp h27 (fun hn w M1 r1 r2 r3 => loop M1 w r1 ⟨(pAt c p).1, ok1.2.1, r2, Or.inr ⟨r3, by unfold pSm; rw [bd_n hn]⟩⟩) (fun A v M1 hA hv1 r1 r2 r3 => loop M1 v r1 ⟨(pAt c p).1, ok1.2.1, r2, Or.inl ⟨r3, N, A, hv1, by unfold pSm; rw [bd_s hA], by omega⟩⟩)
theorem rm_Test {P : Int32 → Mem → Prop} (T : TxM M c N) (F : FlM M f) (h26 : M.1 10 0 26 = nI p) (hp : p ≤ N) (h27 : M.1 10 0 27 = 0)
    (kb : (pCm c N p).2 = none → ∀ w M', isB w → eqA M M' → M'.1 10 0 26 = nI (pCm c N p).1 → M'.1 10 0 27 = 1 → P w M')
    (kg : ∀ A M', (pCm c N p).2 = some A → eqA M M' → M'.1 10 0 26 = nI (pCm c N p).1 → M'.1 10 0 27 = 0 → P (bI (evS f A)) M') : s_X12_readTest M P := by
  have hN := T.2.1
  have hcE := T.2.2.2.1
  have ok1 := ok_Sm hcE hp
  unfold s_X12_readTest
  have bad : ∀ M1 : Mem, eqA M M1 → M1.1 10 0 26 = nI (pSm c N p).1 → pCm c N p = ((pSm c N p).1, none) → s_X12_readTest_35 P M1 := by
    intro M1 r1 r2 e M2 e2
    refine kb (by rw [e]) 0 M2 isB_0 (r1.tr (by rw [e2]; exact eqA.w (Or.inr rfl))) ?_ ?_
    · rw [e, e2, wI_at, if_neg (by omega)]; exact r2
    · rw [e2, wI_at, if_pos ⟨rfl, rfl, rfl⟩]
  refine rm_Sum T F h26 hp h27 (fun hn w M1 r1 r2 r3 => rm_here (T.mv r1.R) r2 ok1.2.1 ?_) (fun A v M1 hA hv1 r1 r2 r3 => rm_here (T.mv r1.R) r2 ok1.2.1 ?_)
  · rw [r3]
    exact ⟨fun _ => bad M1 r1 r2 (by unfold pCm; rw [bd_n hn]), fun y => absurd y (by decide)⟩
  · rw [r3]
    refine ⟨fun y => absurd rfl y, fun _ => ?_⟩
    have h60 : hv c N (pSm c N p).1 = 60 ↔ c (pSm c N p).1 = 60 := hv_eq T (k := 60) rfl (by omega)
    have h62 : hv c N (pSm c N p).1 = 62 ↔ c (pSm c N p).1 = 62 := hv_eq T (k := 62) rfl (by omega)
    have h61 : hv c N (pSm c N p).1 = 61 ↔ c (pSm c N p).1 = 61 := hv_eq T (k := 61) rfl (by omega)
    have good : isC (c (pSm c N p).1) → s_X12_readTest_42 P M1 v (hv c N (pSm c N p).1) := by
      intro hc M2 e2
      have hlt := hcE.lt (p := (pSm c N p).1) (by omega)
      have q1 : eqA M1 M2 := by rw [e2]; exact eqA.w (Or.inl rfl)
      have q2 : M2.1 10 0 26 = nI ((pSm c N p).1 + 1) := by rw [e2, wI_at, if_pos ⟨rfl, rfl, rfl⟩, r2, nI_1]
      have q3 : M2.1 10 0 27 = 0 := by rw [e2, wI_at, if_neg (by omega)]; exact r3
      have e5 : pCm c N p = bd (pSm c N ((pSm c N p).1 + 1)) (fun q2 B => (q2, some (A ++ B ++ [sg (c (pSm c N p).1)]))) := by
        unfold pCm; rw [bd_s hA, if_pos hc]
      refine rm_Sum (T.mv (r1.tr q1).R) (F.mv (r1.tr q1).R) q2 hlt q3 (fun hn w M3 s1 s2 s3 => ?_) (fun B v3 M3 hB hv3 s1 s2 s3 => ?_)
      · have e6 : pCm c N p = ((pSm c N ((pSm c N p).1 + 1)).1, none) := by rw [e5, bd_n hn]
        have k2 : ∀ b, isB b → P b M3 := fun b hb => kb (by rw [e6]) b M3 hb (r1.tr (q1.tr s1)) (by rw [e6]; exact s2) s3
        exact ⟨fun _ => ⟨fun _ => ⟨fun _ => k2 0 isB_0, fun _ => k2 1 isB_1⟩, fun _ => ⟨fun _ => k2 0 isB_0, fun _ => k2 1 isB_1⟩⟩, fun _ => ⟨fun _ => k2 0 isB_0, fun _ => k2 1 isB_1⟩⟩
      · have e6 : pCm c N p = ((pSm c N ((pSm c N p).1 + 1)).1, some (A ++ B ++ [sg (c (pSm c N p).1)])) := by rw [e5, bd_s hB]
        have k2 : ∀ b, b = bI (cmpB (c (pSm c N p).1) v v3) → P b M3 := by
          intro b hb
          have := kg _ M3 (by rw [e6]) (r1.tr (q1.tr s1)) (by rw [e6]; exact s2) s3
          rw [(hv1.cmp hv3 hc).val, ← hb] at this
          exact this
        rw [h60, h62]
        refine ⟨fun y => ⟨fun y2 => ⟨fun y3 => k2 0 ?_, fun y3 => k2 1 ?_⟩, fun y2 => ⟨fun y3 => k2 0 ?_, fun y3 => k2 1 ?_⟩⟩, fun y => ⟨fun y3 => k2 0 ?_, fun y3 => k2 1 ?_⟩⟩
        · unfold cmpB; rw [if_neg y, if_neg y2, decide_eq_false y3]; rfl
        · unfold cmpB; rw [if_neg y, if_neg y2, decide_eq_true y3]; rfl
        · unfold cmpB; rw [if_neg y, if_pos y2, decide_eq_false (fun z => by rw [le_i] at y3; rw [lt_i] at z; omega)]; rfl
        · unfold cmpB; rw [if_neg y, if_pos y2, decide_eq_true (by rw [le_i] at y3; rw [lt_i]; omega)]; rfl
        · unfold cmpB; rw [if_pos y, decide_eq_false (fun z => by rw [le_i] at y3; rw [lt_i] at z; omega)]; rfl
        · unfold cmpB; rw [if_pos y, decide_eq_true (by rw [le_i] at y3; rw [lt_i]; omega)]; rfl
    rw [h60, h62, h61]
    exact ⟨fun y => good (Or.inl y), fun y => ⟨fun y2 => good (Or.inr (Or.inl y2)), fun y2 => ⟨fun y3 => good (Or.inr (Or.inr y3)), fun y3 => bad M1 r1 r2 (by unfold pCm; rw [bd_s hA, if_neg (by omega)])⟩⟩⟩
end RTX
