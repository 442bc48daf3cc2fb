/-! THE CLASS reads a text -/
def sc (x : Nat) : Int32 := if x < 128 then nI x else nI x - 256
def purN (x : Nat) : Nat := if x = 101 then 1 else if x = 114 then 2 else if x = 111 then 3 else 0
def sgN (x : Nat) : Nat := if x = 43 then 1 else if x = 45 then 2 else 0
def cpN (x : Nat) : Nat := if x = 60 then 1 else if x = 62 then 2 else if x = 61 then 3 else 0
theorem plc_all : ∀ x, x < 256 → plc 0 (sc x) = mI (fldN x) ∧ plc 1 (sc x) = mI (purN x) ∧ plc 2 (sc x) = mI (sgN x) ∧ plc 3 (sc x) = mI (cpN x) := by decide +kernel
theorem plc_end : plc 0 (-1000) = mI (fldN 999) ∧ plc 1 (-1000) = mI (purN 999) ∧ plc 2 (-1000) = mI (sgN 999) ∧ plc 3 (-1000) = mI (cpN 999) := by decide +kernel
theorem sc_and : ∀ x, x < 256 → sc x &&& 255 = nI x := by decide +kernel
def eqC (M M' : Mem) : Prop := (∀ c, c ≠ 8 → c ≠ 40 → M'.1 c = M.1 c) ∧ (∀ i j, ¬ (i = 0 ∧ (j = 1 ∨ j = 5 ∨ j = 6)) → M'.1 8 i j = M.1 8 i j) ∧ M'.2 = M.2
theorem eqC.rf {M : Mem} : eqC M M := ⟨fun _ _ _ => rfl, fun _ _ _ => rfl, rfl⟩
theorem eqC.tr {M M1 M2 : Mem} (h : eqC M M1) (g : eqC M1 M2) : eqC M M2 := ⟨fun c a b => (g.1 c a b).trans (h.1 c a b), fun i j a => (g.2.1 i j a).trans (h.2.1 i j a), g.2.2.trans h.2.2⟩
theorem eqC.w {M : Mem} {j : Nat} {v : Int32} (h : j = 1 ∨ j = 5 ∨ j = 6) : eqC M (wI M 8 0 j v) := ⟨fun c a _ => wI_cc a, fun i' j' a => by rw [wI_at, if_neg]; intro q; exact a ⟨q.2.1, by omega⟩, rfl⟩
theorem eqC.w40 {M : Mem} {j : Nat} {v : Int32} : eqC M (wI M 40 0 j v) := ⟨fun c _ a => wI_cc a, fun i' j' a => by rw [wI_cc (by omega)], rfl⟩
def TxC (M : Mem) (c : Nat → Nat) (N d : Nat) : Prop := d < 8 ∧ M.2.2 4 0 0 = d + 1 ∧ M.1 8 0 4 = nI N ∧ N ≤ 80 ∧ (∀ p, p < N → c p < 256) ∧ cE c N ∧ ∀ p, p < N → M.1 39 d p = sc (c p)
theorem TxC.mv {M M' : Mem} {c : Nat → Nat} {N d : Nat} (h : TxC M c N d) (e : eqC M M') : TxC M' c N d := by
  unfold TxC at h ⊢
  rw [e.2.1 0 4 (by omega), e.1 39 (by omega) (by omega), e.2.2]
  exact h
def hw (c : Nat → Nat) (N p : Nat) : Int32 := if p < N then sc (c p) else -1000
def CRd (M0 M : Mem) (p ft : Nat) (L : List Int32) : Prop := eqC M0 M ∧ M.1 8 0 5 = nI p ∧ M.1 8 0 6 = mI ft ∧ M.1 8 0 1 = nI L.length ∧ L.length ≤ 80 ∧ ∀ j, j < L.length → M.1 40 0 j = L.getD j 0
def Fdd (M0 M : Mem) (N ft : Nat) : Prop := ∃ p L, p ≤ N ∧ CRd M0 M p ft L
section CTX
variable {M0 : Mem} {c : Nat → Nat} {N d : Nat}
theorem rc_here {M : Mem} {p : Nat} {P : Int32 → Mem → Prop} (T : TxC M c N d) (h5 : M.1 8 0 5 = nI p) (hp : p ≤ N) (k : P (hw c N p) M) : s_X2_here M P := by
  obtain ⟨t1, t2, t3, t4, t5, t6, t7⟩ := T
  unfold s_X2_here
  have n0 : ¬ nI p < 0 := nI_pos (by omega)
  rw [h5, t3, nI_leI (by omega) (by omega)]
  unfold hw at k
  refine ⟨fun q => absurd q n0, fun _ => ⟨fun q => by rw [if_neg (by omega)] at k; exact k, fun q => ⟨d, t2, t1, vp_in_nI (by omega) (by omega), ?_⟩⟩⟩
  rw [if_pos (by omega)] at k
  rw [nI_clamp (by omega), t7 p (by omega)]
  exact k
theorem sc_t {x : Nat} (h : x < 256) : (sc x).toInt = if x < 128 then (x : Int) else (x : Int) - 256 := by
  unfold sc
  by_cases q : x < 128
  · rw [if_pos q, if_pos q]; exact nI_toInt (by omega)
  · rw [if_neg q, if_neg q]; exact pk_sub_toInt (a := x) (b := 256) (by omega) (by omega)
theorem hw_eq (T : TxC M0 c N d) {p k : Nat} {K : Int32} (hK : K = nI k) (hk : k < 128) : hw c N p = K ↔ c p = k := by
  unfold hw
  rw [hK]
  by_cases hlt : p < N
  · rw [if_pos hlt]
    have hc := T.2.2.2.2.1 p hlt
    rw [eq_i, sc_t hc, nI_toInt (by omega)]
    split <;> omega
  · rw [if_neg hlt, T.2.2.2.2.2.1 p (by omega)]
    refine ⟨fun q => ?_, fun q => by omega⟩
    rw [eq_i, nI_toInt (by omega)] at q
    have : (-1000 : Int32).toInt = -1000 := by decide
    omega
theorem hw_nn (T : TxC M0 c N d) {p : Nat} (hz : c p < 128) : hw c N p = nI (c p) := by
  have hlt := T.2.2.2.2.2.1.lt (p := p) (by omega)
  unfold hw sc
  rw [if_pos hlt, if_pos hz]
theorem hw_dig (T : TxC M0 c N d) {p : Nat} {M2 : Mem} {P : Int32 → Mem → Prop} (h1 : isD (c p) → P 1 M2) (h0 : ¬ isD (c p) → P 0 M2) : s_X2_isDigit M2 (hw c N p) P := by
  have t48 : (48 : Int32).toInt = 48 := by decide
  have t57 : (57 : Int32).toInt = 57 := by decide
  have t1000 : (-1000 : Int32).toInt = -1000 := by decide
  unfold s_X2_isDigit
  rw [lt_i, lt_i, t48, t57]
  by_cases hlt : p < N
  · have hc := T.2.2.2.2.1 p hlt
    have hh : (hw c N p).toInt = if c p < 128 then (c p : Int) else (c p : Int) - 256 := by
      unfold hw; rw [if_pos hlt, sc_t hc]
    rw [hh]
    refine ⟨fun q => h0 (fun z => ?_), fun q => ⟨fun q2 => h0 (fun z => ?_), fun q2 => h1 ?_⟩⟩
    · split at q <;> omega
    · split at q2 <;> omega
    · by_cases z : c p < 128
      · rw [if_pos z] at q q2; exact ⟨by omega, by omega⟩
      · rw [if_neg z] at q q2; omega
  · have h9 := T.2.2.2.2.2.1 p (by omega)
    have hh : (hw c N p).toInt = -1000 := by unfold hw; rw [if_neg hlt]; exact t1000
    rw [hh]
    exact ⟨fun _ => h0 (fun z => by omega), fun q => absurd (by omega) q⟩
theorem hw_plc (T : TxC M0 c N d) (p : Nat) : plc 0 (hw c N p) = mI (fldN (c p)) ∧ plc 1 (hw c N p) = mI (purN (c p)) ∧ plc 2 (hw c N p) = mI (sgN (c p)) ∧ plc 3 (hw c N p) = mI (cpN (c p)) := by
  unfold hw
  by_cases hlt : p < N
  · rw [if_pos hlt]; exact plc_all _ (T.2.2.2.2.1 p hlt)
  · rw [if_neg hlt, T.2.2.2.2.2.1 p (by omega)]; exact plc_end
/-! steps and faults -/
theorem rc_step {M : Mem} {p ft : Nat} {L : List Int32} {x : Int32} {P : Mem → Prop} (h : CRd M0 M p ft L) (k : ∀ M' L', CRd M0 M' p ft L' → (L.length < 80 → L' = L ++ [x]) → P M') : s_X2_addStep M x P := by
  obtain ⟨h1, h2, h3, h4, h5, h6⟩ := h
  unfold s_X2_addStep
  have e80 : (80 : Int32) ≤ nI L.length ↔ 80 ≤ L.length := nI_leI (a := 80) (by omega) (by omega)
  rw [h4, e80]
  refine ⟨fun q => k M L ⟨h1, h2, h3, h4, h5, h6⟩ (fun z => by omega), fun q => ⟨vp_in_nI (by omega) (by omega), fun M1 m1 M2 m2 => ?_⟩⟩
  rw [nI_clamp (by omega)] at m1
  have c8 : M1.1 8 = M.1 8 := by rw [m1, wI_cc (by omega)]
  have j2 : ∀ j, j ≠ 1 → M2.1 8 0 j = M.1 8 0 j := fun j hj => by rw [m2, wI_at, if_neg (fun x => hj x.2.2), c8]
  have g1 : eqC M M1 := by rw [m1]; exact eqC.w40
  have g2 : eqC M1 M2 := by rw [m2]; exact eqC.w (by omega)
  refine k M2 (L ++ [x]) ⟨h1.tr (g1.tr g2), by rw [j2 5 (by omega)]; exact h2, by rw [j2 6 (by omega)]; exact h3, ?_, by simp; omega, fun j hj => ?_⟩ (fun _ => rfl)
  · rw [m2, wI_at, if_pos ⟨rfl, rfl, rfl⟩, c8, h4, nI_1]; simp
  · rw [m2, wI_cc (by omega), m1, wI_at]
    have hj2 : j < L.length + 1 := by simpa using hj
    by_cases z : j = L.length
    · rw [if_pos ⟨rfl, rfl, z⟩, z]; simp
    · rw [if_neg (fun y => z y.2.2), h6 j (by omega)]
      simp only [List.getD_eq_getElem?_getD]
      rw [List.getElem?_append_left (by omega)]
theorem CRd.at {M M' : Mem} {p q ft : Nat} {L : List Int32} (h : CRd M0 M p ft L) (e : M' = wI M 8 0 5 (M.1 8 0 5 + 1)) (hq : q = p + 1) : CRd M0 M' q ft L := by
  obtain ⟨h1, h2, h3, h4, h5, h6⟩ := h
  have j2 : ∀ j, j ≠ 5 → M'.1 8 0 j = M.1 8 0 j := fun j hj => by rw [e, wI_at, if_neg (fun x => hj x.2.2)]
  refine ⟨h1.tr (by rw [e]; exact eqC.w (by omega)), ?_, by rw [j2 6 (by omega)]; exact h3, by rw [j2 1 (by omega)]; exact h4, h5, fun j hj => by rw [e, wI_cc (by omega)]; exact h6 j hj⟩
  rw [e, wI_at, if_pos ⟨rfl, rfl, rfl⟩, h2, nI_1, hq]
theorem rc_fail {M : Mem} {p ft : Nat} {L : List Int32} {P : Mem → Prop} (h : CRd M0 M p ft L) (hp : p < 1000) (hf : ft < 2000) (k : ∀ M', CRd M0 M' p (if ft = 0 then p + 1 else ft) L → P M') : s_X2_fail M P := by
  obtain ⟨h1, h2, h3, h4, h5, h6⟩ := h
  unfold s_X2_fail
  rw [h3, mI_ge (by omega)]
  refine ⟨fun q => k M ⟨h1, h2, by rw [if_neg q]; exact h3, h4, h5, h6⟩, fun q M1 m1 => ?_⟩
  have q0 : ft = 0 := Decidable.not_not.mp q
  have j2 : ∀ j, j ≠ 6 → M1.1 8 0 j = M.1 8 0 j := fun j hj => by rw [m1, wI_at, if_neg (fun x => hj x.2.2)]
  refine k M1 ⟨h1.tr (by rw [m1]; exact eqC.w (by omega)), by rw [j2 5 (by omega)]; exact h2, ?_, by rw [j2 1 (by omega)]; exact h4, h5, fun j hj => by rw [m1, wI_cc (by omega)]; exact h6 j hj⟩
  rw [if_pos q0, m1, wI_at, if_pos ⟨rfl, rfl, rfl⟩, h2, mI_s]
theorem rc_failG {M : Mem} {p : Nat} {L : List Int32} {P : Mem → Prop} (T : TxC M0 c N d) (h : CRd M0 M p 0 L) (hp : p ≤ N) (k : ∀ M', Fdd M0 M' N (p + 1) → P M') : s_X2_fail M P := by
  have := T.2.2.2.1
  exact rc_fail h (by omega) (by omega) (fun M' h' => k M' ⟨p, L, hp, h'⟩)
theorem rc_failF {M : Mem} {ft : Nat} {P : Mem → Prop} (T : TxC M0 c N d) (h : Fdd M0 M N ft) (hf : ft ≠ 0) (hf2 : ft < 2000) (k : ∀ M', Fdd M0 M' N ft → P M') : s_X2_fail M P := by
  obtain ⟨p, L, hp, h⟩ := h
  have := T.2.2.2.1
  refine rc_fail h (by omega) hf2 (fun M' h' => k M' ⟨p, L, hp, ?_⟩)
  rw [if_neg hf] at h'
  exact h'
theorem rc_stepF {M : Mem} {ft : Nat} {x : Int32} {P : Mem → Prop} (h : Fdd M0 M N ft) (k : ∀ M', Fdd M0 M' N ft → P M') : s_X2_addStep M x P := by
  obtain ⟨p, L, hp, h⟩ := h
  exact rc_step h (fun M' L' h' _ => k M' ⟨p, L', hp, h'⟩)
theorem Fdd.here {M : Mem} {ft : Nat} {P : Int32 → Mem → Prop} (T : TxC M0 c N d) (h : Fdd M0 M N ft) (k : ∀ p, p ≤ N → P (hw c N p) M) : s_X2_here M P := by
  obtain ⟨p, L, hp, h⟩ := h
  exact rc_here (T.mv h.1) h.2.1 hp (k p hp)
theorem Fdd.ge {M : Mem} {ft : Nat} (h : Fdd M0 M N ft) (hf : ft ≠ 0) (hf2 : ft < 2000) : 0 ≤ M.1 8 0 6 := by
  obtain ⟨p, L, hp, h⟩ := h
  rw [h.2.2.1, mI_ge (by omega)]
  exact hf
theorem CRd.lt {M : Mem} {p : Nat} {L : List Int32} (h : CRd M0 M p 0 L) : ¬ 0 ≤ M.1 8 0 6 := by
  rw [h.2.2.1]; decide
/-! with a fault behind, the reader stays there -/
section FLT
variable {ft : Nat}
theorem fd_Atom {M : Mem} {P : Mem → Prop} (h : Fdd M0 M N ft) (hf : ft ≠ 0) (hf2 : ft < 2000) (k : ∀ M', Fdd M0 M' N ft → P M') : s_X2_readAtom M P := by
  unfold s_X2_readAtom
  have g := h.ge hf hf2
  exact ⟨fun q => absurd g (by rw [le_i]; rw [lt_i] at q; omega), fun _ => k M h⟩
theorem fd_Sum {M : Mem} {P : Mem → Prop} (h : Fdd M0 M N ft) (hf : ft ≠ 0) (hf2 : ft < 2000) (k : ∀ M', Fdd M0 M' N ft → P M') : s_X2_readSum M P := by
  unfold s_X2_readSum
  refine fd_Atom h hf hf2 (fun M1 h1 => ⟨1, ?_⟩)
  show s_X2_readSum_6 P _ M1 0
  unfold s_X2_readSum_6
  have g := h1.ge hf hf2
  exact ⟨fun _ => k M1 h1, fun _ => ⟨fun _ => k M1 h1, fun q => absurd g q⟩⟩
theorem fd_Cmp {M : Mem} {P : Mem → Prop} (T : TxC M0 c N d) (h : Fdd M0 M N ft) (hf : ft ≠ 0) (hf2 : ft < 2000) (k : ∀ M', Fdd M0 M' N ft → P M') : s_X2_readComparison M P := by
  unfold s_X2_readComparison
  refine fd_Sum h hf hf2 (fun M1 h1 => h1.here T (fun p hp => ?_))
  have g := h1.ge hf hf2
  exact ⟨fun _ => rc_failF T h1 hf hf2 k, fun q => absurd g q⟩
theorem fd_Test {RO : Mem → Int32 → (Mem → Prop) → Prop} {x1 : Int32} {M : Mem} {P : Mem → Prop} (T : TxC M0 c N d) (h : Fdd M0 M N ft) (hf : ft ≠ 0) (hf2 : ft < 2000) (k : ∀ M', Fdd M0 M' N ft → P M') : s_X2_readTest RO M x1 P := by
  unfold s_X2_readTest
  refine ⟨1, ?_⟩
  show s_X2_readTest_4 RO x1 P _ M 0 0
  unfold s_X2_readTest_4
  have g := h.ge hf hf2
  have fin : s_X2_readTest_54 RO x1 P M 0 := by
    unfold s_X2_readTest_54
    have c78 : s_X2_readTest_78 RO P M 0 := by
      unfold s_X2_readTest_78 s_X2_readTest_82
      exact fd_Cmp T h hf hf2 (fun M1 h1 => ⟨fun _ => k M1 h1, fun q => absurd rfl q⟩)
    exact h.here T (fun p hp => ⟨fun _ => c78, fun _ => ⟨fun _ => c78, fun q => absurd g q⟩⟩)
  exact ⟨fun _ => fin, fun _ => ⟨fun _ => fin, fun q => absurd g q⟩⟩
theorem fd_And {RO : Mem → Int32 → (Mem → Prop) → Prop} {x1 : Int32} {M : Mem} {P : Mem → Prop} (T : TxC M0 c N d) (h : Fdd M0 M N ft) (hf : ft ≠ 0) (hf2 : ft < 2000) (k : ∀ M', Fdd M0 M' N ft → P M') : s_X2_readAnd RO M x1 P := by
  unfold s_X2_readAnd
  refine fd_Test T h hf hf2 (fun M1 h1 => ⟨1, ?_⟩)
  show s_X2_readAnd_7 RO x1 P _ M1 0
  unfold s_X2_readAnd_7
  have g := h1.ge hf hf2
  exact ⟨fun _ => k M1 h1, fun _ => ⟨fun _ => k M1 h1, fun q => absurd g q⟩⟩
theorem fd_Or {RO : Mem → Int32 → (Mem → Prop) → Prop} {x1 : Int32} {M : Mem} {P : Mem → Prop} (T : TxC M0 c N d) (h : Fdd M0 M N ft) (hf : ft ≠ 0) (hf2 : ft < 2000) (k : ∀ M', Fdd M0 M' N ft → P M') : s_X2_readOr RO M x1 P := by
  unfold s_X2_readOr
  refine fd_And T h hf hf2 (fun M1 h1 => ⟨1, ?_⟩)
  show s_X2_readOr_7 RO x1 P _ M1 0
  unfold s_X2_readOr_7
  have g := h1.ge hf hf2
  exact ⟨fun _ => k M1 h1, fun _ => ⟨fun _ => k M1 h1, fun q => absurd g q⟩⟩
theorem fd_Sign {x1 : Int32} {M : Mem} {P : Mem → Prop} (T : TxC M0 c N d) (h : Fdd M0 M N ft) (hf : ft ≠ 0) (hf2 : ft < 2000) (k : ∀ M', Fdd M0 M' N ft → P M') : s_X2_readSign M x1 P := by
  unfold s_X2_readSign
  have g := h.ge hf hf2
  exact ⟨fun _ => rc_failF T h hf hf2 k, fun q => absurd g q⟩
end FLT
/-! the readings -/
abbrev RdC (M0 : Mem) (c : Nat → Nat) (N : Nat) (r : Nat → Rt) (X : Mem → (Mem → Prop) → Prop) : Prop := ∀ (M : Mem) (p : Nat) (L : List Int32) (P : Mem → Prop), CRd M0 M p 0 L → p ≤ N → L.length + 2 ≤ p →
  ((r p).2 = none → ∀ M', Fdd M0 M' N ((r p).1 + 1) → P M') → (∀ A, (r p).2 = some A → ∀ M', CRd M0 M' (r p).1 0 (L ++ A) → P M') → X M P
theorem rc_Atom (T : TxC M0 c N d) : RdC M0 c N (pAt c) s_X2_readAtom := by
  intro M p L P h hp hl kb kg
  have hN := T.2.2.2.1
  have hcE := T.2.2.2.2.2.1
  unfold s_X2_readAtom
  have g := h.lt
  refine ⟨fun _ => ?_, fun q => absurd q (by rw [le_i] at g; rw [lt_i]; omega)⟩
  refine rc_here (T.mv h.1) h.2.1 hp ?_
  unfold s_X2_placeOf
  rw [(hw_plc T p).1]
  dsimp only
  refine rc_here (T.mv h.1) h.2.1 hp (hw_dig T (fun hd => b1 ?_) (fun hd => b0 ?_))
  rotate_left
  · rw [mI_neg (by have := fldN_le (x := c p); omega)]
    refine ⟨fun hz => ?_, fun hz => ?_⟩
    · have ea : pAt c p = (p, none) := by unfold pAt; rw [if_neg hd, if_pos hz]
      rw [ea] at kb
      exact rc_failG T h hp (kb rfl)
    · have ea : pAt c p = (p + 1, some [nI (9999 + fldN (c p))]) := by unfold pAt; rw [if_neg hd, if_neg hz]
      rw [ea] at kg
      have ex : 10000 + mI (fldN (c p)) = nI (9999 + fldN (c p)) := by
        rw [mI_pred hz]
        have : (10000 : Int32) + nI (fldN (c p) - 1) = nI (10000 + (fldN (c p) - 1)) := nI_add 10000 _
        rw [this, show 10000 + (fldN (c p) - 1) = 9999 + fldN (c p) by omega]
      rw [ex]
      refine rc_step h (fun M1 L1 h1 hL M2 m2 => ?_)
      rw [hL (by omega)] at h1
      exact kg _ rfl M2 (h1.at m2 rfl)
  · unfold s_X2_readNumber
    have h48 : hw c N p = 48 ↔ c p = 48 := hw_eq T (k := 48) rfl (by omega)
    have hstep : ∀ k n q, pNm c (k + 1) q n = if isD (c q) then pNm c k (q + 1) (10 * n + (c q - 48)) else (q, n) := fun k n q => rfl
    have core : ∀ (most : Nat) (y : Int32), y = nI most → most ≤ 4 → most = (if c p = 48 then 1 else 4) → s_X2_readNumber_14 P M y := by
      intro most y ey hm em
      rw [ey]
      unfold s_X2_readNumber_14
      refine Lz_rule (fun a => ∃ t q n, t ≤ most ∧ a.2.2 = nI t ∧ a.2.1 = nI n ∧ p ≤ q ∧ q ≤ N ∧ CRd M0 a.1 q 0 L ∧ pNm c most p 0 = pNm c (most - t) q n) (fun a => most - a.2.2.toNatClampNeg) ?_ ⟨0, p, 0, Nat.zero_le _, rfl, rfl, Nat.le_refl _, hp, h, rfl⟩
      rintro K ⟨M1, y2, y3⟩ ⟨t, q, n, ht, e3, e2, hpq, hq, h1, e⟩ hK
      dsimp only at e3 e2 h1
      show s_X2_readNumber_19 (nI most) P K M1 y2 y3
      unfold s_X2_readNumber_19 s_X2_readNumber_63
      rw [e3, e2, nI_leI (by omega) (by omega)]
      have fin : pNm c most p 0 = (q, n) → s_X2_addStep M1 (nI n) (fun Mm65 => P Mm65) := by
        intro e5
        have ea : pAt c p = (q, some [nI n]) := by unfold pAt; rw [if_pos hd, ← em, e5]
        rw [ea] at kg
        refine rc_step h1 (fun M2 L2 h2 hL => ?_)
        rw [hL (by omega)] at h2
        exact kg _ rfl M2 h2
      refine ⟨fun z => fin (by rw [e, show most - t = 0 by omega]; rfl), fun z => ?_⟩
      obtain ⟨j, hj⟩ : ∃ j, most - t = j + 1 := ⟨most - t - 1, by omega⟩
      rw [hj, hstep] at e
      refine rc_here (T.mv h1.1) h1.2.1 hq (hw_dig T (fun hd2 => b1 (rc_here (T.mv h1.1) h1.2.1 hq (fun x5 e6 M2 m2 x6 e7 => ?_))) (fun hd2 => b0 (fin (by rw [e, if_neg hd2]))))
      have hlt2 := hcE.lt (p := q) (by omega)
      rw [if_pos hd2] at e
      have ex : x5 = nI (10 * n + (c q - 48)) := by
        rw [e6, hw_nn T (by omega)]
        have t1 : nI n * 10 = nI (n * 10) := pk_mul n 10
        rw [t1, nI_add]
        have t2 := pk_sub (a := n * 10 + c q) (b := 48) (by omega)
        rw [show n * 10 + c q - 48 = 10 * n + (c q - 48) by omega] at t2
        exact t2
      rw [e7, nI_1]
      refine hK _ ⟨t + 1, q + 1, 10 * n + (c q - 48), by omega, rfl, ex, by omega, hlt2, h1.at m2 rfl, by rw [e, show most - (t + 1) = j by omega]⟩ ?_
      show most - (nI (t + 1)).toNatClampNeg < most - y3.toNatClampNeg
      rw [e3, nI_clamp (by omega), nI_clamp (by omega)]; omega
    refine rc_here (T.mv h.1) h.2.1 hp ?_
    rw [h48]
    exact ⟨fun z => core 4 4 rfl (by omega) (by rw [if_neg z]), fun z => core 1 1 rfl (by omega) (by rw [if_pos z])⟩
theorem rc_Sum (T : TxC M0 c N d) : RdC M0 c N (pSm c N) s_X2_readSum := by
  intro M p L P h hp hl kb kg
  have hN := T.2.2.2.1
  have hcE := T.2.2.2.2.2.1
  have ok1 := ok_At hcE hp
  unfold s_X2_readSum
  have loop : ∀ M1 : Mem, ((∃ q B, q ≤ N ∧ CRd M0 M1 q 0 (L ++ B) ∧ (L ++ B).length + 2 ≤ q ∧ pSm c N p = pSl c N q B) ∨ (∃ ft, ft < 1000 ∧ Fdd M0 M1 N (ft + 1) ∧ pSm c N p = (ft, none))) →
      ∃ n, Lz (fun (K6 : Mem × Int32 → Prop) (a : Mem × Int32) => s_X2_readSum_6 P K6 a.1 a.2) n (M1, (0 : Int32)) := by
    intro M1 hI
    refine Lz_rule (fun a => ∃ t, t ≤ N ∧ a.2 = nI t ∧ ((∃ q B, q ≤ N ∧ CRd M0 a.1 q 0 (L ++ B) ∧ (L ++ B).length + 2 ≤ q ∧ pSm c N p = pSl c (N - t) q B) ∨ (∃ ft, ft < 1000 ∧ Fdd M0 a.1 N (ft + 1) ∧ pSm c N p = (ft, none)))) (fun a => N - a.2.toNatClampNeg) ?_ ⟨0, Nat.zero_le _, rfl, hI⟩
    rintro K ⟨M2, x⟩ ⟨t, ht, e, hI⟩ hK
    dsimp only at e hI
    show s_X2_readSum_6 P K M2 x
    unfold s_X2_readSum_6
    rcases hI with ⟨q, B, hq, h2, hl2, er⟩ | ⟨ft, hft, h2, er⟩
    · have e4 : M2.1 8 0 4 = nI N := (T.mv h2.1).2.2.1
      rw [e4, e, nI_leI (by omega) (by omega)]
      have stop : pSm c N p = (q, some B) → P M2 := fun e5 => kg B (by rw [e5]) M2 (by rw [e5]; exact h2)
      refine ⟨fun z => stop (by rw [er, show N - t = 0 by omega]; rfl), fun z => ⟨fun z2 => absurd z2 h2.lt, fun _ => ?_⟩⟩
      obtain ⟨j, hj⟩ : ∃ j, N - t = j + 1 := ⟨N - t - 1, by omega⟩
      rw [hj] at er
      refine rc_here (T.mv h2.1) h2.2.1 hq ?_
      unfold s_X2_placeOf
      rw [(hw_plc T q).2.2.1]
      dsimp only
      have hs : ∀ x, sgN x ≤ 2 ∧ (sgN x = 0 ↔ ¬ (x = 43 ∨ x = 45)) := by
        intro x; unfold sgN
        split
        · exact ⟨by omega, by omega⟩
        · split
          · exact ⟨by omega, by omega⟩
          · exact ⟨by omega, by omega⟩
      obtain ⟨s1, s2⟩ := hs (c q)
      rw [mI_neg (by omega), s2]
      refine ⟨fun z2 => stop ?_, fun z2 => rc_here (T.mv h2.1) h2.2.1 hq (fun M3 m3 => ?_)⟩
      · rw [er]; unfold pSl; rw [if_neg z2]
      · have hc : c q = 43 ∨ c q = 45 := Decidable.not_not.mp z2
        have hlt := hcE.lt (p := q) (by omega)
        have ok := ok_At hcE (p := q + 1) hlt
        have er2 : pSm c N p = bd (pAt c (q + 1)) (fun q2 A => pSl c j q2 (B ++ A ++ [sg (c q)])) := by
          rw [er]; conv => lhs; unfold pSl
          rw [if_pos hc]
        have dec : N - (nI (t + 1)).toNatClampNeg < N - x.toNatClampNeg := by
          rw [e, nI_clamp (by omega), nI_clamp (by omega)]; omega
        refine rc_Atom T M3 (q + 1) (L ++ B) _ (h2.at m3 rfl) hlt (by omega) (fun hn M4 h4 => rc_stepF h4 (fun M5 h5 u eu => ?_)) (fun A hA M4 h4 => rc_step h4 (fun M5 L5 h5 hL u eu => ?_))
        · rw [eu, nI_1]
          exact hK _ ⟨t + 1, by omega, rfl, Or.inr ⟨(pAt c (q + 1)).1, by have := ok.2.1; omega, h5, by rw [er2, bd_n hn]⟩⟩ dec
        · rw [eu, nI_1]
          have oA := ok.2.2 A hA
          have o1 := ok.2.1
          have ell : (L ++ B ++ A).length = (L ++ B).length + A.length := List.length_append
          rw [hL (by omega), hw_nn T (by omega)] at h5
          have es : L ++ B ++ A ++ [-nI (c q)] = L ++ (B ++ A ++ [sg (c q)]) := by simp [sg]
          rw [es] at h5
          refine hK _ ⟨t + 1, by omega, rfl, Or.inl ⟨(pAt c (q + 1)).1, B ++ A ++ [sg (c q)], ok.2.1, h5, ?_, ?_⟩⟩ dec
          · rw [← es, List.length_append, ell]; show _ + 1 + 2 ≤ _; omega
          · rw [er2, bd_s hA, show N - (t + 1) = j by omega]
    · have g := h2.ge (by omega) (by omega)
      have done : P M2 := kb (by rw [er]) M2 (by rw [er]; exact h2)
      exact ⟨fun _ => done, fun _ => ⟨fun _ => done, fun z => absurd g z⟩⟩
  refine rc_Atom T M p L _ h hp hl (fun hn M1 h1 => loop M1 (Or.inr ⟨(pAt c p).1, by have := ok1.2.1; omega, h1, by unfold pSm; rw [bd_n hn]⟩)) (fun A hA M1 h1 => loop M1 (Or.inl ⟨(pAt c p).1, A, ok1.2.1, h1, ?_, by unfold pSm; rw [bd_s hA]⟩))
  have oA := ok1.2.2 A hA
  rw [List.length_append]; omega
theorem rc_Cmp (T : TxC M0 c N d) : RdC M0 c N (pCm c N) s_X2_readComparison := by
  intro M p L P h hp hl kb kg
  have hN := T.2.2.2.1
  have hcE := T.2.2.2.2.2.1
  have ok1 := ok_Sm hcE hp
  unfold s_X2_readComparison
  refine rc_Sum T M p L _ h hp hl (fun hn M1 h1 => ?_) (fun A hA M1 h1 => ?_)
  · have er : pCm c N p = ((pSm c N p).1, none) := by unfold pCm; rw [bd_n hn]
    rw [er] at kb
    have o1 := ok1.2.1
    have g := h1.ge (by omega) (by omega)
    exact h1.here T (fun q hq => ⟨fun _ => rc_failF T h1 (by omega) (by omega) (kb rfl), fun z => absurd g z⟩)
  · have oA := ok1.2.2 A hA
    have o1 := ok1.2.1
    refine rc_here (T.mv h1.1) h1.2.1 ok1.2.1 ⟨fun z => absurd z h1.lt, fun _ => ?_⟩
    unfold s_X2_placeOf
    rw [(hw_plc T (pSm c N p).1).2.2.2]
    dsimp only
    have hs : ∀ x, cpN x ≤ 3 ∧ (cpN x ≠ 0 ↔ isC x) := by
      intro x; unfold cpN
      split
      · exact ⟨by omega, by omega⟩
      · split
        · exact ⟨by omega, by omega⟩
        · split
          · exact ⟨by omega, by omega⟩
          · exact ⟨by omega, by omega⟩
    obtain ⟨s1, s2⟩ := hs (c (pSm c N p).1)
    rw [mI_ge (by omega), s2]
    refine ⟨fun hc M2 m2 => ?_, fun hc => ?_⟩
    · have hlt := hcE.lt (p := (pSm c N p).1) (by omega)
      have ok2 := ok_Sm hcE (p := (pSm c N p).1 + 1) hlt
      have er : pCm c N p = bd (pSm c N ((pSm c N p).1 + 1)) (fun q2 B => (q2, some (A ++ B ++ [sg (c (pSm c N p).1)]))) := by
        unfold pCm; rw [bd_s hA, if_pos hc]
      have ell : (L ++ A).length = L.length + A.length := List.length_append
      refine rc_Sum T M2 ((pSm c N p).1 + 1) (L ++ A) _ (h1.at m2 rfl) hlt (by omega) (fun hn M3 h3 => ?_) (fun B hB M3 h3 => ?_)
      · rw [bd_n hn] at er
        rw [er] at kb
        exact rc_stepF h3 (kb rfl)
      · rw [bd_s hB] at er
        rw [er] at kg
        have oB := ok2.2.2 B hB
        have o2 := ok2.2.1
        have ell2 : (L ++ A ++ B).length = (L ++ A).length + B.length := List.length_append
        refine rc_step h3 (fun M4 L4 h4 hL => kg _ rfl M4 ?_)
        rw [hL (by omega), hw_nn T (by omega)] at h4
        have es : L ++ A ++ B ++ [-nI (c (pSm c N p).1)] = L ++ (A ++ B ++ [sg (c (pSm c N p).1)]) := by simp [sg]
        rw [es] at h4
        exact h4
    · have er : pCm c N p = ((pSm c N p).1, none) := by unfold pCm; rw [bd_s hA, if_neg hc]
      rw [er] at kb
      exact rc_failG T h1 o1 (kb rfl)
end CTX
