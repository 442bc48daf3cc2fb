/-! IMAGE, RESTORE: one world copied onto another -/
/-- cells of kind c of a world up to L c are copied from world v to world w -/
def Cp (L : Nat → Nat) (w v : Nat) (M M' : Mem) : Prop := (∀ c i, i ≠ w → M'.1 c i = M.1 c i) ∧ (∀ c j, M'.1 c w j = if j < L c then M.1 c v j else M.1 c w j) ∧ M'.2.1 = M.2.1
def up1 (L : Nat → Nat) (c n : Nat) : Nat → Nat := fun c' => if c' = c then n else L c'
theorem Cp.row {L : Nat → Nat} {w v : Nat} {M M1 : Mem} {c n : Nat} (h : Cp L w v M M1) (hvw : v ≠ w) (h0 : L c = 0) : Cp (up1 L c n) w v M (wR M1 c w (va_cpy (M1.1 c v) (M1.1 c w) 0 0 n)) := by
  refine ⟨fun c' i hi => ?_, fun c' j => ?_, h.2.2⟩
  · show uR M1.1 c w _ c' i = _
    rw [uR_ni hi]; exact h.1 c' i hi
  · show uR M1.1 c w _ c' w j = _
    by_cases q : c' = c
    · subst q
      rw [uR_eq]
      unfold up1
      rw [if_pos rfl]
      by_cases z : j < n
      · rw [pk_cpy_in (by omega) (by omega), if_pos z, h.1 c' v hvw]
        rw [show 0 + (j - 0) = j by omega]
      · rw [pk_cpy_out (by omega), if_neg z, h.2.1 c' j, h0, if_neg (by omega)]
    · rw [uR_nc q]
      unfold up1
      rw [if_neg q]
      exact h.2.1 c' j
theorem Cp.cell {L : Nat → Nat} {w v : Nat} {M M1 : Mem} {c : Nat} (h : Cp L w v M M1) (hvw : v ≠ w) (h0 : L c = 0) : Cp (up1 L c 1) w v M (wI M1 c w 0 (M1.1 c v 0)) := by
  refine ⟨fun c' i hi => ?_, fun c' j => ?_, h.2.2⟩
  · rw [wI_ni hi]; exact h.1 c' i hi
  · rw [wI_at]
    unfold up1
    by_cases q : c' = c
    · subst q
      rw [if_pos rfl]
      by_cases z : j = 0
      · rw [if_pos ⟨rfl, rfl, z⟩, if_pos (by omega), h.1 c' v hvw, z]
      · rw [if_neg (fun y => z y.2.2), if_neg (by omega), h.2.1 c' j, h0, if_neg (by omega)]
    · rw [if_neg (fun y => q y.1), if_neg q]
      exact h.2.1 c' j
/-- what copyFrom copies -/
def LW : Nat → Nat := up1 (up1 (up1 (up1 (up1 (up1 (up1 (up1 (up1 (up1 (up1 (up1 (up1 (up1 (up1 (up1 (up1 (up1 (up1 (up1 (up1 (up1 (up1 (up1 (up1 (up1 (fun _ => 0) 1 1) 2 1) 15 12) 16 12) 17 12) 18 12) 19 12) 20 12) 21 132) 3 1) 22 5) 23 5) 24 5) 25 5) 26 20) 4 1) 30 16) 31 16) 32 16) 33 192) 5 1) 35 16) 6 1) 36 30) 37 30) 38 30
def LW2 : Nat → Nat := up1 LW 12 36
theorem LW_o {c : Nat} (h : ¬ (c = 1 ∨ pK c)) : LW2 c = 0 := by
  unfold pK at h
  unfold LW2 LW up1
  simp only [show ¬ c = 12 by omega, show ¬ c = 38 by omega, show ¬ c = 37 by omega, show ¬ c = 36 by omega, show ¬ c = 6 by omega, show ¬ c = 35 by omega, show ¬ c = 5 by omega, show ¬ c = 33 by omega, show ¬ c = 32 by omega, show ¬ c = 31 by omega, show ¬ c = 30 by omega, show ¬ c = 4 by omega, show ¬ c = 26 by omega, show ¬ c = 25 by omega, show ¬ c = 24 by omega, show ¬ c = 23 by omega, show ¬ c = 22 by omega, show ¬ c = 3 by omega, show ¬ c = 21 by omega, show ¬ c = 20 by omega, show ¬ c = 19 by omega, show ¬ c = 18 by omega, show ¬ c = 17 by omega, show ¬ c = 16 by omega, show ¬ c = 15 by omega, show ¬ c = 2 by omega, show ¬ c = 1 by omega, if_false]
/-- the told acts are copied -/
def Ct (w v : Nat) (M M' : Mem) : Prop := (∀ c i, ¬ (c = 1 ∧ i = w) → M'.2.2 c i = M.2.2 c i) ∧ ∀ j, M'.2.2 1 w j = if j < 16 then M.2.2 1 v j else M.2.2 1 w j
theorem wO_at {M : Mem} {c i j v : Nat} {c' i' j' : Nat} : (wO M c i j v).2.2 c' i' j' = if c' = c ∧ i' = i ∧ j' = j then v else M.2.2 c' i' j' := by
  show uR M.2.2 c i (va_up (M.2.2 c i) j v) c' i' j' = _
  by_cases h : c' = c ∧ i' = i
  · rw [h.1, h.2, uR_eq]
    unfold va_up
    by_cases hj : j' = j
    · rw [if_pos hj, if_pos ⟨rfl, rfl, hj⟩]
    · rw [if_neg hj, if_neg (fun q => hj q.2.2)]
  · rw [uR_ne h, if_neg (fun q => h ⟨q.1, q.2.1⟩)]
theorem tC_told {w v : Nat} {M : Mem} {P : Mem → Prop} (hvw : v ≠ w) (hb : ∀ j, j < 16 → M.2.2 1 v j ≤ M.2.2 2 0 0) (hp : ∀ M', M'.1 = M.1 → M'.2.1 = M.2.1 → Ct w v M M' → s_X11_copyAll 16 35 v 35 w M' (fun Mm42 => P Mm42)) : ∃ n, Lz (fun (K10 : Mem × Int32 → Prop) (a : Mem × Int32) => s_X1_copyFrom_10 w v P K10 a.1 a.2) n (M, (0 : Int32)) := by
  refine Lz_rule (fun a => ∃ k, k ≤ 16 ∧ a.2 = nI k ∧ a.1.1 = M.1 ∧ a.1.2.1 = M.2.1 ∧ (∀ c i, ¬ (c = 1 ∧ i = w) → a.1.2.2 c i = M.2.2 c i) ∧ ∀ j, a.1.2.2 1 w j = if j < k then M.2.2 1 v j else M.2.2 1 w j) (fun a => 16 - a.2.toNatClampNeg) ?_ ⟨0, by omega, rfl, rfl, rfl, fun _ _ _ => rfl, fun j => by rw [if_neg (by omega)]⟩
  rintro K ⟨Mx, x⟩ ⟨k, hk, e, i1, i2, i3, i4⟩ hK
  dsimp only at e i1 i2 i3 i4
  show s_X1_copyFrom_10 w v P K Mx x
  unfold s_X1_copyFrom_10
  rw [e]
  have k16 : (16 : Int32) ≤ nI k ↔ 16 ≤ k := nI_leI (a := 16) (by omega) (by omega)
  rw [k16]
  refine ⟨fun q => ?_, fun q => ?_⟩
  · have : k = 16 := by omega
    subst this
    exact hp Mx i1 i2 ⟨i3, i4⟩
  have vi : vp_in (nI k) 16 := vp_in_nI (by omega) (by omega)
  rw [nI_clamp (by omega)]
  have ov : Mx.2.2 1 v k = M.2.2 1 v k := by rw [i3 1 v (fun y => hvw y.2)]
  have o2 : Mx.2.2 2 0 0 = M.2.2 2 0 0 := by rw [i3 2 0 (fun y => absurd y.1 (by omega))]
  have nx : ∀ (u : Nat), u = M.2.2 1 v k → ∀ My : Mem, My = wO Mx 1 w k u → ∀ x2 : Int32, x2 = nI k + 1 → K (My, x2) := by
    intro u eu My ey x2 ex
    rw [ex, nI_1]
    refine hK _ ⟨k + 1, by omega, rfl, by rw [ey]; exact i1, by rw [ey]; exact i2, fun c i hc => ?_, fun j => ?_⟩ ?_
    · rw [ey]
      funext j
      show (wO Mx 1 w k u).2.2 c i j = _
      rw [wO_at, if_neg (fun y => hc ⟨y.1, y.2.1⟩), i3 c i hc]
    · rw [ey]
      show (wO Mx 1 w k u).2.2 1 w j = _
      rw [wO_at]
      by_cases z : j = k
      · rw [if_pos ⟨rfl, rfl, z⟩, if_pos (by omega), eu, z]
      · rw [if_neg (fun y => z y.2.2), i4 j]
        by_cases z2 : j < k
        · rw [if_pos z2, if_pos (by omega)]
        · rw [if_neg z2, if_neg (by omega)]
    · show 16 - (nI (k + 1)).toNatClampNeg < 16 - x.toNatClampNeg
      rw [e, nI_clamp (by omega), nI_clamp (by omega)]
      omega
  have hbk := hb k (by omega)
  refine ⟨vi, fun q0 => ⟨vi, nx 0 (by omega)⟩, fun a ha => ⟨by omega, vi, nx (a + 1) (by omega)⟩⟩
theorem tC_copyFrom {w v : Nat} {M : Mem} {P : Mem → Prop} (hvw : v ≠ w) (hb : ∀ j, j < 16 → M.2.2 1 v j ≤ M.2.2 2 0 0) (hp : ∀ M', Cp LW2 w v M M' → Ct w v M M' → P M') : s_X10_copyFrom w v M P := by
  unfold s_X10_copyFrom s_X8_copyFrom s_X4_copyFrom s_X5_copyFrom s_X1_copyFrom s_X6_copyFrom s_X11_copyAll
  have c0 : Cp (fun _ => 0) w v M M := ⟨fun _ _ _ => rfl, fun _ j => by rw [if_neg (Nat.not_lt_zero j)], rfl⟩
  intro M1 e1
  have c1 := c0.cell (c := 1) hvw rfl
  rw [← e1] at c1
  intro M2 e2
  have c2 := c1.cell (c := 2) hvw rfl
  rw [← e2] at c2
  intro M3 e3
  have c3 := c2.row (c := 15) (n := 12) hvw rfl
  rw [← e3] at c3
  intro M4 e4
  have c4 := c3.row (c := 16) (n := 12) hvw rfl
  rw [← e4] at c4
  intro M5 e5
  have c5 := c4.row (c := 17) (n := 12) hvw rfl
  rw [← e5] at c5
  intro M6 e6
  have c6 := c5.row (c := 18) (n := 12) hvw rfl
  rw [← e6] at c6
  intro M7 e7
  have c7 := c6.row (c := 19) (n := 12) hvw rfl
  rw [← e7] at c7
  intro M8 e8
  have c8 := c7.row (c := 20) (n := 12) hvw rfl
  rw [← e8] at c8
  intro M9 e9
  have c9 := c8.row (c := 21) (n := 132) hvw rfl
  rw [← e9] at c9
  intro M10 e10
  have c10 := c9.cell (c := 3) hvw rfl
  rw [← e10] at c10
  intro M11 e11
  have c11 := c10.row (c := 22) (n := 5) hvw rfl
  rw [← e11] at c11
  intro M12 e12
  have c12 := c11.row (c := 23) (n := 5) hvw rfl
  rw [← e12] at c12
  intro M13 e13
  have c13 := c12.row (c := 24) (n := 5) hvw rfl
  rw [← e13] at c13
  intro M14 e14
  have c14 := c13.row (c := 25) (n := 5) hvw rfl
  rw [← e14] at c14
  intro M15 e15
  have c15 := c14.row (c := 26) (n := 20) hvw rfl
  rw [← e15] at c15
  intro M16 e16
  have c16 := c15.cell (c := 4) hvw rfl
  rw [← e16] at c16
  intro M17 e17
  have c17 := c16.row (c := 30) (n := 16) hvw rfl
  rw [← e17] at c17
  intro M18 e18
  have c18 := c17.row (c := 31) (n := 16) hvw rfl
  rw [← e18] at c18
  intro M19 e19
  have c19 := c18.row (c := 32) (n := 16) hvw rfl
  rw [← e19] at c19
  intro M20 e20
  have c20 := c19.row (c := 33) (n := 192) hvw rfl
  rw [← e20] at c20
  intro M21 e21
  have c21 := c20.cell (c := 5) hvw rfl
  rw [← e21] at c21
  have o21 : M21.2.2 = M.2.2 := by rw [e21, e20, e19, e18, e17, e16, e15, e14, e13, e12, e11, e10, e9, e8, e7, e6, e5, e4, e3, e2, e1]; rfl
  refine tC_told hvw (by rw [o21]; exact hb) (fun M22 a1 a2 a3 => ?_)
  have c22 : Cp (up1 (up1 (up1 (up1 (up1 (up1 (up1 (up1 (up1 (up1 (up1 (up1 (up1 (up1 (up1 (up1 (up1 (up1 (up1 (up1 (up1 (fun _ => 0) 1 1) 2 1) 15 12) 16 12) 17 12) 18 12) 19 12) 20 12) 21 132) 3 1) 22 5) 23 5) 24 5) 25 5) 26 20) 4 1) 30 16) 31 16) 32 16) 33 192) 5 1) w v M M22 := by
    unfold Cp
    rw [a1, a2]
    exact c21
  have t22 : Ct w v M M22 := by
    unfold Ct at a3 ⊢
    rw [o21] at a3
    exact a3
  unfold s_X11_copyAll
  intro M23 e23
  have c23 := c22.row (c := 35) (n := 16) hvw rfl
  rw [← e23] at c23
  intro M24 e24
  have c24 := c23.cell (c := 6) hvw rfl
  rw [← e24] at c24
  intro M25 e25
  have c25 := c24.row (c := 36) (n := 30) hvw rfl
  rw [← e25] at c25
  intro M26 e26
  have c26 := c25.row (c := 37) (n := 30) hvw rfl
  rw [← e26] at c26
  intro M27 e27
  have c27 := c26.row (c := 38) (n := 30) hvw rfl
  rw [← e27] at c27
  intro M28 e28
  have c28 := c27.row (c := 12) (n := 36) hvw rfl
  rw [← e28] at c28
  have o28 : M28.2.2 = M22.2.2 := by rw [e28, e27, e26, e25, e24, e23]; rfl
  refine hp M28 c28 ?_
  unfold Ct at t22 ⊢
  rw [o28]
  exact t22
/-- a picture at another world -/
theorem RC.mv {w v : Nat} {M M' : Mem} {A : Abs} (h : RC v M A) (n0 : A.1 0 ≤ 12) (n1 : A.1 1 ≤ 5) (n2 : A.1 2 ≤ 16) (n3 : A.1 3 ≤ 30) (n4 : A.1 4 ≤ 16) (e : ∀ c j, j < LW2 c → M'.1 c w j = M.1 c v j) (ea : ∀ c, c = 1000 ∨ c = 1001 → M'.1 c = M.1 c) (o1 : ∀ j, j < 16 → M'.2.2 1 w j = M.2.2 1 v j) (o2 : M'.2.2 2 0 0 = M.2.2 2 0 0) (o3 : M'.2.2 3 0 = M.2.2 3 0) : RC w M' A := by
  refine ⟨⟨?_, fun s hs => ?_, fun s hs hs2 => ?_⟩, ⟨?_, fun d hd => ?_⟩, ⟨?_, fun m k hm hk => ?_⟩, ⟨?_, fun r hr' => ?_⟩, ⟨?_, fun k hk => ?_⟩, ⟨?_, fun a ha => ?_, fun j hj => ?_⟩⟩
  · rw [e 2 0 (show 0 < 1 by omega)]; exact h.1.1
  · have hs12 : s < 12 := by omega
    rw [e 15 s hs12, e 16 s hs12, e 17 s hs12, e 18 s hs12, e 19 s hs12, e 20 s hs12]
    obtain ⟨a1, a2, a3, a4, a5, a6, a7⟩ := h.1.2.1 s hs
    exact ⟨a1, a2, a3, a4, a5, a6, fun k hk => by rw [e 21 _ (show 11 * s + k < 132 by omega)]; exact a7 k hk⟩
  · rw [e 18 s hs2, e 19 s hs2]
    obtain ⟨a4, a5, a7⟩ := h.1.2.2 s hs hs2
    exact ⟨a4, a5, fun k hk => by rw [e 21 _ (show 11 * s + k < 132 by omega)]; exact a7 k hk⟩
  · rw [e 3 0 (show 0 < 1 by omega)]; exact h.2.1.1
  · have hd5 : d < 5 := by omega
    rw [e 22 d hd5, e 23 d hd5, e 24 d hd5, e 25 d hd5]
    obtain ⟨a1, a2, a3, a4, a5⟩ := h.2.1.2 d hd
    exact ⟨a1, a2, a3, a4, fun k hk => by rw [e 26 _ (show 4 * d + k < 20 by omega)]; exact a5 k hk⟩
  · rw [e 1 0 (show 0 < 1 by omega)]; exact h.2.2.1.1
  · rw [e 12 _ (show 3 * m + k < 36 by omega)]; exact h.2.2.1.2 m k hm hk
  · rw [e 4 0 (show 0 < 1 by omega)]; exact h.2.2.2.1.1
  · have hr16 : r < 16 := by omega
    rw [e 30 r hr16, e 31 r hr16, e 32 r hr16]
    obtain ⟨a1, a2, a3, a4⟩ := h.2.2.2.1.2 r hr'
    exact ⟨a1, a2, a3, fun s hs => by rw [e 33 _ (show 12 * r + s < 192 by omega)]; exact a4 s hs⟩
  · rw [e 6 0 (show 0 < 1 by omega)]; exact h.2.2.2.2.1.1
  · have hk30 : k < 30 := by omega
    rw [e 36 k hk30, e 37 k hk30, e 38 k hk30]; exact h.2.2.2.2.1.2 k hk
  · rw [e 5 0 (show 0 < 1 by omega)]; exact h.2.2.2.2.2.1
  · have ha16 : a < 16 := by omega
    rw [o1 a ha16, o2, o3, ea 1000 (by omega), ea 1001 (by omega), e 35 a ha16]; exact h.2.2.2.2.2.2.1 a ha
  · rw [o1 j hj, o2]; exact h.2.2.2.2.2.2.2 j hj
def sp_image (S : Sg) : Int32 × Sg := (nI (S.1.2.1 26 0), (S.1, some S.1, S.2.2))
theorem tC_image {M : Mem} {S : Sg} {P : Int32 → Mem → Prop} (h : RCX M S) (hw : WfX S) (hp : ∀ M', sameM M M' → RCX M' (sp_image S).2 → P (sp_image S).1 M') : s_X11_image M P := by
  unfold s_X11_image
  refine tC_copyFrom (by omega) h.1.2.2.2.2.2.2.2 (fun Ma ha ta Mb eb => ?_)
  obtain ⟨w0, w1, w2, w3, w4, -⟩ := hw.1
  have e : ∀ c i, i ≠ 1 → c ≠ 0 → Mb.1 c i = M.1 c i := fun c i hi hc => by rw [eb, wI_nc hc]; exact ha.1 c i hi
  have e00 : Mb.1 0 0 3 = 1 := by rw [eb, wI_at, if_pos ⟨rfl, rfl, rfl⟩]
  have eo : Mb.2 = Ma.2 := by rw [eb]; rfl
  have eK : ∀ c, LW2 c = 0 → c ≠ 0 → Mb.1 c = Ma.1 c := fun c _ hc => by rw [eb, wI_cc hc]
  have kK : ∀ c, ¬ (c = 1 ∨ pK c) → c ≠ 0 → Mb.1 c = M.1 c := fun c hc h0 => by
    rw [eK c (LW_o hc) h0]
    funext i j
    by_cases z : i = 1
    · rw [z, ha.2.1 c j, LW_o hc, if_neg (by omega)]
    · rw [ha.1 c i z]
  have t1 : ∀ c i, ¬ (c = 1 ∧ i = 1) → Mb.2.2 c i = M.2.2 c i := fun c i hc => by rw [eo]; exact ta.1 c i hc
  have r1 : RC 1 Mb S.1 := by
    refine h.1.mv w0 w1 w2 w3 w4 (fun c j hj => ?_) (fun c hc => kK c (by unfold pK; omega) (by omega)) (fun j hj => ?_) (by rw [t1 2 0 (by omega)]) (t1 3 0 (by omega))
    · have c0 : c ≠ 0 := fun q => by rw [q, LW_o (by unfold pK; omega)] at hj; omega
      rw [eb, wI_nc c0, ha.2.1 c j, if_pos hj]
    · rw [eo, ta.2 j, if_pos hj]
  have r0 : RC 0 Mb S.1 := by
    refine h.1.mv w0 w1 w2 w3 w4 (fun c j hj => ?_) (fun c hc => kK c (by unfold pK; omega) (by omega)) (fun j hj => by rw [t1 1 0 (by omega)]) (by rw [t1 2 0 (by omega)]) (t1 3 0 (by omega))
    have c0 : c ≠ 0 := fun q => by rw [q, LW_o (by unfold pK; omega)] at hj; omega
    rw [e c 0 (by omega) c0]
  have ed : Mb.1 1 0 0 = nI (S.1.2.1 26 0) := r0.2.2.1.1
  rw [ed]
  refine hp Mb ⟨fun c hc => kK c (fun q => hc (by unfold pK at q; unfold cK; omega)) (fun q => hc (by unfold cK; omega)), by rw [eo]; exact ha.2.2⟩ ⟨r0, ⟨e00, r1⟩, ?_⟩
  have h7 := kK 7 (by unfold pK; omega) (by omega)
  have h39 := kK 39 (by unfold pK; omega) (by omega)
  exact h.2.2.fr (fun d => by rw [h7]) (fun d => by rw [h39])
def sp_restore (S : Sg) : Int32 × Sg := match S.2.1 with
  | none => (-3, S)
  | some B => (nI (B.2.1 26 0), (B, S.2))
theorem tC_restore {M : Mem} {S : Sg} {P : Int32 → Mem → Prop} (h : RCX M S) (hw : WfX S) (hp : ∀ M', sameM M M' → RCX M' (sp_restore S).2 → P (sp_restore S).1 M') : s_X11_restore M P := by
  unfold s_X11_restore
  unfold sp_restore at hp
  obtain ⟨A, o, sh⟩ := S
  cases o with
  | none =>
    have h0 : M.1 0 0 3 = 0 := h.2.1
    rw [h0]
    exact ⟨fun q => absurd rfl q, fun _ => hp M sameM.rf h⟩
  | some B =>
    have h0 : M.1 0 0 3 = 1 ∧ RC 1 M B := h.2.1
    rw [h0.1]
    refine ⟨fun _ => ?_, fun q => absurd q (by decide)⟩
    dsimp only at hp
    obtain ⟨⟨w0, w1, w2, w3, w4, -⟩, -⟩ := hw.2.1 B rfl
    refine tC_copyFrom (by omega) h0.2.2.2.2.2.2.2.2 (fun Ma ha ta => ?_)
    have kK : ∀ c, ¬ (c = 1 ∨ pK c) → Ma.1 c = M.1 c := fun c hc => by
      funext i j
      by_cases z : i = 0
      · rw [z, ha.2.1 c j, LW_o hc, if_neg (by omega)]
      · rw [ha.1 c i z]
    have r0 : RC 0 Ma B := by
      refine h0.2.mv w0 w1 w2 w3 w4 (fun c j hj => ?_) (fun c hc => kK c (by unfold pK; omega)) (fun j hj => ?_) (by rw [ta.1 2 0 (by omega)]) (ta.1 3 0 (by omega))
      · rw [ha.2.1 c j, if_pos hj]
      · rw [ta.2 j, if_pos hj]
    have r1 : RC 1 Ma B := by
      refine h0.2.mv w0 w1 w2 w3 w4 (fun c j hj => ?_) (fun c hc => kK c (by unfold pK; omega)) (fun j hj => by rw [ta.1 1 1 (by omega)]) (by rw [ta.1 2 0 (by omega)]) (ta.1 3 0 (by omega))
      rw [ha.1 c 1 (by omega)]
    have ed : Ma.1 1 0 0 = nI (B.2.1 26 0) := r0.2.2.1.1
    rw [ed]
    have h7 := kK 7 (by unfold pK; omega)
    have h39 := kK 39 (by unfold pK; omega)
    refine hp Ma ⟨fun c hc => kK c (fun q => hc (by unfold pK at q; unfold cK; omega)), ha.2.2⟩ ⟨r0, ⟨by rw [kK 0 (by unfold pK; omega)]; exact h0.1, r1⟩, h.2.2.fr (fun d => by rw [h7]) (fun d => by rw [h39])⟩
