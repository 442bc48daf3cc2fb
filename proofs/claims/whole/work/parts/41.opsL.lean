/-! judge -/
def jd (A : Abs) (dy : Nat) (g : Nat → Int32) : Nat → Nat → Int32 → Int32 → Nat → Int32
  | 0, _, _, _, _ => -4
  | f + 1, k, seen, time, l => if rg (g k) (A.1 0) ∧ ¬ (seen >>> (g k &&& 31)) &&& 1 = 1 then (if time + nI (farN A dy l (ix (g k) + 1)) ≤ nI (A.2.1 5 (ix (g k))) then jd A dy g f (k + 1) (seen ||| (1 <<< (g k &&& 31))) (time + nI (farN A dy l (ix (g k) + 1))) (ix (g k) + 1) else nI k) else nI k
theorem jd_s {A : Abs} {dy f k l : Nat} {g : Nat → Int32} {seen time : Int32} : jd A dy g (f + 1) k seen time l = if rg (g k) (A.1 0) ∧ ¬ (seen >>> (g k &&& 31)) &&& 1 = 1 then (if time + nI (farN A dy l (ix (g k) + 1)) ≤ nI (A.2.1 5 (ix (g k))) then jd A dy g f (k + 1) (seen ||| (1 <<< (g k &&& 31))) (time + nI (farN A dy l (ix (g k) + 1))) (ix (g k) + 1) else nI k) else nI k := rfl
def sp_judge (S : Sg) (x1 x2 x3 : Int32) : Int32 := if rg x3 8 ∧ rg x1 (S.1.1 1) ∧ rg x2 601 then (if hd0 S (ix x3) = 0 then -11 else if hd0 S (ix x3) = 2 ∧ S.2.2.1 4 (ix x3) = 0 then jd S.1 (ix x1) (S.2.2.2 (ix x3)) (S.2.2.1 5 (ix x3)) 0 0 x2 0 else -12) else -1
theorem tC_judge {M : Mem} {S : Sg} {x1 x2 x3 : Int32} {P : Int32 → Mem → Prop} (h : RCX M S) (hw : WfX S) (hp : P (sp_judge S x1 x2 x3) M) : s_X11_judge M x1 x2 x3 P := by
  unfold s_X11_judge
  unfold sp_judge at hp
  have n12 : S.1.1 0 ≤ 12 := hw.1.1
  have n5 : S.1.1 1 ≤ 5 := hw.1.2.1
  have bad : ¬ (rg x3 8 ∧ rg x1 (S.1.1 1) ∧ rg x2 601) → P (-1) M := fun hb => by rw [if_neg hb] at hp; exact hp
  refine t_shelfAt (fun g3 => d1 (rg_lt g3) ?_) (fun g3 => d0 (bad (fun q => g3 q.1)))
  refine t_has4 h.1.2.1.1 (by omega) (fun g1 => b1 ?_) (fun g1 => b0 (bad (fun q => g1 q.2.1)))
  refine t_within (by decide) (n := 601) (by decide) (fun g2 => c1 ?_) (fun g2 => c0 (bad (fun q => g2 q.2.2)))
  rw [if_pos ⟨g3, g1, g2⟩] at hp
  have hd := rg_lt g3
  have ld := rg_lt g1
  obtain ⟨w0, w1, w2, w3, w4, w5, -⟩ := hw.2.2 _ hd
  refine t_byteRowRefusal h.2.2 hd w0 w4 (fun q => bn (by decide) (by rw [if_pos q] at hp; exact hp)) (fun q q4 => b0 ?_) (fun q q2 => bn (by decide) (by rw [if_neg q, if_neg q2] at hp; exact hp))
  rw [if_neg (by omega), if_pos ⟨q, q4⟩] at hp
  obtain ⟨s4, s5, s39⟩ := (h.2.2 _ hd).2.2 q
  have vd : vp_in x1 5 := rg_in ⟨g1.1, by have := g1.2; omega⟩
  unfold s_X10_firstWrongStop
  refine ⟨vd, fun x4 e4 => ⟨vd, fun x5 e5 => ?_⟩⟩
  obtain ⟨dx, dyy, -⟩ := h.1.2.1.2 _ ld
  rw [dx] at e4
  rw [dyy] at e5
  rw [e4, e5]
  refine Lz_rule (fun a => ∃ (k : Nat) (seen time : Int32) (l : Nat), k ≤ S.2.2.1 5 (ix x3) ∧ l ≤ S.1.1 0 ∧ a = (M, nI (px S.1 (ix x1) l), nI (py S.1 (ix x1) l), time, seen, nI k) ∧ jd S.1 (ix x1) (S.2.2.2 (ix x3)) (S.2.2.1 5 (ix x3)) 0 0 x2 0 = jd S.1 (ix x1) (S.2.2.2 (ix x3)) (S.2.2.1 5 (ix x3) - k) k seen time l) (fun a => 80 - a.2.2.2.2.2.toNatClampNeg) ?_ ⟨0, 0, x2, 0, Nat.zero_le _, Nat.zero_le _, rfl, rfl⟩
  rintro K a ⟨k, seen, time, l, hk, hl, rfl, e⟩ hK
  show s_X10_firstWrongStop_31 0 (ix x3) (fun rr64 Mm64 => P rr64 Mm64) K M (nI (px S.1 (ix x1) l)) (nI (py S.1 (ix x1) l)) time seen (nI k)
  unfold s_X10_firstWrongStop_31
  rw [s5, nI_leI (by omega) (by omega)]
  refine ⟨fun z => ?_, fun z => ⟨vp_in_nI (by omega) (by omega), fun x9 e9 => ?_⟩⟩
  · rw [e, show S.2.2.1 5 (ix x3) - k = 0 by omega] at hp; exact hp
  rw [nI_clamp (by omega), s39 k (by omega)] at e9
  rw [show S.2.2.1 5 (ix x3) - k = (S.2.2.1 5 (ix x3) - (k + 1)) + 1 by omega, jd_s, ← e9] at e
  rw [e] at hp
  refine t_has8 h.1.1.1 (by omega) (fun g => b1 ?_) (fun g => b0 (by rw [if_neg (fun y => g y.1)] at hp; exact hp))
  have ls := rg_lt g
  have l12 : ix x9 < 12 := by omega
  have vs : vp_in x9 12 := rg_in ⟨g.1, by have := g.2; omega⟩
  refine ⟨fun z2 u7 e7 => ⟨vs, vs, ?_⟩, fun z2 => by rw [if_neg (fun y => y.2 z2)] at hp; exact hp⟩
  rw [if_pos ⟨g, z2⟩] at hp e
  obtain ⟨-, sx, sy, -, -, s20, -⟩ := h.1.1.2.1 _ ls
  obtain ⟨p1, p2⟩ := Wf_px hw.1 ld hl
  obtain ⟨p3, p4⟩ := Wf_px hw.1 (l := ix x9 + 1) ld ls
  have ex : M.1 16 0 x9.toNatClampNeg = nI (px S.1 (ix x1) (ix x9 + 1)) := by
    unfold px
    rw [if_neg (Nat.succ_ne_zero _)]; exact sx
  have ey : M.1 17 0 x9.toNatClampNeg = nI (py S.1 (ix x1) (ix x9 + 1)) := by
    unfold py
    rw [if_neg (Nat.succ_ne_zero _)]; exact sy
  rw [ex, ey]
  refine tC_far p1 p2 p3 p4 ?_
  intro u6 e6 
  refine ⟨vs, fun u4 e4' => ⟨vs, fun u5 e5' => ⟨vs, ?_⟩⟩⟩
  rw [ex] at e4'
  rw [ey] at e5'
  rw [s20]
  have ef : nI (dist (px S.1 (ix x1) l) (px S.1 (ix x1) (ix x9 + 1)) + dist (py S.1 (ix x1) l) (py S.1 (ix x1) (ix x9 + 1))) = nI (farN S.1 (ix x1) l (ix x9 + 1)) := rfl
  rw [ef] at e6
  rw [← e6] at hp e
  refine ⟨fun z3 u8 e8 => ?_, fun z3 => by rw [if_neg z3] at hp; exact hp⟩
  rw [if_pos z3] at e
  rw [e8, nI_1, e4', e5', e7]
  refine hK _ ⟨k + 1, _, _, ix x9 + 1, by omega, ls, rfl, e⟩ ?_
  show 80 - (nI (k + 1)).toNatClampNeg < 80 - (nI k).toNatClampNeg
  rw [nI_clamp (by omega), nI_clamp (by omega)]
  omega
theorem l_i (x : Int32) : x.toInt64.toInt32 = x := by simp
theorem tM_judge {M : Mem} {S : Sg} {x1 x2 x3 : Int32} {P : Int32 → Mem → Prop} (h : RMX M S) (hw : WfX S) (hp : ∀ M', sameC M M' → RMX M' S → P (sp_judge S x1 x2 x3) M') : s_X12_judge M x1 x2 x3 P := by
  unfold s_X12_judge
  intro M1 e1
  have h1 : RMX M1 S := by rw [e1]; exact h.thrown
  replace hp := hp M1 (by rw [e1]; exact sC10) h1
  unfold sp_judge at hp
  have n12 : S.1.1 0 ≤ 12 := hw.1.1
  have n5 : S.1.1 1 ≤ 5 := hw.1.2.1
  have bad : ¬ (rg x3 8 ∧ rg x1 (S.1.1 1) ∧ rg x2 601) → P (-1) M1 := fun hb => by rw [if_neg hb] at hp; exact hp
  refine t_isDairy h1.1.2.1.1 (by omega) (fun g1 => b1 ?_) (fun g1 => b0 (bad (fun q => g1 q.2.1)))
  refine t_in (by decide) (n := 601) (by decide) (fun g2 => b1 ?_) (fun g2 => b0 (bad (fun q => g2 q.2.2)))
  refine t_in (by decide) (n := 8) (by decide) (fun g3 => c1 ?_) (fun g3 => c0 (bad (fun q => g3 q.1)))
  rw [if_pos ⟨g3, g1, g2⟩] at hp
  have hd := rg_lt g3
  have ld := rg_lt g1
  obtain ⟨w0, w1, w2, w3, w4, w5, -⟩ := hw.2.2 _ hd
  refine t_lacks h1.2.2.1 (fun _ => ⟨w0, w4⟩) (fun g => absurd g3 g) (fun _ q => gn (by decide) (by rw [if_pos q] at hp; exact hp)) (fun _ q q4 => gp (by decide) ?_) (fun _ q q2 => gn (by decide) (by rw [if_neg q, if_neg q2] at hp; exact hp))
  rw [if_neg (by omega), if_pos ⟨q, q4⟩] at hp
  obtain ⟨s4, s5, s39⟩ := (h1.2.2.1 _ hd).2.2 q
  refine Lz_rule (fun a => ∃ (k : Nat) (seen time : Int32) (l : Nat), k ≤ S.2.2.1 5 (ix x3) ∧ l ≤ S.1.1 0 ∧ a = (M1, seen, time, mI l, nI k) ∧ jd S.1 (ix x1) (S.2.2.2 (ix x3)) (S.2.2.1 5 (ix x3)) 0 0 x2 0 = jd S.1 (ix x1) (S.2.2.2 (ix x3)) (S.2.2.1 5 (ix x3) - k) k seen time l) (fun a => 80 - a.2.2.2.2.toNatClampNeg) ?_ ⟨0, 0, x2, 0, Nat.zero_le _, Nat.zero_le _, by rw [mI_0]; rfl, rfl⟩
  rintro K a ⟨k, seen, time, l, hk, hl, rfl, e⟩ hK
  show s_X12_judge_64 x1 x3 P K M1 seen time (mI l) (nI k)
  unfold s_X12_judge_64
  rw [s5, nI_leI (by omega) (by omega)]
  refine ⟨rg_in g3, fun z => ?_, fun z => ?_⟩
  · rw [e, show S.2.2.1 5 (ix x3) - k = 0 by omega] at hp; exact hp
  have ead : 80 * x3 + nI k = nI (80 * ix x3 + k) := by
    conv => lhs; rw [rg_nI g3 (by omega)]
    show nI 80 * nI (ix x3) + nI k = _
    rw [pk_mul, nI_add]
  rw [ead]
  refine ⟨vp_in_nI (by omega) (by omega), fun x9 e9 => ?_⟩
  rw [nI_clamp (by omega), s39 k (by omega), l_i] at e9
  rw [show S.2.2.1 5 (ix x3) - k = (S.2.2.1 5 (ix x3) - (k + 1)) + 1 by omega, jd_s, ← e9] at e
  rw [e] at hp
  refine t_isSchool h1.1.1.1 (by omega) (fun g => b1 ?_) (fun g => b0 (by rw [if_neg (fun y => g y.1)] at hp; exact hp))
  have ls := rg_lt g
  refine ⟨fun z2 => ?_, fun z2 => by rw [if_neg (fun y => y.2 z2)] at hp; exact hp⟩
  rw [if_pos ⟨g, z2⟩] at hp e
  have e10 : x9 = mI (ix x9 + 1) := by rw [mI_s]; exact rg_nI g (by omega)
  conv => arg 2; rw [rg_nI g1 (by omega)]
  conv => arg 4; rw [e10]
  refine tM_farOf hw.1 h1.1.1 h1.1.2.1 ld hl ls ?_
  intro u6 e6
  obtain ⟨i1, i2⟩ := ixp (b := 50) (B := 50) (k := 320) g rfl (by omega) (by omega)
  refine ⟨i1, ?_⟩
  rw [i2, (h1.1.1.2 _ ls).2.2.2.2.2.1]
  rw [← e6] at hp e
  refine ⟨fun z3 u5 e5 u8 e8 => ?_, fun z3 => by rw [if_neg z3] at hp; exact hp⟩
  rw [if_pos z3] at e
  rw [e8, nI_1, e5]
  refine hK _ ⟨k + 1, _, _, ix x9 + 1, by omega, ls, by rw [← e10], e⟩ ?_
  show 80 - (nI (k + 1)).toNatClampNeg < 80 - (nI k).toNatClampNeg
  rw [nI_clamp (by omega), nI_clamp (by omega)]
  omega
