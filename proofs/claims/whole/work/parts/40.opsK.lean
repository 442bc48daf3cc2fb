/-! how far; judge -/
def dist (a b : Nat) : Nat := if a < b then b - a else a - b
theorem dist_abs {a b : Nat} (ha : a < 100) (hb : b < 100) : (if 0 ≤ nI a - nI b then nI a - nI b else 0 - (nI a - nI b)) = nI (dist a b) ∧ dist a b < 100 := by
  have t := pk_sub_toInt (a := a) (b := b) (by omega) (by omega)
  unfold dist
  by_cases q : a < b
  · have e : ¬ (0 : Int32) ≤ nI a - nI b := by rw [le_i, t0_i, t]; omega
    rw [if_neg e, if_pos q]
    refine ⟨?_, by omega⟩
    rw [eq_i, Int32.toInt_sub, t0_i, t, nI_toInt (by omega)]
    rw [Int.bmod_eq_of_le (by omega) (by omega)]
    omega
  · have e : (0 : Int32) ≤ nI a - nI b := by rw [le_i, t0_i, t]; omega
    rw [if_pos e, if_neg q]
    exact ⟨pk_sub (by omega), by omega⟩
theorem tM_apart {M : Mem} {a b : Nat} {P : Int32 → Mem → Prop} (ha : a < 1000000) (hb : b < 1000000) (hp : P (nI (dist a b)) M) : s_X12_apart M (nI a) (nI b) P := by
  unfold s_X12_apart
  rw [nI_leI (by omega) (by omega)]
  unfold dist at hp
  refine ⟨fun q => ?_, fun q => ?_⟩
  · rw [if_neg (by omega)] at hp
    rw [pk_sub q]; exact hp
  · rw [if_pos (by omega)] at hp
    rw [pk_sub (by omega)]; exact hp
/-- where one is: at the dairy (0), or at a school (1 more) -/
def px (A : Abs) (dy l : Nat) : Nat := if l = 0 then A.2.1 7 dy else A.2.1 1 (l - 1)
def py (A : Abs) (dy l : Nat) : Nat := if l = 0 then A.2.1 8 dy else A.2.1 2 (l - 1)
def farN (A : Abs) (dy l m : Nat) : Nat := dist (px A dy l) (px A dy m) + dist (py A dy l) (py A dy m)
theorem Wf_px {A : Abs} (h : Wf A) {dy l : Nat} (hd : dy < A.1 1) (hl : l ≤ A.1 0) : px A dy l < 100 ∧ py A dy l < 100 := by
  unfold px py
  by_cases q : l = 0
  · rw [if_pos q, if_pos q]
    have := h.2.2.2.2.2.2.2.1 dy hd
    exact ⟨this.1, this.2.1⟩
  · rw [if_neg q, if_neg q]
    have := h.2.2.2.2.2.2.1 (l - 1) (by omega)
    exact ⟨this.2.1, this.2.2.1⟩
theorem tC_far {M : Mem} {a b c d : Nat} {P : Int32 → Mem → Prop} (ha : a < 100) (hb : b < 100) (hc : c < 100) (hd : d < 100) (hp : P (nI (dist a c + dist b d)) M) : s_X11_far M (nI a) (nI b) (nI c) (nI d) P := by
  unfold s_X11_far
  rw [(dist_abs ha hc).1, (dist_abs hb hd).1, nI_add]
  exact hp
theorem mI_ge {l : Nat} (h : l < 2 ^ 31) : 0 ≤ mI l ↔ l ≠ 0 := by rw [le_i, t0_i, mI_t h]; omega
theorem mI_pred {l : Nat} (h : l ≠ 0) : mI l = nI (l - 1) := by
  conv => lhs; rw [show l = (l - 1) + 1 by omega]
  exact mI_s _
theorem tM_farOf {M : Mem} {A : Abs} {dy l m : Nat} {P : Int32 → Mem → Prop} (hw : Wf A) (hs : RMs 44 M A) (hd : RMd 44 M A) (hdy : dy < A.1 1) (hl : l ≤ A.1 0) (hm : m ≤ A.1 0) (hp : P (nI (farN A dy l m)) M) : s_X12_farOf M (nI dy) (mI l) (mI m) P := by
  have n12 := hw.1
  have n5 : A.1 1 ≤ 5 := hw.2.1
  obtain ⟨dx, dyy, -⟩ := hd.2 dy hdy
  have vd : vp_in (nI dy) 5 := vp_in_nI (by omega) (by omega)
  have cd : (nI dy).toNatClampNeg = dy := nI_clamp (by omega)
  have ex : ∀ l, l ≠ 0 → l ≤ A.1 0 → vp_in (mI l) 12 ∧ M.1 48 0 (mI l).toNatClampNeg = nI (px A dy l) ∧ M.1 49 0 (mI l).toNatClampNeg = nI (py A dy l) := by
    intro l h0 h1
    obtain ⟨-, s1, s2, -⟩ := hs.2 (l - 1) (by omega)
    rw [mI_pred h0, nI_clamp (by omega)]
    unfold px py
    rw [if_neg h0, if_neg h0]
    exact ⟨vp_in_nI (by omega) (by omega), s1, s2⟩
  have e0 : ∀ l, ¬ l ≠ 0 → M.1 50 0 dy = nI (px A dy l) ∧ M.1 51 0 dy = nI (py A dy l) := by
    intro l h0
    have : l = 0 := by omega
    unfold px py
    rw [if_pos this, if_pos this]
    exact ⟨dx, dyy⟩
  obtain ⟨pl, pl2⟩ := Wf_px hw hdy hl
  obtain ⟨pm, pm2⟩ := Wf_px hw hdy hm
  have fin : s_X12_farOf_82 P M (nI (px A dy l)) (nI (py A dy l)) (nI (px A dy m)) (nI (py A dy m)) := by
    unfold s_X12_farOf_82
    refine tM_apart (by omega) (by omega) (tM_apart (by omega) (by omega) ?_)
    rw [nI_add]; exact hp
  unfold s_X12_farOf s_X12_farOf_19 s_X12_farOf_40 s_X12_farOf_61
  rw [mI_ge (by omega), mI_ge (by omega), cd]
  by_cases ql : l ≠ 0
  · obtain ⟨v1, v2, v3⟩ := ex l ql hl
    rw [v2, v3]
    by_cases qm : m ≠ 0
    · obtain ⟨u1, u2, u3⟩ := ex m qm hm
      rw [u2, u3]
      exact ⟨fun _ => ⟨v1, fun _ => ⟨v1, fun _ => ⟨u1, fun _ => ⟨u1, fin⟩, fun z => absurd qm z⟩, fun z => absurd qm z⟩, fun z => absurd ql z⟩, fun z => absurd ql z⟩
    · obtain ⟨u2, u3⟩ := e0 m qm
      rw [u2, u3]
      exact ⟨fun _ => ⟨v1, fun _ => ⟨v1, fun z => absurd z qm, fun _ => ⟨vd, fun z => absurd z qm, fun _ => ⟨vd, fin⟩⟩⟩, fun z => absurd ql z⟩, fun z => absurd ql z⟩
  · obtain ⟨v2, v3⟩ := e0 l ql
    by_cases qm : m ≠ 0
    · obtain ⟨u1, u2, u3⟩ := ex m qm hm
      rw [u2, u3, v2, v3]
      exact ⟨fun z => absurd z ql, fun _ => ⟨vd, fun z => absurd z ql, fun _ => ⟨vd, fun _ => ⟨u1, fun _ => ⟨u1, fin⟩, fun z => absurd qm z⟩, fun z => absurd qm z⟩⟩⟩
    · have l0 : l = 0 := by omega
      have m0 : m = 0 := by omega
      subst l0
      subst m0
      rw [v2, v3]
      exact ⟨fun z => absurd rfl z, fun _ => ⟨vd, fun z => absurd rfl z, fun _ => ⟨vd, fun z => absurd rfl z, fun _ => ⟨vd, fun z => absurd rfl z, fun _ => ⟨vd, fin⟩⟩⟩⟩⟩
theorem t_lacks {M : Mem} {S : Sg} {x : Int32} {P : Int32 → Mem → Prop} (h : RMS M S) (hw : rg x 8 → hd0 S (ix x) ≤ 2 ∧ S.2.2.1 4 (ix x) ≤ 2) (n : ¬ rg x 8 → P (-1) M) (z : rg x 8 → hd0 S (ix x) = 0 → P (-11) M) (r : rg x 8 → hd0 S (ix x) = 2 → S.2.2.1 4 (ix x) = 0 → P 0 M) (c : rg x 8 → hd0 S (ix x) ≠ 0 → ¬ (hd0 S (ix x) = 2 ∧ S.2.2.1 4 (ix x) = 0) → P (-12) M) : s_X12_lacks M x 0 P := by
  unfold s_X12_lacks
  refine t_in (by decide) (n := 8) (by decide) (fun g => c1 ⟨rg_in g, ?_⟩) (fun g => c0 (n g))
  obtain ⟨w0, w4⟩ := hw g
  have e0 := eqk (a := hd0 S (ix x)) (K := 0) (k := 0) (by omega) rfl (by omega)
  have e2 := eqk (a := hd0 S (ix x)) (K := 2) (k := 2) (by omega) rfl (by omega)
  have e4 := eqk (a := S.2.2.1 4 (ix x)) (K := 0) (k := 0) (by omega) rfl (by omega)
  rw [(h _ (rg_lt g)).1, e0, e2]
  refine ⟨fun q => ⟨rg_in g, fun q2 => c g q (fun y => q2 y.1), fun q2 => ⟨rg_in g, ?_⟩⟩, fun q => z g q⟩
  rw [((h _ (rg_lt g)).2.2 q2).1, e4]
  exact ⟨fun q4 => r g q2 q4, fun q4 => c g q (fun y => q4 y.2)⟩
