/-! beside -/
theorem dist_abs2 {a b : Nat} (ha : a < 1000000) (hb : b < 1000000) : (if 0 ≤ nI a - nI b then nI a - nI b else 0 - (nI a - nI b)) = nI (dist a b) := by
  have t := pk_sub_toInt (a := a) (b := b) (by omega) (by omega)
  unfold dist
  by_cases q : a < b
  · have e : ¬ (0 : Int32) ≤ nI a - nI b := by rw [le_i, t0_i, t]; omega
    rw [if_neg e, if_pos q]
    rw [eq_i, Int32.toInt_sub, t0_i, t, nI_toInt (by omega)]
    rw [Int.bmod_eq_of_le (by omega) (by omega)]
    omega
  · have e : (0 : Int32) ≤ nI a - nI b := by rw [le_i, t0_i, t]; omega
    rw [if_pos e, if_neg q]
    exact pk_sub (by omega)
theorem hs3_le {A : Abs} {s d : Nat} (h : headOK A) (hs : s < 12) : hs3 A s d ≤ 600 := by
  have a := cn_le (age := 0) (d := d) (kn := 400) h hs (A.1 4) (Nat.le_refl _)
  have b := cn_le (age := 1) (d := d) (kn := 400) h hs (A.1 4) (Nat.le_refl _)
  have c := cn_le (age := 2) (d := d) (kn := 400) h hs (A.1 4) (Nat.le_refl _)
  unfold hs3
  omega
/-- a pair of schools: one in the plan, the other not, alike -/
abbrev bsT (A : Abs) (g : Nat → Int32) (n : Nat) (x : Int32) (a b : Nat) : Prop := (a < n ∧ g a = 1) ∧ (b < n ∧ g b = 0) ∧ A.2.1 0 a = A.2.1 0 b ∧ ¬ x < nI (dist (hs3 A a (A.2.1 26 0)) (hs3 A b (A.2.1 26 0)))
def bsJ (A : Abs) (g : Nat → Int32) (n : Nat) (x : Int32) (a : Nat) (p : Int32 × Int32) : Nat → Int32 × Int32
  | 0 => p
  | b + 1 => if bsT A g n x a b then ((bsJ A g n x a p b).1 + 1, (bsJ A g n x a p b).2 + (nI (A.2.1 6 (11 * a + 5)) - nI (A.2.1 6 (11 * b + 5)))) else bsJ A g n x a p b
def bsO (A : Abs) (g : Nat → Int32) (n : Nat) (x : Int32) : Nat → Int32 × Int32
  | 0 => (0, 0)
  | a + 1 => bsJ A g n x a (bsO A g n x a) (A.1 0)
theorem bsJ_s {A : Abs} {g : Nat → Int32} {n : Nat} {x : Int32} {a b : Nat} {p : Int32 × Int32} : bsJ A g n x a p (b + 1) = if bsT A g n x a b then ((bsJ A g n x a p b).1 + 1, (bsJ A g n x a p b).2 + (nI (A.2.1 6 (11 * a + 5)) - nI (A.2.1 6 (11 * b + 5)))) else bsJ A g n x a p b := rfl
def sp_beside (S : Sg) (x1 x2 x3 : Int32) : Int32 := if rg x1 8 ∧ rg x2 601 ∧ rg x3 2 then (if hd0 S (ix x1) = 0 then -1000000011 else if hd0 S (ix x1) = 2 ∧ S.2.2.1 4 (ix x1) = 0 then (if x3 = 0 then (bsO S.1 (S.2.2.2 (ix x1)) (S.2.2.1 5 (ix x1)) x2 (S.1.1 0)).2 else (bsO S.1 (S.2.2.2 (ix x1)) (S.2.2.1 5 (ix x1)) x2 (S.1.1 0)).1) else -1000000012) else -1000000001
theorem t_isAt {M : Mem} {S : Sg} {d a : Nat} {v : Int32} {P : Int32 → Mem → Prop} (h : RCS M S) (hd : d < 8) (h2 : hd0 S d = 2) (hn : S.2.2.1 5 d ≤ 80) (ha : a < 80) (p1 : (a < S.2.2.1 5 d ∧ S.2.2.2 d a = v) → P 1 M) (p0 : ¬ (a < S.2.2.1 5 d ∧ S.2.2.2 d a = v) → P 0 M) : s_X9_isAt d M (nI a) v P := by
  unfold s_X9_isAt
  refine t_hasPlace h hd h2 hn (fun g => b1 ⟨vp_in_nI ha (by omega), ?_⟩) (fun g => b0 (p0 (fun q => g (rg_of q.1 (by omega)))))
  have l : a < S.2.2.1 5 d := by
    have := rg_lt g
    rw [ix_nI (by omega)] at this
    exact this
  rw [nI_clamp (by omega), ((h d hd).2.2 h2).2.2 a ha]
  exact ⟨fun q => p0 (fun y => q y.2), fun q => p1 ⟨l, q⟩⟩
theorem tC_beside {M : Mem} {S : Sg} {x1 x2 x3 : Int32} {P : Int32 → Mem → Prop} (h : RCX M S) (hw : WfX S) (hp : P (sp_beside S x1 x2 x3) M) : s_X11_beside M x1 x2 x3 P := by
  unfold s_X11_beside
  unfold sp_beside at hp
  have n12 : S.1.1 0 ≤ 12 := hw.1.1
  have hday : S.1.2.1 26 0 ≤ 400 := hw.1.2.2.2.2.2.1
  have bad : ¬ (rg x1 8 ∧ rg x2 601 ∧ rg x3 2) → P (-1000000001) M := fun hb => by rw [if_neg hb] at hp; exact hp
  refine t_shelfAt (fun g1 => d1 (rg_lt g1) ?_) (fun g1 => d0 (bad (fun q => g1 q.1)))
  refine t_within (by decide) (n := 601) (by decide) (fun g2 => b1 ?_) (fun g2 => b0 (bad (fun q => g2 q.2.1)))
  refine t_within (by decide) (n := 2) (by decide) (fun g3 => c1 ?_) (fun g3 => c0 (bad (fun q => g3 q.2.2)))
  rw [if_pos ⟨g1, g2, g3⟩] at hp
  have hd := rg_lt g1
  obtain ⟨w0, w1, w2, w3, w4, w5, -⟩ := hw.2.2 _ hd
  have k11 : (-1000000000 : Int32) + -11 = -1000000011 := by decide
  have k12 : (-1000000000 : Int32) + -12 = -1000000012 := by decide
  refine t_byteRowRefusal h.2.2 hd w0 w4 (fun q => bn (by decide) (by rw [if_pos q] at hp; rw [k11]; exact hp)) (fun q q4 => b0 ?_) (fun q q2 => bn (by decide) (by rw [if_neg q, if_neg q2] at hp; rw [k12]; exact hp))
  rw [if_neg (by omega), if_pos ⟨q, q4⟩] at hp
  refine Lz_rule (fun y => ∃ a, a ≤ S.1.1 0 ∧ y = (M, (bsO S.1 (S.2.2.2 (ix x1)) (S.2.2.1 5 (ix x1)) x2 a).1, (bsO S.1 (S.2.2.2 (ix x1)) (S.2.2.1 5 (ix x1)) x2 a).2, nI a)) (fun y => 12 - y.2.2.2.toNatClampNeg) ?_ ⟨0, Nat.zero_le _, rfl⟩
  rintro K y ⟨a, ha, rfl⟩ hK
  show s_X11_beside_62 (ix x1) x2 x3 P K M (bsO S.1 (S.2.2.2 (ix x1)) (S.2.2.1 5 (ix x1)) x2 a).1 (bsO S.1 (S.2.2.2 (ix x1)) (S.2.2.1 5 (ix x1)) x2 a).2 (nI a)
  unfold s_X11_beside_62
  rw [h.1.1.1, nI_leI (by omega) (by omega)]
  refine ⟨fun z => ?_, fun z => ?_⟩
  · rw [show S.1.1 0 = a by omega] at hp
    exact ⟨fun z0 => by rw [if_neg z0] at hp; exact hp, fun z0 => by rw [if_pos z0] at hp; exact hp⟩
  have ha2 : a < S.1.1 0 := by omega
  refine Lz_rule (fun y => ∃ b, b ≤ S.1.1 0 ∧ y = (M, (bsJ S.1 (S.2.2.2 (ix x1)) (S.2.2.1 5 (ix x1)) x2 a (bsO S.1 (S.2.2.2 (ix x1)) (S.2.2.1 5 (ix x1)) x2 a) b).1, (bsJ S.1 (S.2.2.2 (ix x1)) (S.2.2.1 5 (ix x1)) x2 a (bsO S.1 (S.2.2.2 (ix x1)) (S.2.2.1 5 (ix x1)) x2 a) b).2, nI b)) (fun y => 12 - y.2.2.2.toNatClampNeg) ?_ ⟨0, Nat.zero_le _, rfl⟩
  rintro K2 y ⟨b, hb, rfl⟩ hK2
  show s_X11_beside_80 (ix x1) x2 x3 (nI a) P K K2 M (bsJ S.1 (S.2.2.2 (ix x1)) (S.2.2.1 5 (ix x1)) x2 a (bsO S.1 (S.2.2.2 (ix x1)) (S.2.2.1 5 (ix x1)) x2 a) b).1 (bsJ S.1 (S.2.2.2 (ix x1)) (S.2.2.1 5 (ix x1)) x2 a (bsO S.1 (S.2.2.2 (ix x1)) (S.2.2.1 5 (ix x1)) x2 a) b).2 (nI b)
  unfold s_X11_beside_80
  rw [h.1.1.1, nI_leI (by omega) (by omega)]
  refine ⟨fun z2 u eu => ?_, fun z2 => ?_⟩
  · rw [eu, nI_1, show b = S.1.1 0 by omega]
    refine hK _ ⟨a + 1, by omega, rfl⟩ ?_
    show 12 - (nI (a + 1)).toNatClampNeg < 12 - (nI a).toNatClampNeg
    rw [nI_clamp (by omega), nI_clamp (by omega)]
    omega
  have hb2 : b < S.1.1 0 := by omega
  have nx : ∀ v : Int32 × Int32, v = bsJ S.1 (S.2.2.2 (ix x1)) (S.2.2.1 5 (ix x1)) x2 a (bsO S.1 (S.2.2.2 (ix x1)) (S.2.2.1 5 (ix x1)) x2 a) (b + 1) → ∀ u : Int32, u = nI b + 1 → K2 (M, v.1, v.2, u) := by
    intro v ev u eu
    rw [ev, eu, nI_1]
    refine hK2 _ ⟨b + 1, by omega, rfl⟩ ?_
    show 12 - (nI (b + 1)).toNatClampNeg < 12 - (nI b).toNatClampNeg
    rw [nI_clamp (by omega), nI_clamp (by omega)]
    omega
  have no : ¬ bsT S.1 (S.2.2.2 (ix x1)) (S.2.2.1 5 (ix x1)) x2 a b → ∀ u : Int32, u = nI b + 1 → K2 (M, (bsJ S.1 (S.2.2.2 (ix x1)) (S.2.2.1 5 (ix x1)) x2 a (bsO S.1 (S.2.2.2 (ix x1)) (S.2.2.1 5 (ix x1)) x2 a) b).1, (bsJ S.1 (S.2.2.2 (ix x1)) (S.2.2.1 5 (ix x1)) x2 a (bsO S.1 (S.2.2.2 (ix x1)) (S.2.2.1 5 (ix x1)) x2 a) b).2, u) := fun hn => nx _ (by rw [bsJ_s, if_neg hn])
  refine t_isAt h.2.2 hd q w5 (by omega) (fun t1 => b1 ?_) (fun t1 => b0 (no (fun y => t1 y.1)))
  refine t_isAt h.2.2 hd q w5 (by omega) (fun t2 => b1 ?_) (fun t2 => b0 (no (fun y => t2 y.2.1)))
  unfold s_X10_areLike
  have sa := hw.1.shire ha2
  have sb' := hw.1.shire hb2
  have ca : (nI a).toNatClampNeg = a := nI_clamp (by omega)
  have cb : (nI b).toNatClampNeg = b := nI_clamp (by omega)
  rw [ca, cb, (h.1.1.2.1 a ha2).1, (h.1.1.2.1 b hb2).1, nI_eq (by omega) (by omega), h.1.2.2.1.1]
  refine ⟨vp_in_nI (by omega) (by omega), vp_in_nI (by omega) (by omega), fun t3 => b0 (no (fun y => t3 y.2.2.1)), fun t3 => ?_⟩
  refine tC_headsOfAll h.1.2.2.2.1 hw.1.heads (by omega) (by omega) ?_
  rw [h.1.2.2.1.1]
  refine tC_headsOfAll h.1.2.2.2.1 hw.1.heads (by omega) (by omega) ?_
  have l1 := hs3_le (d := S.1.2.1 26 0) hw.1.heads (show a < 12 by omega)
  have l2 := hs3_le (d := S.1.2.1 26 0) hw.1.heads (show b < 12 by omega)
  rw [dist_abs2 (by omega) (by omega)]
  refine ⟨fun t4 => b0 (no (fun y => y.2.2.2 t4)), fun t4 => b1 (fun u6 e6 => ?_)⟩
  have a11 : ∀ q : Nat, nI q * 11 + 5 = nI (11 * q + 5) := fun q => by
    show nI q * nI 11 + nI 5 = _
    rw [pk_mul, nI_add, Nat.mul_comm]
  rw [a11, a11]
  refine ⟨vp_in_nI (by omega) (by omega), vp_in_nI (by omega) (by omega), ?_⟩
  rw [nI_clamp (by omega), nI_clamp (by omega), (h.1.1.2.1 a ha2).2.2.2.2.2.2 5 (by omega), (h.1.1.2.1 b hb2).2.2.2.2.2.2 5 (by omega)]
  intro u7 e7
  rw [e6, e7]
  exact nx (_, _) (by rw [bsJ_s, if_pos ⟨t1, t2, t3, t4⟩])
