/-! crates: what they are worth -/
def pd7 (k m t : Nat) : Nat := if k = 0 then m else if k = 2 then m / 2 else if k = 4 ∨ k = 5 then t / 2 else if k = 6 then t - 1 else t
def pd (k n p : Nat) : Nat := pd7 k (n * p / 100) (n * p / 100 + (if n = 0 then 0 else 1))
def dk (k n : Nat) : Nat := if k = 0 then 3 * n else if k = 1 then n else if k = 2 then 2 * n else if k = 3 then n / 2 else 0
theorem half {m : Nat} (h : m < 2 ^ 31) : nI m / 2 = nI (m / 2) := pk_div (d := 2) h (by omega) (by omega)
theorem le0 {n : Nat} (h : n < 2 ^ 31) : nI n ≤ 0 ↔ n = 0 := by
  have := nI_leI (a := n) (b := 0) h (by omega)
  rw [show (0 : Int32) = nI 0 from rfl, this]
  omega
theorem ge0 {n : Nat} (h : n < 2 ^ 31) : 0 ≤ nI n := nI_pos' h
theorem t_paid18 {M : Mem} {k m t : Nat} {P : Int32 → Mem → Prop} (hk : k < 7) (hm : m < 2 ^ 31) (ht : t < 2 ^ 31) (hp : P (nI (pd7 k m t)) M) : s_X3_paid_18 (nI k) P M (nI m) (nI t) := by
  unfold s_X3_paid_18
  have q0 : nI k = 0 ↔ k = 0 := eqk (by omega) rfl (by omega)
  have q1 : nI k = 1 ↔ k = 1 := eqk (by omega) rfl (by omega)
  have q2 : nI k = 2 ↔ k = 2 := eqk (by omega) rfl (by omega)
  have q3 : nI k = 3 ↔ k = 3 := eqk (by omega) rfl (by omega)
  have q4 : nI k = 4 ↔ k = 4 := eqk (by omega) rfl (by omega)
  have q5 : nI k = 5 ↔ k = 5 := eqk (by omega) rfl (by omega)
  have q6 : nI k = 6 ↔ k = 6 := eqk (by omega) rfl (by omega)
  rw [q0, q1, q2, q3, q4, q5, q6, half hm, half ht, le0 ht]
  unfold pd7 at hp
  refine ⟨fun q => ?_, fun q => ?_, fun q => ?_, fun q => ?_, fun q => ?_, fun q => ?_, fun q => ⟨fun r => ?_, fun r => ?_⟩, fun a0 a1 a2 a3 a4 a5 a6 => by omega⟩
  · subst q; exact hp
  · subst q; exact hp
  · subst q; exact hp
  · subst q; exact hp
  · subst q; exact hp
  · subst q; exact hp
  · subst q; subst r; exact hp
  · subst q
    have : nI t - 1 = nI (t - 1) := pk_sub (a := t) (b := 1) (by omega)
    rw [this]; exact hp
theorem mp_div {n p : Nat} (hn : n ≤ 9999) (hp : p ≤ 999) : nI n * nI p / 100 = nI (n * p / 100) ∧ n * p ≤ 9989001 := by
  have h : n * p ≤ 9999 * 999 := Nat.mul_le_mul hn hp
  refine ⟨?_, by omega⟩
  rw [pk_mul]
  exact pk_div (d := 100) (by omega) (by omega) (by omega)
theorem tC_paid {M : Mem} {k n p : Nat} {P : Int32 → Mem → Prop} (hk : k < 7) (hn : n ≤ 9999) (hpp : p ≤ 999) (hp : P (nI (pd k n p)) M) : s_X3_paid M (nI k) (nI n) (nI p) P := by
  unfold s_X3_paid
  intro x3 e3
  obtain ⟨d1, d2⟩ := mp_div hn hpp
  rw [d1] at e3
  rw [e3, le0 (by omega)]
  unfold pd at hp
  refine ⟨fun q => t_paid18 hk (by omega) (by omega) (by rw [if_pos q] at hp; exact hp), fun q => ?_⟩
  rw [nI_1]
  exact t_paid18 hk (by omega) (by omega) (by rw [if_neg q] at hp; exact hp)
theorem t_paid14 {M : Mem} {k n p t : Nat} {y : Int32} {P : Int32 → Mem → Prop} (hk : k < 7) (hn : n ≤ 9999) (hpp : p ≤ 999) (ht : t ≤ 1) (hy : y = nI t) (hp : P (nI (pd7 k (n * p / 100) (n * p / 100 + t))) M) : s_X12_paid_14 (nI k) (nI n) (nI p) P M y (nI (n * p / 100)) := by
  unfold s_X12_paid_14 s_X12_paid_72 s_X12_hundreds
  obtain ⟨d1, d2⟩ := mp_div hn hpp
  intro x3 e3
  rw [hy, nI_add] at e3
  have q0 : nI k = 0 ↔ k = 0 := eqk (by omega) rfl (by omega)
  have q1 : nI k = 1 ↔ k = 1 := eqk (by omega) rfl (by omega)
  have q2 : nI k = 2 ↔ k = 2 := eqk (by omega) rfl (by omega)
  have q3 : nI k = 3 ↔ k = 3 := eqk (by omega) rfl (by omega)
  have q4 : nI k = 4 ↔ k = 4 := eqk (by omega) rfl (by omega)
  have q5 : nI k = 5 ↔ k = 5 := eqk (by omega) rfl (by omega)
  rw [q0, q1, q2, q3, q4, q5, d1, e3]
  dsimp only
  rw [half (by omega), half (by omega), le0 (by omega)]
  unfold pd7 at hp
  refine ⟨fun q => ?_, fun q => ?_, fun q => ?_, fun q => ?_, fun q => ?_, fun q => ?_, fun a0 a1 a2 a3 a4 a5 => ⟨fun r => ?_, fun r => ?_⟩⟩
  · subst q; exact hp
  · subst q; exact hp
  · subst q; exact hp
  · subst q; exact hp
  · subst q; exact hp
  · subst q; exact hp
  · have : k = 6 := by omega
    subst this
    rw [r] at hp
    exact hp
  · have : k = 6 := by omega
    subst this
    have : nI (n * p / 100 + t) - 1 = nI (n * p / 100 + t - 1) := pk_sub (a := n * p / 100 + t) (b := 1) (by omega)
    rw [this]; exact hp
theorem tM_paid {M : Mem} {k n p : Nat} {P : Int32 → Mem → Prop} (hk : k < 7) (hn : n ≤ 9999) (hpp : p ≤ 999) (hp : P (nI (pd k n p)) M) : s_X12_paid M (nI k) (nI n) (nI p) P := by
  unfold s_X12_paid
  show (nI n ≤ 0 → s_X12_paid_14 (nI k) (nI n) (nI p) P M 0 (nI n * nI p / 100)) ∧ (¬ nI n ≤ 0 → s_X12_paid_14 (nI k) (nI n) (nI p) P M 1 (nI n * nI p / 100))
  obtain ⟨d1, d2⟩ := mp_div hn hpp
  rw [d1, le0 (by omega)]
  unfold pd at hp
  exact ⟨fun q => t_paid14 hk hn hpp (t := 0) (by omega) rfl (by rw [if_pos q] at hp; exact hp), fun q => t_paid14 hk hn hpp (t := 1) (by omega) rfl (by rw [if_neg q] at hp; exact hp)⟩
theorem tC_drunk {M : Mem} {k n : Nat} {P : Int32 → Mem → Prop} (hk : k < 7) (hn : n ≤ 9999) (hp : P (nI (dk k n)) M) : s_X3_drunk M (nI k) (nI n) P := by
  unfold s_X3_drunk
  have q0 : nI k = 0 ↔ k = 0 := eqk (by omega) rfl (by omega)
  have q1 : nI k = 1 ↔ k = 1 := eqk (by omega) rfl (by omega)
  have q2 : nI k = 2 ↔ k = 2 := eqk (by omega) rfl (by omega)
  have q3 : nI k = 3 ↔ k = 3 := eqk (by omega) rfl (by omega)
  have e3 : 3 * nI n = nI (3 * n) := pk_mul 3 n
  have e2 : 2 * nI n = nI (2 * n) := pk_mul 2 n
  rw [q0, q1, q2, q3, half (by omega), e3, e2]
  unfold dk at hp
  refine ⟨fun q => ?_, fun q => ?_, fun q => ?_, fun q => ?_, fun a0 a1 a2 a3 => ?_⟩
  · subst q; exact hp
  · subst q; exact hp
  · subst q; exact hp
  · subst q; exact hp
  · rw [if_neg a0, if_neg a1, if_neg a2, if_neg a3] at hp; exact hp
theorem bn {A B : Prop} {x : Int32} (hx : ¬ x = 0) (b : B) : (x = 0 → A) ∧ (¬ x = 0 → B) := ⟨fun q => absurd q hx, fun _ => b⟩
theorem gn {A B : Prop} {x : Int32} (hx : ¬ 0 ≤ x) (b : B) : (0 ≤ x → A) ∧ (¬ 0 ≤ x → B) := ⟨fun q => absurd q hx, fun _ => b⟩
theorem gp {A B : Prop} {x : Int32} (hx : 0 ≤ x) (a : A) : (0 ≤ x → A) ∧ (¬ 0 ≤ x → B) := ⟨fun _ => a, fun q => absurd hx q⟩
/-! crate -/
def sp_crate (S : Sg) (x1 x2 x3 : Int32) : Int32 := if rg x1 8 ∧ rg x2 2 ∧ rg x3 1000 then (if hd0 S (ix x1) = 0 then -11 else if hd0 S (ix x1) = 2 then -12 else if x2 = 0 then nI (dk (S.2.2.1 1 (ix x1)) (S.2.2.1 2 (ix x1))) else nI (pd (S.2.2.1 1 (ix x1)) (S.2.2.1 2 (ix x1)) (ix x3))) else -1
theorem tC_crate {M : Mem} {S : Sg} {x1 x2 x3 : Int32} {P : Int32 → Mem → Prop} (h : RCX M S) (hw : WfX S) (hp : P (sp_crate S x1 x2 x3) M) : s_X11_crate M x1 x2 x3 P := by
  unfold s_X11_crate
  unfold sp_crate at hp
  have bad : ¬ (rg x1 8 ∧ rg x2 2 ∧ rg x3 1000) → P (-1) M := fun hb => by rw [if_neg hb] at hp; exact hp
  refine t_shelfAt (fun g1 => d1 (rg_lt g1) ?_) (fun g1 => d0 (bad (fun q => g1 q.1)))
  refine t_within (by decide) (n := 2) (by decide) (fun g2 => b1 ?_) (fun g2 => b0 (bad (fun q => g2 q.2.1)))
  refine t_within (by decide) (n := 1000) (by decide) (fun g3 => c1 ?_) (fun g3 => c0 (bad (fun q => g3 q.2.2)))
  rw [if_pos ⟨g1, g2, g3⟩] at hp
  have hd := rg_lt g1
  obtain ⟨w0, w1, w2, -⟩ := hw.2.2 _ hd
  refine t_crateRefusal h.2.2 hd w0 (fun q => bn (by decide) (by rw [if_pos q] at hp; exact hp)) (fun q => bn (by decide) (by rw [if_neg (by omega), if_pos q] at hp; exact hp)) (fun q => b0 ?_)
  rw [if_neg (by omega), if_neg (by omega)] at hp
  obtain ⟨a1, a2, a3⟩ := (h.2.2 _ hd).2.1 q
  rw [a1, a2]
  refine ⟨fun z => ?_, fun z => ?_⟩
  · rw [if_neg z] at hp
    conv => arg 4; rw [rg_nI g3 (by omega)]
    exact tC_paid (by omega) (by omega) (by have := rg_lt g3; omega) hp
  · rw [if_pos z] at hp
    exact tC_drunk (by omega) (by omega) hp
theorem tM_crate {M : Mem} {S : Sg} {x1 x2 x3 : Int32} {P : Int32 → Mem → Prop} (h : RMX M S) (hw : WfX S) (hp : ∀ M', sameC M M' → RMX M' S → P (sp_crate S x1 x2 x3) M') : s_X12_crate M x1 x2 x3 P := by
  unfold s_X12_crate
  intro M1 e1
  have h1 : RMX M1 S := by rw [e1]; exact h.thrown
  replace hp := hp M1 (by rw [e1]; exact sC10) h1
  unfold sp_crate at hp
  have bad : ¬ (rg x1 8 ∧ rg x2 2 ∧ rg x3 1000) → P (-1) M1 := fun hb => by rw [if_neg hb] at hp; exact hp
  refine t_in (by decide) (n := 8) (by decide) (fun g1 => b1 ?_) (fun g1 => b0 (bad (fun q => g1 q.1)))
  refine t_in (by decide) (n := 2) (by decide) (fun g2 => b1 ?_) (fun g2 => b0 (bad (fun q => g2 q.2.1)))
  refine t_in (by decide) (n := 1000) (by decide) (fun g3 => c1 ?_) (fun g3 => c0 (bad (fun q => g3 q.2.2)))
  rw [if_pos ⟨g1, g2, g3⟩] at hp
  have hd := rg_lt g1
  obtain ⟨w0, w1, w2, -⟩ := hw.2.2 _ hd
  refine t_wrongShelf h1.2.2.1 (fun _ => w0) (fun q => absurd g1 q) (fun _ q => gn (by decide) (by rw [if_pos q] at hp; exact hp)) (fun _ q => gn (by decide) (by rw [if_neg (by omega), if_pos q] at hp; exact hp)) (fun _ q => gp (by decide) ?_)
  rw [if_neg (by omega), if_neg (by omega)] at hp
  obtain ⟨a1, a2, a3⟩ := (h1.2.2.1 _ hd).2.1 q
  refine ⟨rg_in g1, fun x5 e5 => ?_⟩
  rw [a2] at e5
  refine ⟨fun z => ⟨rg_in g1, fun z84 e84 => ?_⟩, fun z => ⟨rg_in g1, ?_⟩⟩
  · have z0 : x2 = 0 := by
      rcases rg2 g2 with ⟨q, -⟩ | ⟨-, q, -⟩
      · exact q
      · exact absurd q z
    rw [if_pos z0] at hp
    rw [a1] at e84
    rw [e84, e5]
    exact tC_drunk (by omega) (by omega) hp
  · have z0 : ¬ x2 = 0 := by rw [z]; decide
    rw [if_neg z0] at hp
    rw [a1, e5]
    conv => arg 4; rw [rg_nI g3 (by omega)]
    exact tM_paid (by omega) (by omega) (by have := rg_lt g3; omega) hp
/-! row -/
def sp_row (S : Sg) (x1 x2 x3 : Int32) : Int32 × Sg := if rg x1 8 ∧ rg x2 3 ∧ x3.toInt ≤ 80 then (if x3.toInt < 0 then (-14, S) else (0, shU S (ix x1) (fun c => if c = 0 then 2 else if c = 4 then ix x2 else if c = 5 then ix x3 else S.2.2.1 c (ix x1)) (fun _ => 0))) else (-1, S)
theorem t80 : (80 : Int32).toInt = 80 := by decide
theorem tC_holdRow {M : Mem} {d : Nat} {x1 x2 : Int32} {P : Mem → Prop} (hp : ∀ M', (∀ c, c ≠ 7 → c ≠ 39 → M'.1 c = M.1 c) → M'.2 = M.2 → (∀ d', d' ≠ d → M'.1 7 d' = M.1 7 d' ∧ M'.1 39 d' = M.1 39 d') → M'.1 7 d 0 = 2 → M'.1 7 d 4 = x1 → M'.1 7 d 5 = x2 → (∀ j, j < 80 → M'.1 39 d j = 0) → P M') : s_X9_holdRow d M x1 x2 P := by
  unfold s_X9_holdRow
  intro Ma ea Mb eb Mc ec
  have f1 : ∀ c, c ≠ 7 → Mc.1 c = M.1 c := fun c hc => by rw [ec, wI_cc hc, eb, wI_cc hc, ea, wI_cc hc]
  have f2 : ∀ d', d' ≠ d → Mc.1 7 d' = M.1 7 d' := fun d' hd' => by rw [ec, wI_ni hd', eb, wI_ni hd', ea, wI_ni hd']
  have f3 : Mc.1 7 d 0 = 2 ∧ Mc.1 7 d 4 = x1 ∧ Mc.1 7 d 5 = x2 := by
    rw [ec, eb, ea]
    simp only [wI_at]
    simp
  have f4 : Mc.2 = M.2 := by rw [ec, eb, ea]; rfl
  refine Lz_rule (fun a => ∃ k, k ≤ 80 ∧ a.2 = nI k ∧ (∀ c, c ≠ 39 → a.1.1 c = Mc.1 c) ∧ (∀ d', d' ≠ d → a.1.1 39 d' = Mc.1 39 d') ∧ a.1.2 = Mc.2 ∧ ∀ j, j < k → a.1.1 39 d j = 0) (fun a => 80 - a.2.toNatClampNeg) ?_ ⟨0, by omega, rfl, fun _ _ => rfl, fun _ _ => rfl, rfl, fun j hj => absurd hj (by omega)⟩
  rintro K ⟨Mx, x⟩ ⟨k, hk, e, g1, g2, g3, g4⟩ hK
  dsimp only at e g1 g2 g3 g4
  show s_X9_holdRow_17 d P K Mx x
  unfold s_X9_holdRow_17
  rw [e]
  refine ⟨fun q => ?_, fun q => ⟨?_, fun My ey z ez => ?_⟩⟩
  · have := (nI_leI (a := 80) (b := k) (by omega) (by omega)).mp q
    have hk80 : k = 80 := by omega
    subst hk80
    refine hp Mx (fun c h1 h2 => (g1 c h2).trans (f1 c h1)) (g3.trans f4) (fun d' hd' => ⟨?_, ?_⟩) ?_ ?_ ?_ g4
    · rw [g1 7 (by omega)]; exact f2 d' hd'
    · rw [g2 d' hd', f1 39 (by omega)]
    · rw [g1 7 (by omega)]; exact f3.1
    · rw [g1 7 (by omega)]; exact f3.2.1
    · rw [g1 7 (by omega)]; exact f3.2.2
  · have hlt : k < 80 := Nat.lt_of_not_le fun q2 => q ((nI_leI (a := 80) (b := k) (by omega) (by omega)).mpr q2)
    exact vp_in_nI hlt (by omega)
  · have hlt : k < 80 := Nat.lt_of_not_le fun q2 => q ((nI_leI (a := 80) (b := k) (by omega) (by omega)).mpr q2)
    rw [nI_clamp (by omega)] at ey
    rw [ez, nI_1]
    refine hK _ ⟨k + 1, by omega, rfl, fun c hc => ?_, fun d' hd' => ?_, ?_, fun j hj => ?_⟩ ?_
    · rw [ey]; exact (wI_cc hc).trans (g1 c hc)
    · rw [ey]; exact (wI_ni hd').trans (g2 d' hd')
    · rw [ey]; exact g3
    · rw [ey]
      show (wI Mx 39 d k 0).1 39 d j = 0
      rw [wI_at]
      by_cases q3 : j = k
      · rw [if_pos ⟨rfl, rfl, q3⟩]
      · rw [if_neg (fun q4 => q3 q4.2.2)]; exact g4 j (by omega)
    · show 80 - (nI (k + 1)).toNatClampNeg < 80 - x.toNatClampNeg
      rw [e, nI_clamp (by omega), nI_clamp (by omega)]
      omega
theorem rg81 {x : Int32} (h1 : ¬ x.toInt < 0) (h2 : x.toInt ≤ 80) : rg x 81 := ⟨by omega, by omega⟩
theorem tC_row {M : Mem} {S : Sg} {x1 x2 x3 : Int32} {P : Int32 → Mem → Prop} (h : RCX M S) (hp : ∀ M', sameM M M' → RCX M' (sp_row S x1 x2 x3).2 → P (sp_row S x1 x2 x3).1 M') : s_X11_row M x1 x2 x3 P := by
  unfold s_X11_row
  have bad : ∀ v, sp_row S x1 x2 x3 = (v, S) → P v M := fun v hb => by
    have := hp M sameM.rf
    rw [hb] at this
    exact this h
  refine t_shelfAt (fun g1 => d1 (rg_lt g1) ?_) (fun g1 => d0 (bad _ (by unfold sp_row; rw [if_neg (fun q => g1 q.1)])))
  refine t_within (by decide) (n := 3) (by decide) (fun g2 => b1 ?_) (fun g2 => b0 (bad _ (by unfold sp_row; rw [if_neg (fun q => g2 q.2.1)])))
  refine ⟨fun q => ⟨fun r => ?_, fun r => bad _ ?_⟩, fun q => bad _ ?_⟩
  · rw [le_i, t80] at q
    rw [le_i, t0_i] at r
    have es : sp_row S x1 x2 x3 = (0, shU S (ix x1) (fun c => if c = 0 then 2 else if c = 4 then ix x2 else if c = 5 then ix x3 else S.2.2.1 c (ix x1)) (fun _ => 0)) := by unfold sp_row; rw [if_pos ⟨g1, g2, q⟩, if_neg (by omega)]
    rw [es] at hp
    refine tC_holdRow (fun M' e1 e2 e3 e4 e5 e6 e7 => ?_)
    refine hp M' (sameM.shelf e1 (by rw [e2])) (h.shelf (h.2.2.up e3 (by rw [e4]; rfl) (fun q => absurd q (by simp)) (fun _ => ⟨?_, ?_, fun j hj => e7 j hj⟩)) e1 (by rw [e2]))
    · rw [e5]; exact rg_nI g2 (by omega)
    · rw [e6]; exact rg_nI (rg81 (by omega) q) (by omega)
  · rw [le_i, t80] at q
    rw [le_i, t0_i] at r
    unfold sp_row; rw [if_pos ⟨g1, g2, q⟩, if_pos (by omega)]
  · rw [le_i, t80] at q
    unfold sp_row; rw [if_neg (fun z => q z.2.2)]
theorem tM_row {M : Mem} {S : Sg} {x1 x2 x3 : Int32} {P : Int32 → Mem → Prop} (h : RMX M S) (hp : ∀ M', sameC M M' → RMX M' (sp_row S x1 x2 x3).2 → P (sp_row S x1 x2 x3).1 M') : s_X12_row M x1 x2 x3 P := by
  unfold s_X12_row
  intro M1 e1
  have h1 : RMX M1 S := by rw [e1]; exact h.thrown
  replace hp : ∀ M', sameC M1 M' → RMX M' (sp_row S x1 x2 x3).2 → P (sp_row S x1 x2 x3).1 M' := fun M' a b => hp M' (sameC.tr (by rw [e1]; exact sC10) a) b
  have bad : ∀ v, sp_row S x1 x2 x3 = (v, S) → P v M1 := fun v hb => by
    have := hp M1 sameC.rf
    rw [hb] at this
    exact this h1
  refine t_in (by decide) (n := 8) (by decide) (fun g1 => b1 ?_) (fun g1 => b0 (bad _ (by unfold sp_row; rw [if_neg (fun q => g1 q.1)])))
  refine t_in (by decide) (n := 3) (by decide) (fun g2 => b1 ?_) (fun g2 => b0 (bad _ (by unfold sp_row; rw [if_neg (fun q => g2 q.2.1)])))
  refine ⟨fun q => ⟨fun r => ?_, fun r => bad _ ?_⟩, fun q => bad _ ?_⟩
  · rw [le_i, t80] at q
    rw [le_i, t0_i] at r
    have es : sp_row S x1 x2 x3 = (0, shU S (ix x1) (fun c => if c = 0 then 2 else if c = 4 then ix x2 else if c = 5 then ix x3 else S.2.2.1 c (ix x1)) (fun _ => 0)) := by unfold sp_row; rw [if_pos ⟨g1, g2, q⟩, if_neg (by omega)]
    rw [es] at hp
    have hd := rg_lt g1
    refine ⟨rg_in g1, fun Ma ea => ⟨rg_in g1, fun Mb eb => ⟨rg_in g1, fun Mc ec => ?_⟩⟩⟩
    have f1 : ∀ c, ¬ (72 ≤ c ∧ c ≤ 77) → Mc.1 c = M1.1 c := fun c hc => by rw [ec, wI_cc (by omega), eb, wI_cc (by omega), ea, wI_cc (by omega)]
    have f2 : ∀ d', d' ≠ ix x1 → ∀ c, 72 ≤ c → c ≤ 77 → Mc.1 c 0 d' = M1.1 c 0 d' := fun d' hd' c _ _ => by
      rw [ec, eb, ea]
      simp only [wI_at]
      rw [if_neg (fun q => hd' q.2.2), if_neg (fun q => hd' q.2.2), if_neg (fun q => hd' q.2.2)]
    have f3 : Mc.1 72 0 (ix x1) = 2 ∧ Mc.1 76 0 (ix x1) = x2 ∧ Mc.1 77 0 (ix x1) = x3 := by
      rw [ec, eb, ea]
      simp only [wI_at]
      simp
    have f4 : Mc.2 = M1.2 := by rw [ec, eb, ea]; rfl
    refine Lz_rule (fun a => ∃ k, k ≤ 80 ∧ a.2 = nI k ∧ a.1.1 = Mc.1 ∧ a.1.2.2 = M1.2.2 ∧ (∀ c, c ≠ 78 → a.1.2.1 c = M1.2.1 c) ∧ (∀ j, ¬ (80 * ix x1 ≤ j ∧ j < 80 * ix x1 + 80) → a.1.2.1 78 0 j = M1.2.1 78 0 j) ∧ ∀ j, j < k → a.1.2.1 78 0 (80 * ix x1 + j) = 0) (fun a => 80 - a.2.toNatClampNeg) ?_ ⟨0, by omega, rfl, rfl, by rw [f4], fun _ _ => by rw [f4], fun _ _ => by rw [f4], fun j hj => absurd hj (by omega)⟩
    rintro K ⟨Mx, x⟩ ⟨k, hk, e, i1, i2, i3, i4, i5⟩ hK
    dsimp only at e i1 i2 i3 i4 i5
    show s_X12_row_63 x1 P K Mx x
    unfold s_X12_row_63
    rw [e]
    refine ⟨fun q => ?_, fun q => ?_⟩
    · have := (nI_leI (a := 80) (b := k) (by omega) (by omega)).mp q
      have hk80 : k = 80 := by omega
      subst hk80
      have g : ∀ c, ¬ (72 ≤ c ∧ c ≤ 77) → Mx.1 c = M1.1 c := fun c hc => by rw [i1]; exact f1 c hc
      refine hp Mx (sameC.shelf g (fun c hc => i3 c (fun q => hc (Or.inl q))) i2) (h1.shelf (h1.2.2.1.up (fun d' hd' c a b => by rw [i1]; exact f2 d' hd' c a b) (fun d' hd' j hj => i4 _ (by omega)) ?_ (fun q => absurd q (by simp)) (fun _ => ⟨?_, ?_, fun j hj => ?_⟩)) g)
      · rw [i1, f3.1]; rfl
      · rw [i1, f3.2.1]; exact rg_nI g2 (by omega)
      · rw [i1, f3.2.2]; exact rg_nI (rg81 (by omega) (by omega)) (by omega)
      · rw [i5 j hj]; rfl
    · have hlt : k < 80 := Nat.lt_of_not_le fun q2 => q ((nI_leI (a := 80) (b := k) (by omega) (by omega)).mpr q2)
      have ead : 80 * x1 + nI k = nI (80 * ix x1 + k) := by
        conv => lhs; rw [rg_nI g1 (by omega)]
        rw [show (80 : Int32) = nI 80 from rfl, pk_mul, nI_add]
      rw [ead]
      refine ⟨vp_in_nI (by omega) (by omega), fun My ey z ez => ?_⟩
      rw [nI_clamp (by omega)] at ey
      rw [ez, nI_1]
      refine hK _ ⟨k + 1, by omega, rfl, ?_, ?_, fun c hc => ?_, fun j hj => ?_, fun j hj => ?_⟩ ?_
      · rw [ey]; exact i1
      · rw [ey]; exact i2
      · rw [ey]; exact (wJ_nc hc).trans (i3 c hc)
      · rw [ey]
        show (wJ Mx 78 0 (80 * ix x1 + k) 0).2.1 78 0 j = _
        rw [wJ_at, if_neg (fun q4 => by omega)]; exact i4 j hj
      · rw [ey]
        show (wJ Mx 78 0 (80 * ix x1 + k) 0).2.1 78 0 (80 * ix x1 + j) = 0
        rw [wJ_at]
        by_cases q3 : j = k
        · rw [if_pos ⟨rfl, rfl, by omega⟩]
        · rw [if_neg (fun q4 => q3 (by omega))]; exact i5 j (by omega)
      · show 80 - (nI (k + 1)).toNatClampNeg < 80 - x.toNatClampNeg
        rw [e, nI_clamp (by omega), nI_clamp (by omega)]
        omega
  · rw [le_i, t80] at q
    rw [le_i, t0_i] at r
    unfold sp_row; rw [if_pos ⟨g1, g2, q⟩, if_pos (by omega)]
  · rw [le_i, t80] at q
    unfold sp_row; rw [if_neg (fun z => q z.2.2)]
