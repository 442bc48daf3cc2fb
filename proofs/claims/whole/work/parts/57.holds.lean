/-! WHAT AN ACT SAYS of a school and a day: its fields, its steps -/
def fld (A : Abs) (s age d k : Nat) : Int32 := nI (if k = 0 then age else if k = 1 then A.2.1 0 s else if k = 2 then d / 30 % 12 else if k = 3 then d % 7 else if k = 4 then d / 7 else if k = 5 then A.2.1 12 (3 * (d / 30 % 12) + 1) else if k = 6 then hs3 A s d else if k = 7 then A.2.1 1 s else if k = 8 then A.2.1 2 s else s)
theorem month_i {d : Nat} (hd : d ≤ 400) : nI d / 30 - nI d / 30 / 12 * 12 = nI (d / 30 % 12) := by
  have e1 : nI d / 30 = nI (d / 30) := pk_div (d := 30) (by omega) (by omega) (by omega)
  rw [e1]
  exact pk_rem (d := 12) (by omega) (by omega) (by omega)
theorem week_i {d : Nat} (hd : d ≤ 400) : nI d / 7 = nI (d / 7) ∧ nI d - nI d / 7 * 7 = nI (d % 7) := ⟨pk_div (d := 7) (by omega) (by omega) (by omega), pk_rem (d := 7) (by omega) (by omega) (by omega)⟩
theorem tC_monthFact {w : Nat} {M : Mem} {A : Abs} {d k : Nat} {P : Int32 → Mem → Prop} (h : RCm w M A) (hd : d ≤ 400) (hk : k < 3) (hp : P (nI (A.2.1 12 (3 * (d / 30 % 12) + k))) M) : s_X10_monthFact w M (nI d) (nI k) P := by
  unfold s_X10_monthFact s_X11_monthOf
  rw [month_i hd]
  have e : nI (d / 30 % 12) * 3 + nI k = nI (3 * (d / 30 % 12) + k) := by
    have : nI (d / 30 % 12) * 3 = nI (d / 30 % 12 * 3) := pk_mul _ 3
    rw [this, nI_add, Nat.mul_comm]
  dsimp only
  rw [e]
  refine ⟨vp_in_nI (by omega) (by omega), ?_⟩
  rw [nI_clamp (by omega), h.2 _ _ (by omega) hk]
  exact hp
/-- what the class's fields and stack leave -/
def eqW (w : Nat) (M M' : Mem) : Prop := (∀ c, c ≠ 13 → c ≠ 14 → M'.1 c = M.1 c) ∧ (∀ c i, i ≠ w → M'.1 c i = M.1 c i) ∧ M'.2 = M.2
theorem eqW.rf {w : Nat} {M : Mem} : eqW w M M := ⟨fun _ _ _ => rfl, fun _ _ _ => rfl, rfl⟩
theorem eqW.tr {w : Nat} {M M1 M2 : Mem} (h : eqW w M M1) (g : eqW w M1 M2) : eqW w M M2 := ⟨fun c a b => (g.1 c a b).trans (h.1 c a b), fun c i a => (g.2.1 c i a).trans (h.2.1 c i a), g.2.2.trans h.2.2⟩
theorem eqW.w {w : Nat} {M : Mem} {c j : Nat} {v : Int32} (h : c = 13 ∨ c = 14) : eqW w M (wI M c w j v) := ⟨fun c' a b => wI_cc (by omega), fun c' i a => wI_ni a, rfl⟩
theorem eqW.RC {w v : Nat} {M M' : Mem} {A : Abs} (h : eqW w M M') (g : RC v M A) : RC v M' A :=
  g.fr (fun c hc => by rw [h.1 c (by unfold pK at hc; omega) (by unfold pK at hc; omega)]) (by rw [h.1 1 (by omega) (by omega)]) (fun c hc => h.1 c (by omega) (by omega)) (by rw [h.2.2])
theorem eqW.sameM {w : Nat} {M M' : Mem} (h : eqW w M M') : sameM M M' := ⟨fun c hc => h.1 c (by unfold cK at hc; omega) (by unfold cK at hc; omega), by rw [h.2.2]⟩
theorem eqW.RCX {w : Nat} {M M' : Mem} {S : Sg} (h : eqW w M M') (g : RCX M S) : RCX M' S :=
  ⟨h.RC g.1, g.2.1.fr (by rw [h.1 0 (by omega) (by omega)]) (fun B _ hB => h.RC hB), g.2.2.fr (fun d => by rw [h.1 7 (by omega) (by omega)]) (fun d => by rw [h.1 39 (by omega) (by omega)])⟩
theorem tC_fields {w : Nat} {M : Mem} {A : Abs} {s age d : Nat} {P : Mem → Prop} (h : RC w M A) (hk : headOK A) (hs : s < A.1 0) (hn : A.1 0 ≤ 12) (hd : d ≤ 400) (hp : ∀ M', eqW w M M' → (∀ k, k < 10 → M'.1 13 w k = fld A s age d k) → P M') : s_X10_readFields w M (nI s) (nI age) (nI d) P := by
  unfold s_X10_readFields
  have vs : vp_in (nI s) 12 := vp_in_nI (by omega) (by omega)
  intro M0 m0
  have q0 : eqW w M M0 := by rw [m0]; exact eqW.w (Or.inl rfl)
  obtain ⟨a15, a16, a17, -⟩ := (q0.RC h).1.2.1 s hs
  rw [nI_clamp (by omega), a15]
  refine ⟨vs, fun M1 m1 => ?_⟩
  have q1 : eqW w M0 M1 := by rw [m1]; exact eqW.w (Or.inl rfl)
  unfold s_X11_monthOf
  rw [month_i hd, (week_i hd).2, (week_i hd).1]
  intro M2 m2 M3 m3 M4 m4
  have q2 : eqW w M1 M2 := by rw [m2]; exact eqW.w (Or.inl rfl)
  have q3 : eqW w M2 M3 := by rw [m3]; exact eqW.w (Or.inl rfl)
  have q4 : eqW w M3 M4 := by rw [m4]; exact eqW.w (Or.inl rfl)
  have p4 : eqW w M M4 := q0.tr (q1.tr (q2.tr (q3.tr q4)))
  refine tC_monthFact (k := 1) (p4.RC h).2.2.1 hd (by omega) (fun M5 m5 => ?_)
  have q5 : eqW w M4 M5 := by rw [m5]; exact eqW.w (Or.inl rfl)
  have p5 : eqW w M M5 := p4.tr q5
  refine tC_headsOfAll (p5.RC h).2.2.2.1 hk (by omega) (by omega) (fun M6 m6 => ?_)
  have q6 : eqW w M5 M6 := by rw [m6]; exact eqW.w (Or.inl rfl)
  have p6 : eqW w M M6 := p5.tr q6
  refine ⟨vs, fun M7 m7 => ⟨vs, fun M8 m8 M9 m9 => ?_⟩⟩
  have q7 : eqW w M6 M7 := by rw [m7]; exact eqW.w (Or.inl rfl)
  have p7 : eqW w M M7 := p6.tr q7
  have q8 : eqW w M7 M8 := by rw [m8]; exact eqW.w (Or.inl rfl)
  have q9 : eqW w M8 M9 := by rw [m9]; exact eqW.w (Or.inl rfl)
  obtain ⟨-, b16, -, -⟩ := (p6.RC h).1.2.1 s hs
  obtain ⟨-, -, b17, -⟩ := (p7.RC h).1.2.1 s hs
  rw [b16] at m7
  rw [b17] at m8
  refine hp M9 (p7.tr (q8.tr q9)) (fun k hk10 => ?_)
  rw [m9, m8, m7, m6, m5, m4, m3, m2, m1, m0]
  simp only [wI_at]
  rcases (show k = 0 ∨ k = 1 ∨ k = 2 ∨ k = 3 ∨ k = 4 ∨ k = 5 ∨ k = 6 ∨ k = 7 ∨ k = 8 ∨ k = 9 by omega) with rfl | rfl | rfl | rfl | rfl | rfl | rfl | rfl | rfl | rfl <;> simp [fld]
/-! the steps -/
theorem stp_congr {f g : Nat → Int32} (h : ∀ k, k < 10 → f k = g k) (st : List Int32) (x : Int32) : stp f st x = stp g st x := by
  unfold stp
  by_cases h0 : 0 ≤ x
  · rw [if_pos h0, if_pos h0]
    by_cases h1 : 0 ≤ (x - 10000).toInt ∧ (x - 10000).toInt < 10
    · rw [if_pos h1, if_pos h1, h _ (rg_lt (n := 10) h1)]
    · rw [if_neg h1, if_neg h1]
  · rw [if_neg h0, if_neg h0]
theorem evS_congr {f g : Nat → Int32} (h : ∀ k, k < 10 → f k = g k) (L : List Int32) : evS f L = evS g L := by
  have key : ∀ (L : List Int32) st, L.foldl (stp f) st = L.foldl (stp g) st := by
    intro L
    induction L with
    | nil => intro st; rfl
    | cons x L ih => intro st; show L.foldl (stp f) (stp f st x) = L.foldl (stp g) (stp g st x); rw [stp_congr h, ih]
  unfold evS
  rw [key]
def evT (st : List Int32) : Bool := match st with
  | [a] => decide (a = 1)
  | _ => false
theorem evS_T {f : Nat → Int32} {L : List Int32} : evS f L = evT (L.foldl (stp f) []) := rfl
theorem evT_ne {st : List Int32} (h : ¬ st.length = 1) : evT st = false := by
  cases st with
  | nil => rfl
  | cons a st => cases st with
    | nil => exact absurd rfl h
    | cons b st => rfl
def stI (R : Nat → Int32) : List Int32 → Prop
  | [] => True
  | v :: V => R V.length = v ∧ stI R V
theorem stI.fr {R R' : Nat → Int32} : ∀ {V : List Int32}, stI R V → (∀ j, j < V.length → R' j = R j) → stI R' V
  | [], _, _ => trivial
  | v :: V, h, e => ⟨by rw [e V.length (by show V.length < V.length + 1; omega)]; exact h.1, stI.fr h.2 (fun j hj => e j (by show j < V.length + 1; omega))⟩
theorem neg_eq {x k m : Int32} (h : m = -k) : -x = k ↔ x = m := by
  rw [h]
  constructor
  · intro e; rw [← e]; exact (Int32.neg_neg).symm
  · intro e; rw [e]; exact Int32.neg_neg
theorem tC_joined {M : Mem} {x a b : Int32} {P : Int32 → Mem → Prop} (hp : P (if x = -43 then a + b else if x = -45 then a - b else if x = -60 then (if a < b then 1 else 0) else if x = -62 then (if b < a then 1 else 0) else if x = -61 then (if a = b then 1 else 0) else if x = -38 then a &&& b else a ||| b) M) : s_X0_joined M (-x) a b P := by
  unfold s_X0_joined
  have n38 : -x = 38 ↔ x = -38 := neg_eq (by decide)
  have n43 : -x = 43 ↔ x = -43 := neg_eq (by decide)
  have n45 : -x = 45 ↔ x = -45 := neg_eq (by decide)
  have n60 : -x = 60 ↔ x = -60 := neg_eq (by decide)
  have n61 : -x = 61 ↔ x = -61 := neg_eq (by decide)
  have n62 : -x = 62 ↔ x = -62 := neg_eq (by decide)
  have lt1 : ∀ {u v : Int32}, v ≤ u → ¬ u < v := fun h g => by rw [le_i] at h; rw [lt_i] at g; omega
  have lt2 : ∀ {u v : Int32}, ¬ v ≤ u → u < v := fun h => by rw [le_i] at h; rw [lt_i]; omega
  rw [n38, n43, n45, n60, n61, n62]
  refine ⟨fun e => ?_, fun e => ?_, fun e => ?_, fun e => ⟨fun c => ?_, fun c => ?_⟩, fun e => ⟨fun c => ?_, fun c => ?_⟩, fun e => ⟨fun c => ?_, fun c => ?_⟩, fun e1 e2 e3 e4 e5 e6 => ?_⟩
  · rw [e] at hp; exact hp
  · rw [e] at hp; exact hp
  · rw [e] at hp; exact hp
  · rw [e] at hp
    have : P (if a < b then 1 else 0) M := hp
    rw [if_neg (lt1 c)] at this; exact this
  · rw [e] at hp
    have : P (if a < b then 1 else 0) M := hp
    rw [if_pos (lt2 c)] at this; exact this
  · rw [e] at hp
    have : P (if a = b then 1 else 0) M := hp
    rw [if_neg c] at this; exact this
  · rw [e] at hp
    have : P (if a = b then 1 else 0) M := hp
    rw [if_pos c] at this; exact this
  · rw [e] at hp
    have : P (if b < a then 1 else 0) M := hp
    rw [if_neg (lt1 c)] at this; exact this
  · rw [e] at hp
    have : P (if b < a then 1 else 0) M := hp
    rw [if_pos (lt2 c)] at this; exact this
  · rw [if_neg e2, if_neg e3, if_neg e4, if_neg e6, if_neg e5, if_neg e1] at hp; exact hp
theorem tC_isMet {w ac : Nat} {M : Mem} {L : List Int32} {P : Int32 → Mem → Prop} (hl : L.length = M.2.2 3 0 ac) (hl2 : L.length ≤ 80) (hL : ∀ j, j < L.length → M.1 1001 ac j = L.getD j 0) (hp : ∀ M', eqW w M M' → M'.1 13 = M.1 13 → P (bI (evS (M.1 13 w) L)) M') : s_X0_isMet ac w M P := by
  unfold s_X0_isMet
  refine Lz_rule (fun a => ∃ k st, k ≤ L.length ∧ a.2.2 = nI k ∧ a.2.1 = nI st.length ∧ st.length ≤ k ∧ eqW w M a.1 ∧ a.1.1 13 = M.1 13 ∧ stI (a.1.1 14 w) st ∧ (L.drop k).foldl (stp (M.1 13 w)) st = L.foldl (stp (M.1 13 w)) []) (fun a => L.length - a.2.2.toNatClampNeg) ?_ ⟨0, [], Nat.zero_le _, rfl, rfl, Nat.le_refl _, eqW.rf, rfl, trivial, rfl⟩
  rintro K ⟨M1, x3, x4⟩ ⟨k, st, hk, e4, e3, hst, r1, r13, r14, ef⟩ hK
  dsimp only at e4 e3 r1 r13 r14
  show s_X0_isMet_5 ac w P K M1 x3 x4
  unfold s_X0_isMet_5
  have eo : Int32.ofNat (M1.2.2 3 0 ac) = nI L.length := by rw [r1.2.2, ← hl]; rfl
  have en : M1.2.2 3 0 ac = L.length := by rw [r1.2.2, ← hl]
  rw [eo, en, e4, e3, nI_leI (by omega) (by omega)]
  refine ⟨fun q => ?_, fun q => ⟨vp_in_nI (by omega) (by omega), fun x ex => ?_⟩⟩
  · have kk : k = L.length := by omega
    rw [kk, List.drop_length] at ef
    have ef2 : st = L.foldl (stp (M.1 13 w)) [] := ef
    have ev : evS (M.1 13 w) L = evT st := by rw [evS_T, ← ef2]
    have p0 := hp M1 r1 r13
    have e1 : nI st.length = 1 ↔ st.length = 1 := eqk (by omega) rfl (by omega)
    rw [e1]
    refine ⟨fun z => ?_, fun z => ?_⟩
    · have : evS (M.1 13 w) L = false := by rw [ev]; exact evT_ne z
      rw [this] at p0; exact p0
    · obtain ⟨a, rfl⟩ : ∃ a, st = [a] := List.length_eq_one_iff.mp z
      have ha : M1.1 14 w 0 = a := r14.1
      rw [ha]
      have ev2 : evS (M.1 13 w) L = decide (a = 1) := ev
      refine ⟨fun y => ?_, fun y => ?_⟩
      · rw [ev2, decide_eq_false y] at p0; exact p0
      · rw [ev2, decide_eq_true y] at p0; exact p0
  · have hx : x = L.getD k 0 := by rw [ex, r1.1 1001 (by omega) (by omega), nI_clamp (by omega)]; exact hL k (by omega)
    have hd : L.drop k = x :: L.drop (k + 1) := by
      rw [List.drop_eq_getElem_cons (by omega), hx, List.getD_eq_getElem?_getD, List.getElem?_eq_getElem (by omega)]
      rfl
    rw [hd] at ef
    have ef2 : (L.drop (k + 1)).foldl (stp (M.1 13 w)) (stp (M.1 13 w) st x) = L.foldl (stp (M.1 13 w)) [] := ef
    have next : ∀ (M2 : Mem) (y3 y4 : Int32), y4 = nI k + 1 → y3 = nI (stp (M.1 13 w) st x).length → (stp (M.1 13 w) st x).length ≤ k + 1 → eqW w M M2 → M2.1 13 = M.1 13 → stI (M2.1 14 w) (stp (M.1 13 w) st x) → K (M2, y3, y4) := by
      intro M2 y3 y4 t1 t2 t3 t4 t5 t6
      rw [t1, nI_1]
      refine hK _ ⟨k + 1, _, by omega, rfl, t2, t3, t4, t5, t6, ef2⟩ ?_
      show L.length - (nI (k + 1)).toNatClampNeg < L.length - x4.toNatClampNeg
      rw [e4, nI_clamp (by omega), nI_clamp (by omega)]; omega
    have up : ∀ (M2 : Mem) (i : Nat) (v : Int32), M2 = wI M1 14 w i v → eqW w M M2 ∧ M2.1 13 = M.1 13 ∧ ∀ j, M2.1 14 w j = if j = i then v else M1.1 14 w j := by
      intro M2 i v m2
      refine ⟨r1.tr (by rw [m2]; exact eqW.w (Or.inr rfl)), by rw [m2, wI_cc (by omega)]; exact r13, fun j => ?_⟩
      rw [m2, wI_at]
      by_cases z : j = i
      · rw [if_pos ⟨rfl, rfl, z⟩, if_pos z]
      · rw [if_neg (fun y => z y.2.2), if_neg z]
    refine ⟨fun z => ?_, fun z => ⟨fun y => ?_, fun y => ?_⟩⟩
    · -- a sign
      have nz : ¬ 0 ≤ x := fun y => by rw [le_i] at y; rw [lt_i] at z; omega
      have small : st.length < 2 → x ≠ -33 ∨ st = [] → stp (M.1 13 w) st x = st := by
        intro s1 s2
        unfold stp
        rw [if_neg nz]
        cases st with
        | nil => rfl
        | cons a st => cases st with
          | nil =>
            show (if x = -33 then _ else _) = _
            rw [if_neg (s2.elim (fun y => y) (fun y => by cases y))]
          | cons b st => simp at s1; omega
      have step77 : x ≠ -33 ∨ st = [] → s_X0_isMet_77 ac w P K M1 (nI st.length) (nI k) x := by
        intro hx33
        unfold s_X0_isMet_77
        have e2 : nI st.length < 2 ↔ st.length < 2 := nI_ltI (b := 2) (by omega) (by omega)
        rw [e2]
        refine ⟨fun s1 u eu => next M1 _ _ eu (by rw [small s1 hx33]) (by rw [small s1 hx33]; omega) r1 r13 (by rw [small s1 hx33]; exact r14), fun s1 y3 ey3 => ?_⟩
        cases st with
        | nil => exact absurd (by show 0 < 2; omega) s1
        | cons b st => cases st with
          | nil => exact absurd (by show 1 < 2; omega) s1
          | cons a r =>
            have hx' : x ≠ -33 := hx33.elim (fun y => y) (fun y => by cases y)
            have hst' : r.length + 2 ≤ k := hst
            have eS : stp (M.1 13 w) (b :: a :: r) x = _ := stp_op nz hx'
            have ey : y3 = nI (r.length + 1) := by rw [ey3]; exact pk_m1 (r.length + 1)
            have ey2 : y3 - 1 = nI r.length := by rw [ey]; exact nI_pred _
            have vb : M1.1 14 w (r.length + 1) = b := r14.1
            have va : M1.1 14 w r.length = a := r14.2.1
            rw [ey2, ey, nI_clamp (by omega), nI_clamp (by omega), va, vb]
            refine ⟨vp_in_nI (by omega) (by omega), vp_in_nI (by omega) (by omega), tC_joined ⟨rfl, vp_in_nI (by omega) (by omega), fun M2 m2 u eu => ?_⟩⟩
            obtain ⟨u1, u2, u3⟩ := up M2 _ _ m2
            refine next M2 _ _ eu (by rw [eS]; rfl) (by rw [eS]; show r.length + 1 ≤ k + 1; omega) u1 u2 ?_
            rw [eS]
            exact ⟨by rw [u3, if_pos rfl], r14.2.2.fr (fun j hj => by rw [u3, if_neg (by omega)])⟩
      unfold s_X0_isMet_50
      refine ⟨fun y => step77 (Or.inl y), fun y => ?_⟩
      have e1 : nI st.length < 1 ↔ st.length < 1 := nI_ltI (b := 1) (by omega) (by omega)
      rw [e1]
      refine ⟨fun s1 => step77 (Or.inr (List.length_eq_zero_iff.mp (by omega))), fun s1 => ?_⟩
      cases st with
      | nil => exact absurd (by show 0 < 1; omega) s1
      | cons a r =>
        have hst' : r.length + 1 ≤ k := hst
        have ep : nI (a :: r).length - 1 = nI r.length := nI_pred _
        have va : M1.1 14 w r.length = a := r14.1
        have eS : stp (M.1 13 w) (a :: r) x = (1 - a) :: r := by rw [y]; exact stp_not
        rw [ep, nI_clamp (by omega), va]
        refine ⟨vp_in_nI (by omega) (by omega), vp_in_nI (by omega) (by omega), fun M2 m2 u eu => ?_⟩
        obtain ⟨u1, u2, u3⟩ := up M2 _ _ m2
        refine next M2 _ _ eu (by rw [eS]; rfl) (by rw [eS]; show r.length + 1 ≤ k + 1; omega) u1 u2 ?_
        rw [eS]
        exact ⟨by rw [u3, if_pos rfl], r14.2.fr (fun j hj => by rw [u3, if_neg (by omega)])⟩
    · have : (80 : Int32) ≤ nI st.length ↔ 80 ≤ st.length := nI_leI (a := 80) (by omega) (by omega)
      rw [this] at y; omega
    · have nz : 0 ≤ x := by rw [le_i]; rw [lt_i] at z; omega
      unfold s_X0_valueOf
      have eS : stp (M.1 13 w) st x = (if 0 ≤ (x - 10000).toInt ∧ (x - 10000).toInt < 10 then (M.1 13 w) (ix (x - 10000)) else x) :: st := by
        unfold stp; rw [if_pos nz]
      have fin : ∀ v : Int32, v = (if 0 ≤ (x - 10000).toInt ∧ (x - 10000).toInt < 10 then (M.1 13 w) (ix (x - 10000)) else x) → M1.2.2 = M1.2.2 ∧ vp_in (nI st.length) 80 ∧ ∀ Mm43 : Mem, Mm43 = wI M1 14 w ((nI st.length).toNatClampNeg) v → ∀ x3_44 : Int32, x3_44 = nI st.length + (1 : Int32) → ∀ x4_104 : Int32, x4_104 = nI k + (1 : Int32) → K (Mm43, x3_44, x4_104) := by
        intro v ev
        refine ⟨rfl, vp_in_nI (by omega) (by omega), fun M2 m2 u eu u2 eu2 => ?_⟩
        rw [nI_clamp (by omega)] at m2
        obtain ⟨v1, v2, v3⟩ := up M2 _ _ m2
        refine next M2 _ _ eu2 (by rw [eu, nI_1, eS]; rfl) (by rw [eS]; show st.length + 1 ≤ k + 1; omega) v1 v2 ?_
        rw [eS, ← ev]
        exact ⟨by rw [v3, if_pos rfl], r14.fr (fun j hj => by rw [v3, if_neg (by omega)])⟩
      intro y2 ey2
      have t10 : (10 : Int32).toInt = 10 := by decide
      rw [lt_i, le_i, t0_i, t10, ey2]
      refine ⟨fun c => fin _ (by rw [if_neg (by omega)]), fun c => ⟨fun c2 => fin _ (by rw [if_neg (by omega)]), fun c2 => ?_⟩⟩
      have hr : rg (x - 10000) 10 := ⟨by omega, by omega⟩
      refine ⟨rg_in hr, ?_⟩
      rw [r13]
      exact fin _ (by rw [if_pos ⟨hr.1, hr.2⟩])
theorem tC_meets {w : Nat} {M : Mem} {A : Abs} {a : Nat} {f : Nat → Int32} {P : Int32 → Mem → Prop} (h : RCa w M A) (n16 : A.1 2 ≤ 16) (ha : a < A.1 2) (hf : ∀ k, k < 10 → M.1 13 w k = f k) (hp : ∀ M', eqW w M M' → M'.1 13 = M.1 13 → P (bI (A.2.2 a f)) M') : s_X1_meets w M (nI a) P := by
  obtain ⟨⟨id, i1, i2, i3, i4, i5, L, l1, l2, l3, l4⟩, i6⟩ := h.2.1 a ha
  unfold s_X1_meets
  have vi : vp_in (nI a) 16 := vp_in_nI (by omega) (by omega)
  refine t_has1 h.1 (by omega) (fun _ => b1 ?_) (fun g => absurd (rg_of ha (by omega)) g)
  rw [nI_clamp (by omega)]
  refine ⟨vi, fun q => by omega, fun a13 e13 => ?_⟩
  have : a13 = id := by omega
  subst this
  refine ⟨i2, ?_⟩
  unfold s_X1_meets_18b
  refine tC_isMet l1 l2 l3 (fun M1 r1 r2 => ?_)
  have k := hp M1 r1 r2
  rw [← l4, ← evS_congr hf] at k
  rw [bI_0]
  exact ⟨fun z => by rw [z] at k; exact k, fun z => by
    have z2 : evS (M.1 13 w) L = true := by simpa using z
    rw [z2] at k; exact k⟩
/-- whether a purpose holds -/
def hld (A : Abs) (p s age d : Nat) : Bool := if frN A p (A.2.1 0 s) d (A.1 2) = 0 then decide (p = 0) else A.2.2 (frN A p (A.2.1 0 s) d (A.1 2) - 1) (fld A s (if p = 0 then age else 0) d)
theorem frN_cou {A : Abs} {p sh d n : Nat} : frN A p sh d n ≠ 0 → frN A p sh d n - 1 < n ∧ cou A (frN A p sh d n - 1) p sh d := by
  induction n with
  | zero => intro h; exact absurd rfl h
  | succ n ih =>
    rw [frN_s]
    split
    · rename_i q; intro _; exact ⟨by omega, q.1⟩
    · intro h; have := ih h; exact ⟨by omega, this.2⟩
/-- what is asked of a state in which acts are read -/
def acOK (A : Abs) : Prop := headOK A ∧ actOK A ∧ A.1 0 ≤ 12 ∧ ∀ s, s < A.1 0 → A.2.1 0 s < 4
theorem Wf.ac {A : Abs} (h : Wf A) : acOK A := ⟨h.heads, h.acts, h.1, fun s hs => h.shire hs⟩
theorem tC_pH {w : Nat} {M : Mem} {A : Abs} {p s age d : Nat} {P : Int32 → Mem → Prop} (h : RC w M A) (hk : acOK A) (hpp : p < 3) (hs : s < A.1 0) (hd : d ≤ 400) (hp : ∀ M', eqW w M M' → P (bI (hld A p s age d)) M') : s_X10_purposeHolds w M (nI p) (nI s) (nI age) (nI d) P := by
  obtain ⟨k1, k2, k3, k4⟩ := hk
  have n16 := k2.1
  unfold s_X10_purposeHolds
  obtain ⟨a15, -⟩ := h.1.2.1 s hs
  rw [nI_clamp (by omega), a15]
  refine ⟨vp_in_nI (by omega) (by omega), tC_inForce h.2.2.2.2.2 k2 hpp (k4 s hs) hd ?_⟩
  have hle : frN A p (A.2.1 0 s) d (A.1 2) ≤ A.1 2 := frN_le
  have p0 : nI p = 0 ↔ p = 0 := eqk (by omega) rfl (by omega)
  rw [mI_ge (by omega), p0]
  have eh : hld A p s age d = if frN A p (A.2.1 0 s) d (A.1 2) = 0 then decide (p = 0) else A.2.2 (frN A p (A.2.1 0 s) d (A.1 2) - 1) (fld A s (if p = 0 then age else 0) d) := rfl
  refine ⟨fun z => ?_, fun z => ?_⟩
  · rw [if_neg z] at eh
    rw [mI_pred z]
    have main : ∀ (g : Nat), g = (if p = 0 then age else 0) → s_X10_purposeHolds_47 w (nI d) P M (nI (frN A p (A.2.1 0 s) d (A.1 2) - 1)) (nI g) (nI s) := by
      intro g eg
      unfold s_X10_purposeHolds_47
      refine tC_fields h k1 hs k3 hd (fun M1 r1 r2 => tC_meets (r1.RC h).2.2.2.2.2 n16 (by omega) r2 (fun M2 r3 r4 => ⟨bI_B _, ?_⟩))
      rw [eg, ← eh]
      exact hp M2 (r1.tr r3)
    exact ⟨fun y => main 0 (by rw [if_neg y]), fun y => main age (by rw [if_pos y])⟩
  · rw [if_pos (Decidable.not_not.mp z)] at eh
    have k := hp M eqW.rf
    rw [eh] at k
    exact ⟨fun y => by rw [decide_eq_false y] at k; exact k, fun y => by rw [decide_eq_true y] at k; exact k⟩
/-! the reference's side -/
def tx (A : Abs) (a p : Nat) : Nat := if p < A.2.1 21 a then A.2.1 22 (80 * a + p) else 999
/-- the texts of the acts say what the acts say -/
def LK (A : Abs) : Prop := letOK A ∧ ∀ a, a < A.1 2 → (∀ j, j < A.2.1 21 a → A.2.1 22 (80 * a + j) < 256) ∧ ∃ L, (pAct (tx A a) (A.2.1 21 a)).2 = some L ∧ ∀ f, evS f L = A.2.2 a f
theorem tx_E (A : Abs) (a : Nat) : cE (tx A a) (A.2.1 21 a) := fun p hp => if_neg (by omega)
theorem fld_ne {x : Nat} (h : fldN x ≠ 0) : x < 256 := by
  unfold fldN at h
  repeat' split at h
  all_goals omega
theorem tM_field {M : Mem} {A : Abs} {s age d x : Nat} {P : Int32 → Mem → Prop} (hR : RM 44 M A) (hk : headOK A) (hs : s < A.1 0) (hn : A.1 0 ≤ 12) (hd : d ≤ 400) (e29 : M.1 10 0 29 = nI s) (e30 : M.1 10 0 30 = nI age) (e31 : M.1 10 0 31 = nI d) (hx : fldN x ≠ 0) (hp : P (fld A s age d (fldN x - 1)) M) : s_X12_field M (nI x) P := by
  have hl := fld_ne hx
  unfold s_X12_field s_X12_field_204
  have vs : vp_in (nI s) 12 := vp_in_nI (by omega) (by omega)
  obtain ⟨a47, a48, a49, -⟩ := hR.1.2 s hs
  have em := month_i hd
  obtain ⟨ew, er⟩ := week_i hd
  rw [e29, e30, e31, nI_clamp (show s < 2 ^ 31 by omega), a47, a48, a49, er, ew]
  have eqx : ∀ k : Nat, k < 256 → (nI x = nI k ↔ x = k) := fun k hk => nI_eq (by omega) (by omega)
  refine ⟨?_, ?_, ?_, ?_, ?_, ?_, ?_, ?_, ?_, ?_, ?_, ?_, ?_, ?_, ?_, ?_, ?_, ?_, ?_, ?_, ?_, ?_, ?_, ?_, ?_, ?_⟩
  · intro q
    have hx2 : x = 97 := (eqx 97 (by omega)).mp q
    subst hx2
    exact hp
  · intro q
    have hx2 : x = 98 := (eqx 98 (by omega)).mp q
    subst hx2
    exact absurd (by decide) hx
  · intro q
    have hx2 : x = 99 := (eqx 99 (by omega)).mp q
    subst hx2
    exact hp
  · intro q
    have hx2 : x = 100 := (eqx 100 (by omega)).mp q
    subst hx2
    exact hp
  · intro q
    have hx2 : x = 101 := (eqx 101 (by omega)).mp q
    subst hx2
    exact absurd (by decide) hx
  · intro q
    have hx2 : x = 102 := (eqx 102 (by omega)).mp q
    subst hx2
    exact absurd (by decide) hx
  · intro q
    have hx2 : x = 103 := (eqx 103 (by omega)).mp q
    subst hx2
    exact absurd (by decide) hx
  · intro q
    have hx2 : x = 104 := (eqx 104 (by omega)).mp q
    subst hx2
    unfold s_X12_monthOf
    rw [em]
    have e120 : (120 : Int32) + nI (d / 30 % 12) = nI (120 + d / 30 % 12) := nI_add 120 _
    dsimp only
    rw [e120]
    refine ⟨vp_in_nI (by omega) (by omega), ?_⟩
    have a := hR.2.2.1.2 (d / 30 % 12) 1 (by omega) (by omega)
    rw [nI_clamp (by omega), a]
    exact hp
  · intro q
    have hx2 : x = 105 := (eqx 105 (by omega)).mp q
    subst hx2
    exact absurd (by decide) hx
  · intro q
    have hx2 : x = 106 := (eqx 106 (by omega)).mp q
    subst hx2
    exact absurd (by decide) hx
  · intro q
    have hx2 : x = 107 := (eqx 107 (by omega)).mp q
    subst hx2
    exact absurd (by decide) hx
  · intro q
    have hx2 : x = 108 := (eqx 108 (by omega)).mp q
    subst hx2
    exact absurd (by decide) hx
  · intro q
    have hx2 : x = 109 := (eqx 109 (by omega)).mp q
    subst hx2
    unfold s_X12_monthOf
    rw [em]
    exact hp
  · intro q
    have hx2 : x = 110 := (eqx 110 (by omega)).mp q
    subst hx2
    exact tM_headsOf hR.2.2.2.1 hk (by omega) (by omega) hp
  · intro q
    have hx2 : x = 111 := (eqx 111 (by omega)).mp q
    subst hx2
    exact absurd (by decide) hx
  · intro q
    have hx2 : x = 112 := (eqx 112 (by omega)).mp q
    subst hx2
    exact absurd (by decide) hx
  · intro q
    have hx2 : x = 113 := (eqx 113 (by omega)).mp q
    subst hx2
    exact absurd (by decide) hx
  · intro q
    have hx2 : x = 114 := (eqx 114 (by omega)).mp q
    subst hx2
    exact absurd (by decide) hx
  · intro q
    have hx2 : x = 115 := (eqx 115 (by omega)).mp q
    subst hx2
    exact ⟨vs, hp⟩
  · intro q
    have hx2 : x = 116 := (eqx 116 (by omega)).mp q
    subst hx2
    exact absurd (by decide) hx
  · intro q
    have hx2 : x = 117 := (eqx 117 (by omega)).mp q
    subst hx2
    exact absurd (by decide) hx
  · intro q
    have hx2 : x = 118 := (eqx 118 (by omega)).mp q
    subst hx2
    exact absurd (by decide) hx
  · intro q
    have hx2 : x = 119 := (eqx 119 (by omega)).mp q
    subst hx2
    exact hp
  · intro q
    have hx2 : x = 120 := (eqx 120 (by omega)).mp q
    subst hx2
    exact ⟨vs, hp⟩
  · intro q
    have hx2 : x = 121 := (eqx 121 (by omega)).mp q
    subst hx2
    exact ⟨vs, hp⟩
  · intro n97 n98 n99 n100 n101 n102 n103 n104 n105 n106 n107 n108 n109 n110 n111 n112 n113 n114 n115 n116 n117 n118 n119 n120 n121
    have z97 : ¬ x = 97 := fun q => n97 ((eqx 97 (by omega)).mpr q)
    have z99 : ¬ x = 99 := fun q => n99 ((eqx 99 (by omega)).mpr q)
    have z100 : ¬ x = 100 := fun q => n100 ((eqx 100 (by omega)).mpr q)
    have z104 : ¬ x = 104 := fun q => n104 ((eqx 104 (by omega)).mpr q)
    have z109 : ¬ x = 109 := fun q => n109 ((eqx 109 (by omega)).mpr q)
    have z110 : ¬ x = 110 := fun q => n110 ((eqx 110 (by omega)).mpr q)
    have z115 : ¬ x = 115 := fun q => n115 ((eqx 115 (by omega)).mpr q)
    have z119 : ¬ x = 119 := fun q => n119 ((eqx 119 (by omega)).mpr q)
    have z120 : ¬ x = 120 := fun q => n120 ((eqx 120 (by omega)).mpr q)
    have z121 : ¬ x = 121 := fun q => n121 ((eqx 121 (by omega)).mpr q)
    unfold fldN at hx
    rw [if_neg z97, if_neg z115, if_neg z109, if_neg z100, if_neg z119, if_neg z104, if_neg z110, if_neg z120, if_neg z121, if_neg z99] at hx
    exact absurd rfl hx
theorem tM_doesHold {M : Mem} {A : Abs} {a s age d : Nat} {P : Int32 → Mem → Prop} (hR : RM 44 M A) (hk : acOK A) (hl : LK A) (ha : a < A.1 2) (hs : s < A.1 0) (hd : d ≤ 400) (hp : ∀ M', eqV M M' → P (bI (A.2.2 a (fld A s (if A.2.1 20 a = 0 then age else 0) d))) M') : s_X12_doesHold M (nI a) (nI s) (nI age) (nI d) P := by
  obtain ⟨k1, k2, k3, k4⟩ := hk
  have n16 := k2.1
  obtain ⟨w1, w2, w3, w4, w5⟩ := k2.2 a ha
  obtain ⟨l1, l2⟩ := hl.1 a ha
  obtain ⟨lb, L, lL, lE⟩ := hl.2 a ha
  obtain ⟨i1, i2, i3, i4, i5⟩ := hR.2.2.2.2.2.2 a ha
  unfold s_X12_doesHold
  intro M1 m1 M2 m2
  have e80 : 80 * nI a = nI (80 * a) := pk_mul 80 a
  rw [e80] at m2
  have q1 : eqV M M1 := by rw [m1]; exact eqV.w (by omega)
  have q2 : eqV M1 M2 := by rw [m2]; exact eqV.w (by omega)
  refine ⟨vp_in_nI (by omega) (by omega), fun M3 m3 M4 m4 => ?_⟩
  rw [nI_clamp (by omega), (q1.tr q2).1 58 (by omega) (by omega) (by omega), i1] at m3
  have q3 : eqV M2 M3 := by rw [m3]; exact eqV.w (by omega)
  have q4 : eqV M3 M4 := by rw [m4]; exact eqV.w (by omega)
  have p4 : eqV M M4 := q1.tr (q2.tr (q3.tr q4))
  have i0 := i5 0 (by omega)
  rw [Nat.add_zero, l2] at i0
  rw [e80, nI_clamp (by omega), p4.1 57 (by omega) (by omega) (by omega), i0]
  have hlt := letter_lt (A.2.1 20 a)
  have e101 : nI (letter (A.2.1 20 a)) = 101 ↔ A.2.1 20 a = 0 := by
    have : nI (letter (A.2.1 20 a)) = 101 ↔ letter (A.2.1 20 a) = 101 := eqk (by omega) rfl (by omega)
    rw [this]
    exact letter_eq (p := A.2.1 20 a) (q := 0) w4 (by omega)
  rw [e101]
  refine ⟨vp_in_nI (by omega) (by omega), ?_⟩
  have main : ∀ g : Nat, g = (if A.2.1 20 a = 0 then age else 0) → s_X12_doesHold_48 (nI d) P M4 (nI g) := by
    intro g eg
    unfold s_X12_doesHold_48
    intro M5 m5 M6 m6
    have q5 : eqV M4 M5 := by rw [m5]; exact eqV.w (by omega)
    have q6 : eqV M5 M6 := by rw [m6]; exact eqV.w (by omega)
    have p6 : eqV M M6 := p4.tr (q5.tr q6)
    have j : ∀ j, M6.1 10 0 j = if j = 31 then nI d else if j = 30 then nI g else if j = 29 then nI s else if j = 25 then nI (A.2.1 21 a) else if j = 24 then nI (80 * a) else if j = 23 then 0 else M.1 10 0 j := by
      intro j
      rw [m6, m5, m4, m3, m2, m1]
      simp only [wI_at]
      simp
    have T : TxM M6 (tx A a) (A.2.1 21 a) := ⟨by rw [j]; rfl, w5, fun p hp => by unfold tx; rw [if_pos hp]; exact lb p hp, tx_E A a, 80 * a, by rw [j]; rfl, Or.inl ⟨by rw [j]; rfl, by omega, fun p hp => by
      rw [p6.1 57 (by omega) (by omega) (by omega), i5 p hp]; unfold tx; rw [if_pos hp]⟩⟩
    have F : FlM M6 (fld A s g d) := Or.inr ⟨by rw [j]; rfl, fun M' x P' e hx hp' => tM_field (p6.tr e.V |>.RM (by omega) hR) k1 hs k3 hd (by rw [e.2.1 0 29 (by omega), j]; rfl) (by rw [e.2.1 0 30 (by omega), j]; rfl) (by rw [e.2.1 0 31 (by omega), j]; rfl) hx hp'⟩
    refine rm_Act T F (fun e M7 r1 r2 r3 r4 => by rw [lL] at e; cases e) (fun B e M7 r1 r2 => ⟨bI_B _, ?_⟩)
    have : B = L := Option.some.inj (e.symm.trans lL)
    rw [this, lE, eg]
    exact hp M7 (p6.tr r1.V)
  exact ⟨fun z => main 0 (by rw [if_neg z]), fun z => main age (by rw [if_pos z])⟩
/-- what a call of the reference that reads acts leaves -/
def eqU (M M' : Mem) : Prop := (∀ c, c ≠ 10 → c ≠ 64 → c ≠ 65 → c ≠ 66 → M'.1 c = M.1 c) ∧ (∀ i j, ¬ (i = 0 ∧ ((23 ≤ j ∧ j ≤ 35) ∨ j = 37)) → M'.1 10 i j = M.1 10 i j) ∧ M'.2 = M.2
theorem eqU.rf {M : Mem} : eqU M M := ⟨fun _ _ _ _ _ => rfl, fun _ _ _ => rfl, rfl⟩
theorem eqU.tr {M M1 M2 : Mem} (h : eqU M M1) (g : eqU M1 M2) : eqU M M2 := ⟨fun c a b d e => (g.1 c a b d e).trans (h.1 c a b d e), fun i j a => (g.2.1 i j a).trans (h.2.1 i j a), g.2.2.trans h.2.2⟩
theorem eqV.U {M M' : Mem} (h : eqV M M') : eqU M M' := ⟨fun c a b d _ => h.1 c a b d, fun i j a => h.2.1 i j (fun q => a ⟨q.1, Or.inl q.2⟩), h.2.2⟩
theorem eqU.RM {M M' : Mem} {q : Nat} (hq : 44 ≤ q ∧ q ≤ 46) {A : Abs} (h : eqU M M') (g : RM q M A) : RM q M' A := g.fr (fun c hc => by rw [h.1 c (by omega) (by omega) (by omega) (by omega)])
theorem eqU.sameC {M M' : Mem} (h : eqU M M') : sameC M M' := ⟨fun c hc => h.1 c (by unfold cK at hc; omega) (by unfold cK at hc; omega) (by unfold cK at hc; omega) (by unfold cK at hc; omega), fun c _ => by rw [h.2.2], by rw [h.2.2]⟩
theorem eqU.RMX {M M' : Mem} {S : Sg} (e : eqU M M') (hf : RMf M' S.1) (h : RMX M S) : RMX M' S :=
  h.now (A := S.1) (e.RM (by omega) h.1) hf (fun B _ hB => e.RM (by omega) hB) (e.2.1 0 4 (by omega)) (e.2.1 0 22 (by omega)) (fun c a b => by rw [e.1 c (by omega) (by omega) (by omega) (by omega)]) (by rw [e.2.2])
theorem tM_hF {M : Mem} {A : Abs} {p s age d : Nat} {P : Int32 → Mem → Prop} (hR : RM 44 M A) (hf : RMf M A) (hk : acOK A) (hl : LK A) (hpp : p < 3) (hs : s < A.1 0) (hd : d ≤ 400) (hp : ∀ M', eqU M M' → RMf M' A → P (bI (hld A p s age d)) M') : s_X12_holdsFor M (nI p) (nI s) (nI age) (nI d) P := by
  obtain ⟨k1, k2, k3, k4⟩ := hk
  have n16 := k2.1
  unfold s_X12_holdsFor
  refine tM_forceOf hR.2.2.2.2.2 hR.1 hf k2 hl.1 hpp hs k3 (k4 s hs) hd (fun M1 r1 r2 r3 r4 => ?_)
  have g1 : eqU M M1 := ⟨fun c a _ _ d => r1 c d a, fun i j a => r2 i j (fun q => a ⟨q.1, Or.inr q.2⟩), r3⟩
  have hle : frN A p (A.2.1 0 s) d (A.1 2) ≤ A.1 2 := frN_le
  have p0 : nI p = 0 ↔ p = 0 := eqk (by omega) rfl (by omega)
  have eh : hld A p s age d = if frN A p (A.2.1 0 s) d (A.1 2) = 0 then decide (p = 0) else A.2.2 (frN A p (A.2.1 0 s) d (A.1 2) - 1) (fld A s (if p = 0 then age else 0) d) := rfl
  have e0 : 0 ≤ noI (frN A p (A.2.1 0 s) d (A.1 2)) ↔ frN A p (A.2.1 0 s) d (A.1 2) ≠ 0 := by
    rw [le_i, t0_i, noI_t (by omega)]
    split <;> omega
  rw [e0, p0]
  refine ⟨fun z => ?_, fun z => ?_⟩
  · obtain ⟨c1, c2⟩ := frN_cou z
    rw [if_neg z] at eh
    have en : noI (frN A p (A.2.1 0 s) d (A.1 2)) = nI (frN A p (A.2.1 0 s) d (A.1 2) - 1) := if_neg z
    rw [en]
    refine tM_doesHold (g1.RM (by omega) hR) ⟨k1, k2, k3, k4⟩ hl c1 hs hd (fun M2 r5 => ⟨bI_B _, ?_⟩)
    rw [c2.1, ← eh]
    exact hp M2 (g1.tr r5.U) (r5.RMf r4)
  · rw [if_pos (Decidable.not_not.mp z)] at eh
    have k := hp M1 g1 r4
    rw [eh] at k
    exact ⟨fun y => by rw [decide_eq_false y] at k; exact k, fun y => by rw [decide_eq_true y] at k; exact k⟩
/-! holds -/
def sp_holds (S : Sg) (x1 x2 x3 x4 : Int32) : Int32 := if rg x1 3 ∧ rg x2 (S.1.1 0) ∧ rg x3 3 ∧ rg x4 401 then bI (hld S.1 (ix x1) (ix x2) (ix x3) (ix x4)) else -1
theorem tC_holds {M : Mem} {S : Sg} {x1 x2 x3 x4 : Int32} {P : Int32 → Mem → Prop} (h : RCX M S) (hw : WfX S) (hp : ∀ M', sameM M M' → RCX M' S → P (sp_holds S x1 x2 x3 x4) M') : s_X11_holds M x1 x2 x3 x4 P := by
  unfold s_X11_holds
  have hn := hw.1.1
  refine t_isCase h.1.1.1 (by omega) (fun g1 g2 g3 g4 => c1 ?_) (fun g => c0 ?_)
  · have es : sp_holds S x1 x2 x3 x4 = bI (hld S.1 (ix x1) (ix x2) (ix x3) (ix x4)) := if_pos ⟨g1, g2, g3, g4⟩
    have l4 := rg_lt g4
    have key := fun P' hp' => tC_pH (P := P') (p := ix x1) (s := ix x2) (age := ix x3) (d := ix x4) h.1 hw.1.ac (rg_lt g1) (rg_lt g2) (by omega) hp'
    rw [← rg_nI g1 (by omega), ← rg_nI g2 (by omega), ← rg_nI g3 (by omega), ← rg_nI g4 (by omega)] at key
    refine key _ (fun M1 r1 => ?_)
    have k := hp M1 r1.sameM (r1.RCX h)
    rw [es] at k
    rw [bI_0]
    exact ⟨fun z => by rw [z] at k; exact k, fun z => by
      have z2 : hld S.1 (ix x1) (ix x2) (ix x3) (ix x4) = true := by simpa using z
      rw [z2] at k; exact k⟩
  · have k := hp M sameM.rf h
    unfold sp_holds at k
    rw [if_neg g] at k
    exact k
theorem tM_holds {M : Mem} {S : Sg} {x1 x2 x3 x4 : Int32} {P : Int32 → Mem → Prop} (h : RMX M S) (hw : WfX S) (hl : LK S.1) (hp : ∀ M', sameC M M' → RMX M' S → P (sp_holds S x1 x2 x3 x4) M') : s_X12_holds M x1 x2 x3 x4 P := by
  unfold s_X12_holds
  have hn := hw.1.1
  intro M1 m1
  have h1 : RMX M1 S := by rw [m1]; exact h.thrown
  replace hp : ∀ M', sameC M1 M' → RMX M' S → P (sp_holds S x1 x2 x3 x4) M' := fun M' a b => hp M' (sameC.tr (by rw [m1]; exact sC10) a) b
  have bad : ¬ (rg x1 3 ∧ rg x2 (S.1.1 0) ∧ rg x3 3 ∧ rg x4 401) → P (-1) M1 := fun g => by
    have k := hp M1 sameC.rf h1
    unfold sp_holds at k
    rw [if_neg g] at k
    exact k
  refine t_in (by decide) (n := 3) (by decide) (fun g1 => b1 ?_) (fun g1 => b0 (bad (fun q => g1 q.1)))
  refine t_isSchool h1.1.1.1 (by omega) (fun g2 => b1 ?_) (fun g2 => b0 (bad (fun q => g2 q.2.1)))
  refine t_isAge (fun g3 => b1 ?_) (fun g3 => b0 (bad (fun q => g3 q.2.2.1)))
  refine t_isDay (fun g4 => c1 ?_) (fun g4 => c0 (bad (fun q => g4 q.2.2.2)))
  have es : sp_holds S x1 x2 x3 x4 = bI (hld S.1 (ix x1) (ix x2) (ix x3) (ix x4)) := if_pos ⟨g1, g2, g3, g4⟩
  have l4 := rg_lt g4
  have key := fun P' hp' => tM_hF (P := P') (p := ix x1) (s := ix x2) (age := ix x3) (d := ix x4) h1.1 h1.2.2.2.1 hw.1.ac hl (rg_lt g1) (rg_lt g2) (by omega) hp'
  rw [← rg_nI g1 (by omega), ← rg_nI g2 (by omega), ← rg_nI g3 (by omega), ← rg_nI g4 (by omega)] at key
  refine key _ (fun M2 r1 r2 => ?_)
  have k := hp M2 r1.sameC (r1.RMX r2 h1)
  rw [es] at k
  rw [bI_0]
  exact ⟨fun z => by rw [z] at k; exact k, fun z => by
    have z2 : hld S.1 (ix x1) (ix x2) (ix x3) (ix x4) = true := by simpa using z
    rw [z2] at k; exact k⟩
